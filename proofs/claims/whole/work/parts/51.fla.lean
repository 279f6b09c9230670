/-! Acts on flows: pause, rate, flow, card. -/
/-- A' is A but for the flows -/
def ab_ef (A A' : ab_A) : Prop := aH A' = aH A ∧ aS A' = aS A ∧ aP A' = aP A ∧ aC A' = aC A ∧ aL A' = aL A ∧ aD A' = aD A ∧ aR A' = aR A
theorem CW_fl {σ s : en_M} {g : Nat} {A A' : ab_A} (hs : ∀ j, j < 14 → j ≠ 12 → s j g = σ j g) (hA : ab_ef A A') (h : ab_CW σ g A) (c2 : ab_C2 s g A') (c2b : ab_C2b s g) : ab_CW s g A' := by
  obtain ⟨e1, e2, e3, e4, e5, e6, e7⟩ := hA
  obtain ⟨c1, c3, -, -, c4, c5, c6, c7⟩ := h
  refine ⟨?_, ?_, c2, c2b, ?_, ?_, ?_, ?_⟩
  · simp only [ab_C1, e1, hs 0 (by omega) (by omega)] at c1 ⊢
    exact c1
  · simp only [ab_C3, ab_win, e1, e2, e7, hs 13 (by omega) (by omega)] at c3 ⊢
    exact c3
  · simp only [ab_C4, ab_win, e1, e2, e3, hs 3 (by omega) (by omega), hs 4 (by omega) (by omega), hs 5 (by omega) (by omega)] at c4 ⊢
    exact c4
  · simp only [ab_C5, e1, e5, hs 6 (by omega) (by omega), hs 7 (by omega) (by omega)] at c5 ⊢
    exact c5
  · simp only [ab_C6, e1, e6, hs 8 (by omega) (by omega), hs 9 (by omega) (by omega), hs 10 (by omega) (by omega)] at c6 ⊢
    exact c6
  · simp only [ab_C7, e4, hs 11 (by omega) (by omega)] at c7 ⊢
    exact c7
theorem MR_fl {r r' : Nat → Int32} {A A' : ab_A} (hr : ∀ k, k < 938 → k < 20 ∨ 74 ≤ k → r' k = r k) (hA : ab_ef A A') (h : ab_MR r A) (m2 : ab_M2 r' A') {t : Nat} (hW : ab_W A t) : ab_MR r' A' := by
  obtain ⟨e1, e2, e3, e4, e5, e6, e7⟩ := hA
  obtain ⟨m1, -, m3, m4, m5, m6⟩ := h
  have hN := ab_N hW
  have h9 := hW.1.2.2.2.2.2.2.2.2.2.1
  have hm : ∀ n, n % 8 < 8 := fun n => Nat.mod_lt _ (by decide)
  refine ⟨?_, m2, ?_, ?_, ?_, ?_⟩
  · simp only [ab_M1, e1, e2, e4] at m1 ⊢
    obtain ⟨a1, a2⟩ := m1
    refine ⟨fun k hk => by rw [hr k (by omega) (by omega)]; exact a1 k hk, ?_⟩
    rw [hr 7 (by omega) (by omega), hr 8 (by omega) (by omega), hr 9 (by omega) (by omega), hr 10 (by omega) (by omega), hr 11 (by omega) (by omega), hr 12 (by omega) (by omega), hr 13 (by omega) (by omega), hr 14 (by omega) (by omega), hr 15 (by omega) (by omega), hr 16 (by omega) (by omega), hr 17 (by omega) (by omega), hr 18 (by omega) (by omega), hr 19 (by omega) (by omega)]
    exact a2
  · simp only [ab_M3, ab_win, e1, e2, e7] at m3 ⊢
    intro n hn
    have := hm n
    exact ⟨fun w hw => by rw [hr _ (by omega) (by omega)]; exact (m3 n hn).1 w hw, fun w hw => by rw [hr _ (by omega) (by omega)]; exact (m3 n hn).2 w hw⟩
  · simp only [ab_M4, ab_win, e1, e2, e3] at m4 ⊢
    intro n k hn hk
    have := hm n
    rw [hr _ (by omega) (by omega), hr _ (by omega) (by omega), hr _ (by omega) (by omega)]
    exact m4 n k hn hk
  · simp only [ab_M5, e1, e5] at m5 ⊢
    intro row c h1 h2
    rw [hr _ (by omega) (by omega)]
    exact m5 row c h1 h2
  · simp only [ab_M6, e1, e6] at m6 ⊢
    intro k w h1 h2 h3
    rw [hr _ (by omega) (by omega)]
    exact m6 k w h1 h2 h3
section fla
variable {σ τ : en_M} {g t : Nat} {A : ab_A}
def ab_PR (σ : en_M) (g : Nat) (r : Nat → Int32) (A : ab_A) (t : Nat) : Prop := ab_CR σ g A ∧ ab_MR r A ∧ ab_W A t ∧ ab_WR A
theorem fl_row {τ : en_M} {k : Nat} {v : Int32} : (en_wr τ 25 0 0 k v) 25 0 0 = upd (τ 25 0 0) k v := en_wr_row
theorem fl_pause (h : ab_PR σ g (τ 25 0 0) A t) (v : Int32) {p : Nat} (hp : p ≤ 1) : ∃ code τ1, k_cd_whyNoPause g v (nI p) σ = some code ∧ k_mm_pause0 v (nI p) τ = some (code, τ1) ∧ (code ≠ 0 → τ1 = τ) ∧ (code = 0 → ∃ x σ1 A1, k_cd_setPaused g v (nI p) σ = some (x, σ1) ∧ k_mm_leftBehind v τ1 = some x ∧ ab_PR σ1 g (τ1 25 0 0) A1 t) := by
  obtain ⟨hC, hM, hW, hWR⟩ := h
  have hN := ab_N hW
  rcases ac_flow hC.1.s hM hW v with ⟨f, rfl, hf, a1, a2⟩ | ⟨a1, a2⟩
  · obtain ⟨q0, q1, q2, q3, q4, q5⟩ := hW.2.1 f hf
    obtain ⟨b0, b1, b2, b3, b4, b5, b7, b8⟩ := hC.1.2.2.1 f hf
    rw [k_cd_whyNoPause, a1, pu_b1, k_mm_pause0, a2, if_neg (show ¬ (1 : Int32) = 0 by decide), mo_flw hM hW (x := 2) (w := 2) rfl hf (by decide), pu_b1]
    simp only []
    rw [b2]
    by_cases he : nI (aF A f 2) = nI p
    · rw [if_pos he, if_pos he]
      exact ⟨5, τ, rfl, rfl, fun _ => rfl, fun q => absurd q (by decide)⟩
    · rw [if_neg he, if_neg he, show (20 : Int32) = nI 20 from rfl, show (9 : Int32) = nI 9 from rfl, show (2 : Int32) = nI 2 from rfl, pk_mul, nI_add, nI_add, pu_wa (by omega) (by decide), pu_b1]
      refine ⟨0, _, rfl, rfl, fun q => absurd rfl q, fun _ => ?_⟩
      obtain ⟨F', hF'⟩ : ∃ F', F' = u2 (aF A) f 2 p := ⟨_, rfl⟩
      have hA : ab_ef A (sF A F') := ⟨rfl, rfl, rfl, rfl, rfl, rfl, rfl⟩
      have hFo : ∀ f' w, ¬ (f' = f ∧ w = 2) → aF (sF A F') f' w = aF A f' w := fun f' w hw => by
        show F' f' w = _
        rw [hF', u2_n hw]
      have hF2 : aF (sF A F') f 2 = p := by
        show F' f 2 = _
        rw [hF', u2_s]
      have hin : ∀ f' rt, ab_in (sF A F') f' rt = ab_in A f' rt := fun f' rt => by
        simp only [ab_in]
        rw [hFo f' 4 (by omega), hFo f' 5 (by omega), hFo f' 6 (by omega)]
      have hns : ∀ f' rt m, ab_ns (sF A F') f' rt m = ab_ns A f' rt m := fun f' rt m => ns_eq (A := A) (A' := sF A F') rfl (hin f' rt) m (fun _ _ _ => rfl)
      have hW' : ab_W (sF A F') t := ⟨hW.1, fun f' hf' => by
        have hx := hW.2.1 f' hf'
        rw [hFo f' 0 (by omega), hFo f' 1 (by omega), hFo f' 3 (by omega), hFo f' 4 (by omega), hFo f' 5 (by omega), hFo f' 6 (by omega)]
        refine ⟨hx.1, hx.2.1, ?_, hx.2.2.2⟩
        by_cases e : f' = f
        · subst e
          rw [hF2]
          exact hp
        · rw [hFo f' 2 (by omega)]
          exact hx.2.2.1, hW.2.2⟩
      obtain ⟨s, hs⟩ : ∃ s, en_wr σ 12 g f 2 (nI p) = s := ⟨_, rfl⟩
      have hpz : nI p = 0 ∨ nI p = 1 := by
        rcases (show p = 0 ∨ p = 1 by omega) with rfl | rfl
        · exact Or.inl rfl
        · exact Or.inr rfl
      have hj : ∀ j, j < 14 → j ≠ 12 → s j g = σ j g := fun j _ h12 => by rw [← hs, pu_wr_j h12]
      have so : ∀ f' w, ¬ (f' = f ∧ w = 2) → s 12 g f' w = σ 12 g f' w := fun f' w hw => by
        rw [← hs, pu_wr_ne]
        exact fun z => hw ⟨z.2.2.1, z.2.2.2⟩
      have s2 : s 12 g f 2 = nI p := by rw [← hs, pu_wr_eq]
      have hCW : ab_CW s g (sF A F') := CW_fl hj hA hC.1 (fun f' hf' => by
          have hx := hC.1.2.2.1 f' hf'
          rw [so f' 0 (by omega), so f' 1 (by omega), so f' 3 (by omega), so f' 4 (by omega), so f' 5 (by omega), so f' 7 (by omega), so f' 8 (by omega), hFo f' 0 (by omega), hFo f' 1 (by omega), hFo f' 3 (by omega), hFo f' 4 (by omega), hFo f' 5 (by omega), hFo f' 6 (by omega)]
          refine ⟨hx.1, hx.2.1, ?_, hx.2.2.2⟩
          by_cases e : f' = f
          · subst e
            rw [hF2]
            exact s2
          · rw [hFo f' 2 (by omega), so f' 2 (by omega)]
            exact hx.2.2.1) (fun f' hf' => by
          by_cases e : f' = f
          · subst e
            rw [s2]
            exact hpz
          · rw [so f' 2 (by omega)]
            exact hC.1.2.2.2.1 f' hf')
      have hCT : ab_CT s g (sF A F') := ⟨fun f' hf' => by
          have e : ab_nx (sF A F') f' = ab_nx A f' := by
            show ab_ns (sF A F') f' (aF (sF A F') f' 0) _ = ab_ns A f' (aF A f' 0) _
            rw [hFo f' 0 (by omega), hns]
            rfl
          rw [so f' 6 (by omega), hC.2.1 f' hf', e], fun n k hn h1 h2 h3 h4 => by
          have e : ab_de (sF A F') n k = ab_de A n k := by
            show ab_dp (sF A F') (aF (sF A F') (aS A n 0) 0) n k = ab_dp A (aF A (aS A n 0) 0) n k
            rw [hFo _ 0 (by omega), dp_eq (A := A) (A' := sF A F') rfl rfl (hns _ _ _)]
          rw [hj 3 (by omega) (by omega), hC.2.2 n k hn h1 h2 h3 h4, e]⟩
      obtain ⟨τ1, ht⟩ : ∃ s, en_wr τ 25 0 0 (20 + 9 * f + 2) (nI p) = s := ⟨_, rfl⟩
      have hr : ∀ k, k ≠ 20 + 9 * f + 2 → τ1 25 0 0 k = τ 25 0 0 k := fun k hk => by rw [← ht, pu_wr_k hk]
      have hMR : ab_MR (τ1 25 0 0) (sF A F') := MR_fl (A := A) (fun k _ hk => hr k (by omega)) hA hM (fun f' hf' => by
          have hx := hM.2.1 f' hf'
          have hf6 : f' < 6 := by
            have : f' < aH A 3 := hf'
            omega
          refine ⟨fun w hw => ?_, ?_, ?_, ?_⟩
          · by_cases e : f' = f ∧ w = 2
            · obtain ⟨rfl, rfl⟩ := e
              rw [hF2, ← ht, pu_wr_eq]
            · rw [hFo f' w e, hr _ (by omega)]
              exact hx.1 w hw
          · rw [hFo f' 4 (by omega), hFo f' 5 (by omega), hFo f' 6 (by omega), hr _ (by omega), hr _ (by omega)]
            exact hx.2.1
          · rw [hr _ (by omega)]
            exact hx.2.2.1
          · rw [hr _ (by omega)]
            exact hx.2.2.2) hW
      obtain ⟨x, x1, x2⟩ := ct_left hCW.s hMR hW' (nI f)
      refine ⟨x, s, sF A F', ?_, ?_, ⟨hCW, hCT⟩, ?_, hW', hWR⟩
      · rw [k_cd_setPaused, a1, pu_b1]
        simp only []
        rw [en_bz, if_pos hpz, pu_b1, pu_let, hs, x1, pu_b1]
      · rw [ht]
        exact x2
      · rw [ht]
        exact hMR
  · rw [k_cd_whyNoPause, a1, pu_b1, k_mm_pause0, a2, if_pos rfl]
    exact ⟨2, τ, rfl, rfl, fun _ => rfl, fun q => absurd q (by decide)⟩
end fla

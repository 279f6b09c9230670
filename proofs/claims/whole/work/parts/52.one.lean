/-! One flow timed anew. -/
def ab_CTf (σ : en_M) (g : Nat) (A : ab_A) (f : Nat) : Prop := σ 12 g f 6 = nI (ab_nx A f) ∧ ∀ n k, ab_win A n → aH A 6 ≤ n → aS A n 4 = 1 → aS A n 0 = f → aS A n 7 ≤ k → k < aS A n 6 → σ 3 g 0 (20 * (n % 8) + k) = nI (ab_de A n k)
theorem CT_of {σ : en_M} {g t : Nat} {A : ab_A} (hW : ab_W A t) (h : ∀ f, f < aH A 3 → ab_CTf σ g A f) : ab_CT σ g A := ⟨fun f hf => (h f hf).1, fun n k hn h1 h2 h3 h4 => (h _ (hW.2.2.1 n hn).1).2 n k hn h1 h2 rfl h3 h4⟩
theorem CT_to {σ : en_M} {g f : Nat} {A : ab_A} (h : ab_CT σ g A) (hf : f < aH A 3) : ab_CTf σ g A f := ⟨h.1 f hf, fun n k hn h1 h2 _ h3 h4 => h.2 n k hn h1 h2 h3 h4⟩
theorem pd_one {s : en_M} {g t f : Nat} {A : ab_A} (hC : ab_CW s g A) (hW : ab_W A t) (hf : f < aH A 3) : ∃ x s7 s9, k_cd_putDeparts g (nI f) (nI (aF A f 0)) 3 g 0 s = some (x, s7) ∧ en_wr s7 12 g f 6 x = s9 ∧ ab_CW s9 g A ∧ ab_CTf s9 g A f ∧ (∀ f', f' ≠ f → f' < aH A 3 → ab_CTf s g A f' → ab_CTf s9 g A f') ∧ en_fr [(3, g), (12, g)] s s9 := by
  have hN := ab_N hW
  have hm : ∀ n, n % 8 < 8 := fun n => Nat.mod_lt _ (by decide)
  obtain ⟨-, -, -, -, b4, b5, -⟩ := hC.2.2.1 f hf
  obtain ⟨s7, a1, a2, a3, a4⟩ := pd_put (j3 := 3) (g3 := g) (i3 := 0) hC.s b4 b5 hW (by decide) hf (hW.2.1 f hf).1
  obtain ⟨s9, h9⟩ : ∃ z, en_wr s7 12 g f 6 (nI (ab_ns A f (aF A f 0) (aH A 5 - aH A 6))) = z := ⟨_, rfl⟩
  have ej : ∀ j, j ≠ 3 → j ≠ 12 → s9 j g = s j g := fun j h3 h12 => by
    rw [← h9, pu_wr_j h12, a2 j g (by simp [h3])]
  have e12 : ∀ f' w, ¬ (f' = f ∧ w = 6) → s9 12 g f' w = s 12 g f' w := fun f' w hw => by
    rw [← h9, pu_wr_ne (fun z => hw ⟨z.2.2.1, z.2.2.2⟩), a2 12 g (by simp)]
  have e3 : s9 3 g = s7 3 g := by rw [← h9, pu_wr_j (by decide)]
  have hof : ∀ n k, ab_win A n → k < 20 → ¬ (aH A 6 ≤ n ∧ aS A n 4 = 1 ∧ aS A n 0 = f ∧ aS A n 7 ≤ k ∧ k < aS A n 6) → s9 3 g 0 (20 * (n % 8) + k) = s 3 g 0 (20 * (n % 8) + k) := fun n k hn hk hq => by
    rw [e3, a4 0 _ (fun z => ?_)]
    obtain ⟨-, n', k', c1, c2, c3, c4, c5, c6, c7⟩ := z
    have hw' := ab_in_win hW c1 c2
    have hp' := ab_pc hW hw'
    obtain ⟨rfl, rfl⟩ := ti_apart hn hw' hk (by omega) c7
    exact hq ⟨c1, c3, c4, c5, c6⟩
  refine ⟨_, s7, s9, a1, h9, ?_, ⟨?_, ?_⟩, ?_, ?_⟩
  · obtain ⟨c1, c3, c2, c2b, c4, c5, c6, c7⟩ := hC
    refine ⟨?_, ?_, ?_, ?_, ?_, ?_, ?_, ?_⟩
    · simp only [ab_C1, ej 0 (by omega) (by omega)]
      exact c1
    · intro n hn
      rw [ej 13 (by omega) (by omega)]
      exact c3 n hn
    · intro f' hf'
      rw [e12 f' 0 (by omega), e12 f' 1 (by omega), e12 f' 2 (by omega), e12 f' 3 (by omega), e12 f' 4 (by omega), e12 f' 5 (by omega), e12 f' 7 (by omega), e12 f' 8 (by omega)]
      exact c2 f' hf'
    · intro f' hf'
      rw [e12 f' 2 (by omega)]
      exact c2b f' hf'
    · intro n k hn hk
      have hp := ab_pc hW hn
      rw [ej 4 (by omega) (by omega), ej 5 (by omega) (by omega)]
      refine ⟨fun hka => ?_, (c4 n k hn hk).2⟩
      rw [hof n k hn (by omega) (by omega)]
      exact (c4 n k hn hk).1 hka
    · simp only [ab_C5, ej 6 (by omega) (by omega), ej 7 (by omega) (by omega)]
      exact c5
    · simp only [ab_C6, ej 8 (by omega) (by omega), ej 9 (by omega) (by omega), ej 10 (by omega) (by omega)]
      exact c6
    · simp only [ab_C7, ej 11 (by omega) (by omega)]
      exact c7
  · rw [← h9, pu_wr_eq]
    rfl
  · intro n k hn h1 h2 h3 h4 h5
    rw [e3, a3 n k h1 hn.1 h2 h3 h4 h5, ab_de, h3]
  · intro f' hne hf' hc
    refine ⟨by rw [e12 f' 6 (by omega)]; exact hc.1, fun n k hn h1 h2 h3 h4 h5 => ?_⟩
    have hp := ab_pc hW hn
    rw [hof n k hn (by omega) (fun z => hne (h3.symm.trans z.2.2.1))]
    exact hc.2 n k hn h1 h2 h3 h4 h5
  · exact fr_tr (fr_sub a2 (by simp)) (fr_wr h9 (by simp))
/-! rate -/
theorem fl_rate {σ τ : en_M} {g t : Nat} {A : ab_A} (h : ab_PR σ g (τ 25 0 0) A t) (v : Int32) {rt : Nat} (hrt : rt ≤ 999) : ∃ code τ1, k_cd_whyNoRate g v σ = some code ∧ k_mm_rate0 v (nI rt) τ = some (code, τ1) ∧ (code ≠ 0 → τ1 = τ) ∧ (code = 0 → ∃ x σ1 A1, k_cd_setRate g v (nI rt) σ = some (x, σ1) ∧ k_mm_isFlow v τ = 1 ∧ k_mm_flowAt v 0 τ = some x ∧ ab_PR σ1 g (τ1 25 0 0) A1 t) ∧ (code ≠ 0 → k_mm_isFlow v τ = 0) := by
  obtain ⟨hC, hM, hW, hWR⟩ := h
  have hN := ab_N hW
  rcases ac_flow hC.1.s hM hW v with ⟨f, rfl, hf, a1, a2⟩ | ⟨a1, a2⟩
  · obtain ⟨b0, b1, b2, b3, b4, b5, b7, b8⟩ := hC.1.2.2.1 f hf
    rw [k_cd_whyNoRate, a1, pu_b1, k_mm_rate0, a2, if_neg (show ¬ (1 : Int32) = 0 by decide), show (20 : Int32) = nI 20 from rfl, show (9 : Int32) = nI 9 from rfl, pk_mul, nI_add, ← nI_0, nI_add, pu_wa (by omega) (by decide), pu_b1]
    refine ⟨0, _, rfl, rfl, fun q => absurd rfl q, fun _ => ?_, fun q => absurd rfl q⟩
    obtain ⟨F', hF'⟩ : ∃ F', F' = u2 (aF A) f 0 rt := ⟨_, rfl⟩
    have hA : ab_ef A (sF A F') := ⟨rfl, rfl, rfl, rfl, rfl, rfl, rfl⟩
    have hFo : ∀ f' w, ¬ (f' = f ∧ w = 0) → aF (sF A F') f' w = aF A f' w := fun f' w hw => by
      show F' f' w = _
      rw [hF', u2_n hw]
    have hF2 : aF (sF A F') f 0 = rt := by
      show F' f 0 = _
      rw [hF', u2_s]
    have hin : ∀ f' rt, ab_in (sF A F') f' rt = ab_in A f' rt := fun f' rt => by
      simp only [ab_in]
      rw [hFo f' 4 (by omega), hFo f' 5 (by omega), hFo f' 6 (by omega)]
    have hns : ∀ f' rt m, ab_ns (sF A F') f' rt m = ab_ns A f' rt m := fun f' rt m => ns_eq (A := A) (A' := sF A F') rfl (hin f' rt) m (fun _ _ _ => rfl)
    have hW' : ab_W (sF A F') t := ⟨hW.1, fun f' hf' => by
      have hx := hW.2.1 f' hf'
      rw [hFo f' 1 (by omega), hFo f' 2 (by omega), hFo f' 3 (by omega), hFo f' 4 (by omega), hFo f' 5 (by omega), hFo f' 6 (by omega)]
      refine ⟨?_, hx.2⟩
      by_cases e : f' = f
      · subst e
        rw [hF2]
        exact hrt
      · rw [hFo f' 0 (by omega)]
        exact hx.1, hW.2.2⟩
    obtain ⟨s, hs⟩ : ∃ s, en_wr σ 12 g f 0 (nI rt) = s := ⟨_, rfl⟩
    have hj : ∀ j, j < 14 → j ≠ 12 → s j g = σ j g := fun j _ h12 => by rw [← hs, pu_wr_j h12]
    have so : ∀ f' w, ¬ (f' = f ∧ w = 0) → s 12 g f' w = σ 12 g f' w := fun f' w hw => by
      rw [← hs, pu_wr_ne]
      exact fun z => hw ⟨z.2.2.1, z.2.2.2⟩
    have s2 : s 12 g f 0 = nI rt := by rw [← hs, pu_wr_eq]
    have hCW : ab_CW s g (sF A F') := CW_fl hj hA hC.1 (fun f' hf' => by
        have hx := hC.1.2.2.1 f' hf'
        rw [so f' 1 (by omega), so f' 2 (by omega), so f' 3 (by omega), so f' 4 (by omega), so f' 5 (by omega), so f' 7 (by omega), so f' 8 (by omega), hFo f' 1 (by omega), hFo f' 2 (by omega), hFo f' 3 (by omega), hFo f' 4 (by omega), hFo f' 5 (by omega), hFo f' 6 (by omega)]
        refine ⟨?_, hx.2⟩
        by_cases e : f' = f
        · subst e
          rw [hF2]
          exact s2
        · rw [hFo f' 0 (by omega), so f' 0 (by omega)]
          exact hx.1) (fun f' hf' => by
        rw [so f' 2 (by omega)]
        exact hC.1.2.2.2.1 f' hf')
    have hCT : ∀ f', f' ≠ f → f' < aH A 3 → ab_CTf s g (sF A F') f' := fun f' hne hf' => ⟨by
        have e : ab_nx (sF A F') f' = ab_nx A f' := by
          show ab_ns (sF A F') f' (aF (sF A F') f' 0) _ = ab_ns A f' (aF A f' 0) _
          rw [hFo f' 0 (by omega), hns]
          rfl
        rw [so f' 6 (by omega), hC.2.1 f' hf', e], fun n k hn h1 h2 h3 h4 h5 => by
        have h3' : aS A n 0 = f' := h3
        have e : ab_de (sF A F') n k = ab_de A n k := by
          show ab_dp (sF A F') (aF (sF A F') (aS A n 0) 0) n k = ab_dp A (aF A (aS A n 0) 0) n k
          rw [hFo _ 0 (fun q => hne (h3'.symm.trans q.1)), dp_eq (A := A) (A' := sF A F') rfl rfl (hns _ _ _)]
        rw [hj 3 (by omega) (by omega), hC.2.2 n k hn h1 h2 h4 h5, e]⟩
    obtain ⟨x, s7, s9, p1, p2, p3, p4, p5, -⟩ := pd_one hCW hW' hf
    rw [hF2] at p1
    obtain ⟨τ1, ht⟩ : ∃ s, en_wr τ 25 0 0 (20 + 9 * f + 0) (nI rt) = s := ⟨_, rfl⟩
    have hr : ∀ k, k ≠ 20 + 9 * f + 0 → τ1 25 0 0 k = τ 25 0 0 k := fun k hk => by rw [← ht, pu_wr_k hk]
    have hMR : ab_MR (τ1 25 0 0) (sF A F') := MR_fl (A := A) (fun k _ hk => hr k (by omega)) hA hM (fun f' hf' => by
        have hx := hM.2.1 f' hf'
        have hf6 : f' < 6 := by
          have : f' < aH A 3 := hf'
          omega
        refine ⟨fun w hw => ?_, ?_, ?_, ?_⟩
        · by_cases e : f' = f ∧ w = 0
          · obtain ⟨rfl, rfl⟩ := e
            rw [hF2, ← ht, pu_wr_eq]
          · rw [hFo f' w e, hr _ (by omega)]
            exact hx.1 w hw
        · rw [hFo f' 4 (by omega), hFo f' 5 (by omega), hFo f' 6 (by omega), hr _ (by omega), hr _ (by omega)]
          exact hx.2.1
        · rw [hr _ (by omega)]
          exact hx.2.2.1
        · rw [hr _ (by omega)]
          exact hx.2.2.2) hW
    refine ⟨nI (aF A f 0), s9, sF A F', ?_, rfl, ?_, ⟨p3, CT_of hW' (fun f' hf' => ?_)⟩, ?_, hW', hWR⟩
    · rw [k_cd_setRate, a1, pu_b1]
      simp only []
      rw [pu_let, hs, p1, pu_b2, pu_let, p2, b0]
    · rw [nI_0]
      exact mo_flw hM hW (x := 0) (w := 0) rfl hf (by decide)
    · by_cases e : f' = f
      · rw [e]
        exact p4
      · exact p5 f' e hf' (hCT f' e hf')
    · rw [ht]
      exact hMR
  · rw [k_cd_whyNoRate, a1, pu_b1, k_mm_rate0, a2, if_pos rfl]
    exact ⟨2, τ, rfl, rfl, fun _ => rfl, fun q => absurd q (by decide), fun _ => rfl⟩

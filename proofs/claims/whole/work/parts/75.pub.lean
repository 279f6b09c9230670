/-! The acts as they are called. -/
/-- what is thrown: which exception, which number the model keeps of it -/
def rl_A (e : List (Nat × Int32)) (a : Nat ⊕ Int32) (x th : Int32) : Prop := match a with
  | .inl n => (n, th) ∈ e
  | .inr y => th = 0 ∧ x = y
theorem rl_mfr {a b : en_M} (h : en_fr [(25, 0)] a b) : rl_m a b := ⟨fun k _ _ => by rw [h 24 0 (by simp)], h 26 0 (by simp), h 27 0 (by simp), h 28 0 (by simp), h 29 0 (by simp)⟩
theorem rl_mrf (a : en_M) : rl_m a a := ⟨fun _ _ _ => rfl, rfl, rfl, rfl, rfl⟩
theorem in_eq (v a b : Int32) : k_cc_within v a b = k_mm_isIn v a b := rfl
theorem in_of {v : Int32} {a b : Nat} (ha : a < 2 ^ 31) (hb : b < 2 ^ 31 - 1) (h : ¬ k_mm_isIn v (nI a) (nI b) = 0) : ∃ n, v = nI n ∧ a ≤ n ∧ n ≤ b := by
  rw [k_mm_isIn] at h
  by_cases h1 : v < nI a
  · rw [if_pos h1] at h
    exact absurd rfl h
  · rw [if_neg h1] at h
    by_cases h2 : nI b < v
    · rw [if_pos h2] at h
      exact absurd rfl h
    · rw [nu_ltx ha] at h1
      rw [nu_ltx' (by omega)] at h2
      obtain ⟨n, n1, n2⟩ := nu_of (x := v) (a := b + 1) (by omega) (by omega) (by omega)
      rw [n2, nI_toInt (by omega)] at h1 h2
      exact ⟨n, n2, by omega, by omega⟩
theorem rl_th {σ τ : en_M} {t : Nat} (h : Rel σ τ t) (v : Int32) : Rel σ (en_wr τ 24 0 0 0 v) t := by
  obtain ⟨⟨A, hA⟩, b2, b3, b4, b5, b6, b7⟩ := h
  exact ⟨⟨A, by rw [pu_wr_j (by decide)]; exact hA⟩, hi_fr b2 rfl (fun _ _ _ _ => rfl) (by rw [pu_wr_k (by decide)]) (by rw [pu_wr_j (by decide)]) (Nat.le_refl _) b7, im_fr b3 rfl (fun _ _ => rfl) (by rw [pu_wr_k (by decide)]) (by rw [pu_wr_j (by decide)]) (Nat.le_refl _) b7, by rw [pu_wr_k (by decide)]; exact b4, by rw [pu_wr_k (by decide)]; exact b5, tx_fr b6 rfl rfl (by rw [pu_wr_k (by decide)]) (by rw [pu_wr_j (by decide)]), b7⟩
theorem Rel_mono {σ τ : en_M} {t t' : Nat} (h : Rel σ τ t) (h1 : t ≤ t') (h2 : t' ≤ 7168) : Rel σ τ t' := by
  obtain ⟨⟨A, hA⟩, b2, b3, b4, b5, b6, b7⟩ := h
  exact ⟨⟨A, PR_mono hA h1 h2⟩, hi_fr b2 rfl (fun _ _ _ _ => rfl) rfl rfl h1 h2, im_fr b3 rfl (fun _ _ => rfl) rfl rfl h1 h2, b4, b5, b6, h2⟩
theorem pb_bell {σ τ : en_M} {t : Nat} (h : Rel σ τ t) (ht : t + 1 ≤ 7168) : ∃ a x σ1 τ1, k_cc_bell σ = some (a, σ1) ∧ k_mm_bell τ = some (x, τ1) ∧ rl_A [] a x (τ1 24 0 0 0) ∧ Rel σ1 τ1 (t + 1) := by
  obtain ⟨s1, a1, a2, a3, ⟨A, a4⟩, a5⟩ := rl_aside (τ0 := τ) h (fun _ _ => rfl) (fun _ _ => rfl)
  obtain ⟨s4, b1, b2, b3⟩ := rl_yes a5 (fun x hx => by rw [a3 x hx, a2 25 (by decide)])
  have hp : ab_PR s4 0 (s1 25 0 0) A t := PR_fr a4 b2
  obtain ⟨x, σ1, s5, A1, c1, c2, c3, -⟩ := be_bell hp.1.1 hp.2.1 (W_mono hp.2.2.1 (Nat.le_succ _) ht) hp.2.2.2 (fun f hf => (hp.2.2.1.2.1 f hf).2.2.2.1)
  obtain ⟨τ1, d1, d2, d3, d4, -⟩ := b3 σ1 s5 A1 (t + 1) 0 (fun j g q => f_cd_ringBell c1 j g (by simp; omega)) (rl_mfr (f_mm_bell0 c2)) c3 (Nat.le_succ _) ht
  refine ⟨.inr x, x, σ1, τ1, ?_, ?_, ⟨d4, rfl⟩, d2⟩
  · rw [k_cc_bell, b1, pu_b2]
    show en_b2 (k_cd_ringBell 0 s4) _ = _
    rw [c1, pu_b2]
  · rw [k_mm_bell, a1, pu_b1, c2, pu_b2, d1, pu_b2, if_neg (by decide)]
theorem pb_tick {σ τ : en_M} {t : Nat} (h : Rel σ τ t) (v : Int32) : ∃ a x σ1 τ1, k_cc_tick v σ = some (a, σ1) ∧ k_mm_tick v τ = some (x, τ1) ∧ rl_A [(0, 1), (1, 2)] a x (τ1 24 0 0 0) ∧ Rel σ1 τ1 t := by
  have ht := h.2.2.2.2.2.2
  by_cases hv : k_mm_isIn v 1 99 = 0
  · refine ⟨.inl 0, 0, σ, en_wr τ 24 0 0 0 1, ?_, ?_, ?_, rl_th h 1⟩
    · rw [k_cc_tick, in_eq, if_pos hv]
    · rw [k_mm_tick, if_pos hv, pu_let, pu_wr_eq, if_neg (by decide)]
    · show (_, _) ∈ _
      rw [pu_wr_eq]
      simp
  · obtain ⟨c, rfl, hc1, hc⟩ := in_of (a := 1) (b := 99) (by decide) (by decide) hv
    obtain ⟨s14, h14⟩ : ∃ z, en_wr τ 24 0 0 0 0 = z := ⟨_, rfl⟩
    obtain ⟨s1, a1, a2, a3, ⟨A, a4⟩, a5⟩ := rl_aside (τ0 := s14) h (fun k q => by rw [← h14, pu_wr_k q]) (fun j q => by rw [← h14, pu_wr_j q])
    have hN := ab_N a4.2.2.1
    have cT := a4.1.1.1.2.2.2.1
    have hh0 : s14 24 0 0 0 ≤ 0 := by rw [← h14, pu_wr_eq]; decide
    have a25 : s1 25 0 0 = τ 25 0 0 := by rw [a2 25 (by decide), ← h14, pu_wr_j (by decide)]
    have hcls : k_cc_tick (nI c) σ = en_b2 (k_cc_startAct (if aH A 4 < 9999 then 0 else 6) σ) (fun t2 s3 => en_tx t2 (fun n5 => some (.inl n5, s3)) (fun x6 => en_b2 (k_cd_runTicks 0 (nI c) s3) fun t7 s8 => some (.inr t7, s8))) := by
      have e : k_cd_whyNoTick 0 σ = if aH A 4 < 9999 then 0 else 6 := by
        rw [k_cd_whyNoTick, cT, itx_lt (a := aH A 4) (b := 9999) (y := 9999) rfl rfl (by omega) (by decide)]
      rw [k_cc_tick, in_eq, if_neg hv, e]
    have hmod : k_mm_tick (nI c) τ = en_b2 (k_mm_tick0 (nI c) s1) (fun t19 s20 => en_b2 (k_mm_isTold t19 2 s20) fun t22 s23 => if t22 = 0 then some (0, s23) else some (s23 24 0 0 22, s23)) := by
      rw [k_mm_tick, if_neg hv, pu_let, h14, if_pos hh0, a1, pu_b1]
    by_cases hT : aH A 4 = 9999
    · have d0 := (tk_all a4 hc).1 hT
      obtain ⟨σ', τ1, d1, d2, d3, d4⟩ := rl_no (s5 := en_wr s1 24 0 0 22 0) a5 ⟨fun k _ q => by rw [pu_wr_k (by omega)], by rw [pu_wr_j (by decide)], by rw [pu_wr_j (by decide)], by rw [pu_wr_j (by decide)], by rw [pu_wr_j (by decide)]⟩ (by rw [pu_wr_j (by decide)]) (code := 6) (th := 2) (by decide)
      refine ⟨.inl 1, 0, σ', τ1, ?_, ?_, ?_, d3⟩
      · rw [hcls, if_neg (by omega), d1, pu_b2]
        rfl
      · rw [hmod, d0, pu_b2, d2, pu_b2, if_pos rfl]
      · show (_, _) ∈ _
        rw [d4]
        simp
    · obtain ⟨s4, b1, b2, b3⟩ := rl_yes a5 (fun x hx => by rw [a3 x hx, a25])
      have hp : ab_PR s4 0 (s1 25 0 0) A t := PR_fr a4 b2
      obtain ⟨x, σ1, s5, A1, c1, c2, c3, c4, c5⟩ := (tk_all hp hc).2 hT
      have fm := f_mm_tick0 c2
      obtain ⟨τ1, d1, d2, d3, d4, d5⟩ := b3 σ1 s5 A1 t 2 (fun j g q => f_cd_runTicks c1 j g (by simp; omega)) ⟨fun k _ q => c5 k q, fm 26 0 (by simp), fm 27 0 (by simp), fm 28 0 (by simp), fm 29 0 (by simp)⟩ c4 (Nat.le_refl _) ht
      refine ⟨.inr x, x, σ1, τ1, ?_, ?_, ⟨d4, rfl⟩, d2⟩
      · rw [hcls, if_pos (by omega), b1, pu_b2]
        show en_b2 (k_cd_runTicks 0 (nI c) s4) _ = _
        rw [c1, pu_b2]
      · rw [hmod, c2, pu_b2, d1, pu_b2, if_neg (by decide), d5 22 (by decide), c3]

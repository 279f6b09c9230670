/-! On paper: the first idle tick, the ticks that work. -/
section pqi
variable {t : Nat} {A : ab_A}
/-- the ticks of a sorted piece, as the model tells them -/
theorem pm_tk (hW : ab_W A t) {τ : en_M} (hM : ab_MR (τ 25 0 0) A) {c : Nat → Nat} {N j : Nat} (hS : pq_S A c N) (hj : j < N) : nI (c j) / 64 = nI (c j / 64) ∧ nI (c j) - nI (c j) / 64 * 64 = nI (c j % 64) ∧ k_mm_sizeOf (nI (c j / 64)) (nI (c j % 64)) τ = some (nI (pq_z A (c j))) ∧ k_mm_ticksOf (nI (pq_z A (c j))) τ = some (nI (ab_up (pq_z A (c j)) (aH A 1))) := by
  have hin := hS.1 j hj
  obtain ⟨b1, b2, b3, b4, b5⟩ := pq_bd hW hin
  obtain ⟨d1, d2⟩ := pq_dm (x := c j) (by omega)
  obtain ⟨z1, z2, z3, z4⟩ := pq_tk hW hin
  obtain ⟨-, w1, -⟩ := hW.1
  exact ⟨d1, d2, by rw [mo_sz hM hW b4 hin.2.2.2.2.2, pq_z], nu_tk (hM.1.1 1 (by decide)) w1.1 (by omega)⟩
theorem qm_26 (hW : ab_W A t) {τ : en_M} (hM : ab_MR (τ 25 0 0) A) {c : Nat → Nat} {N : Nat} (h : pl_A τ A c N) : ∀ d j F, j + d = N → d < F → ∃ u, k_mm_quiet_26 F (nI (pl_f A c j)) (nI j) τ = some (nI u) ∧ pl_f A c j ≤ u ∧ u ≤ 320000 := by
  obtain ⟨hS, p2, p3, p4, p5⟩ := h
  have hN := hS.2.2.2
  intro d
  induction d with
  | zero =>
    intro j F e hF
    obtain ⟨F, rfl⟩ : ∃ q, F = q + 1 := ⟨F - 1, by omega⟩
    have := pl_le hW hS j (by omega)
    refine ⟨_, ?_, Nat.le_refl _, by omega⟩
    rw [k_mm_quiet_26, p3, it_le (by omega) (by omega), if_pos (by omega)]
  | succ d ih =>
    intro j F e hF
    obtain ⟨F, rfl⟩ : ∃ q, F = q + 1 := ⟨F - 1, by omega⟩
    obtain ⟨l1, l2, l3, l4, l5⟩ := pl_s_le hW hS (j := j) (by omega)
    obtain ⟨d1, d2, d3, d4⟩ := pm_tk hW hM hS (j := j) (by omega)
    rw [k_mm_quiet_26, p3, it_le (by omega) (by omega), if_neg (by omega), pu_rd (by omega) (by decide), pu_b1, (p4 j (by omega)).1, it_eq (by omega) (by omega), pu_rd (by omega) (by decide), pu_b1, pu_b1, p2 j (by omega), d2, d1, d3, pu_b1, d4, pu_b1, nI_1]
    by_cases q : pl_s A c j = pl_f A c j
    · rw [if_pos q, nI_add, ← q, ← l5]
      obtain ⟨u, u1, u2, u3⟩ := ih (j + 1) F (by omega) (by omega)
      exact ⟨u, u1, by omega, u3⟩
    · rw [if_neg q]
      exact ⟨_, rfl, Nat.le_refl _, l4⟩
theorem qc_12 (hW : ab_W A t) {τ : en_M} (hM : ab_MR (τ 25 0 0) A) {c : Nat → Nat} {N : Nat} (h : pl_A τ A c N) : ∀ d j F1 F2 (σ : en_M), j + d = N → d < F1 → d < F2 → pc_S σ A c j → ∃ s u1 u2, k_pp_firstIdle_12 F1 0 (nI (pl_f A c j)) (nI j) σ = some (nI u1, s) ∧ k_mm_quiet_26 F2 (nI (pl_f A c j)) (nI j) τ = some (nI u2) ∧ u1 ≤ 320000 ∧ u2 ≤ 320000 ∧ (u1 = u2 ∨ (9999 ≤ u1 ∧ 9999 ≤ u2)) ∧ ∀ j, j ≠ 17 → j ≠ 18 → s j = σ j := by
  have h0 := h
  obtain ⟨hS, p2, p3, p4, p5⟩ := h
  have hN := hS.2.2.2
  intro d
  induction d with
  | zero =>
    intro j F1 F2 σ e hF1 hF2 hc
    obtain ⟨u, u1, u2, u3⟩ := qm_26 hW hM h0 0 j F2 e hF2
    obtain ⟨F1, rfl⟩ : ∃ q, F1 = q + 1 := ⟨F1 - 1, by omega⟩
    obtain ⟨F2, rfl⟩ : ∃ q, F2 = q + 1 := ⟨F2 - 1, by omega⟩
    have hle := pl_le hW hS j (by omega)
    have em : k_mm_quiet_26 (F2 + 1) (nI (pl_f A c j)) (nI j) τ = some (nI (pl_f A c j)) := by
      rw [k_mm_quiet_26, p3, it_le (by omega) (by omega), if_pos (by omega)]
    refine ⟨σ, pl_f A c j, pl_f A c j, ?_, em, by omega, by omega, Or.inl rfl, fun _ _ _ => rfl⟩
    rw [k_pp_firstIdle_12, itx_le (a := 160) (b := j) (x := 160) rfl rfl (by decide) (by omega)]
    rcases pc_step hW hS (show j ≤ N by omega) hc with ⟨q1, -⟩ | ⟨-, q2⟩
    · omega
    · rw [q2, pu_b2, if_pos (show (0 : Int32) = 0 from rfl)]
      split <;> rfl
  | succ d ih =>
    intro j F1 F2 σ e hF1 hF2 hc
    obtain ⟨u, u1, u2, u3⟩ := qm_26 hW hM h0 (d + 1) j F2 e hF2
    obtain ⟨F1, rfl⟩ : ∃ q, F1 = q + 1 := ⟨F1 - 1, by omega⟩
    obtain ⟨F2, rfl⟩ : ∃ q, F2 = q + 1 := ⟨F2 - 1, by omega⟩
    obtain ⟨l1, l2, l3, l4, l5⟩ := pl_s_le hW hS (j := j) (by omega)
    obtain ⟨d1, d2, d3, d4⟩ := pm_tk hW hM hS (j := j) (by omega)
    have em : k_mm_quiet_26 (F2 + 1) (nI (pl_f A c j)) (nI j) τ = if pl_s A c j = pl_f A c j then k_mm_quiet_26 F2 (nI (pl_f A c j + ab_up (pq_z A (c j)) (aH A 1))) (nI (j + 1)) τ else some (nI (pl_f A c j)) := by
      rw [k_mm_quiet_26, p3, it_le (by omega) (by omega), if_neg (by omega), pu_rd (by omega) (by decide), pu_b1, (p4 j (by omega)).1, it_eq (by omega) (by omega), pu_rd (by omega) (by decide), pu_b1, pu_b1, p2 j (by omega), d2, d1, d3, pu_b1, d4, pu_b1, nI_1, nI_add]
    rcases pc_step hW hS (show j ≤ N by omega) hc with ⟨q1, q2, s, s1, s2, s3, s4, s5, s6, s7⟩ | ⟨q1, q2⟩
    · have ec : k_pp_firstIdle_12 (F1 + 1) 0 (nI (pl_f A c j)) (nI j) σ = if pl_s A c j = pl_f A c j then k_pp_firstIdle_12 F1 0 (nI (pl_f A c (j + 1))) (nI (j + 1)) s else some (nI (pl_f A c j), s) := by
        rw [k_pp_firstIdle_12, itx_le (a := 160) (b := j) (x := 160) rfl rfl (by decide) (by omega), if_neg (by omega), s1, pu_b2, if_neg (show ¬ (1 : Int32) = 0 by decide), s5, it_eq (by omega) (by omega), s2.2.1, nI_1]
      by_cases q : pl_s A c j = pl_f A c j
      · rw [if_pos q] at em ec
        rw [← q, ← l5, q] at em
        obtain ⟨s', v1, v2, r1, r2, r3, r4, r5, r6⟩ := ih (j + 1) F1 F2 s (by omega) (by omega) (by omega) s2
        exact ⟨s', v1, v2, by rw [ec]; exact r1, by rw [em]; exact r2, r3, r4, r5, fun j z1 z2 => by rw [r6 j z1 z2, s7 j z1 z2]⟩
      · rw [if_neg q] at em ec
        exact ⟨s, _, _, ec, em, l4, l4, Or.inl rfl, s7⟩
    · have h9 := q1 (by omega)
      have ec : k_pp_firstIdle_12 (F1 + 1) 0 (nI (pl_f A c j)) (nI j) σ = some (nI (pl_f A c j), σ) := by
        rw [k_pp_firstIdle_12, itx_le (a := 160) (b := j) (x := 160) rfl rfl (by decide) (by omega), if_neg (by omega), q2, pu_b2, if_pos rfl]
      by_cases q : pl_s A c j = pl_f A c j
      · exact ⟨σ, _, u, ec, u1, l4, u3, Or.inr ⟨by omega, by omega⟩, fun _ _ _ => rfl⟩
      · rw [if_neg q] at em
        exact ⟨σ, _, _, ec, em, l4, l4, Or.inl rfl, fun _ _ _ => rfl⟩
end pqi
theorem pb_quiet {σ τ : en_M} {t : Nat} (h : Rel σ τ t) : ∃ x σ1 τ1, k_cc_quiet σ = some (x, σ1) ∧ k_mm_quiet τ = some (x, τ1) ∧ τ1 24 0 0 0 = 0 ∧ Rel σ1 τ1 t := by
  obtain ⟨s, s1, s2, s3, s4, A, hA⟩ := q_set h
  have hW := hA.2.2.1
  have hH := hA.2.2.2.2
  obtain ⟨m, c, N, a1, a2, a3, a4⟩ := pl_all hW hH hA.2.1
  have hMm : ab_MR (m 25 0 0) A := by rw [a3 25 (by decide) (by decide)]; exact hA.2.1
  have e0 : m 25 0 0 4 + m 25 0 0 17 = nI (pl_f A c 0) := by rw [hMm.1.1 4 (by decide), hMm.1.2.2.2.2.2.2.2.2.2.1, nI_add, pl_f]
  obtain ⟨p1, b1, b2, b3⟩ := pb_timed hW hH hA.1 c
  have hN := a2.1.2.2.2
  obtain ⟨p2, u1, u2, r1, r2, r3, r4, r5, r6⟩ := qc_12 hW hMm a2 N 0 en_fu en_fu p1 (by omega) (by rw [en_fu]; omega) (by rw [en_fu]; omega) b2
  have r1' : k_pp_firstIdle_12 en_fu 0 (nI (pl_f A c 0)) 0 p1 = some (nI u1, p2) := r1
  have r2' : k_mm_quiet_26 en_fu (nI (pl_f A c 0)) 0 m = some (nI u2) := r2
  have R := rl_pp (σ1 := p2) s4 (fun j z1 z2 z3 => by rw [r6 j z1 z2, b3 j z1 z2 z3]) a3 a4
  rw [k_cc_quiet, k_pp_firstIdle, b1, pu_b1, b2.2.1, r1', pu_b2, k_mm_quiet, pu_let, s1, a1, pu_b1, e0, r2', pu_b1, itx_le (a := 9999) (b := u1) (x := 9999) rfl rfl (by decide) (by omega), itx_le (a := 9999) (b := u2) (x := 9999) rfl rfl (by decide) (by omega)]
  by_cases c9 : 9999 ≤ u1
  · rw [if_pos c9, if_pos (by omega), pu_b2]
    exact ⟨_, _, _, rfl, rfl, by rw [a4 0 (by decide), s2], R⟩
  · rw [if_neg c9, if_neg (by omega), pu_b2, show u1 = u2 by omega]
    exact ⟨_, _, _, rfl, rfl, by rw [a4 0 (by decide), s2], R⟩
section pwk
variable {t : Nat} {A : ab_A}
noncomputable def wk_b (A : ab_A) (c : Nat → Nat) (E j : Nat) : Nat := min (pl_f A c (j + 1)) E - pl_s A c j
theorem nu_dif {a b : Nat} (ha : a < 2 ^ 30) (hb : b < 2 ^ 30) : k_mm_greater 0 (nI a - nI b) = nI (a - b) := by
  by_cases h : b ≤ a
  · rw [pk_sub h, show (0 : Int32) = nI 0 from rfl, nu_gr (by decide) (by omega), Nat.max_eq_right (by omega)]
  · rw [k_mm_greater, if_neg, show a - b = 0 by omega]
    · rfl
    · rw [Int32.le_iff_toInt_le, pk_sub_toInt ha hb]
      have : (0 : Int32).toInt = 0 := rfl
      omega
theorem wk_both {f g T E : Nat} (hf : f < 2 ^ 30) (hg : g < 2 ^ 30) (hT : T ≤ f) (hE : E < 2 ^ 30) : k_mm_both (nI f) (nI g) (nI T) (nI E) = nI (min g E - f) := by
  rw [k_mm_both, nu_ls (by omega) (by omega), nu_gr (by omega) (by omega), Nat.max_eq_left hT, nu_dif (by omega) (by omega)]
theorem wk_0 (hW : ab_W A t) {τ : en_M} (hM : ab_MR (τ 25 0 0) A) {c : Nat → Nat} {N E : Nat} (h : pl_A τ A c N) (hE : E ≤ 9999) : ∀ d j F (acc : Int32), j + d = N → d < F → (j < N → E ≤ pl_s A c j) → k_mm_works_71 F (nI E) acc (nI j) τ = some acc := by
  obtain ⟨hS, p2, p3, p4, p5⟩ := h
  have hN := hS.2.2.2
  intro d
  induction d with
  | zero =>
    intro j F acc e hF hs
    obtain ⟨F, rfl⟩ : ∃ q, F = q + 1 := ⟨F - 1, by omega⟩
    rw [k_mm_works_71, p3, it_le (by omega) (by omega), if_pos (by omega)]
  | succ d ih =>
    intro j F acc e hF hs
    obtain ⟨F, rfl⟩ : ∃ q, F = q + 1 := ⟨F - 1, by omega⟩
    obtain ⟨l1, l2, l3, l4, l5⟩ := pl_s_le hW hS (j := j) (by omega)
    obtain ⟨d1, d2, d3, d4⟩ := pm_tk hW hM hS (j := j) (by omega)
    have hs1 := hs (by omega)
    have hT : aH A 4 ≤ pl_s A c j := by
      have := pl_mono' hW hS (show 0 ≤ j by omega) (by omega)
      rw [pl_f] at this
      omega
    rw [k_mm_works_71, p3, it_le (by omega) (by omega), if_neg (by omega), pu_rd (by omega) (by decide), pu_b1, pu_b1, (p4 j (by omega)).1, pu_rd (by omega) (by decide), pu_b1, pu_b1, p2 j (by omega), d2, d1, d3, pu_b1, d4, pu_b1, nI_1, nI_add, ← l5, hM.1.1 4 (by decide), wk_both (by omega) (by omega) hT (by omega), show min (pl_f A c (j + 1)) E - pl_s A c j = 0 by omega, show acc + nI 0 = acc from Int32.add_zero acc]
    exact ih (j + 1) F acc (by omega) (by omega) (fun z => by have := pl_smono hW hS (show j ≤ j + 1 by omega) z; omega)
theorem wk_22 (hW : ab_W A t) {τ : en_M} (hM : ab_MR (τ 25 0 0) A) {c : Nat → Nat} {N E : Nat} (h : pl_A τ A c N) (hE : E ≤ 9999) : ∀ d j F1 F2 (σ : en_M) (acc : Int32), j + d = N → d < F1 → d < F2 → pc_S σ A c j → ∃ s x, k_pp_busyTicks_22 F1 0 (nI E) acc (nI j) σ = some (x, s) ∧ k_mm_works_71 F2 (nI E) acc (nI j) τ = some x ∧ ∀ j, j ≠ 17 → j ≠ 18 → s j = σ j := by
  have h0 := h
  obtain ⟨hS, p2, p3, p4, p5⟩ := h
  have hN := hS.2.2.2
  intro d
  induction d with
  | zero =>
    intro j F1 F2 σ acc e hF1 hF2 hc
    have em := wk_0 hW hM h0 hE 0 j F2 acc e hF2 (fun z => by omega)
    obtain ⟨F1, rfl⟩ : ∃ q, F1 = q + 1 := ⟨F1 - 1, by omega⟩
    refine ⟨σ, acc, ?_, em, fun _ _ _ => rfl⟩
    rw [k_pp_busyTicks_22]
    rcases pc_step hW hS (show j ≤ N by omega) hc with ⟨q1, -⟩ | ⟨-, q2⟩
    · omega
    · rw [q2, pu_b2, if_pos (show (0 : Int32) = 0 from rfl)]
      split <;> rfl
  | succ d ih =>
    intro j F1 F2 σ acc e hF1 hF2 hc
    have em := wk_0 hW hM h0 hE (d + 1) j F2 acc e hF2
    obtain ⟨F1, rfl⟩ : ∃ q, F1 = q + 1 := ⟨F1 - 1, by omega⟩
    obtain ⟨F2, rfl⟩ : ∃ q, F2 = q + 1 := ⟨F2 - 1, by omega⟩
    obtain ⟨l1, l2, l3, l4, l5⟩ := pl_s_le hW hS (j := j) (by omega)
    obtain ⟨d1, d2, d3, d4⟩ := pm_tk hW hM hS (j := j) (by omega)
    have hT : aH A 4 ≤ pl_s A c j := by
      have := pl_mono' hW hS (show 0 ≤ j by omega) (by omega)
      rw [pl_f] at this
      omega
    rw [k_pp_busyTicks_22, itx_le (a := 160) (b := j) (x := 160) rfl rfl (by decide) (by omega), if_neg (by omega)]
    rcases pc_step hW hS (show j ≤ N by omega) hc with ⟨q1, q2, s, s1, s2, s3, s4, s5, s6, s7⟩ | ⟨q1, q2⟩
    · rw [s1, pu_b2, if_neg (show ¬ (1 : Int32) = 0 by decide), s5, it_le (by omega) (by omega)]
      by_cases q : E ≤ pl_s A c j
      · rw [if_pos q]
        exact ⟨s, acc, rfl, em (fun _ => q), s7⟩
      · have emin : (if nI E < nI (pl_f A c (j + 1)) then nI E else nI (pl_f A c (j + 1))) - nI (pl_s A c j) = nI (wk_b A c E j) := by
          rw [it_lt (by omega) (by omega), wk_b]
          by_cases z : E < pl_f A c (j + 1)
          · rw [if_pos z, pk_sub (by omega), Nat.min_eq_right (by omega)]
          · rw [if_neg z, pk_sub (by omega), Nat.min_eq_left (by omega)]
        obtain ⟨s', x, r1, r2, r3⟩ := ih (j + 1) F1 F2 s (acc + nI (wk_b A c E j)) (by omega) (by omega) (by omega) s2
        refine ⟨s', x, ?_, ?_, fun j z1 z2 => by rw [r3 j z1 z2, s7 j z1 z2]⟩
        · rw [if_neg q, s2.2.1, emin, nI_1]
          exact r1
        · rw [k_mm_works_71, p3, it_le (by omega) (by omega), if_neg (by omega), pu_rd (by omega) (by decide), pu_b1, pu_b1, (p4 j (by omega)).1, pu_rd (by omega) (by decide), pu_b1, pu_b1, p2 j (by omega), d2, d1, d3, pu_b1, d4, pu_b1, nI_1, nI_add, ← l5, hM.1.1 4 (by decide), wk_both (by omega) (by omega) hT (by omega)]
          exact r2
    · have h9 := q1 (by omega)
      rw [q2, pu_b2, if_pos rfl]
      exact ⟨σ, acc, rfl, em (fun _ => by omega), fun _ _ _ => rfl⟩
end pwk
theorem pb_works {σ τ : en_M} {t : Nat} (h : Rel σ τ t) (v : Int32) : ∃ a x σ1 τ1, k_cc_works v σ = some (a, σ1) ∧ k_mm_works v τ = some (x, τ1) ∧ rl_A [(0, 1)] a x (τ1 24 0 0 0) ∧ Rel σ1 τ1 t := by
  obtain ⟨A0, hA0⟩ := h.1
  have hN0 := ab_N hA0.2.2.1
  have c4 : σ 0 0 0 11 = nI (aH A0 4) := hA0.1.1.1.2.2.2.1
  have m4 : τ 25 0 0 4 = nI (aH A0 4) := hA0.2.1.1.1 4 (by decide)
  by_cases hv : k_mm_isIn v (nI (aH A0 4)) 9999 = 0
  · obtain ⟨s, s1, s2, s3, s4⟩ := q_bad h (v := 1) (by decide)
    refine ⟨.inl 0, 0, σ, s, ?_, ?_, ?_, s4⟩
    · rw [k_cc_works, c4, in_eq, if_pos hv]
    · rw [k_mm_works, m4, if_pos hv, pu_let, s1, if_neg s3]
    · show (_, _) ∈ _
      rw [s2]
      simp
  · obtain ⟨E, rfl, hE1, hE⟩ := in_of (a := aH A0 4) (b := 9999) (by omega) (by decide) hv
    obtain ⟨s, s1, s2, s3, s4, -⟩ := q_set h
    have hA : ab_PR σ 0 (s 25 0 0) A0 t := by rw [← s1, pu_wr_j (by decide)]; exact hA0
    have hW := hA.2.2.1
    have hH := hA.2.2.2.2
    obtain ⟨m, c, N, a1, a2, a3, a4⟩ := pl_all hW hH hA.2.1
    have hMm : ab_MR (m 25 0 0) A0 := by rw [a3 25 (by decide) (by decide)]; exact hA.2.1
    have e0 : m 25 0 0 4 + m 25 0 0 17 = nI (pl_f A0 c 0) := by rw [hMm.1.1 4 (by decide), hMm.1.2.2.2.2.2.2.2.2.2.1, nI_add, pl_f]
    have hf0 : aH A0 4 ≤ pl_f A0 c 0 ∧ pl_f A0 c 0 ≤ 320000 := by
      have := pl_le hW a2.1 0 (by omega)
      refine ⟨?_, by omega⟩
      rw [pl_f]
      omega
    obtain ⟨p1, b1, b2, b3⟩ := pb_timed hW hH hA.1 c
    have hN := a2.1.2.2.2
    have c4' : p1 0 0 0 11 = nI (aH A0 4) := by rw [b3 0 (by decide) (by decide) (by decide)]; exact c4
    have ei : (if nI E < nI (pl_f A0 c 0) then nI E else nI (pl_f A0 c 0)) - nI (aH A0 4) = nI (min (pl_f A0 c 0) E - aH A0 4) := by
      rw [it_lt (by omega) (by omega)]
      by_cases z : E < pl_f A0 c 0
      · rw [if_pos z, pk_sub (by omega), Nat.min_eq_right (by omega)]
      · rw [if_neg z, pk_sub (by omega), Nat.min_eq_left (by omega)]
    obtain ⟨p2, x, r1, r2, r3⟩ := wk_22 hW hMm a2 hE N 0 en_fu en_fu p1 (nI (min (pl_f A0 c 0) E - aH A0 4)) (by omega) (by rw [en_fu]; omega) (by rw [en_fu]; omega) b2
    have r1' : k_pp_busyTicks_22 en_fu 0 (nI E) (nI (min (pl_f A0 c 0) E - aH A0 4)) 0 p1 = some (x, p2) := r1
    have r2' : k_mm_works_71 en_fu (nI E) (nI (min (pl_f A0 c 0) E - aH A0 4)) 0 m = some x := r2
    have R := rl_pp (σ1 := p2) s4 (fun j z1 z2 z3 => by rw [r3 j z1 z2, b3 j z1 z2 z3]) a3 a4
    refine ⟨.inr x, x, p2, m, ?_, ?_, ⟨by rw [a4 0 (by decide), s2], rfl⟩, R⟩
    · rw [k_cc_works, c4, in_eq, if_neg hv, k_pp_busyTicks, b1, pu_b1, b2.2.1, c4', ei, r1', pu_b2, pu_b2]
    · rw [k_mm_works, m4, if_neg hv, pu_let, s1, if_pos s3, a1, pu_b1, e0, hMm.1.1 4 (by decide), wk_both (by omega) (by omega) (Nat.le_refl _) (by omega), r2', pu_b1]

/-! On paper: the beginning, the queue, the first idle tick, the ticks that work. -/
theorem lr_in2 {v : Int32} {L : Nat} (hL : L ≤ 1000) : (k_mm_isIn v 0 (nI L - 1) = 0 ∧ (v < 0 ∨ (¬ v < 0 ∧ nI L ≤ v))) ∨ (∃ i, v = nI i ∧ i < L ∧ ¬ k_mm_isIn v 0 (nI L - 1) = 0) := by
  by_cases h1 : v < 0
  · exact Or.inl ⟨by rw [k_mm_isIn, if_pos h1], Or.inl h1⟩
  · have h1' := h1
    rw [show (0 : Int32) = nI 0 from rfl, nu_ltx (by decide)] at h1'
    by_cases h2 : nI L ≤ v
    · refine Or.inl ⟨?_, Or.inr ⟨h1, h2⟩⟩
      rw [k_mm_isIn, if_neg h1, if_pos]
      rw [nu_lx (by omega)] at h2
      rcases L with _ | L
      · rw [show nI 0 - 1 = (-1 : Int32) from rfl, Int32.lt_iff_toInt_lt, show (-1 : Int32).toInt = -1 from rfl]
        omega
      · rw [nI_pred, nu_ltx' (by omega)]
        omega
    · have h2' := h2
      rw [nu_lx (by omega)] at h2'
      obtain ⟨i, i1, i2⟩ := nu_of (x := v) (a := L) (by omega) (by omega) (by omega)
      refine Or.inr ⟨i, i2, i1, ?_⟩
      rw [k_mm_isIn, if_neg h1, if_neg]
      · decide
      · obtain ⟨M, rfl⟩ : ∃ M, L = M + 1 := ⟨L - 1, by omega⟩
        rw [i2, nI_pred, pu_lt (by omega) (by omega)]
        omega
section pbg
variable {t : Nat} {A : ab_A}
theorem pp_Cj {σ s : en_M} (h : pp_C σ A) (h0 : s 0 = σ 0) (h12 : s 12 = σ 12) (h13 : s 13 = σ 13) : pp_C s A := by
  refine ⟨⟨?_, ?_⟩, ?_⟩
  · have := h.1.1
    rw [ab_C1] at this ⊢
    rw [h0]
    exact this
  · intro n hn
    rw [h13]
    exact h.1.2 n hn
  · intro f hf
    rw [h12]
    exact h.2 f hf
theorem pp_of {σ : en_M} (h : ab_CW σ 0 A) : pp_C σ A := ⟨h.s, fun f hf => (h.2.2.1 f hf).2.2.1⟩
theorem bg_2 : ∀ d i F (σ : en_M), i + d = 8 → d < F → ∃ s, k_pp_begin_2 F 0 (nI i) σ = some s ∧ (∀ k, i ≤ k → k < 8 → s 18 0 0 k = σ 13 0 k 7) ∧ (∀ k, k < i → s 18 0 0 k = σ 18 0 0 k) ∧ ∀ j, j ≠ 18 → s j = σ j := by
  intro d
  induction d with
  | zero =>
    intro i F σ e hF
    obtain ⟨F, rfl⟩ : ∃ q, F = q + 1 := ⟨F - 1, by omega⟩
    refine ⟨σ, ?_, fun k q1 q2 => by omega, fun _ _ => rfl, fun _ _ => rfl⟩
    rw [k_pp_begin_2, itx_le (a := 8) (b := i) (x := 8) rfl rfl (by decide) (by omega), if_pos (by omega)]
  | succ d ih =>
    intro i F σ e hF
    obtain ⟨F, rfl⟩ : ∃ q, F = q + 1 := ⟨F - 1, by omega⟩
    obtain ⟨s4, h4⟩ : ∃ z, en_wr σ 18 0 0 i (σ 13 0 i 7) = z := ⟨_, rfl⟩
    have j4 : ∀ j, j ≠ 18 → s4 j = σ j := fun j q => by rw [← h4, pu_wr_j q]
    obtain ⟨s, s1, s2, s3, s5⟩ := ih (i + 1) F s4 (by omega) (by omega)
    refine ⟨s, ?_, fun k q1 q2 => ?_, fun k q => ?_, fun j q => by rw [s5 j q, j4 j q]⟩
    · rw [k_pp_begin_2, itx_le (a := 8) (b := i) (x := 8) rfl rfl (by decide) (by omega), if_neg (by omega), pu_ix (by omega) (by decide), pu_b1, pu_wa (by omega) (by decide), pu_b1, h4, nI_1]
      exact s1
    · by_cases c : k = i
      · rw [c, s3 i (by omega), ← h4, pu_wr_eq]
      · rw [s2 k (by omega) q2, j4 13 (by decide)]
    · rw [s3 k (by omega), ← h4, pu_wr_k (by omega)]
theorem pb_begin (hW : ab_W A t) (hH : ab_WH A) {σ : en_M} (hC : pp_C σ A) (c : Nat → Nat) : ∃ s, k_pp_begin 0 σ = some s ∧ pp_C s A ∧ s 17 0 0 2 = nI (pl_f A c 0) ∧ (∀ n, ab_win A n → s 18 0 0 (n % 8) = nI (pc_v A c 0 n)) ∧ ∀ j, j ≠ 17 → j ≠ 18 → s j = σ j := by
  have hN := ab_N hW
  obtain ⟨s7, a1, a2, -, a4⟩ := bg_2 8 0 en_fu σ (by omega) (by rw [en_fu]; omega)
  have a1' : k_pp_begin_2 en_fu 0 0 σ = some s7 := a1
  have c1 := hC.1.1
  have e15 : s7 0 0 0 15 = (if aH A 11 = 0 then -1 else nI (aH A 8)) := by rw [a4 0 (by decide)]; exact c1.2.2.2.2.2.2.2.1
  have e11 : s7 0 0 0 11 = nI (aH A 4) := by rw [a4 0 (by decide)]; exact c1.2.2.2.1
  have fin : ∀ (s : en_M) (v : Int32), v = nI (pl_f A c 0) → en_wr s7 17 0 0 2 v = s → pp_C s A ∧ s 17 0 0 2 = nI (pl_f A c 0) ∧ (∀ n, ab_win A n → s 18 0 0 (n % 8) = nI (pc_v A c 0 n)) ∧ ∀ j, j ≠ 17 → j ≠ 18 → s j = σ j := fun s v hv hs => by
    have js : ∀ j, j ≠ 17 → j ≠ 18 → s j = σ j := fun j q1 q2 => by rw [← hs, pu_wr_j q1, a4 j q2]
    refine ⟨pp_Cj hC (js 0 (by decide) (by decide)) (js 12 (by decide) (by decide)) (js 13 (by decide) (by decide)), by rw [← hs, pu_wr_eq, hv], fun n hn => ?_, js⟩
    rw [← hs, pu_wr_j (by decide), a2 _ (by omega) (Nat.mod_lt _ (by decide)), (hC.1.2 n hn).2.2.2.2.2.2.2.1]
    rfl
  rw [k_pp_begin, a1', pu_b1, e15]
  by_cases h11 : aH A 11 = 0
  · rw [if_pos h11, if_pos rfl, pu_let]
    have h7 := hH.1.1 h11
    exact ⟨_, rfl, fin _ _ (by rw [e11, pl_f, h7]; rfl) rfl⟩
  · obtain ⟨v1, v2, -⟩ := hW.2.2.2.2.1 h11
    rw [if_neg h11, it_m1 (by omega), pu_let]
    exact ⟨_, rfl, fin _ _ (by rw [a4 0 (by decide), c1.2.2.2.2.2.2.2.2 h11]; rfl) rfl⟩
theorem pb_timed (hW : ab_W A t) (hH : ab_WH A) {σ : en_M} (h : ab_CR σ 0 A) (c : Nat → Nat) : ∃ s, k_pp_beginAsTimed 0 σ = some s ∧ pc_S s A c 0 ∧ ∀ j, j ≠ 17 → j ≠ 18 → j ≠ 19 → s j = σ j := by
  obtain ⟨s1, a1, a2, a3, a4, a5⟩ := pb_begin hW hH (pp_of h.1) c
  have hcp : ∀ j, j ≠ 19 → en_cp s1 3 0 0 19 0 0 160 j = s1 j := fun j q => by
    funext g i k
    simp only [en_cp]
    rw [if_neg (fun z => q z.1)]
  refine ⟨en_cp s1 3 0 0 19 0 0 160, by rw [k_pp_beginAsTimed, a1, pu_b1]; rfl, ⟨pp_Cj a2 (hcp 0 (by decide)) (hcp 12 (by decide)) (hcp 13 (by decide)), by rw [hcp 17 (by decide)]; exact a3, fun n hn => by rw [hcp 18 (by decide)]; exact a4 n hn, fun x hx => ?_⟩, fun j q1 q2 q3 => by rw [hcp j q3, a5 j q1 q2]⟩
  obtain ⟨b1, b2, b3, b4, b5⟩ := pq_bd hW hx
  have hm8 : x / 64 % 8 < 8 := Nat.mod_lt _ (by decide)
  rw [en_cp, if_pos ⟨rfl, rfl, rfl, by omega⟩, a5 3 (by decide) (by decide), h.2.2 _ _ b4 hx.1 hx.2.2.1 hx.2.2.2.2.1 hx.2.2.2.2.2, pq_D]
end pbg
theorem rl_pp {σ σ1 τ τ1 : en_M} {t : Nat} (h : Rel σ τ t) (h1 : ∀ j, j ≠ 17 → j ≠ 18 → j ≠ 19 → σ1 j = σ j) (h2 : ∀ j, j < 30 → j ≠ 24 → τ1 j 0 = τ j 0) (h3 : ∀ k, k ≠ 16 → τ1 24 0 0 k = τ 24 0 0 k) : Rel σ1 τ1 t := by
  obtain ⟨⟨A, hA⟩, b2, b3, b4, b5, b6, b7⟩ := h
  refine ⟨⟨A, ?_⟩, hi_fr b2 (by rw [h1 15 (by decide) (by decide) (by decide)]) (fun j g q _ => by rw [h1 j (by omega) (by omega) (by omega)]) (h3 5 (by decide)) (h2 28 (by decide) (by decide)) (Nat.le_refl _) b7, im_fr b3 (by rw [h1 14 (by decide) (by decide) (by decide)]) (fun j q => by rw [h1 j (by omega) (by omega) (by omega)]) (h3 6 (by decide)) (h2 27 (by decide) (by decide)) (Nat.le_refl _) b7, ?_, ?_, tx_fr b6 (by rw [h1 20 (by decide) (by decide) (by decide)]) (by rw [h1 21 (by decide) (by decide) (by decide)]) (h3 9 (by decide)) (h2 29 (by decide) (by decide)), b7⟩
  · rw [h2 25 (by decide) (by decide)]
    exact PR_fr hA (fun j q => by rw [h1 j (by omega) (by omega) (by omega)])
  · rw [h1 14 (by decide) (by decide) (by decide), h3 7 (by decide)]
    exact b4
  · rw [h1 14 (by decide) (by decide) (by decide), h3 12 (by decide)]
    exact b5
section pqu
variable {t : Nat} {A : ab_A}
theorem pr_20 (hW : ab_W A t) {c : Nat → Nat} {N k : Nat} (hS : pq_S A c N) (hk : k < 160) : ∀ d i F (σ : en_M), i + d = k → d < F → i ≤ N → pc_S σ A c i → ∃ s, (∀ j, j ≠ 17 → j ≠ 18 → s j = σ j) ∧ ((k_pp_runTo_20 F 0 (nI k) (nI i) σ = some (.inr s) ∧ k ≤ N ∧ pc_S s A c k) ∨ (k_pp_runTo_20 F 0 (nI k) (nI i) σ = some (.inl (0, s)) ∧ ∃ j, j ≤ k ∧ (j < N → 9999 ≤ pl_s A c j))) := by
  intro d
  induction d with
  | zero =>
    intro i F σ e hF hi h
    obtain ⟨F, rfl⟩ : ∃ q, F = q + 1 := ⟨F - 1, by omega⟩
    have hik : i = k := by omega
    subst hik
    refine ⟨σ, fun _ _ _ => rfl, Or.inl ⟨?_, hi, h⟩⟩
    rw [k_pp_runTo_20, it_le (by omega) (by omega), if_pos (by omega)]
  | succ d ih =>
    intro i F σ e hF hi h
    obtain ⟨F, rfl⟩ : ∃ q, F = q + 1 := ⟨F - 1, by omega⟩
    rw [k_pp_runTo_20, it_le (by omega) (by omega), if_neg (by omega)]
    rcases pc_step hW hS hi h with ⟨q1, q2, s, s1, s2, s3, s4, s5, s6, s7⟩ | ⟨q1, q2⟩
    · rw [s1, pu_b2, if_neg (show ¬ (1 : Int32) = 0 by decide), nI_1]
      obtain ⟨s', r1, r2⟩ := ih (i + 1) F s (by omega) (by omega) (by omega) s2
      exact ⟨s', fun j z1 z2 => by rw [r1 j z1 z2, s7 j z1 z2], r2⟩
    · rw [q2, pu_b2, if_pos rfl]
      exact ⟨σ, fun _ _ _ => rfl, Or.inr ⟨rfl, i, by omega, q1⟩⟩
end pqu
theorem pb_queueOf {σ τ : en_M} {t : Nat} (h : Rel σ τ t) (v w : Int32) : ∃ x σ1 τ1, k_cc_leaver v w σ = some (x, σ1) ∧ k_mm_queueOf v w τ = some (x, τ1) ∧ τ1 24 0 0 0 = τ 24 0 0 0 ∧ Rel σ1 τ1 t := by
  obtain ⟨A, hA⟩ := h.1
  have hW := hA.2.2.1
  have hH := hA.2.2.2.2
  obtain ⟨s1, c, N, a1, ⟨hS, p2, p3, p4, p5⟩, a3, a4⟩ := pl_all hW hH hA.2.1
  have hN160 := hS.2.2.2
  have none : ∀ {p : Option (Int32 × en_M)} {q : Option (Int32 × en_M)} (s : en_M), (∀ j, j ≠ 17 → j ≠ 18 → j ≠ 19 → s j = σ j) → p = some (-1, s) → q = some (-1, s1) → ∃ x σ1 τ1, p = some (x, σ1) ∧ q = some (x, τ1) ∧ τ1 24 0 0 0 = τ 24 0 0 0 ∧ Rel σ1 τ1 t := fun s z1 z2 z3 => ⟨-1, s, s1, z2, z3, a4 0 (by decide), rl_pp h z1 a3 a4⟩
  have em : ∀ {k : Nat}, k < N → k_mm_queueOf (nI k) w τ = if pl_s A c k < 9999 then (if w = 0 then some (nI (c k), s1) else some (nI (pl_s A c k), s1)) else some (-1, s1) := fun {k} hk => by
    have hl := pl_s_le hW hS hk
    have hin : ¬ k_mm_isIn (nI k) 0 (nI N - 1) = 0 := by
      obtain ⟨M, rfl⟩ : ∃ M, N = M + 1 := ⟨N - 1, by omega⟩
      rw [k_mm_isIn, it_neg (by omega), nI_pred, it_lt (by omega) (by omega), if_neg (by omega)]
      decide
    rw [k_mm_queueOf, a1, pu_b1, p3, if_neg hin, pu_rd (by omega) (by decide), pu_b1, (p4 k hk).1, itx_lt (a := pl_s A c k) (b := 9999) (y := 9999) rfl rfl (by omega) (by decide), pu_rd (by omega) (by decide), pu_b1, p2 k hk, pu_b1]
  rcases lr_in2 (v := v) (L := N) (by omega) with ⟨l1, l2⟩ | ⟨k, rfl, hk, l1⟩
  · have eM : k_mm_queueOf v w τ = some (-1, s1) := by rw [k_mm_queueOf, a1, pu_b1, p3, if_pos l1]
    rw [k_cc_leaver, k_pp_runTo]
    rcases l2 with q | ⟨q1, q2⟩
    · rw [if_pos q, pu_b2, if_pos rfl]
      exact none σ (fun _ _ _ _ => rfl) rfl eM
    · rw [if_neg q1]
      by_cases q3 : v < 160
      · rw [nu_lx (by omega)] at q2
        have q3' := q3
        rw [show (160 : Int32) = nI 160 from rfl, nu_ltx (by decide)] at q3'
        obtain ⟨k, k1, rfl⟩ := nu_of (x := v) (a := 160) (by omega) (by omega) (by decide)
        rw [nI_toInt (by omega)] at q2
        obtain ⟨s3, b1, b2, b3⟩ := pb_timed hW hH hA.1 c
        obtain ⟨s, r1, r2⟩ := pr_20 hW hS k1 k 0 en_fu s3 (by omega) (by rw [en_fu]; omega) (by omega) b2
        have jr : ∀ j, j ≠ 17 → j ≠ 18 → j ≠ 19 → s j = σ j := fun j z1 z2 z3 => by rw [r1 j z1 z2, b3 j z1 z2 z3]
        rw [if_pos q3, b1, pu_b1]
        rcases r2 with ⟨r2, r3, r4⟩ | ⟨r2, r3⟩
        · rw [show k_pp_runTo_20 en_fu 0 (nI k) 0 s3 = _ from r2, pu_rxr]
          rcases pc_step hW hS r3 r4 with ⟨z1, -⟩ | ⟨-, z2⟩
          · omega
          · rw [z2, pu_b2, show en_bz 0 = some 0 from rfl, pu_b1, pu_b2, if_pos rfl]
            exact none s jr rfl eM
        · rw [show k_pp_runTo_20 en_fu 0 (nI k) 0 s3 = _ from r2, pu_rxl, pu_b2, if_pos rfl]
          exact none s jr rfl eM
      · rw [if_neg q3, pu_b2, if_pos rfl]
        exact none σ (fun _ _ _ _ => rfl) rfl eM
  · obtain ⟨s3, b1, b2, b3⟩ := pb_timed hW hH hA.1 c
    obtain ⟨s, r1, r2⟩ := pr_20 hW hS (k := k) (by omega) k 0 en_fu s3 (by omega) (by rw [en_fu]; omega) (by omega) b2
    have jr : ∀ j, j ≠ 17 → j ≠ 18 → j ≠ 19 → s j = σ j := fun j z1 z2 z3 => by rw [r1 j z1 z2, b3 j z1 z2 z3]
    rw [em hk, k_cc_leaver, k_pp_runTo, it_neg (by omega), itx_lt (a := k) (b := 160) (y := 160) rfl rfl (by omega) (by decide), if_pos (by omega), b1, pu_b1]
    rcases r2 with ⟨r2, r3, r4⟩ | ⟨r2, j, j1, j2⟩
    · rw [show k_pp_runTo_20 en_fu 0 (nI k) 0 s3 = _ from r2, pu_rxr]
      rcases pc_step hW hS r3 r4 with ⟨z1, z2, s', y1, y2, y3, y4, y5, y6, y7⟩ | ⟨z1, z2⟩
      · rw [y1, pu_b2, show en_bz 1 = some 1 from rfl, pu_b1, pu_b2, if_neg (show ¬ (1 : Int32) = 0 by decide), if_pos z2, y3, y4, y5, show (64 : Int32) = nI 64 from rfl, pk_mul, nI_add, Nat.div_add_mod]
        have R := rl_pp (σ1 := s') h (fun j z1 z2 z3 => by rw [y7 j z1 z2, jr j z1 z2 z3]) a3 a4
        by_cases hw : w = 0
        · rw [if_pos hw, if_pos hw]
          exact ⟨_, _, _, rfl, rfl, a4 0 (by decide), R⟩
        · rw [if_neg hw, if_neg hw]
          exact ⟨_, _, _, rfl, rfl, a4 0 (by decide), R⟩
      · have := z1 hk
        rw [z2, pu_b2, show en_bz 0 = some 0 from rfl, pu_b1, pu_b2, if_pos rfl, if_neg (by omega)]
        exact none s jr rfl rfl
    · have h1 := j2 (by omega)
      have h2 := pl_smono hW hS j1 hk
      rw [show k_pp_runTo_20 en_fu 0 (nI k) 0 s3 = _ from r2, pu_rxl, pu_b2, if_pos rfl, if_neg (by omega)]
      exact none s jr rfl rfl
theorem pb_queue {σ τ : en_M} {t : Nat} (h : Rel σ τ t) (v w : Int32) : ∃ x σ1 τ1, k_cc_queue v w σ = some (x, σ1) ∧ k_mm_queue v w τ = some (x, τ1) ∧ τ1 24 0 0 0 = 0 ∧ Rel σ1 τ1 t := by
  obtain ⟨s, s1, s2, s3, s4, -⟩ := q_set h
  obtain ⟨x, σ1, τ1, a1, a2, a3, a4⟩ := pb_queueOf s4 v w
  exact ⟨x, σ1, τ1, by rw [k_cc_queue, a1, pu_b2], by rw [k_mm_queue, pu_let, s1, a2, pu_b2], by rw [a3, s2], a4⟩
theorem pb_first {σ τ : en_M} {t : Nat} (h : Rel σ τ t) (w : Int32) : ∃ x σ1 τ1, k_cc_first w σ = some (x, σ1) ∧ k_mm_first w τ = some (x, τ1) ∧ τ1 24 0 0 0 = 0 ∧ Rel σ1 τ1 t := by
  obtain ⟨s, s1, s2, s3, s4, -⟩ := q_set h
  obtain ⟨x, σ1, τ1, a1, a2, a3, a4⟩ := pb_queueOf s4 0 w
  exact ⟨x, σ1, τ1, by rw [k_cc_first, a1, pu_b2], by rw [k_mm_first, pu_let, s1, a2, pu_b2], by rw [a3, s2], a4⟩

/-! One tick. -/
def tk_c (g : Nat) (K : en_M → Option (Int32 × en_M)) (s28 : en_M) : Option (Int32 × en_M) :=
  if (s28 0 g 0 15) = (-1) then
    K s28
  else
    if (s28 0 g 0 11) < (s28 0 g 0 16) then
      K s28
    else
      en_b1 (k_cd_letGo g s28) fun s32 =>
      K s32
def tk_s (g : Nat) (K : en_M → Option (Int32 × en_M)) (σ : en_M) : Option (Int32 × en_M) :=
          if (σ 0 g 0 15) = (-1) then
            en_let (en_wr σ 11 g 0 4 ((σ 11 g 0 4) + 1)) fun s5 =>
            en_b1 (k_cd_readySend g 1 s5) fun t7 =>
            (match t7 with
            | none =>
              en_let (en_wr s5 11 g 0 5 ((s5 11 g 0 5) + 0)) fun s10 =>
              en_let (en_wr s10 0 g 0 11 ((s10 0 g 0 11) + 1)) fun s12 =>
              tk_c g K s12
            | some _ =>
              en_let (en_wr s5 11 g 0 5 ((s5 11 g 0 5) + 1)) fun s18 =>
              en_let (en_wr s18 0 g 0 11 ((s18 0 g 0 11) + 1)) fun s20 =>
              tk_c g K s20)
          else
            en_let (en_wr σ 11 g 0 3 ((σ 11 g 0 3) + 1)) fun s26 =>
            en_let (en_wr s26 0 g 0 11 ((s26 0 g 0 11) + 1)) fun s28 =>
            tk_c g K s28
theorem tk_unf (F g : Nat) (v1 v2 v3 : Int32) (σ : en_M) : k_cd_runTicks_4 (F + 1) g v1 v2 v3 σ = (if v1 ≤ v3 then some (v2, σ) else if 9999 ≤ (σ 0 g 0 11) then some (v2, σ) else if (σ 0 g 0 15) = (-1) then en_b2 (k_cd_letLeave g σ) (fun t s => if t = 0 then tk_s g (fun s => k_cd_runTicks_4 F g v1 v2 (v3 + 1) s) s else tk_s g (fun s => k_cd_runTicks_4 F g v1 (v2 + 1) (v3 + 1) s) s) else tk_s g (fun s => k_cd_runTicks_4 F g v1 v2 (v3 + 1) s) σ) := rfl
def tn_s (R : en_M → Option (Int32 × en_M)) (σ : en_M) : Option (Int32 × en_M) :=
    if (σ 25 0 0 17) ≤ 0 then
      en_let (en_wr σ 25 0 0 12 ((σ 25 0 0 12) + 0)) fun s3 =>
      en_let (en_wr s3 25 0 0 13 ((s3 25 0 0 13) + 1)) fun s5 =>
      en_let (en_wr s5 25 0 0 4 ((s5 25 0 0 4) + 1)) fun s7 =>
      R s7
    else
      en_let (en_wr σ 25 0 0 12 ((σ 25 0 0 12) + 1)) fun s9 =>
      en_let (en_wr s9 25 0 0 13 ((s9 25 0 0 13) + 0)) fun s11 =>
      en_let (en_wr s11 25 0 0 4 ((s11 25 0 0 4) + 1)) fun s13 =>
      en_let (en_wr s13 25 0 0 17 ((s13 25 0 0 17) - 1)) fun s15 =>
      if (s15 25 0 0 17) = 0 then
        en_b1 (k_mm_isGone s15) fun s18 =>
        R s18
      else
        R s15
theorem tn_unf (σ : en_M) : k_mm_ticks σ = (if (σ 25 0 0 17) = 0 then en_b1 (k_mm_times σ) (fun s20 => en_b2 (k_mm_finds1 (s20 25 0 0 4) s20) (fun t22 s23 => if t22 = 0 then en_b1 (k_mm_isStarved s23) (fun t26 => if t26 = 0 then tn_s (fun s => en_b1 (en_bz t22) (fun t => some (t, s))) (en_wr s23 25 0 0 14 ((s23 25 0 0 14) + 0)) else tn_s (fun s => en_b1 (en_bz t22) (fun t => some (t, s))) (en_wr s23 25 0 0 14 ((s23 25 0 0 14) + 1))) else en_b1 (k_mm_leaves (s23 24 0 0 20) (s23 24 0 0 21) s23) (fun s81 => tn_s (fun s => en_b1 (en_bz t22) (fun t => some (t, s))) s81))) else tn_s (fun s => some (0, s)) σ) := rfl
theorem tk_busy {σ τ : en_M} {g t : Nat} {A : ab_A} (hC : ab_CR σ g A) (hM : ab_MR (τ 25 0 0) A) (hW : ab_W A t) (h11 : aH A 11 ≠ 0) (h7 : 1 ≤ aH A 7) (hT : aH A 4 < 9999) (hR1 : aH A 6 < aH A 5 → aS A (aH A 6) 4 ≤ 1) : ∃ σ1 τ1 B, (∀ K, tk_s g K σ = K σ1) ∧ (∀ R, tn_s R τ = R τ1) ∧ ab_PR σ1 g (τ1 25 0 0) B t ∧ aH B 4 = aH A 4 + 1 ∧ en_fr [(25, 0)] τ τ1 := by
  obtain ⟨tk, htk⟩ : ∃ tk, aH A 7 = tk + 1 := ⟨aH A 7 - 1, by omega⟩
  have hN := ab_N hW
  have htk112 := hW.1.2.2.2.2.2.2.2.2.1
  have hD := hW.1.2.2.2.2.2.2.2.2.2.2.1
  obtain ⟨hR, hlt, h4, h81⟩ := hW.2.2.2.2.1 h11
  obtain ⟨n, hn⟩ : ∃ n, aH A 8 = n := ⟨_, rfl⟩
  rw [hn] at hR hlt h4 h81
  obtain ⟨k, hk⟩ : ∃ k, aS A n 7 = k + 1 := ⟨aS A n 7 - 1, by omega⟩
  have c15 : σ 0 g 0 15 = nI n := by rw [hC.1.1.2.2.2.2.2.2.2.1, if_neg h11, hn]
  have c16 : σ 0 g 0 16 = nI (aH A 4 + aH A 7) := hC.1.1.2.2.2.2.2.2.2.2 h11
  have cT := hC.1.1.2.2.2.1
  have cc := hC.1.2.2.2.2.2.2.2
  obtain ⟨C', hC'⟩ : ∃ C', u1 (aC A) 3 (aC A 3 + 1) = C' := ⟨_, rfl⟩
  have C3 : C' 3 = aC A 3 + 1 := by rw [← hC', u1_s]
  have Co : ∀ x, x ≠ 3 → C' x = aC A x := fun x h => by rw [← hC', u1_n h]
  obtain ⟨s26, h26⟩ : ∃ z, en_wr σ 11 g 0 3 (aC A 3 + 1) = z := ⟨_, rfl⟩
  obtain ⟨s28, h28⟩ : ∃ z, en_wr s26 0 g 0 11 (nI (aH A 4 + 1)) = z := ⟨_, rfl⟩
  have e28 : ∀ j, j ≠ 0 → j ≠ 11 → s28 j = σ j := fun j q1 q2 => by rw [← h28, pu_wr_j q1, ← h26, pu_wr_j q2]
  have e0 : ∀ x, x ≠ 11 → s28 0 g 0 x = σ 0 g 0 x := fun x h => by rw [← h28, pu_wr_k h, ← h26, pu_wr_j (by decide)]
  have e011 : s28 0 g 0 11 = nI (aH A 4 + 1) := by rw [← h28, pu_wr_eq]
  have e11 : ∀ x, x < 6 → s28 11 g 0 x = C' x := fun x hx => by
    rw [← h28, pu_wr_j (by decide), ← h26]
    by_cases e : x = 3
    · subst e
      rw [pu_wr_eq, C3]
    · rw [pu_wr_k e, Co x e]
      exact cc x hx
  have r4 := hM.1.1 4 (by decide)
  have r12 := hM.1.2.2.2.2.2.1
  have r13 := hM.1.2.2.2.2.2.2.1
  have r14 := hM.1.2.2.2.2.2.2.2.1
  have r17 : τ 25 0 0 17 = nI (tk + 1) := by rw [← htk]; exact hM.1.2.2.2.2.2.2.2.2.2.1
  obtain ⟨t9, ht9⟩ : ∃ z, en_wr τ 25 0 0 12 (aC A 3 + 1) = z := ⟨_, rfl⟩
  obtain ⟨t11, ht11⟩ : ∃ z, en_wr t9 25 0 0 13 (aC A 4 + 0) = z := ⟨_, rfl⟩
  obtain ⟨t13, ht13⟩ : ∃ z, en_wr t11 25 0 0 4 (nI (aH A 4 + 1)) = z := ⟨_, rfl⟩
  obtain ⟨t15, ht15⟩ : ∃ z, en_wr t13 25 0 0 17 (nI tk) = z := ⟨_, rfl⟩
  have f9 : ∀ x, x ≠ 12 → t9 25 0 0 x = τ 25 0 0 x := fun x h => by rw [← ht9, pu_wr_k h]
  have f11 : ∀ x, x ≠ 13 → t11 25 0 0 x = t9 25 0 0 x := fun x h => by rw [← ht11, pu_wr_k h]
  have f13 : ∀ x, x ≠ 4 → t13 25 0 0 x = t11 25 0 0 x := fun x h => by rw [← ht13, pu_wr_k h]
  have f15 : ∀ x, x ≠ 17 → t15 25 0 0 x = t13 25 0 0 x := fun x h => by rw [← ht15, pu_wr_k h]
  have f17 : t15 25 0 0 17 = nI tk := by rw [← ht15, pu_wr_eq]
  have hfr : en_fr [(25, 0)] τ t15 := fr_tr (fr_tr (fr_wr ht9 (by simp)) (fr_wr ht11 (by simp))) (fr_tr (fr_wr ht13 (by simp)) (fr_wr ht15 (by simp)))
  obtain ⟨w1, w2⟩ := tm_W (C' := C') hW hT (show tk ≤ aH A 7 by omega)
  obtain ⟨bH, bH4, bH7⟩ := tm_H (A := A) (tk := tk) (C' := C')
  have hCB : ab_CR s28 g (tm_A A tk C') := tm_CR hC (fun _ => htk.symm) (fun j _ q1 q2 => by rw [e28 j q1 q2]) e0 e011 e11
  have hMB : ab_MR (t15 25 0 0) (tm_A A tk C') := by
    refine tm_MR hW hM (fun x q1 q2 q3 q4 q5 => ?_) ?_ f17 (Co 0 (by decide)) (Co 1 (by decide)) (Co 2 (by decide)) ?_ ?_ ?_
    · rw [f15 x q5, f13 x q1, f11 x q3, f9 x q2]
    · rw [f15 4 (by decide), ← ht13, pu_wr_eq]
    · rw [f15 12 (by decide), f13 12 (by decide), f11 12 (by decide), ← ht9, pu_wr_eq, C3]
    · rw [f15 13 (by decide), f13 13 (by decide), ← ht11, pu_wr_eq, Co 4 (by decide), Int32.add_zero]
    · rw [f15 14 (by decide), f13 14 (by decide), f11 14 (by decide), f9 14 (by decide), Co 5 (by decide)]
      exact r14
  have bS : aS (tm_A A tk C') = aS A := rfl
  obtain ⟨B0, hB0⟩ : ∃ B0, tm_A A tk C' = B0 := ⟨_, rfl⟩
  rw [hB0] at w1 w2 bH bH4 bH7 hCB hMB bS
  have hcls : ∀ K, tk_s g K σ = if tk = 0 then en_b1 (k_cd_letGo g s28) (fun s32 => K s32) else K s28 := fun K => by
    rw [tk_s, c15, it_m1 (by omega), pu_let, cc 3 (by decide), h26, pu_let, show s26 0 g 0 11 = nI (aH A 4) by rw [← h26, pu_wr_j (by decide)]; exact cT, nI_1, h28, tk_c, e0 15 (by decide), c15, it_m1 (by omega), e011, e0 16 (by decide), c16, it_lt (by omega) (by omega)]
    by_cases e : tk = 0
    · rw [if_pos e, if_neg (by omega)]
    · rw [if_neg e, if_pos (by omega)]
  have hmod : ∀ R, tn_s R τ = if tk = 0 then en_b1 (k_mm_isGone t15) (fun s32 => R s32) else R t15 := fun R => by
    rw [tn_s, r17, itx_le (a := tk + 1) (b := 0) (y := 0) rfl rfl (by omega) (by decide), if_neg (by omega), pu_let, r12, ht9, pu_let, f9 13 (by decide), r13, ht11, pu_let, f11 4 (by decide), f9 4 (by decide), r4, nI_1, ht13, pu_let, f13 17 (by decide), f11 17 (by decide), f9 17 (by decide), r17, nI_pred, ht15, f17, itx_eq (a := tk) (b := 0) (y := 0) rfl rfl (by omega) (by decide)]
  by_cases e : tk = 0
  · have hl2 : aS A n 6 ≤ k + 1 ∨ ¬ aS A n 6 ≤ k + 1 := by omega
    have g11 : aH B0 11 ≠ 0 := by rw [bH 11 (by decide) (by decide)]; exact h11
    have g8 : aH B0 8 = n := by rw [bH 8 (by decide) (by decide)]; exact hn
    have gR : aH B0 6 < aH B0 5 → aS B0 (aH B0 6) 4 ≤ 1 := by
      rw [bH 6 (by decide) (by decide), bH 5 (by decide) (by decide), bS]
      exact hR1
    rcases hl2 with hl | hl
    · obtain ⟨σ1, τ1, B, a1, a2, a3, a4, a5⟩ := go_end hCB hMB w1 g11 (by rw [bH7]; exact e) gR w2 (by rw [bH4, bH 10 (by decide) (by decide)]; omega) g8 (by rw [bS]; exact hk) rfl (by rw [bS]; exact hl)
      refine ⟨σ1, τ1, B, fun K => ?_, fun R => ?_, a3, by rw [a4 4 (by decide) (by decide) (by decide), bH4], fr_tr hfr a5⟩
      · rw [hcls, if_pos e, a1, pu_b1]
      · rw [hmod, if_pos e, a2, pu_b1]
    · obtain ⟨σ1, τ1, a1, a2, a3, a5⟩ := go_mid hCB hMB w1 g11 (by rw [bH7]; exact e) gR w2 g8 (by rw [bS]; exact hk) rfl (by rw [bS]; exact hl)
      refine ⟨σ1, τ1, _, fun K => ?_, fun R => ?_, a3, ?_, fr_tr hfr a5⟩
      · rw [hcls, if_pos e, a1, pu_b1]
      · rw [hmod, if_pos e, a2, pu_b1]
      · show u1 (aH B0) 11 0 4 = _
        rw [u1_n (by decide), bH4]
  · refine ⟨s28, t15, B0, fun K => by rw [hcls, if_neg e], fun R => by rw [hmod, if_neg e], ⟨hCB, hMB, w1, ?_, ?_, w2⟩, bH4, hfr⟩
    · rw [bH 6 (by decide) (by decide), bH 5 (by decide) (by decide), bS]
      exact hR1
    · rw [bH7, bH 11 (by decide) (by decide)]
      exact ⟨fun q => absurd q h11, fun q => absurd q e⟩
theorem tk_idle {σ τ : en_M} {g t : Nat} {A : ab_A} (hC : ab_CR σ g A) (hM : ab_MR (τ 25 0 0) A) (hW : ab_W A t) (h11 : aH A 11 = 0) (h7 : aH A 7 = 0) (hT : aH A 4 < 9999) (hR1 : aH A 6 < aH A 5 → aS A (aH A 6) 4 ≤ 1) (hd : ∀ n k, aH A 6 ≤ n → n < aH A 5 → aS A n 4 = 1 → aS A n 7 ≤ k → k < aS A n 6 → τ 30 0 0 (20 * (n % 8) + k) = nI (ab_de A n k)) : ∃ σ1 v τ1 B, (∀ K, tk_s g K σ = K σ1) ∧ k_mm_isStarved τ = some v ∧ (∀ R, (if v = 0 then tn_s R (en_wr τ 25 0 0 14 ((τ 25 0 0 14) + 0)) else tn_s R (en_wr τ 25 0 0 14 ((τ 25 0 0 14) + 1))) = R τ1) ∧ ab_PR σ1 g (τ1 25 0 0) B t ∧ aH B 4 = aH A 4 + 1 ∧ en_fr [(25, 0)] τ τ1 := by
  have hN := ab_N hW
  have c15 : σ 0 g 0 15 = -1 := by rw [hC.1.1.2.2.2.2.2.2.2.1, if_pos h11]
  have cT := hC.1.1.2.2.2.1
  have cc := hC.1.2.2.2.2.2.2.2
  obtain ⟨s5, h5⟩ : ∃ z, en_wr σ 11 g 0 4 (aC A 4 + 1) = z := ⟨_, rfl⟩
  have e5 : ∀ x, x < 6 → s5 11 g 0 x = u1 (aC A) 4 (aC A 4 + 1) x := fun x hx => by
    rw [← h5]
    by_cases e : x = 4
    · subst e
      rw [pu_wr_eq, u1_s]
    · rw [pu_wr_k e, u1_n e]
      exact cc x hx
  obtain ⟨b, b1, b2⟩ := tk_starve (C' := u1 (aC A) 4 (aC A 4 + 1)) (CR_cnt (s := s5) hC (fun j _ q => by rw [← h5, pu_wr_j q]) e5) hM hW hd
  obtain ⟨v, hv⟩ : ∃ v : Int32, (if b.isSome then 1 else 0) = v := ⟨_, rfl⟩
  rw [hv] at b2
  obtain ⟨C', hC'⟩ : ∃ C', u1 (u1 (aC A) 4 (aC A 4 + 1)) 5 (aC A 5 + v) = C' := ⟨_, rfl⟩
  have C5 : C' 5 = aC A 5 + v := by rw [← hC', u1_s]
  have C4 : C' 4 = aC A 4 + 1 := by rw [← hC', u1_n (by decide), u1_s]
  have Co : ∀ x, x ≠ 4 → x ≠ 5 → C' x = aC A x := fun x q1 q2 => by rw [← hC', u1_n q2, u1_n q1]
  obtain ⟨s10, h10⟩ : ∃ z, en_wr s5 11 g 0 5 (aC A 5 + v) = z := ⟨_, rfl⟩
  obtain ⟨s12, h12⟩ : ∃ z, en_wr s10 0 g 0 11 (nI (aH A 4 + 1)) = z := ⟨_, rfl⟩
  have e12 : ∀ j, j ≠ 0 → j ≠ 11 → s12 j = σ j := fun j q1 q2 => by rw [← h12, pu_wr_j q1, ← h10, pu_wr_j q2, ← h5, pu_wr_j q2]
  have e0 : ∀ x, x ≠ 11 → s12 0 g 0 x = σ 0 g 0 x := fun x h => by rw [← h12, pu_wr_k h, ← h10, pu_wr_j (by decide), ← h5, pu_wr_j (by decide)]
  have e011 : s12 0 g 0 11 = nI (aH A 4 + 1) := by rw [← h12, pu_wr_eq]
  have e11 : ∀ x, x < 6 → s12 11 g 0 x = C' x := fun x hx => by
    rw [← h12, pu_wr_j (by decide), ← h10]
    by_cases e : x = 5
    · subst e
      rw [pu_wr_eq, C5]
    · rw [pu_wr_k e, e5 x hx, ← hC', u1_n e]
  have r4 := hM.1.1 4 (by decide)
  have r12 := hM.1.2.2.2.2.2.1
  have r13 := hM.1.2.2.2.2.2.2.1
  have r14 := hM.1.2.2.2.2.2.2.2.1
  have r17 := hM.1.2.2.2.2.2.2.2.2.2.1
  rw [h7] at r17
  obtain ⟨t9, ht9⟩ : ∃ z, en_wr τ 25 0 0 14 (aC A 5 + v) = z := ⟨_, rfl⟩
  obtain ⟨t11, ht11⟩ : ∃ z, en_wr t9 25 0 0 12 (aC A 3 + 0) = z := ⟨_, rfl⟩
  obtain ⟨t13, ht13⟩ : ∃ z, en_wr t11 25 0 0 13 (aC A 4 + 1) = z := ⟨_, rfl⟩
  obtain ⟨t15, ht15⟩ : ∃ z, en_wr t13 25 0 0 4 (nI (aH A 4 + 1)) = z := ⟨_, rfl⟩
  have f9 : ∀ x, x ≠ 14 → t9 25 0 0 x = τ 25 0 0 x := fun x h => by rw [← ht9, pu_wr_k h]
  have f11 : ∀ x, x ≠ 12 → t11 25 0 0 x = t9 25 0 0 x := fun x h => by rw [← ht11, pu_wr_k h]
  have f13 : ∀ x, x ≠ 13 → t13 25 0 0 x = t11 25 0 0 x := fun x h => by rw [← ht13, pu_wr_k h]
  have f15 : ∀ x, x ≠ 4 → t15 25 0 0 x = t13 25 0 0 x := fun x h => by rw [← ht15, pu_wr_k h]
  have hfr : en_fr [(25, 0)] τ t15 := fr_tr (fr_tr (fr_wr ht9 (by simp)) (fr_wr ht11 (by simp))) (fr_tr (fr_wr ht13 (by simp)) (fr_wr ht15 (by simp)))
  obtain ⟨w1, w2⟩ := tm_W (C' := C') hW hT (show 0 ≤ aH A 7 by omega)
  obtain ⟨bH, bH4, bH7⟩ := tm_H (A := A) (tk := 0) (C' := C')
  have hCB : ab_CR s12 g (tm_A A 0 C') := tm_CR hC (fun q => absurd h11 q) (fun j _ q1 q2 => by rw [e12 j q1 q2]) e0 e011 e11
  have hMB : ab_MR (t15 25 0 0) (tm_A A 0 C') := by
    refine tm_MR hW hM (fun x q1 q2 q3 q4 q5 => ?_) ?_ ?_ (Co 0 (by decide) (by decide)) (Co 1 (by decide) (by decide)) (Co 2 (by decide) (by decide)) ?_ ?_ ?_
    · rw [f15 x q1, f13 x q3, f11 x q2, f9 x q4]
    · rw [← ht15, pu_wr_eq]
    · rw [f15 17 (by decide), f13 17 (by decide), f11 17 (by decide), f9 17 (by decide), r17]
    · rw [f15 12 (by decide), f13 12 (by decide), ← ht11, pu_wr_eq, Co 3 (by decide) (by decide), Int32.add_zero]
    · rw [f15 13 (by decide), ← ht13, pu_wr_eq, C4]
    · rw [f15 14 (by decide), f13 14 (by decide), f11 14 (by decide), ← ht9, pu_wr_eq, C5]
  have bS : aS (tm_A A 0 C') = aS A := rfl
  obtain ⟨B0, hB0⟩ : ∃ B0, tm_A A 0 C' = B0 := ⟨_, rfl⟩
  rw [hB0] at w1 w2 bH bH4 bH7 hCB hMB bS
  have hs55 : s5 11 g 0 5 = aC A 5 := by rw [e5 5 (by decide), u1_n (by decide)]
  have hs10 : s10 0 g 0 11 = nI (aH A 4) := by rw [← h10, pu_wr_j (by decide), ← h5, pu_wr_j (by decide)]; exact cT
  have htc : ∀ K, tk_c g K s12 = K s12 := fun K => by rw [tk_c, e0 15 (by decide), c15, if_pos rfl]
  have htn : ∀ R, tn_s R t9 = R t15 := fun R => by
    rw [tn_s, f9 17 (by decide), r17, if_pos (show nI 0 ≤ 0 by decide), pu_let, f9 12 (by decide), r12, ht11, pu_let, f11 13 (by decide), f9 13 (by decide), r13, ht13, pu_let, f13 4 (by decide), f11 4 (by decide), f9 4 (by decide), r4, nI_1, ht15]
  refine ⟨s12, v, t15, B0, fun K => ?_, b2, fun R => ?_, ⟨hCB, hMB, w1, ?_, ?_, w2⟩, bH4, hfr⟩
  · rw [tk_s, c15, if_pos rfl, pu_let, cc 4 (by decide), h5, b1, pu_b1]
    cases b with
    | none =>
      have hv0 : v = 0 := hv.symm
      simp only []
      rw [pu_let, hs55, ← hv0, h10, pu_let, hs10, nI_1, h12]
      exact htc K
    | some q =>
      have hv0 : v = 1 := hv.symm
      simp only []
      rw [pu_let, hs55, ← hv0, h10, pu_let, hs10, hv0, nI_1, h12]
      exact htc K
  · rw [r14]
    cases b with
    | none =>
      have hv0 : v = 0 := hv.symm
      rw [if_pos hv0, ← hv0, ht9]
      exact htn R
    | some q =>
      have hv0 : v = 1 := hv.symm
      rw [if_neg (by rw [hv0]; decide), ← hv0, ht9]
      exact htn R
  · rw [bH 6 (by decide) (by decide), bH 5 (by decide) (by decide), bS]
    exact hR1
  · rw [bH7, bH 11 (by decide) (by decide)]
    exact ⟨fun _ => rfl, fun _ => h11⟩

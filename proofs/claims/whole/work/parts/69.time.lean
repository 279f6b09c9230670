/-! A tick of time. -/
def tm_A (A : ab_A) (tk : Nat) (C' : Nat → Int32) : ab_A := sC (sH A (u1 (u1 (aH A) 4 (aH A 4 + 1)) 7 tk)) C'
theorem tm_H {A : ab_A} {tk : Nat} {C' : Nat → Int32} : (∀ x, x ≠ 4 → x ≠ 7 → aH (tm_A A tk C') x = aH A x) ∧ aH (tm_A A tk C') 4 = aH A 4 + 1 ∧ aH (tm_A A tk C') 7 = tk := by
  refine ⟨fun x h1 h2 => ?_, ?_, ?_⟩
  · show u1 (u1 (aH A) 4 (aH A 4 + 1)) 7 tk x = _
    rw [u1_n h2, u1_n h1]
  · show u1 (u1 (aH A) 4 (aH A 4 + 1)) 7 tk 4 = _
    rw [u1_n (by omega), u1_s]
  · show u1 (u1 (aH A) 4 (aH A 4 + 1)) 7 tk 7 = _
    rw [u1_s]
theorem tm_W {A : ab_A} {t tk : Nat} {C' : Nat → Int32} (hW : ab_W A t) (hT : aH A 4 < 9999) (htk : tk ≤ aH A 7) : ab_W (tm_A A tk C') t ∧ ∀ row, row < aH (tm_A A tk C') 9 → aL (tm_A A tk C') row 5 < aH (tm_A A tk C') 4 := by
  obtain ⟨bH, bH4, bH7⟩ := tm_H (A := A) (tk := tk) (C' := C')
  obtain ⟨B, hB⟩ : ∃ B, tm_A A tk C' = B := ⟨_, rfl⟩
  have bS : aS B = aS A := by rw [← hB]; rfl
  have bF : aF B = aF A := by rw [← hB]; rfl
  have bP : aP B = aP A := by rw [← hB]; rfl
  have bL : aL B = aL A := by rw [← hB]; rfl
  have bR : aR B = aR A := by rw [← hB]; rfl
  rw [hB] at bH bH4 bH7 ⊢
  have bwin : ∀ m, ab_win B m ↔ ab_win A m := fun m => by simp only [ab_win, bH 5 (by omega) (by omega)]
  obtain ⟨w1, w2, w3, w4, w5, w6⟩ := hW
  refine ⟨⟨?_, fun f' hf' => ?_, fun m hm' => ?_, fun m k' hm' hk' => ?_, ?_, ?_⟩, fun row hr => ?_⟩
  · simp only [ab_W1, bH4, bH7, bH 10 (by omega) (by omega), bH 0 (by omega) (by omega), bH 1 (by omega) (by omega), bH 2 (by omega) (by omega), bH 3 (by omega) (by omega), bH 5 (by omega) (by omega), bH 6 (by omega) (by omega), bH 9 (by omega) (by omega)]
    simp only [ab_W1] at w1
    omega
  · rw [bH 3 (by omega) (by omega)] at hf'
    rw [bF]
    exact w2 f' hf'
  · obtain ⟨x1, x2, x3, x4, x5, x6, x7, x8, x9, x10, x11, x12⟩ := w3 m ((bwin m).mp hm')
    rw [bS, bR, bH 3 (by omega) (by omega), bH4, bH 6 (by omega) (by omega), bH 11 (by omega) (by omega), bH 8 (by omega) (by omega)]
    exact ⟨x1, x2, x3, x4, x5, fun q => ⟨(x6 q).1, (x6 q).2.1, by have := (x6 q).2.2.1; omega, (x6 q).2.2.2⟩, x7, x8, x9, x10, x11, x12⟩
  · rw [bS] at hk' ⊢
    have hx := w4 m k' ((bwin m).mp hm') hk'
    rw [bH 11 (by omega) (by omega), bH 8 (by omega) (by omega), bH4, bP]
    refine ⟨fun q => ⟨(hx.1 q).1, (hx.1 q).2.1, fun z => ?_⟩, hx.2⟩
    obtain ⟨v, v1, v2⟩ := (hx.1 q).2.2 z
    exact ⟨v, by omega, v2⟩
  · intro h
    rw [bH 11 (by omega) (by omega)] at h
    rw [bH 6 (by omega) (by omega), bH 8 (by omega) (by omega), bH 5 (by omega) (by omega), bS]
    exact w5 h
  · simp only [ab_W6, bL, bH 9 (by omega) (by omega), bH4]
    exact ⟨fun row h => ⟨(w6.1 row h).1, (w6.1 row h).2.1, (w6.1 row h).2.2.1, by have := (w6.1 row h).2.2.2; omega⟩, w6.2⟩
  · rw [bH 9 (by omega) (by omega)] at hr
    rw [bL, bH4]
    have := (w6.1 row hr).2.2.2
    omega
theorem tm_CR {σ s : en_M} {g tk : Nat} {A : ab_A} {C' : Nat → Int32} (hC : ab_CR σ g A) (htk : aH A 11 ≠ 0 → tk + 1 = aH A 7) (hj : ∀ j, j < 14 → j ≠ 0 → j ≠ 11 → s j g = σ j g) (h0 : ∀ x, x ≠ 11 → s 0 g 0 x = σ 0 g 0 x) (h1 : s 0 g 0 11 = nI (aH A 4 + 1)) (hc : ∀ k, k < 6 → s 11 g 0 k = C' k) : ab_CR s g (tm_A A tk C') := by
  obtain ⟨bH, bH4, bH7⟩ := tm_H (A := A) (tk := tk) (C' := C')
  obtain ⟨B, hB⟩ : ∃ B, tm_A A tk C' = B := ⟨_, rfl⟩
  have bS : aS B = aS A := by rw [← hB]; rfl
  have bF : aF B = aF A := by rw [← hB]; rfl
  have bP : aP B = aP A := by rw [← hB]; rfl
  have bL : aL B = aL A := by rw [← hB]; rfl
  have bR : aR B = aR A := by rw [← hB]; rfl
  have bC : aC B = C' := by rw [← hB]; rfl
  have bX : aX B = aX A := by rw [← hB]; rfl
  have bD : aD B = aD A := by rw [← hB]; rfl
  rw [hB] at bH bH4 bH7 ⊢
  have bwin : ∀ m, ab_win B m ↔ ab_win A m := fun m => by simp only [ab_win, bH 5 (by omega) (by omega)]
  have hns : ∀ f' rt m, ab_ns B f' rt m = ab_ns A f' rt m := fun f' rt m => ns_eq (A := A) (A' := B) (bH 6 (by omega) (by omega)) (by simp only [ab_in, bF]) m (fun _ _ _ => by rw [bS])
  obtain ⟨⟨k1, k3, k2, k2b, k4, k5, k6, k7⟩, ct1, ct2⟩ := hC
  refine ⟨⟨?_, ?_, ?_, ?_, ?_, ?_, ?_, ?_⟩, ?_, ?_⟩
  · simp only [ab_C1, bH4, bH7, h1, bH 0 (by omega) (by omega), bH 1 (by omega) (by omega), bH 2 (by omega) (by omega), bH 3 (by omega) (by omega), bH 5 (by omega) (by omega), bH 6 (by omega) (by omega), bH 8 (by omega) (by omega), bH 11 (by omega) (by omega), h0 8 (by omega), h0 9 (by omega), h0 10 (by omega), h0 12 (by omega), h0 13 (by omega), h0 14 (by omega), h0 15 (by omega), h0 16 (by omega)]
    refine ⟨k1.1, k1.2.1, k1.2.2.1, trivial, k1.2.2.2.2.1, k1.2.2.2.2.2.1, k1.2.2.2.2.2.2.1, k1.2.2.2.2.2.2.2.1, fun h => ?_⟩
    rw [k1.2.2.2.2.2.2.2.2 h]
    have := htk h
    congr 1
    omega
  · intro m hm'
    rw [hj 13 (by omega) (by omega) (by omega), bS, bR]
    exact k3 m ((bwin m).mp hm')
  · intro f' hf'
    rw [bH 3 (by omega) (by omega)] at hf'
    rw [hj 12 (by omega) (by omega) (by omega), bF, bX]
    exact k2 f' hf'
  · intro f' hf'
    rw [hj 12 (by omega) (by omega) (by omega)]
    exact k2b f' hf'
  · intro m k' hm' hk'
    rw [bS] at hk' ⊢
    rw [hj 3 (by omega) (by omega) (by omega), hj 4 (by omega) (by omega) (by omega), hj 5 (by omega) (by omega) (by omega), bP]
    exact k4 m k' ((bwin m).mp hm') hk'
  · simp only [ab_C5, bH 9 (by omega) (by omega), bL, hj 6 (by omega) (by omega) (by omega), hj 7 (by omega) (by omega) (by omega)]
    exact k5
  · simp only [ab_C6, bH 10 (by omega) (by omega), bD, hj 8 (by omega) (by omega) (by omega), hj 9 (by omega) (by omega) (by omega), hj 10 (by omega) (by omega) (by omega)]
    exact k6
  · rw [ab_C7, bC]
    exact hc
  · intro f' hf'
    rw [bH 3 (by omega) (by omega)] at hf'
    have e : ab_nx B f' = ab_nx A f' := by
      show ab_ns B f' (aF B f' 0) (aH B 5 - aH B 6) = ab_ns A f' (aF A f' 0) (aH A 5 - aH A 6)
      rw [bF, bH 5 (by omega) (by omega), bH 6 (by omega) (by omega), hns]
    rw [hj 12 (by omega) (by omega) (by omega), e]
    exact ct1 f' hf'
  · intro m k' hm' h1 h2 h3 h5
    rw [bS] at h2 h3 h5
    rw [bH 6 (by omega) (by omega)] at h1
    have e : ab_de B m k' = ab_de A m k' := by
      show ab_dp B (aF B (aS B m 0) 0) m k' = ab_dp A (aF A (aS A m 0) 0) m k'
      rw [bF, bS]
      exact dp_eq (A := A) (A' := B) (bH 6 (by omega) (by omega)) (by rw [bS]) (hns _ _ _)
    rw [hj 3 (by omega) (by omega) (by omega), e]
    exact ct2 m k' ((bwin m).mp hm') h1 h2 h3 h5
theorem tm_MR {r r' : Nat → Int32} {A : ab_A} {C' : Nat → Int32} {t tk : Nat} (hW : ab_W A t) (h : ab_MR r A) (hr : ∀ k, k ≠ 4 → k ≠ 12 → k ≠ 13 → k ≠ 14 → k ≠ 17 → r' k = r k) (h4 : r' 4 = nI (aH A 4 + 1)) (h17 : r' 17 = nI tk) (h0 : C' 0 = aC A 0) (h1 : C' 1 = aC A 1) (h2 : C' 2 = aC A 2) (h12 : r' 12 = C' 3) (h13 : r' 13 = C' 4) (h14 : r' 14 = C' 5) : ab_MR r' (tm_A A tk C') := by
  obtain ⟨bH, bH4, bH7⟩ := tm_H (A := A) (tk := tk) (C' := C')
  obtain ⟨B, hB⟩ : ∃ B, tm_A A tk C' = B := ⟨_, rfl⟩
  have bS : aS B = aS A := by rw [← hB]; rfl
  have bF : aF B = aF A := by rw [← hB]; rfl
  have bP : aP B = aP A := by rw [← hB]; rfl
  have bL : aL B = aL A := by rw [← hB]; rfl
  have bR : aR B = aR A := by rw [← hB]; rfl
  have bC : aC B = C' := by rw [← hB]; rfl
  have bX : aX B = aX A := by rw [← hB]; rfl
  have bD : aD B = aD A := by rw [← hB]; rfl
  rw [hB] at bH bH4 bH7 ⊢
  have bwin : ∀ m, ab_win B m ↔ ab_win A m := fun m => by simp only [ab_win, bH 5 (by omega) (by omega)]
  obtain ⟨m1, m2, m3, m4, m5, m6⟩ := h
  have hN := ab_N hW
  have hi : ∀ k, 18 ≤ k → r' k = r k := fun k hk => hr k (by omega) (by omega) (by omega) (by omega) (by omega)
  obtain ⟨x1, x2, x3, x4, x5, x6, x7, x8, x9, x10, x11, x12⟩ := m1
  refine ⟨⟨fun k hk => ?_, ?_⟩, fun f hf => ?_, fun n hn => ?_, fun n k hn hk => ?_, fun row c q1 q2 => ?_, fun k w q1 q2 q3 => ?_⟩
  · by_cases e : k = 4
    · subst e
      rw [bH4, h4]
    · rw [hr k e (by omega) (by omega) (by omega) (by omega), bH k e (by omega)]
      exact x1 k hk
  · rw [hr 7 (by omega) (by omega) (by omega) (by omega) (by omega), hr 8 (by omega) (by omega) (by omega) (by omega) (by omega), hr 9 (by omega) (by omega) (by omega) (by omega) (by omega), hr 10 (by omega) (by omega) (by omega) (by omega) (by omega), hr 11 (by omega) (by omega) (by omega) (by omega) (by omega), h12, h13, h14, hr 15 (by omega) (by omega) (by omega) (by omega) (by omega), hr 16 (by omega) (by omega) (by omega) (by omega) (by omega), h17, hi 18 (by omega), hi 19 (by omega), bC, h0, h1, h2, bS, bH7, bH 10 (by omega) (by omega), bH 11 (by omega) (by omega), bH 8 (by omega) (by omega), bH 9 (by omega) (by omega)]
    exact ⟨x2, x3, x4, x5, rfl, rfl, rfl, x9, rfl, x11, x12⟩
  · rw [bH 3 (by omega) (by omega)] at hf
    have hx := m2 f hf
    rw [hi _ (by omega), hi _ (by omega), hi _ (by omega), hi _ (by omega), bF, bX]
    exact ⟨fun w hw => by rw [hi _ (by omega)]; exact hx.1 w hw, hx.2⟩
  · have hx := m3 n ((bwin n).mp hn)
    rw [bS, bR]
    exact ⟨fun w hw => by rw [hi _ (by omega)]; exact hx.1 w hw, fun w hw => by rw [hi _ (by omega)]; exact hx.2 w hw⟩
  · rw [hi _ (by omega), hi _ (by omega), hi _ (by omega), bS, bP]
    exact m4 n k ((bwin n).mp hn) hk
  · rw [bH 9 (by omega) (by omega)] at q1
    rw [hi _ (by omega), bL]
    exact m5 row c q1 q2
  · rw [bH 10 (by omega) (by omega)] at q2 ⊢
    rw [hi _ (by omega), bD]
    exact m6 k w q1 q2 q3
theorem tk_starve {σ τ : en_M} {g t : Nat} {A : ab_A} {C' : Nat → Int32} (hC : ab_CR σ g (sC A C')) (hM : ab_MR (τ 25 0 0) A) (hW : ab_W A t) (hd : ∀ n k, aH A 6 ≤ n → n < aH A 5 → aS A n 4 = 1 → aS A n 7 ≤ k → k < aS A n 6 → τ 30 0 0 (20 * (n % 8) + k) = nI (ab_de A n k)) : ∃ b : Option Nat, k_cd_readySend g 1 σ = some b ∧ k_mm_isStarved τ = some (if b.isSome then 1 else 0) := by
  have hN := ab_N hW
  have m6 := hM.1.1 6 (by decide)
  have hWC : ab_W (sC A C') t := hW
  have hD : ∀ n, rd_D (sC A C') n = rd_D A n := fun n => by
    show ab_dp (sC A C') (aF A (aS A n 0) 0) n (aS A n 7) = ab_dp A (aF A (aS A n 0) 0) n (aS A n 7)
    exact dp_eq (A := A) (A' := sC A C') rfl rfl (ns_eq (A := A) (A' := sC A C') rfl rfl _ (fun _ _ _ => rfl))
  obtain ⟨b, h1, h2⟩ := rd_ready hC hWC (p := true) (v := 1) rfl
  refine ⟨_, h2, ?_⟩
  rw [k_mm_isStarved, m6]
  rcases rd_s2 hM hW hd en_fu (aH A 6) (Nat.le_refl _) (by omega) (by rw [en_fu]; omega) with ⟨a1, m, a2, a3⟩ | ⟨a1, a2⟩
  · rw [a1, pu_rxl]
    cases b with
    | none =>
      have h3 := h1 m a2 a2.2.1
      rw [hD] at h3
      have h4 : aH A 4 < rd_D A m := h3
      omega
    | some q => rfl
  · rw [a1, pu_rxr]
    cases b with
    | none => rfl
    | some q =>
      have h3 := a2 q h1.1 h1.1.1
      have h4 := h1.2.2.1
      rw [hD] at h4
      have h5 : rd_D A q ≤ aH A 4 := h4
      omega

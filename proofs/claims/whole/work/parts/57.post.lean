/-! A send posted. -/
theorem po_fill : ∀ (f k : Nat) (v1 v2 v3 v4 : Int32) (b : Nat) (τ : en_M), b + 68 ≤ 938 → k ≤ 68 → 68 < k + f → ∃ τ1, k_mm_send0_49 f v1 v2 v3 v4 (nI b) (nI k) τ = some τ1 ∧ (∀ x, (x < b + k ∨ b + 68 ≤ x) → τ1 25 0 0 x = τ 25 0 0 x) ∧ (∀ x, b + k ≤ x → x < b + 68 → τ1 25 0 0 x = -1) := by
  intro f
  induction f with
  | zero => intro k v1 v2 v3 v4 b τ _ h1 h2; omega
  | succ f ih =>
    intro k v1 v2 v3 v4 b τ hb h1 h2
    rw [k_mm_send0_49, show (68 : Int32) = nI 68 from rfl, it_le (by decide) (by omega)]
    by_cases hk : k < 68
    · rw [if_neg (by omega), nI_add, pu_wa (by omega) (by decide), pu_b1, nI_1]
      obtain ⟨τ1, a1, a2, a3⟩ := ih (k + 1) v1 v2 v3 v4 b (en_wr τ 25 0 0 (b + k) (-1)) hb (by omega) (by omega)
      refine ⟨τ1, a1, fun x hx => ?_, fun x hx hx2 => ?_⟩
      · rw [a2 x (by omega), pu_wr_k (by omega)]
      · by_cases e : x = b + k
        · rw [a2 x (by omega), e, pu_wr_eq]
        · exact a3 x (by omega) hx2
    · rw [if_pos (by omega)]
      exact ⟨τ, rfl, fun _ _ => rfl, fun x _ _ => by omega⟩
def po_A (A : ab_A) (f l c a : Nat) : ab_A := sR (sP (sS (sH A (u1 (aH A) 5 (aH A 5 + 1))) (fun m w => if m = aH A 5 then (if w = 0 then f else if w = 1 then l else if w = 2 then c else if w = 3 then a else 0) else aS A m w)) (fun m k w => if m = aH A 5 then -1 else aP A m k w)) (fun m w => if m = aH A 5 then -1 else aR A m w)
theorem po_step {σ τ : en_M} {g u f l c a : Nat} {A : ab_A} (h : ab_PR σ g (τ 25 0 0) A u) (hu : u + 1 ≤ 7168) (hf : f < aH A 3) (hl : 1 ≤ l ∧ l ≤ 200) (hc : 10 ≤ c ∧ c ≤ 100) (ha : a ≤ 9999) (hring : aH A 5 < aH A 6 + aH A 0) :
    ∃ s3 s5 τ7 τ19, k_sd_begin g (aH A 5 % 8) (nI (aH A 5)) (nI f) (nI l) (nI c) (nI a) σ = some s3 ∧ en_wr s3 0 g 0 13 ((s3 0 g 0 13) + 1) = s5 ∧ k_mm_send0_49 en_fu (nI f) (nI l) (nI c) (nI a) (nI (74 + 68 * (aH A 5 % 8))) 0 τ = some τ7 ∧
      en_wr (en_wr (en_wr (en_wr (en_wr (en_wr τ7 25 0 0 (74 + 68 * (aH A 5 % 8)) (nI f)) 25 0 0 (74 + 68 * (aH A 5 % 8) + 1) (nI l)) 25 0 0 (74 + 68 * (aH A 5 % 8) + 2) (nI c)) 25 0 0 (74 + 68 * (aH A 5 % 8) + 3) (nI a)) 25 0 0 (74 + 68 * (aH A 5 % 8) + 4) 0) 25 0 0 5 (nI (aH A 5 + 1)) = τ19 ∧ ab_PR s5 g (τ19 25 0 0) (po_A A f l c a) (u + 1) := by
  obtain ⟨hC, hM, hW, hWR⟩ := h
  have hN := ab_N hW
  have hm : ∀ n, n % 8 < 8 := fun n => Nat.mod_lt _ (by decide)
  have hm8 := hm (aH A 5)
  have hsb := fun f hf => (hW.2.1 f hf).2.2.2.1
  obtain ⟨n, hn⟩ : ∃ n, aH A 5 = n := ⟨_, rfl⟩
  obtain ⟨B, hB⟩ : ∃ B, po_A A f l c a = B := ⟨_, rfl⟩
  rw [hB]
  have bH : ∀ k, k ≠ 5 → aH B k = aH A k := fun k hk => by
    rw [← hB]
    show u1 (aH A) 5 _ k = _
    rw [u1_n hk]
  have bH5 : aH B 5 = n + 1 := by
    rw [← hB, ← hn]
    show u1 (aH A) 5 (aH A 5 + 1) 5 = aH A 5 + 1
    exact u1_s
  have bF : aF B = aF A := by rw [← hB]; rfl
  have bC : aC B = aC A := by rw [← hB]; rfl
  have bX : aX B = aX A := by rw [← hB]; rfl
  have bL : aL B = aL A := by rw [← hB]; rfl
  have bD : aD B = aD A := by rw [← hB]; rfl
  have bSo : ∀ m, m ≠ n → aS B m = aS A m := fun m h => by
    funext w
    rw [← hB, ← hn] at *
    show (if m = aH A 5 then _ else _) = _
    rw [if_neg h]
  have bSn : ∀ w, aS B n w = (if w = 0 then f else if w = 1 then l else if w = 2 then c else if w = 3 then a else 0) := fun w => by
    rw [← hB, ← hn]
    show (if aH A 5 = aH A 5 then _ else _) = _
    rw [if_pos rfl]
  have bPo : ∀ m, m ≠ n → aP B m = aP A m := fun m h => by
    funext k w
    rw [← hB, ← hn] at *
    show (if m = aH A 5 then _ else _) = _
    rw [if_neg h]
  have bPn : ∀ k w, aP B n k w = -1 := fun k w => by
    rw [← hB, ← hn]
    show (if aH A 5 = aH A 5 then _ else _) = _
    rw [if_pos rfl]
  have bRo : ∀ m, m ≠ n → aR B m = aR A m := fun m h => by
    funext w
    rw [← hB, ← hn] at *
    show (if m = aH A 5 then _ else _) = _
    rw [if_neg h]
  have bRn : ∀ w, aR B n w = -1 := fun w => by
    rw [← hB, ← hn]
    show (if aH A 5 = aH A 5 then _ else _) = _
    rw [if_pos rfl]
  have bS0 : aS B n 0 = f := bSn 0
  have bS1 : aS B n 1 = l := bSn 1
  have bS2 : aS B n 2 = c := bSn 2
  have bS3 : aS B n 3 = a := bSn 3
  have bSz : ∀ w, 4 ≤ w → aS B n w = 0 := fun w hw => by
    rw [bSn w, if_neg (by omega), if_neg (by omega), if_neg (by omega), if_neg (by omega)]
  have bwin : ∀ m, m ≠ n → ab_win B m → ab_win A m ∧ m % 8 ≠ n % 8 := fun m hne h => by
    obtain ⟨h1, h2⟩ := h
    rw [bH5] at h1 h2
    exact ⟨⟨by omega, by omega⟩, by omega⟩
  rw [hn] at hN hring hm8 ⊢
  have hWB : ab_W B (u + 1) := by
    obtain ⟨w1, w2, w3, w4, w5, w6⟩ := hW
    refine ⟨?_, fun f' hf' => ?_, fun m hm' => ?_, fun m k hm' hk => ?_, ?_, ?_⟩
    · simp only [ab_W1, bH5, bH 0 (by omega), bH 1 (by omega), bH 2 (by omega), bH 3 (by omega), bH 4 (by omega), bH 6 (by omega), bH 7 (by omega), bH 9 (by omega), bH 10 (by omega)] at w1 ⊢
      omega
    · rw [bH 3 (by omega)] at hf'
      have hx := w2 f' hf'
      rw [bF]
      exact ⟨hx.1, hx.2.1, hx.2.2.1, by omega, hx.2.2.2.2⟩
    · by_cases e : m = n
      · subst e
        rw [bS0, bS1, bS2, bS3, bSz 4 (by omega), bSz 6 (by omega), bSz 7 (by omega), bH 3 (by omega), bH 6 (by omega)]
        exact ⟨hf, hl, hc, ha, by omega, fun q => by omega, fun _ => rfl, by omega, fun q => by omega, fun q => by omega, fun _ => bRn 1, fun q => by omega⟩
      · obtain ⟨hmA, -⟩ := bwin m e hm'
        have hx := w3 m hmA
        rw [bSo m e, bRo m e, bH 3 (by omega), bH 4 (by omega), bH 6 (by omega), bH 11 (by omega), bH 8 (by omega)]
        obtain ⟨x1, x2, x3, x4, x5, x6, x7⟩ := hx
        exact ⟨x1, x2, x3, x4, x5, fun q => by
          have y := x6 q
          exact ⟨y.1, y.2.1, y.2.2.1, y.2.2.2.1, by omega⟩, x7⟩
    · by_cases e : m = n
      · subst e
        rw [bSz 7 (by omega), bPn, bPn]
        exact ⟨fun q => by omega, fun _ => ⟨rfl, rfl⟩⟩
      · obtain ⟨hmA, -⟩ := bwin m e hm'
        rw [bSo m e] at hk ⊢
        rw [bPo m e, bH 11 (by omega), bH 8 (by omega), bH 4 (by omega)]
        exact w4 m k hmA hk
    · intro h7
      rw [bH 11 (by omega)] at h7
      have hx := w5 h7
      rw [bH 6 (by omega), bH 8 (by omega), bH5, bSo _ (by omega)]
      exact ⟨hx.1, by omega, hx.2.2⟩
    · simp only [ab_W6, bH 9 (by omega), bH 4 (by omega), bL]
      exact w6
  -- the class
  obtain ⟨⟨k1, k3, k2, k2b, k4, k5, k6, k7⟩, ct1, ct2⟩ := hC
  have c5 : σ 0 g 0 13 = nI n := by rw [k1.2.2.2.2.2.1, hn]
  obtain ⟨s3, hs3⟩ : ∃ z, k_sd_begin g (n % 8) (nI n) (nI f) (nI l) (nI c) (nI a) σ = some z := ⟨_, rfl⟩
  have f3 := f_sd_begin hs3
  have g3 : ∀ i w, i ≠ n % 8 → s3 13 g i w = σ 13 g i w := by
    intro i w hi
    have h3 := hs3
    simp only [k_sd_begin, pu_let] at h3
    cases h3
    simp only [pu_wr_i hi]
  have v3 : s3 13 g (n % 8) 0 = nI n ∧ s3 13 g (n % 8) 1 = nI f ∧ s3 13 g (n % 8) 2 = nI l ∧ s3 13 g (n % 8) 3 = nI c ∧ s3 13 g (n % 8) 4 = nI a ∧ s3 13 g (n % 8) 5 = 0 ∧ s3 13 g (n % 8) 6 = 0 ∧ s3 13 g (n % 8) 7 = 0 ∧ s3 13 g (n % 8) 8 = -1 ∧ s3 13 g (n % 8) 9 = -1 ∧ s3 13 g (n % 8) 10 = -1 := by
    have h3 := hs3
    simp only [k_sd_begin, pu_let] at h3
    cases h3
    simp [en_wr]
  obtain ⟨s5, hs5⟩ : ∃ z, en_wr s3 0 g 0 13 ((s3 0 g 0 13) + 1) = z := ⟨_, rfl⟩
  have ej : ∀ j, j ≠ 0 → j ≠ 13 → s5 j g = σ j g := fun j h0 h13 => by
    rw [← hs5, pu_wr_j h0, f3 j g (by simp [h13])]
  have e13 : s5 13 g = s3 13 g := by rw [← hs5, pu_wr_j (by decide)]
  have e0 : ∀ k, k ≠ 13 → s5 0 g 0 k = σ 0 g 0 k := fun k hk => by
    rw [← hs5, pu_wr_k hk, f3 0 g (by simp)]
  have e0n : s5 0 g 0 13 = nI (n + 1) := by
    rw [← hs5, pu_wr_eq, f3 0 g (by simp), c5, nI_1]
  have hns : ∀ f' rt m, m ≤ n - aH A 6 → ab_ns B f' rt m = ab_ns A f' rt m := fun f' rt m hmm => ns_eq (A := A) (A' := B) (bH 6 (by omega)) (by simp only [ab_in, bF]) m (fun n' h1 h2 => bSo n' (by omega))
  -- the model
  obtain ⟨τ7, a1, a2, a3⟩ := po_fill en_fu 0 (nI f) (nI l) (nI c) (nI a) (74 + 68 * (n % 8)) τ (by omega) (by omega) (by rw [en_fu]; omega)
  rw [nI_0] at a1
  obtain ⟨τ19, ht⟩ : ∃ z, en_wr (en_wr (en_wr (en_wr (en_wr (en_wr τ7 25 0 0 (74 + 68 * (n % 8)) (nI f)) 25 0 0 (74 + 68 * (n % 8) + 1) (nI l)) 25 0 0 (74 + 68 * (n % 8) + 2) (nI c)) 25 0 0 (74 + 68 * (n % 8) + 3) (nI a)) 25 0 0 (74 + 68 * (n % 8) + 4) 0) 25 0 0 5 (nI (n + 1)) = z := ⟨_, rfl⟩
  have tro : ∀ x, x ≠ 5 → (x < 74 + 68 * (n % 8) ∨ 142 + 68 * (n % 8) ≤ x) → τ19 25 0 0 x = τ 25 0 0 x := fun x h5 hx => by
    rw [← ht, pu_wr_k h5, pu_wr_k (by omega), pu_wr_k (by omega), pu_wr_k (by omega), pu_wr_k (by omega), pu_wr_k (by omega), a2 x (by omega)]
  have t5 : τ19 25 0 0 5 = nI (n + 1) := by rw [← ht, pu_wr_eq]
  have tw : ∀ w, w < 5 → τ19 25 0 0 (74 + 68 * (n % 8) + w) = nI (aS B n w) := fun w hw => by
    rcases (show w = 0 ∨ w = 1 ∨ w = 2 ∨ w = 3 ∨ w = 4 by omega) with rfl | rfl | rfl | rfl | rfl
    · rw [bS0, ← ht, pu_wr_k (by omega), pu_wr_k (by omega), pu_wr_k (by omega), pu_wr_k (by omega), pu_wr_k (by omega), Nat.add_zero, pu_wr_eq]
    · rw [bS1, ← ht, pu_wr_k (by omega), pu_wr_k (by omega), pu_wr_k (by omega), pu_wr_k (by omega), pu_wr_eq]
    · rw [bS2, ← ht, pu_wr_k (by omega), pu_wr_k (by omega), pu_wr_k (by omega), pu_wr_eq]
    · rw [bS3, ← ht, pu_wr_k (by omega), pu_wr_k (by omega), pu_wr_eq]
    · rw [bSz 4 (by omega), ← ht, pu_wr_k (by omega), pu_wr_eq]
      rfl
  have tm : ∀ x, 5 ≤ x → x < 68 → τ19 25 0 0 (74 + 68 * (n % 8) + x) = -1 := fun x h5 h6 => by
    rw [← ht, pu_wr_k (by omega), pu_wr_k (by omega), pu_wr_k (by omega), pu_wr_k (by omega), pu_wr_k (by omega), pu_wr_k (by omega), a3 _ (by omega) (by omega)]
  have hWRB : ab_WR B := ⟨fun _ => by
    rw [bH 6 (by omega)]
    by_cases e : aH A 6 = n
    · rw [e, bSz 4 (by omega)]
      omega
    · rw [bSo _ e]
      exact hWR.1 (by omega), by
    simp only [ab_WH, bH 11 (by omega), bH 7 (by omega), bH 9 (by omega), bH 4 (by omega), bL]
    exact hWR.2⟩
  refine ⟨s3, s5, τ7, τ19, hs3, hs5, a1, ht, ⟨⟨?_, ?_, ?_, ?_, ?_, ?_, ?_, ?_⟩, ?_⟩, ?_, hWB, hWRB⟩
  · simp only [ab_C1, bH5, bH 0 (by omega), bH 1 (by omega), bH 2 (by omega), bH 3 (by omega), bH 4 (by omega), bH 6 (by omega), bH 7 (by omega), bH 11 (by omega), bH 8 (by omega), e0n, e0 8 (by omega), e0 9 (by omega), e0 10 (by omega), e0 11 (by omega), e0 12 (by omega), e0 14 (by omega), e0 15 (by omega), e0 16 (by omega)]
    exact ⟨k1.1, k1.2.1, k1.2.2.1, k1.2.2.2.1, k1.2.2.2.2.1, trivial, k1.2.2.2.2.2.2⟩
  · intro m hm'
    rw [e13]
    by_cases e : m = n
    · subst e
      obtain ⟨r0, r1, r2, r3, r4, r5, r6, r7, r8, r9, r10⟩ := v3
      rw [r0, r1, r2, r3, r4, r5, r6, r7, r8, r9, r10, bS0, bS1, bS2, bS3, bSz 4 (by omega), bSz 6 (by omega), bSz 7 (by omega), bRn, bRn, bRn]
      exact ⟨rfl, rfl, rfl, rfl, rfl, rfl, rfl, rfl, rfl, rfl, rfl⟩
    · obtain ⟨hmA, hne⟩ := bwin m e hm'
      rw [g3 _ 0 hne, g3 _ 1 hne, g3 _ 2 hne, g3 _ 3 hne, g3 _ 4 hne, g3 _ 5 hne, g3 _ 6 hne, g3 _ 7 hne, g3 _ 8 hne, g3 _ 9 hne, g3 _ 10 hne, bSo m e, bRo m e]
      exact k3 m hmA
  · intro f' hf'
    rw [bH 3 (by omega)] at hf'
    rw [ej 12 (by omega) (by omega), bF, bX]
    exact k2 f' hf'
  · intro f' hf'
    rw [ej 12 (by omega) (by omega)]
    exact k2b f' hf'
  · intro m k hm' hk
    by_cases e : m = n
    · subst e
      rw [bSz 6 (by omega)] at hk
      omega
    · obtain ⟨hmA, -⟩ := bwin m e hm'
      rw [bSo m e] at hk ⊢
      rw [ej 3 (by omega) (by omega), ej 4 (by omega) (by omega), ej 5 (by omega) (by omega), bPo m e]
      exact k4 m k hmA hk
  · simp only [ab_C5, bH 9 (by omega), bL, ej 6 (by omega) (by omega), ej 7 (by omega) (by omega)]
    exact k5
  · simp only [ab_C6, bH 10 (by omega), bD, ej 8 (by omega) (by omega), ej 9 (by omega) (by omega), ej 10 (by omega) (by omega)]
    exact k6
  · simp only [ab_C7, bC, ej 11 (by omega) (by omega)]
    exact k7
  · refine ⟨fun f' hf' => ?_, fun m k hm' h1 h2 h3 h4 => ?_⟩
    · rw [bH 3 (by omega)] at hf'
      have e : ab_nx B f' = ab_nx A f' := by
        show ab_ns B f' (aF B f' 0) (aH B 5 - aH B 6) = ab_ns A f' (aF A f' 0) (aH A 5 - aH A 6)
        rw [bF, bH5, bH 6 (by omega), hn, show n + 1 - aH A 6 = (n - aH A 6) + 1 by omega]
        simp only [ab_ns]
        rw [bH 6 (by omega), show aH A 6 + (n - aH A 6) = n by omega, bSz 4 (by omega), if_neg (fun q => absurd q.1 (by decide)), hns _ _ _ (Nat.le_refl _)]
      rw [ej 12 (by omega) (by omega), e]
      exact ct1 f' hf'
    · by_cases e : m = n
      · subst e
        rw [bSz 4 (by omega)] at h2
        exact absurd h2 (by decide)
      · obtain ⟨hmA, -⟩ := bwin m e hm'
        rw [bSo m e] at h2 h3 h4
        rw [bH 6 (by omega)] at h1
        have := hmA.1
        have e2 : ab_de B m k = ab_de A m k := by
          show ab_dp B (aF B (aS B m 0) 0) m k = ab_dp A (aF A (aS A m 0) 0) m k
          rw [bF, bSo m e]
          exact dp_eq (A := A) (A' := B) (bH 6 (by omega)) (bSo m e) (hns _ _ _ (by omega))
        rw [ej 3 (by omega) (by omega), e2]
        exact ct2 m k hmA h1 h2 h3 h4
  · obtain ⟨m1, m2, m3, m4, m5, m6⟩ := hM
    have h9 := hW.1.2.2.2.2.2.2.2.2.2.1
    refine ⟨?_, ?_, ?_, ?_, ?_, ?_⟩
    · obtain ⟨x1, x2, x3, x4, x5, x6, x7, x8, x9, x10⟩ := m1
      refine ⟨fun k hk => ?_, ?_⟩
      · by_cases e : k = 5
        · subst e
          rw [bH5]
          exact t5
        · rw [tro k e (by omega), bH k e]
          exact x1 k hk
      · rw [tro 7 (by omega) (by omega), tro 8 (by omega) (by omega), tro 9 (by omega) (by omega), tro 10 (by omega) (by omega), tro 11 (by omega) (by omega), tro 12 (by omega) (by omega), tro 13 (by omega) (by omega), tro 14 (by omega) (by omega), tro 15 (by omega) (by omega), tro 16 (by omega) (by omega), tro 17 (by omega) (by omega), tro 18 (by omega) (by omega), tro 19 (by omega) (by omega), bC, bH 7 (by omega), bH 11 (by omega), bH 8 (by omega), bH 9 (by omega), bH 10 (by omega)]
        refine ⟨x2, x3, x4, x5, x6, x7, x8, fun h7 => ?_, x10⟩
        have hx := hW.2.2.2.2.1 h7
        rw [bSo _ (by omega)]
        exact x9 h7
    · intro f' hf'
      rw [bH 3 (by omega)] at hf'
      have hx := m2 f' hf'
      rw [tro _ (by omega) (by omega), tro _ (by omega) (by omega), tro _ (by omega) (by omega), tro _ (by omega) (by omega), bF, bX]
      exact ⟨fun w hw => by rw [tro _ (by omega) (by omega)]; exact hx.1 w hw, hx.2⟩
    · intro m hm'
      by_cases e : m = n
      · subst e
        exact ⟨tw, fun w hw => by rw [bRn]; exact tm (5 + w) (by omega) (by omega)⟩
      · obtain ⟨hmA, hne⟩ := bwin m e hm'
        have := hm m
        have hx := m3 m hmA
        rw [bSo m e, bRo m e]
        exact ⟨fun w hw => by rw [tro _ (by omega) (by omega)]; exact hx.1 w hw, fun w hw => by rw [tro _ (by omega) (by omega)]; exact hx.2 w hw⟩
    · intro m k hm' hk
      by_cases e : m = n
      · subst e
        rw [bPn, bPn, bPn, bSz 7 (by omega)]
        exact ⟨fun _ => ⟨tm _ (by omega) (by omega), tm _ (by omega) (by omega)⟩, fun q => by omega⟩
      · obtain ⟨hmA, hne⟩ := bwin m e hm'
        have := hm m
        rw [bSo m e, bPo m e, tro _ (by omega) (by omega), tro _ (by omega) (by omega), tro _ (by omega) (by omega)]
        exact m4 m k hmA hk
    · intro row c' h1 h2
      rw [bH 9 (by omega)] at h1
      rw [tro _ (by omega) (by omega), bL]
      exact m5 row c' h1 h2
    · intro k w h1 h2 h3
      rw [bH 10 (by omega)] at h2 ⊢
      rw [tro _ (by omega) (by omega), bD]
      exact m6 k w h1 h2 h3
/-- send, both -/
theorem po_send {σ τ : en_M} {g u l c a : Nat} {A : ab_A} (h : ab_PR σ g (τ 25 0 0) A u) (hu : u + 1 ≤ 7168) (v : Int32) (hl : 1 ≤ l ∧ l ≤ 200) (hc : 10 ≤ c ∧ c ≤ 100) (ha : a ≤ 9999) :
    ∃ code τ1, k_cd_whyNoSend g v σ = some code ∧ k_mm_send0 v (nI l) (nI c) (nI a) τ = some (code, τ1) ∧ (code ≠ 0 → τ1 = τ) ∧ (code = 0 → ∃ x σ1 A1, k_cd_post g v (nI l) (nI c) (nI a) σ = some (x, σ1) ∧ ab_PR σ1 g (τ1 25 0 0) A1 (u + 1) ∧ τ1 25 0 0 5 - 1 = x) := by
  obtain ⟨hC, hM, hW, hWR⟩ := h
  have hN := ab_N hW
  rcases ac_flow hC.1.s hM hW v with ⟨f, rfl, hf, a1, a2⟩ | ⟨a1, a2⟩
  · have c1 := hC.1.1
    have c5 := c1.2.2.2.2.2.1
    have c6 := c1.2.2.2.2.2.2.1
    have m5 := hM.1.1 5 (by decide)
    have m6 := hM.1.1 6 (by decide)
    have m0 := hM.1.1 0 (by decide)
    have hw1 := hW.1
    rw [k_cd_whyNoSend, a1, pu_b1, k_mm_send0, a2, if_neg (show ¬ (1 : Int32) = 0 by decide), m5, m6, m0, pk_sub (by omega), it_eq (by omega) (by omega)]
    simp only []
    rw [c5, c6, c1.1, pk_sub (by omega), it_lt (by omega) (by omega)]
    have hrg : aH A 5 ≤ aH A 6 + aH A 0 := hW.1.2.2.2.2.2.2.2.1
    by_cases hfull : aH A 5 - aH A 6 = aH A 0
    · rw [if_neg (by omega), if_pos hfull]
      exact ⟨3, τ, rfl, rfl, fun _ => rfl, fun q => absurd q (by decide)⟩
    · have hm8 : aH A 5 % 8 < 8 := Nat.mod_lt _ (by decide)
      obtain ⟨s3, s5, τ7, τ19, b1, b2, b3, b4, b5⟩ := po_step ⟨hC, hM, hW, hWR⟩ hu hf hl hc ha (by omega)
      have hf7 : τ7 25 0 0 5 = nI (aH A 5) := by
        obtain ⟨z, z1, z2, -⟩ := po_fill en_fu 0 (nI f) (nI l) (nI c) (nI a) (74 + 68 * (aH A 5 % 8)) τ (by omega) (by omega) (by rw [en_fu]; omega)
        rw [nI_0, b3] at z1
        rw [Option.some.inj z1, z2 5 (by omega)]
        exact m5
      obtain ⟨hCB, hMB, hWB, hWRB⟩ := b5
      have hHB : ∀ k, k ≠ 5 → aH (po_A A f l c a) k = aH A k := fun k hk => u1_n hk
      have hHB5 : aH (po_A A f l c a) 5 = aH A 5 + 1 := by
        show u1 (aH A) 5 (aH A 5 + 1) 5 = aH A 5 + 1
        exact u1_s
      have hct := ct_inState hCB.1.s hWB (v := 0) (st := 0) rfl (by omega)
      have hctm := ct_waiting hMB hWB
      have hle := ct_le (po_A A f l c a) 0 (aH (po_A A f l c a) 5 - aH (po_A A f l c a) 6) (aH (po_A A f l c a) 6)
      have hNB := ab_N hWB
      have hbb := hW.1.2.2.1
      have hb2 : s5 0 g 0 10 = nI (aH A 2) := by rw [hCB.1.1.2.2.1, hHB 2 (by omega)]
      have mb2 : τ19 25 0 0 2 = nI (aH A 2) := by rw [hMB.1.1 2 (by decide), hHB 2 (by omega)]
      have hcl : k_cd_post g (nI f) (nI l) (nI c) (nI a) σ = (if nI (ct_n (po_A A f l c a) 0 (aH (po_A A f l c a) 5 - aH (po_A A f l c a) 6) (aH (po_A A f l c a) 6)) < nI (aH A 2) then some (nI (aH A 5), s5) else en_b2 (k_cd_ringBell g s5) fun t10 s11 => some (nI (aH A 5), s11)) := by
        rw [k_cd_post, c5, show (8 : Int32) = nI 8 from rfl, nu_fm (by omega) (by decide) (by decide), pu_ix hm8 (by decide), pu_b1, b1, pu_b1, pu_let, b2, hct, pu_b1, hb2]
      rw [if_pos (by omega), if_neg hfull, mo_slot (by omega), b3, pu_b1, Int32.add_zero, pu_wa (by omega) (by decide), pu_b1, show (1 : Int32) = nI 1 from rfl, nI_add, pu_wa (by omega) (by decide), pu_b1, show (2 : Int32) = nI 2 from rfl, nI_add, pu_wa (by omega) (by decide), pu_b1, show (3 : Int32) = nI 3 from rfl, nI_add, pu_wa (by omega) (by decide), pu_b1, show (4 : Int32) = nI 4 from rfl, nI_add, pu_wa (by omega) (by decide), pu_b1, pu_let]
      have e19 : ∀ z : en_M, z 25 0 0 5 = nI (aH A 5) → z 25 0 0 5 + nI 1 = nI (aH A 5 + 1) := fun z hz => by rw [hz, nI_add]
      rw [e19 _ (by rw [pu_wr_k (by omega), pu_wr_k (by omega), pu_wr_k (by omega), pu_wr_k (by omega), pu_wr_k (by omega)]; exact hf7), b4, hctm, pu_b1, mb2, hcl, it_lt (by omega) (by omega), it_lt (by omega) (by omega)]
      by_cases hbt : ct_n (po_A A f l c a) 0 (aH (po_A A f l c a) 5 - aH (po_A A f l c a) 6) (aH (po_A A f l c a) 6) < aH A 2
      · rw [if_pos hbt, if_pos hbt]
        refine ⟨0, τ19, rfl, rfl, fun q => absurd rfl q, fun _ => ⟨_, s5, _, rfl, ⟨hCB, hMB, hWB, hWRB⟩, ?_⟩⟩
        rw [hMB.1.1 5 (by decide), hHB5, pk_sub (by omega)]
        rfl
      · obtain ⟨x, σ1, τ1, A1, r1, r2, r3, r4⟩ := be_bell hCB.1 hMB hWB hWRB (fun f' hf' => (hW.2.1 f' (by rw [hHB 3 (by omega)] at hf'; exact hf')).2.2.2.1)
        rw [if_neg hbt, if_neg hbt, r1, pu_b2, r2, pu_b2]
        refine ⟨0, τ1, rfl, rfl, fun q => absurd rfl q, fun _ => ⟨_, σ1, A1, rfl, r3, ?_⟩⟩
        rw [r3.2.1.1.1 5 (by decide), r4, hHB5, pk_sub (by omega)]
        rfl
  · rw [k_cd_whyNoSend, a1, pu_b1, k_mm_send0, a2, if_pos rfl]
    exact ⟨2, τ, rfl, rfl, fun _ => rfl, fun q => absurd q (by decide)⟩

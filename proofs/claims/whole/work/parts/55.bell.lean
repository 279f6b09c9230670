/-! The bell. -/
theorem W_up {A : ab_A} {t : Nat} (h : ab_W A t) (ht : t + 1 ≤ 7168) : ab_W A (t + 1) := by
  obtain ⟨w1, w2, w3, w4, w5, w6⟩ := h
  refine ⟨?_, fun f hf => ?_, fun n hn => ?_, w4, w5, w6⟩
  · simp only [ab_W1] at w1 ⊢
    omega
  · have hx := w2 f hf
    exact ⟨hx.1, hx.2.1, hx.2.2.1, by omega, hx.2.2.2.2⟩
  · obtain ⟨x1, x2, x3, x4, x5, x6, x7⟩ := w3 n hn
    exact ⟨x1, x2, x3, x4, x5, fun q => by
      have y := x6 q
      exact ⟨y.1, y.2.1, y.2.2.1, y.2.2.2.1, by omega⟩, x7⟩
theorem be_91 {g t : Nat} {A : ab_A} (hW : ab_W A t) {n : Nat} (h : ab_win A n) {v1 v2 : Int32} : ∀ (m k F : Nat) (s : en_M), ab_Cs s g A → k + m = aS A n 6 → m < F → ∃ s1, k_cd_ringBell_91 F g v1 v2 (n % 8) (nI k) s = some s1 ∧ (∀ k', k ≤ k' → k' < aS A n 6 → s1 4 g 0 (20 * (n % 8) + k') = -1 ∧ s1 5 g 0 (20 * (n % 8) + k') = -1) ∧ (∀ x, (∀ k', k ≤ k' → k' < aS A n 6 → x ≠ 20 * (n % 8) + k') → s1 4 g 0 x = s 4 g 0 x ∧ s1 5 g 0 x = s 5 g 0 x) := by
  have hp := ab_pc hW h
  have hm8 : n % 8 < 8 := Nat.mod_lt _ (by decide)
  intro m
  induction m with
  | zero =>
    intro k F s hC h1 h2
    obtain ⟨F, rfl⟩ : ∃ q, F = q + 1 := ⟨F - 1, by omega⟩
    have d6 := (hC.2 n h).2.2.2.2.2.2.1
    rw [k_cd_ringBell_91, d6, it_le (by omega) (by omega), if_pos (by omega)]
    exact ⟨s, rfl, fun k' _ _ => by omega, fun _ _ => ⟨rfl, rfl⟩⟩
  | succ m ih =>
    intro k F s hC h1 h2
    obtain ⟨F, rfl⟩ : ∃ q, F = q + 1 := ⟨F - 1, by omega⟩
    have d6 := (hC.2 n h).2.2.2.2.2.2.1
    obtain ⟨s2, hs2⟩ : ∃ z, en_wr s 4 g 0 (20 * (n % 8) + k) (-1) = z := ⟨_, rfl⟩
    have hC2 : ab_Cs s2 g A := hC.fr (fr_wr (W := [(4, g)]) hs2 (by simp)) (by simp)
    obtain ⟨s3, hs3⟩ : ∃ z, en_wr s2 5 g 0 (20 * (n % 8) + k) (-1) = z := ⟨_, rfl⟩
    have hC3 : ab_Cs s3 g A := hC2.fr (fr_wr (W := [(5, g)]) hs3 (by simp)) (by simp)
    rw [k_cd_ringBell_91, d6, it_le (by omega) (by omega), if_neg (by omega), ac_index hC hW h (by omega), pu_wa (by omega) (by decide), pu_b1, hs2, ac_index hC2 hW h (by omega), pu_wa (by omega) (by decide), pu_b1, hs3, nI_1]
    obtain ⟨s1, a1, a2, a3⟩ := ih (k + 1) F s3 hC3 (by omega) (by omega)
    refine ⟨s1, a1, fun k' c1 c2 => ?_, fun x hx => ?_⟩
    · by_cases e : k' = k
      · subst e
        obtain ⟨b1, b2⟩ := a3 (20 * (n % 8) + k') (fun k'' d1 d2 => by omega)
        rw [b1, b2, ← hs3, pu_wr_j (by decide), pu_wr_eq, ← hs2, pu_wr_eq]
        exact ⟨rfl, rfl⟩
      · exact a2 k' (by omega) c2
    · obtain ⟨b1, b2⟩ := a3 x (fun k'' d1 d2 => hx k'' (by omega) d2)
      have hxk := hx k (Nat.le_refl _) (by omega)
      rw [b1, b2, ← hs3, pu_wr_j (by decide), pu_wr_k hxk, ← hs2, pu_wr_k hxk, pu_wr_j (by decide)]
      exact ⟨rfl, rfl⟩
/-- the sends seen: one more of them -/
def be_A (A : ab_A) (n : Nat) : ab_A := sR (sF (sS A (fun m w => if m = n then (if w = 4 then 1 else if w = 5 then aH A 4 else if w = 6 then ab_up (aS A n 1) (aS A n 2) else if w = 8 then aF A (aS A n 0) 1 + aF A (aS A n 0) 3 else aS A n w) else aS A m w)) (u2 (aF A) (aS A n 0) 3 (aF A (aS A n 0) 3 + aS A n 1))) (u2 (u2 (aR A) n 0 (nI (aH A 4))) n 2 (nI (aF A (aS A n 0) 1 + aF A (aS A n 0) 3)))
theorem be_step {σ τ : en_M} {g u n : Nat} {A : ab_A} (hC : ab_CW σ g A) (hM : ab_MR (τ 25 0 0) A) (hW : ab_W A (u + 1)) (hR : aH A 6 ≤ n) (hn : n < aH A 5) (h0 : aS A n 4 = 0) (hsb : aF A (aS A n 0) 3 + 200 ≤ 1600 * (u + 1)) (v1 : Int32) :
    ∃ s9 s11 s19 τ21, k_sd_cutUp g (n % 8) (σ 0 g 0 11) ((σ 12 g (aS A n 0) 1) + (σ 12 g (aS A n 0) 3)) σ = some s9 ∧ en_wr s9 12 g (aS A n 0) 3 ((s9 12 g (aS A n 0) 3) + (s9 13 g (n % 8) 2)) = s11 ∧ k_cd_ringBell_91 en_fu g v1 (nI n) (n % 8) 0 s11 = some s19 ∧
      (∀ (F : Nat) (acc : Int32), k_mm_bell0_10 (F + 1) acc (nI n) τ = k_mm_bell0_10 F (acc + 1) (nI (n + 1)) τ21) ∧ ab_CW s19 g (be_A A n) ∧ ab_MR (τ21 25 0 0) (be_A A n) ∧ ab_W (be_A A n) (u + 1) := by
  have hN := ab_N hW
  have hw := ab_in_win hW hR hn
  have hm : ∀ n, n % 8 < 8 := fun n => Nat.mod_lt _ (by decide)
  have hm8 := hm n
  obtain ⟨q0, q1, q2, q3, q4, q5, q6, q7, -⟩ := hW.2.2.1 n hw
  have hp0 := q6 (Or.inl h0)
  have ha0 : aS A n 7 = 0 := by omega
  obtain ⟨f, hf⟩ : ∃ f, aS A n 0 = f := ⟨_, rfl⟩
  rw [hf] at hsb q0
  have hF := hW.2.1 f q0
  have hup := ab_up_le q1.2 q2.1
  have hup1 := ab_up_pos q1.1 (show 1 ≤ aS A n 2 by omega)
  obtain ⟨B, hB⟩ : ∃ B, be_A A n = B := ⟨_, rfl⟩
  rw [hB, hf]
  -- what B is
  have bH : aH B = aH A := by rw [← hB]; rfl
  have bP : aP B = aP A := by rw [← hB]; rfl
  have bC : aC B = aC A := by rw [← hB]; rfl
  have bX : aX B = aX A := by rw [← hB]; rfl
  have bL : aL B = aL A := by rw [← hB]; rfl
  have bD : aD B = aD A := by rw [← hB]; rfl
  have bSo : ∀ m w, m ≠ n → aS B m w = aS A m w := fun m w h => by
    rw [← hB]
    show (if m = n then _ else _) = _
    rw [if_neg h]
  have bSn : ∀ w, aS B n w = (if w = 4 then 1 else if w = 5 then aH A 4 else if w = 6 then ab_up (aS A n 1) (aS A n 2) else if w = 8 then aF A f 1 + aF A f 3 else aS A n w) := fun w => by
    rw [← hB, ← hf]
    show (if n = n then _ else _) = _
    rw [if_pos rfl]
  have bS4 : aS B n 4 = 1 := bSn 4
  have bS5 : aS B n 5 = aH A 4 := bSn 5
  have bS6 : aS B n 6 = ab_up (aS A n 1) (aS A n 2) := bSn 6
  have bS8 : aS B n 8 = aF A f 1 + aF A f 3 := bSn 8
  have bS0 : aS B n 0 = f := (bSn 0).trans hf
  have bS1 : aS B n 1 = aS A n 1 := bSn 1
  have bS2 : aS B n 2 = aS A n 2 := bSn 2
  have bS3 : aS B n 3 = aS A n 3 := bSn 3
  have bS7 : aS B n 7 = 0 := (bSn 7).trans ha0
  have bFo : ∀ f' w, ¬ (f' = f ∧ w = 3) → aF B f' w = aF A f' w := fun f' w h => by
    rw [← hB]
    show u2 (aF A) (aS A n 0) 3 _ f' w = _
    rw [u2_n (by rw [hf]; exact h)]
  have bF3 : aF B f 3 = aF A f 3 + aS A n 1 := by
    rw [← hB, ← hf]
    show u2 (aF A) (aS A n 0) 3 _ _ 3 = _
    rw [u2_s]
  have bRo : ∀ m w, m ≠ n ∨ w = 1 → aR B m w = aR A m w := fun m w h => by
    rw [← hB]
    show u2 (u2 (aR A) n 0 _) n 2 _ m w = _
    rw [u2_n (by omega), u2_n (by omega)]
  have bR0 : aR B n 0 = nI (aH A 4) := by
    rw [← hB]
    show u2 (u2 (aR A) n 0 _) n 2 _ n 0 = _
    rw [u2_n (by omega), u2_s]
  have bR2 : aR B n 2 = nI (aF A f 1 + aF A f 3) := by
    rw [← hB, ← hf]
    show u2 (u2 (aR A) n 0 _) n 2 _ n 2 = _
    rw [u2_s]
  have bwin : ∀ m, ab_win B m ↔ ab_win A m := fun m => by simp only [ab_win, bH]
  have bup : ab_up (aS B n 1) (aS B n 2) = ab_up (aS A n 1) (aS A n 2) := by rw [bS1, bS2]
  have hWB : ab_W B (u + 1) := by
    obtain ⟨w1, w2, w3, w4, w5, w6⟩ := hW
    refine ⟨?_, fun f' hf' => ?_, fun m hm' => ?_, fun m k hm' hk => ?_, ?_, ?_⟩
    · simp only [ab_W1, bH]
      exact w1
    · rw [bH] at hf'
      have hx := w2 f' hf'
      rw [bFo f' 0 (by omega), bFo f' 1 (by omega), bFo f' 2 (by omega), bFo f' 4 (by omega), bFo f' 5 (by omega), bFo f' 6 (by omega)]
      refine ⟨hx.1, hx.2.1, hx.2.2.1, ?_, hx.2.2.2.2⟩
      by_cases e : f' = f
      · subst e
        rw [bF3]
        omega
      · rw [bFo f' 3 (by omega)]
        exact hx.2.2.2.1
    · by_cases e : m = n
      · subst e
        rw [bS0, bS1, bS2, bS3, bS4, bS5, bS6, bS7, bS8, bR0, bR2, bH]
        exact ⟨q0, q1, q2, q3, by omega, fun _ => ⟨rfl, rfl, Nat.le_refl _, rfl, by omega⟩, fun q => by omega, by omega, fun q => by omega, fun q => by omega, fun _ => by rw [bRo m 1 (Or.inr rfl)]; exact (w3 m hw).2.2.2.2.2.2.2.2.2.2.1 (by omega), fun _ q => by omega⟩
      · have hx := w3 m ((bwin m).mp hm')
        rw [bSo m 0 e, bSo m 1 e, bSo m 2 e, bSo m 3 e, bSo m 4 e, bSo m 5 e, bSo m 6 e, bSo m 7 e, bSo m 8 e, bRo m 0 (Or.inl e), bRo m 1 (Or.inl e), bRo m 2 (Or.inl e), bH]
        exact hx
    · by_cases e : m = n
      · subst e
        rw [bS7, bP, bH]
        rw [bS6, bS4] at hk
        have hx := w4 m k hw (Or.inr ⟨h0, by omega⟩)
        exact ⟨fun q => by omega, fun _ => hx.2 (by omega)⟩
      · rw [bSo m 6 e, bSo m 4 e] at hk
        have hx := w4 m k ((bwin m).mp hm') hk
        rw [bSo m 7 e, bP, bH]
        exact hx
    · intro h7
      rw [bH] at h7 ⊢
      have hx := w5 h7
      have e : aH A 8 ≠ n := fun e => by
        rw [e] at hx
        omega
      rw [bSo _ 4 e, bSo _ 7 e]
      exact hx
    · simp only [ab_W6, bH, bL]
      exact w6
  -- the class
  obtain ⟨k1, k3, k2, k2b, k4, k5, k6, k7⟩ := hC
  obtain ⟨d0, d1, d2, d3, d4, d5, d6, d7, d8, d9, d10⟩ := k3 n hw
  obtain ⟨b0, b1, b2, b3, b4, b5, b7, b8⟩ := k2 f q0
  have c4 := k1.2.2.2.1
  obtain ⟨s9, hs9⟩ : ∃ z, k_sd_cutUp g (n % 8) (σ 0 g 0 11) ((σ 12 g f 1) + (σ 12 g f 3)) σ = some z := by
    rw [k_sd_cutUp, pu_let, pu_wr_k (by decide), pu_wr_k (by decide), d2, d3, nu_up (by omega) (by omega), pu_b1]
    exact ⟨_, rfl⟩
  have f9 := f_sd_cutUp hs9
  have v9 : (∀ i w, ¬ (i = n % 8 ∧ (w = 5 ∨ w = 6 ∨ w = 8 ∨ w = 10)) → s9 13 g i w = σ 13 g i w) ∧ s9 13 g (n % 8) 5 = 1 ∧ s9 13 g (n % 8) 6 = nI (ab_up (aS A n 1) (aS A n 2)) ∧ s9 13 g (n % 8) 8 = nI (aH A 4) ∧ s9 13 g (n % 8) 10 = nI (aF A f 1 + aF A f 3) := by
    have h9 := hs9
    rw [k_sd_cutUp, pu_let, pu_wr_k (by decide), pu_wr_k (by decide), d2, d3, nu_up (by omega) (by omega), pu_b1, pu_let, pu_let, pu_let, show (20 : Int32) = nI 20 from rfl, it_lt (by decide) (by omega), if_neg (by omega), c4, b1, b3, nI_add] at h9
    have h9' := (Option.some.inj h9).symm
    refine ⟨fun i w h => ?_, ?_, ?_, ?_, ?_⟩
    · rw [h9', pu_wr_ne (fun z => h ⟨z.2.2.1, by omega⟩), pu_wr_ne (fun z => h ⟨z.2.2.1, by omega⟩), pu_wr_ne (fun z => h ⟨z.2.2.1, by omega⟩), pu_wr_ne (fun z => h ⟨z.2.2.1, by omega⟩)]
    · rw [h9', pu_wr_k (by decide), pu_wr_k (by decide), pu_wr_k (by decide), pu_wr_eq]
    · rw [h9', pu_wr_k (by decide), pu_wr_k (by decide), pu_wr_eq]
    · rw [h9', pu_wr_k (by decide), pu_wr_eq]
    · rw [h9', pu_wr_eq]
  obtain ⟨v9o, v95, v96, v98, v910⟩ := v9
  obtain ⟨s11, hs11⟩ : ∃ z, en_wr s9 12 g f 3 ((s9 12 g f 3) + (s9 13 g (n % 8) 2)) = z := ⟨_, rfl⟩
  have e11 : ∀ j, j ≠ 12 → j ≠ 13 → s11 j g = σ j g := fun j h12 h13 => by
    rw [← hs11, pu_wr_j h12, f9 j g (by simp [h13])]
  have e11s : s11 13 g = s9 13 g := by rw [← hs11, pu_wr_j (by decide)]
  have e11f : ∀ f' w, ¬ (f' = f ∧ w = 3) → s11 12 g f' w = σ 12 g f' w := fun f' w h => by
    rw [← hs11, pu_wr_ne (fun z => h ⟨z.2.2.1, z.2.2.2⟩), f9 12 g (by simp)]
  have e11v : s11 12 g f 3 = nI (aF A f 3 + aS A n 1) := by
    rw [← hs11, pu_wr_eq, f9 12 g (by simp), b3, v9o _ 2 (by omega), d2, nI_add]
  have hC3 : ab_C3 s11 g B := fun m hm' => by
    rw [e11s]
    by_cases e : m = n
    · subst e
      rw [v9o _ 0 (by omega), v9o _ 1 (by omega), v9o _ 2 (by omega), v9o _ 3 (by omega), v9o _ 4 (by omega), v95, v96, v9o _ 7 (by omega), v98, v9o _ 9 (by omega), v910, bS0, bS1, bS2, bS3, bS4, bS6, bS7, bR0, bRo m 1 (Or.inr rfl), bR2]
      exact ⟨d0, by rw [d1, hf], d2, d3, d4, rfl, rfl, by rw [d7, ha0], rfl, d9, rfl⟩
    · have hmA := (bwin m).mp hm'
      have hne : ¬ m % 8 = n % 8 := fun q => e (ti_apart hmA hw (k := 0) (k' := 0) (by omega) (by omega) (by omega)).1
      rw [v9o _ 0 (by omega), v9o _ 1 (by omega), v9o _ 2 (by omega), v9o _ 3 (by omega), v9o _ 4 (by omega), v9o _ 5 (by omega), v9o _ 6 (by omega), v9o _ 7 (by omega), v9o _ 8 (by omega), v9o _ 9 (by omega), v9o _ 10 (by omega), bSo m 0 e, bSo m 1 e, bSo m 2 e, bSo m 3 e, bSo m 4 e, bSo m 6 e, bSo m 7 e, bRo m 0 (Or.inl e), bRo m 1 (Or.inl e), bRo m 2 (Or.inl e)]
      exact k3 m hmA
  have hC1 : ab_C1 s11 g B := by
    simp only [ab_C1, bH, e11 0 (by omega) (by omega)]
    exact k1
  obtain ⟨s19, a1, a2, a3⟩ := be_91 hWB ((bwin n).mpr hw) (v1 := v1) (v2 := nI n) (aS B n 6) 0 en_fu s11 ⟨hC1, hC3⟩ (by omega) (by rw [bS6, en_fu]; omega)
  rw [nI_0] at a1
  have f19 := f_cd_ringBell_91 a1
  have e19 : ∀ j, j ≠ 4 → j ≠ 5 → s19 j g = s11 j g := fun j h4 h5 => f19 j g (by simp [h4, h5])
  -- the model
  obtain ⟨m1, m2, m3, m4, m5, m6⟩ := hM
  have r3 := m3 n hw
  have r2 := m2 f q0
  have mT := m1.1 4 (by decide)
  obtain ⟨t7, ht7⟩ : ∃ z, en_wr τ 25 0 0 (74 + 68 * (n % 8) + 4) 1 = z := ⟨_, rfl⟩
  have mT7 : t7 25 0 0 4 = nI (aH A 4) := by rw [← ht7, pu_wr_k (by omega)]; exact mT
  obtain ⟨t9, ht9⟩ : ∃ z, en_wr t7 25 0 0 (74 + 68 * (n % 8) + 5) (t7 25 0 0 4) = z := ⟨_, rfl⟩
  have m91 : t9 25 0 0 (20 + 9 * f + 1) = nI (aF A f 1) := by rw [← ht9, pu_wr_k (by omega), ← ht7, pu_wr_k (by omega)]; exact r2.1 1 (by decide)
  have m93 : t9 25 0 0 (20 + 9 * f + 3) = nI (aF A f 3) := by rw [← ht9, pu_wr_k (by omega), ← ht7, pu_wr_k (by omega)]; exact r2.1 3 (by decide)
  obtain ⟨t15, ht15⟩ : ∃ z, en_wr t9 25 0 0 (74 + 68 * (n % 8) + 7) (nI (aF A f 1 + aF A f 3)) = z := ⟨_, rfl⟩
  have m153 : t15 25 0 0 (20 + 9 * f + 3) = nI (aF A f 3) := by rw [← ht15, pu_wr_k (by omega)]; exact m93
  have m151 : t15 25 0 0 (74 + 68 * (n % 8) + 1) = nI (aS A n 1) := by rw [← ht15, pu_wr_k (by omega), ← ht9, pu_wr_k (by omega), ← ht7, pu_wr_k (by omega)]; exact r3.1 1 (by decide)
  obtain ⟨t21, ht21⟩ : ∃ z, en_wr t15 25 0 0 (20 + 9 * f + 3) (nI (aF A f 3 + aS A n 1)) = z := ⟨_, rfl⟩
  have tro : ∀ x, x ≠ 74 + 68 * (n % 8) + 4 → x ≠ 74 + 68 * (n % 8) + 5 → x ≠ 74 + 68 * (n % 8) + 7 → x ≠ 20 + 9 * f + 3 → t21 25 0 0 x = τ 25 0 0 x := fun x h4 h5 h7 h3 => by
    rw [← ht21, pu_wr_k h3, ← ht15, pu_wr_k h7, ← ht9, pu_wr_k h5, ← ht7, pu_wr_k h4]
  have tr4 : t21 25 0 0 (74 + 68 * (n % 8) + 4) = nI 1 := by rw [← ht21, pu_wr_k (by omega), ← ht15, pu_wr_k (by omega), ← ht9, pu_wr_k (by omega), ← ht7, pu_wr_eq]; rfl
  have tr5 : t21 25 0 0 (74 + 68 * (n % 8) + 5) = nI (aH A 4) := by rw [← ht21, pu_wr_k (by omega), ← ht15, pu_wr_k (by omega), ← ht9, pu_wr_eq, mT7]
  have tr7 : t21 25 0 0 (74 + 68 * (n % 8) + 7) = nI (aF A f 1 + aF A f 3) := by rw [← ht21, pu_wr_k (by omega), ← ht15, pu_wr_eq]
  have tr3 : t21 25 0 0 (20 + 9 * f + 3) = nI (aF A f 3 + aS A n 1) := by rw [← ht21, pu_wr_eq]
  refine ⟨s9, s11, s19, t21, hs9, hs11, a1, fun F acc => ?_, ?_, ?_, hWB⟩
  · have m5' := m1.1 5 (by decide)
    rw [k_mm_bell0_10, m5', it_le (by omega) (by omega), if_neg (by omega), mo_of (x := 4) (w := 4) rfl (by omega) (by omega), pu_b1, r3.1 4 (by decide), h0, if_pos (show nI 0 = 0 from rfl), mo_slot (by omega), ← nI_0, nI_add, pu_rd (by omega) (by decide), pu_b1]
    have e0 : τ 25 0 0 (74 + 68 * (n % 8) + 0) = nI f := by rw [r3.1 0 (by decide), hf]
    rw [e0, show (4 : Int32) = nI 4 from rfl, nI_add, pu_wa (by omega) (by decide), pu_b1, show (1 : Int32) = nI 1 from rfl]
    rw [show en_wr τ 25 0 0 (74 + 68 * (n % 8) + 4) (nI 1) = t7 from ht7, show (5 : Int32) = nI 5 from rfl, nI_add, pu_wa (by omega) (by decide), pu_b1, ht9, show (20 : Int32) = nI 20 from rfl, show (9 : Int32) = nI 9 from rfl, pk_mul, nI_add, nI_add, pu_rd (by omega) (by decide), pu_b1, m91, show (3 : Int32) = nI 3 from rfl, nI_add, pu_rd (by omega) (by decide), pu_b1, m93, nI_add, show (7 : Int32) = nI 7 from rfl, nI_add, pu_wa (by omega) (by decide), pu_b1, ht15, pu_rd (by omega) (by decide), pu_b1, m153, nI_add, pu_rd (by omega) (by decide), pu_b1, m151, nI_add, pu_wa (by omega) (by decide), pu_b1, ht21, nI_add]
  · refine ⟨?_, ?_, ?_, ?_, ?_, ?_, ?_, ?_⟩
    · simp only [ab_C1, e19 0 (by omega) (by omega)]
      exact hC1
    · intro m hm'
      rw [e19 13 (by omega) (by omega)]
      exact hC3 m hm'
    · intro f' hf'
      rw [bH] at hf'
      have hx := k2 f' hf'
      rw [e19 12 (by omega) (by omega), e11f f' 0 (by omega), e11f f' 1 (by omega), e11f f' 2 (by omega), e11f f' 4 (by omega), e11f f' 5 (by omega), e11f f' 7 (by omega), e11f f' 8 (by omega), bFo f' 0 (by omega), bFo f' 1 (by omega), bFo f' 2 (by omega), bFo f' 4 (by omega), bFo f' 5 (by omega), bFo f' 6 (by omega), bX]
      refine ⟨hx.1, hx.2.1, hx.2.2.1, ?_, hx.2.2.2.2⟩
      by_cases e : f' = f
      · subst e
        rw [e11v, bF3]
      · rw [e11f f' 3 (by omega), bFo f' 3 (by omega)]
        exact hx.2.2.2.1
    · intro f' hf'
      rw [e19 12 (by omega) (by omega), e11f f' 2 (by omega)]
      exact k2b f' hf'
    · intro m k hm' hk
      have hmA := (bwin m).mp hm'
      rw [e19 3 (by omega) (by omega), e11 3 (by omega) (by omega), bP]
      by_cases e : m = n
      · subst e
        have hx := (hW.2.2.2.1 m k hw (Or.inr ⟨h0, by rw [bS6] at hk; omega⟩)).2 (by omega)
        obtain ⟨y1, y2⟩ := a2 k (by omega) hk
        rw [bS7, y1, y2, hx.1, hx.2]
        exact ⟨fun q => by omega, rfl, rfl⟩
      · rw [bSo m 6 e] at hk
        have hp := ab_pc hW hmA
        obtain ⟨y1, y2⟩ := a3 (20 * (m % 8) + k) (fun k' c1 c2 q => e (ti_apart hmA hw (by omega) (by rw [bS6] at c2; omega) q).1)
        rw [bSo m 7 e, y1, y2, e11 4 (by omega) (by omega), e11 5 (by omega) (by omega)]
        exact k4 m k hmA hk
    · simp only [ab_C5, bH, bL, e19 6 (by omega) (by omega), e19 7 (by omega) (by omega), e11 6 (by omega) (by omega), e11 7 (by omega) (by omega)]
      exact k5
    · simp only [ab_C6, bH, bD, e19 8 (by omega) (by omega), e19 9 (by omega) (by omega), e19 10 (by omega) (by omega), e11 8 (by omega) (by omega), e11 9 (by omega) (by omega), e11 10 (by omega) (by omega)]
      exact k6
    · simp only [ab_C7, bC, e19 11 (by omega) (by omega), e11 11 (by omega) (by omega)]
      exact k7
  · have h9 := hW.1.2.2.2.2.2.2.2.2.2.1
    have hlow : ∀ x, x < 20 → t21 25 0 0 x = τ 25 0 0 x := fun x hx => tro x (by omega) (by omega) (by omega) (by omega)
    have hhigh : ∀ x, 618 ≤ x → t21 25 0 0 x = τ 25 0 0 x := fun x hx => tro x (by omega) (by omega) (by omega) (by omega)
    refine ⟨?_, ?_, ?_, ?_, ?_, ?_⟩
    · refine ⟨fun k hk => by rw [hlow k (by omega), bH]; exact m1.1 k hk, ?_⟩
      rw [hlow 7 (by omega), hlow 8 (by omega), hlow 9 (by omega), hlow 10 (by omega), hlow 11 (by omega), hlow 12 (by omega), hlow 13 (by omega), hlow 14 (by omega), hlow 15 (by omega), hlow 16 (by omega), hlow 17 (by omega), hlow 18 (by omega), hlow 19 (by omega), bC, bH]
      obtain ⟨x1, x2, x3, x4, x5, x6, x7, x8, x9⟩ := m1.2
      refine ⟨x1, x2, x3, x4, x5, x6, x7, fun h7 => ?_, x9⟩
      have hx := hW.2.2.2.2.1 h7
      rw [bSo _ 7 (fun e => by rw [e] at hx; omega)]
      exact x8 h7
    · intro f' hf'
      rw [bH] at hf'
      have hx := m2 f' hf'
      refine ⟨fun w hw' => ?_, ?_, ?_, ?_⟩
      · by_cases e : f' = f ∧ w = 3
        · obtain ⟨rfl, rfl⟩ := e
          rw [tr3, bF3]
        · rw [tro _ (by omega) (by omega) (by omega) (by omega), bFo f' w e]
          exact hx.1 w hw'
      · rw [tro _ (by omega) (by omega) (by omega) (by omega), tro _ (by omega) (by omega) (by omega) (by omega), bFo f' 4 (by omega), bFo f' 5 (by omega), bFo f' 6 (by omega)]
        exact hx.2.1
      · rw [tro _ (by omega) (by omega) (by omega) (by omega), bX]
        exact hx.2.2.1
      · rw [tro _ (by omega) (by omega) (by omega) (by omega), bX]
        exact hx.2.2.2
    · intro m hm'
      have hmA := (bwin m).mp hm'
      have := hm m
      by_cases e : m = n
      · subst e
        refine ⟨fun w hw' => ?_, fun w hw' => ?_⟩
        · by_cases e4 : w = 4
          · subst e4
            rw [bS4]
            exact tr4
          · rw [tro _ (by omega) (by omega) (by omega) (by omega), r3.1 w hw', bSn w, if_neg e4, if_neg (by omega), if_neg (by omega), if_neg (by omega)]
        · rcases (show w = 0 ∨ w = 1 ∨ w = 2 by omega) with rfl | rfl | rfl
          · rw [bR0]
            exact tr5
          · rw [tro _ (by omega) (by omega) (by omega) (by omega), r3.2 1 (by decide), bRo m 1 (Or.inr rfl)]
          · rw [bR2]
            exact tr7
      · have hne : ¬ m % 8 = n % 8 := fun q => e (ti_apart hmA hw (k := 0) (k' := 0) (by omega) (by omega) (by omega)).1
        have hx := m3 m hmA
        exact ⟨fun w hw' => by rw [tro _ (by omega) (by omega) (by omega) (by omega), bSo m w e]; exact hx.1 w hw', fun w hw' => by rw [tro _ (by omega) (by omega) (by omega) (by omega), bRo m w (Or.inl e)]; exact hx.2 w hw'⟩
    · intro m k hm' hk
      have hmA := (bwin m).mp hm'
      have := hm m
      have hx := m4 m k hmA hk
      rw [tro _ (by omega) (by omega) (by omega) (by omega), tro _ (by omega) (by omega) (by omega) (by omega), tro _ (by omega) (by omega) (by omega) (by omega), bP]
      by_cases e : m = n
      · subst e
        rw [bS7]
        exact ⟨fun _ => hx.1 (Or.inr h0), fun q => by omega⟩
      · rw [bSo m 6 e, bSo m 4 e, bSo m 7 e]
        exact hx
    · intro row c h1 h2
      rw [bH] at h1
      rw [hhigh _ (by omega), bL]
      exact m5 row c h1 h2
    · intro k w h1 h2 h3
      rw [bH] at h2 ⊢
      rw [hhigh _ (by omega), bD]
      exact m6 k w h1 h2 h3

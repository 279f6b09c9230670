/-! A send is done: the class. -/
def go_K (σ s : en_M) (g : Nat) (A : ab_A) (n k f : Nat) : Prop :=
  (∀ j, j ≠ 0 → j ≠ 5 → j ≠ 8 → j ≠ 9 → j ≠ 10 → j ≠ 11 → j ≠ 12 → j ≠ 13 → s j g = σ j g) ∧
  ((∀ x, x ≠ 15 → s 0 g 0 x = σ 0 g 0 x) ∧ s 0 g 0 15 = -1) ∧
  ((∀ x, x ≠ 20 * (n % 8) + k → s 5 g 0 x = σ 5 g 0 x) ∧ s 5 g 0 (20 * (n % 8) + k) = nI (aH A 4)) ∧
  ((∀ f' w, ¬ (f' = f ∧ (w = 7 ∨ w = 8)) → s 12 g f' w = σ 12 g f' w) ∧ s 12 g f 7 = aX A f 0 + nI (ab_sz A n k - 12) ∧ s 12 g f 8 = aX A f 1 + 1) ∧
  ((∀ z w, ¬ (z = n % 8 ∧ (w = 5 ∨ w = 9)) → s 13 g z w = σ 13 g z w) ∧ s 13 g (n % 8) 5 = 2 ∧ s 13 g (n % 8) 9 = nI (aH A 4)) ∧
  (s 8 g 0 2 = nI (aH A 10 + 1) ∧ (∀ x, x ≠ aH A 10 % 20 → s 9 g 0 x = σ 9 g 0 x ∧ s 10 g 0 x = σ 10 g 0 x) ∧ s 9 g 0 (aH A 10 % 20) = nI n ∧ s 10 g 0 (aH A 10 % 20) = nI (aH A 4)) ∧
  (∀ x, x ≠ 2 → s 11 g 0 x = σ 11 g 0 x) ∧ s 11 g 0 2 = aC A 2 + (if n ≤ aH A 6 then 0 else 1)
theorem go_sufK {σ : en_M} {g t : Nat} {A : ab_A} (hC : ab_CR σ g A) (hW : ab_W A t) (h11 : aH A 11 ≠ 0) {n k f : Nat} (hn : aH A 8 = n) (hk : aS A n 7 = k + 1) (hf : aS A n 0 = f) (hl : aS A n 6 ≤ k + 1) : ∃ s, k_cd_letGo g σ = en_b1 (k_cd_reclaim g s) (fun s27 => some s27) ∧ go_K σ s g A n k f := by
  obtain ⟨s, a1, a2, a3, a4, a5, a6, a7, a8⟩ := go_cls hC hW h11 hn hk hf
  rw [if_pos hl] at a1
  have hN := ab_N hW
  obtain ⟨hR, hlt, h4, -⟩ := hW.2.2.2.2.1 h11
  rw [hn] at hR hlt h4
  have hw := ab_in_win hW hR hlt
  have hf3 := (hW.2.2.1 n hw).1
  rw [hf] at hf3
  have hD : aH A 10 ≤ 9999 := by have := hW.1.2.2.2.2.2.2.2.2.2.2.1; omega
  have hD20 : aH A 10 % 20 < 20 := Nat.mod_lt _ (by decide)
  have c11 : s 0 g 0 11 = nI (aH A 4) := by rw [a3 11 (by decide)]; exact hC.1.1.2.2.2.1
  have c14 : s 0 g 0 14 = nI (aH A 6) := by rw [a3 14 (by decide)]; exact hC.1.1.2.2.2.2.2.2.1
  have c130 : s 13 g (n % 8) 0 = nI n := by rw [a2 13 (by decide) (by decide) (by decide)]; exact (hC.1.2.1 n hw).1
  have c128 : s 12 g f 8 = aX A f 1 := by rw [a7 f 8 (by omega)]; exact (hC.1.2.2.1 f hf3).2.2.2.2.2.2.2
  have c8 : s 8 g 0 2 = nI (aH A 10) := by rw [a2 8 (by decide) (by decide) (by decide)]; exact hC.1.2.2.2.2.2.2.1.1
  have c112 : s 11 g 0 2 = aC A 2 := by rw [a2 11 (by decide) (by decide) (by decide)]; exact hC.1.2.2.2.2.2.2.2 2 (by decide)
  obtain ⟨s16, h16⟩ : ∃ z, en_wr s 13 g (n % 8) 5 2 = z := ⟨_, rfl⟩
  have e16 : ∀ j, j ≠ 13 → s16 j = s j := fun j h => by rw [← h16, pu_wr_j h]
  obtain ⟨s18, h18⟩ : ∃ z, en_wr s16 13 g (n % 8) 9 (nI (aH A 4)) = z := ⟨_, rfl⟩
  have e18 : ∀ j, j ≠ 13 → s18 j = s j := fun j h => by rw [← h18, pu_wr_j h, e16 j h]
  have e18s : ∀ z w, ¬ (z = n % 8 ∧ (w = 5 ∨ w = 9)) → s18 13 g z w = s 13 g z w := fun z w h => by rw [← h18, pu_wr_ne (by omega), ← h16, pu_wr_ne (by omega)]
  have e185 : s18 13 g (n % 8) 5 = 2 := by rw [← h18, pu_wr_ne (by omega), ← h16, pu_wr_eq]
  have e189 : s18 13 g (n % 8) 9 = nI (aH A 4) := by rw [← h18, pu_wr_eq]
  obtain ⟨s20, h20⟩ : ∃ z, en_wr s18 12 g f 8 (aX A f 1 + 1) = z := ⟨_, rfl⟩
  have e20 : ∀ j, j ≠ 12 → s20 j = s18 j := fun j h => by rw [← h20, pu_wr_j h]
  obtain ⟨p1, hp1⟩ : ∃ z, en_wr s20 9 g 0 (aH A 10 % 20) (nI n) = z := ⟨_, rfl⟩
  obtain ⟨p2, hp2⟩ : ∃ z, en_wr p1 10 g 0 (aH A 10 % 20) (nI (aH A 4)) = z := ⟨_, rfl⟩
  obtain ⟨s22, h22⟩ : ∃ z, en_wr p2 8 g 0 2 (nI (aH A 10 + 1)) = z := ⟨_, rfl⟩
  have e22 : ∀ j, j ≠ 8 → j ≠ 9 → j ≠ 10 → s22 j = s20 j := fun j q1 q2 q3 => by rw [← h22, pu_wr_j q1, ← hp2, pu_wr_j q3, ← hp1, pu_wr_j q2]
  obtain ⟨s25, h25⟩ : ∃ z, en_wr s22 11 g 0 2 (aC A 2 + (if n ≤ aH A 6 then 0 else 1)) = z := ⟨_, rfl⟩
  have e25 : ∀ j, j ≠ 11 → s25 j = s22 j := fun j h => by rw [← h25, pu_wr_j h]
  have hadd : k_fi_add g (nI n) (nI (aH A 4)) s20 = some s22 := by
    rw [k_fi_add, e20 8 (by decide), e18 8 (by decide), c8, show (20 : Int32) = nI 20 from rfl, nu_fm (by omega) (by decide) (by decide), pu_wa hD20 (by decide), pu_b1, hp1, pu_wa hD20 (by decide), pu_b1, hp2, pu_let, show p2 8 g 0 2 = nI (aH A 10) by rw [← hp2, pu_wr_j (by decide), ← hp1, pu_wr_j (by decide), e20 8 (by decide), e18 8 (by decide), c8], nI_1, h22]
  have c22 : s22 11 g 0 2 = aC A 2 := by rw [e22 11 (by decide) (by decide) (by decide), e20 11 (by decide), e18 11 (by decide), c112]
  have c22b : s22 13 g (n % 8) 0 = nI n := by rw [e22 13 (by decide) (by decide) (by decide), e20 13 (by decide), e18s _ _ (by omega), c130]
  have c22c : s22 0 g 0 14 = nI (aH A 6) := by rw [e22 0 (by decide) (by decide) (by decide), e20 0 (by decide), e18 0 (by decide), c14]
  refine ⟨s25, ?_, fun j q0 q5 q8 q9 q10 q11 q12 q13 => ?_, ⟨fun x hx => ?_, ?_⟩, ⟨fun x hx => ?_, ?_⟩, ⟨fun f' w h => ?_, ?_, ?_⟩, ⟨fun z w h => ?_, ?_, ?_⟩, ⟨?_, fun x hx => ⟨?_, ?_⟩, ?_, ?_⟩, fun x hx => ?_, ?_⟩
  · rw [a1, go_suf, pu_let, h16, pu_let, e16 0 (by decide), c11, h18, pu_let, e18 12 (by decide), c128, h20, e20 13 (by decide), e18s _ _ (by omega), c130, e20 0 (by decide), e18 0 (by decide), c11, hadd, pu_b1, c22b, c22c, it_le (by omega) (by omega), c22]
    by_cases e : n ≤ aH A 6
    · rw [if_pos e, pu_let, ← h25, if_pos e]
    · rw [if_neg e, pu_let, ← h25, if_neg e]
  · rw [e25 j q11, e22 j q8 q9 q10, e20 j q12, e18 j q13, a2 j q0 q5 q12]
  · rw [e25 0 (by decide), e22 0 (by decide) (by decide) (by decide), e20 0 (by decide), e18 0 (by decide), a3 x hx]
  · rw [e25 0 (by decide), e22 0 (by decide) (by decide) (by decide), e20 0 (by decide), e18 0 (by decide), a4]
  · rw [e25 5 (by decide), e22 5 (by decide) (by decide) (by decide), e20 5 (by decide), e18 5 (by decide), a5 x hx]
  · rw [e25 5 (by decide), e22 5 (by decide) (by decide) (by decide), e20 5 (by decide), e18 5 (by decide), a6]
  · rw [e25 12 (by decide), e22 12 (by decide) (by decide) (by decide), ← h20, pu_wr_ne (fun z => h ⟨z.2.2.1, Or.inr z.2.2.2⟩), e18 12 (by decide), a7 f' w (fun z => h ⟨z.1, Or.inl z.2⟩)]
  · rw [e25 12 (by decide), e22 12 (by decide) (by decide) (by decide), ← h20, pu_wr_ne (by omega), e18 12 (by decide), a8]
  · rw [e25 12 (by decide), e22 12 (by decide) (by decide) (by decide), ← h20, pu_wr_eq]
  · rw [e25 13 (by decide), e22 13 (by decide) (by decide) (by decide), e20 13 (by decide), e18s z w h, a2 13 (by decide) (by decide) (by decide)]
  · rw [e25 13 (by decide), e22 13 (by decide) (by decide) (by decide), e20 13 (by decide), e185]
  · rw [e25 13 (by decide), e22 13 (by decide) (by decide) (by decide), e20 13 (by decide), e189]
  · rw [e25 8 (by decide), ← h22, pu_wr_eq]
  · rw [e25 9 (by decide), ← h22, pu_wr_j (by decide), ← hp2, pu_wr_j (by decide), ← hp1, pu_wr_k hx, e20 9 (by decide), e18 9 (by decide), a2 9 (by decide) (by decide) (by decide)]
  · rw [e25 10 (by decide), ← h22, pu_wr_j (by decide), ← hp2, pu_wr_k hx, ← hp1, pu_wr_j (by decide), e20 10 (by decide), e18 10 (by decide), a2 10 (by decide) (by decide) (by decide)]
  · rw [e25 9 (by decide), ← h22, pu_wr_j (by decide), ← hp2, pu_wr_j (by decide), ← hp1, pu_wr_eq]
  · rw [e25 10 (by decide), ← h22, pu_wr_j (by decide), ← hp2, pu_wr_eq]
  · rw [← h25, pu_wr_k hx, e22 11 (by decide) (by decide) (by decide), e20 11 (by decide), e18 11 (by decide), a2 11 (by decide) (by decide) (by decide)]
  · rw [← h25, pu_wr_eq]
theorem go_C {σ s : en_M} {g t n k f : Nat} {A B : ab_A} (hB : go_B A B n k f) (hK : go_K σ s g A n k f) (hC : ab_CR σ g A) (hW : ab_W A t) (h11 : aH A 11 ≠ 0) (hn : aH A 8 = n) (hk : aS A n 7 = k + 1) (hl : aS A n 6 ≤ k + 1) : ab_CR s g B := by
  obtain ⟨⟨bH, bH10, bH11⟩, ⟨bS, bS4⟩, bF, ⟨bPo, bP2⟩, ⟨bCo, bC2⟩, ⟨bXo, bX0, bX1⟩, bL, ⟨bD0, bD1, bDs⟩, bR, bR1⟩ := hB
  obtain ⟨a2, ⟨a3, a4⟩, ⟨a5, a6⟩, ⟨a7, a70, a71⟩, ⟨a13, a135, a139⟩, ⟨a8, a9, a90, a91⟩, a11, a112⟩ := hK
  have hN := ab_N hW
  obtain ⟨hR, hlt, h4, -⟩ := hW.2.2.2.2.1 h11
  rw [hn] at hR hlt h4
  have hw := ab_in_win hW hR hlt
  have hp := ab_pc hW hw
  have hk20 : k < 20 := by omega
  have bwin : ∀ m, ab_win B m ↔ ab_win A m := fun m => by simp only [ab_win, bH 5 (by omega) (by omega)]
  have bSm : ∀ m, m ≠ n → aS B m = aS A m := fun m h => funext fun w => bS m w (fun z => h z.1)
  have hns : ∀ f' rt m, ab_ns B f' rt m = ab_ns A f' rt m := fun f' rt m => ns_eqf (A := A) (A' := B) (bH 6 (by omega) (by omega)) (by simp only [ab_in, bF]) m (fun m' _ _ => by
    by_cases e : m' = n
    · right
      subst e
      rw [bS4]
      exact ⟨fun z => absurd z.1 (by decide), fun z => by omega⟩
    · exact Or.inl (bSm m' e))
  obtain ⟨⟨k1, k3, k2, k2b, k4, k5, k6, k7⟩, ct1, ct2⟩ := hC
  have hm13 : ∀ m, ab_win A m → m ≠ n → ∀ w, s 13 g (m % 8) w = σ 13 g (m % 8) w := fun m hm e w => a13 _ _ (fun z => e (ti_apart hm hw (k := 0) (k' := 0) (by omega) (by omega) (by omega)).1)
  refine ⟨⟨?_, ?_, ?_, ?_, ?_, ?_, ?_, ?_⟩, ?_, ?_⟩
  · simp only [ab_C1, bH11, bH 0 (by omega) (by omega), bH 1 (by omega) (by omega), bH 2 (by omega) (by omega), bH 3 (by omega) (by omega), bH 4 (by omega) (by omega), bH 5 (by omega) (by omega), bH 6 (by omega) (by omega), bH 7 (by omega) (by omega), bH 8 (by omega) (by omega), a4, a3 8 (by omega), a3 9 (by omega), a3 10 (by omega), a3 11 (by omega), a3 12 (by omega), a3 13 (by omega), a3 14 (by omega), a3 16 (by omega)]
    exact ⟨k1.1, k1.2.1, k1.2.2.1, k1.2.2.2.1, k1.2.2.2.2.1, k1.2.2.2.2.2.1, k1.2.2.2.2.2.2.1, by rw [if_pos trivial], fun h => absurd rfl h⟩
  · intro m hm'
    have hmA := (bwin m).mp hm'
    obtain ⟨x0, x1, x2, x3, x4, x5, x6, x7, x8, x9, x10⟩ := k3 m hmA
    by_cases e : m = n
    · subst e
      rw [a13 _ 0 (by omega), a13 _ 1 (by omega), a13 _ 2 (by omega), a13 _ 3 (by omega), a13 _ 4 (by omega), a13 _ 6 (by omega), a13 _ 7 (by omega), a13 _ 8 (by omega), a13 _ 10 (by omega), a135, a139, bS m 0 (by omega), bS m 1 (by omega), bS m 2 (by omega), bS m 3 (by omega), bS4, bS m 6 (by omega), bS m 7 (by omega), bR m 0 (by omega), bR1, bR m 2 (by omega)]
      exact ⟨x0, x1, x2, x3, x4, rfl, x6, x7, x8, rfl, x10⟩
    · simp only [hm13 m hmA e, bSm m e, bR m 0 (fun z => e z.1), bR m 1 (fun z => e z.1), bR m 2 (fun z => e z.1)]
      exact ⟨x0, x1, x2, x3, x4, x5, x6, x7, x8, x9, x10⟩
  · intro f' hf'
    rw [bH 3 (by omega) (by omega)] at hf'
    obtain ⟨x0, x1, x2, x3, x4, x5, x7, x8⟩ := k2 f' hf'
    rw [a7 f' 0 (by omega), a7 f' 1 (by omega), a7 f' 2 (by omega), a7 f' 3 (by omega), a7 f' 4 (by omega), a7 f' 5 (by omega), bF]
    refine ⟨x0, x1, x2, x3, x4, x5, ?_⟩
    by_cases e : f' = f
    · subst e
      rw [a70, a71, bX0, bX1]
      exact ⟨rfl, rfl⟩
    · rw [a7 f' 7 (fun z => e z.1), a7 f' 8 (fun z => e z.1), bXo f' 0 e, bXo f' 1 e]
      exact ⟨x7, x8⟩
  · intro f' hf'
    rw [a7 f' 2 (by omega)]
    exact k2b f' hf'
  · intro m k' hm' hk'
    have hmA := (bwin m).mp hm'
    rw [bS m 6 (by omega)] at hk'
    have hx := k4 m k' hmA hk'
    have hpm := ab_pc hW hmA
    rw [a2 3 (by omega) (by omega) (by omega) (by omega) (by omega) (by omega) (by omega) (by omega), a2 4 (by omega) (by omega) (by omega) (by omega) (by omega) (by omega) (by omega) (by omega), bPo m k' 0 (by omega), bPo m k' 1 (by omega), bS m 7 (by omega)]
    refine ⟨hx.1, hx.2.1, ?_⟩
    by_cases e : m = n ∧ k' = k
    · obtain ⟨rfl, rfl⟩ := e
      rw [a6, bP2]
    · rw [a5 _ (fun q => e (ti_apart hmA hw (by omega) hk20 q)), bPo m k' 2 (fun z => e ⟨z.1, z.2.1⟩)]
      exact hx.2.2
  · simp only [ab_C5, bH 9 (by omega) (by omega), bL, a2 6 (by omega) (by omega) (by omega) (by omega) (by omega) (by omega) (by omega) (by omega), a2 7 (by omega) (by omega) (by omega) (by omega) (by omega) (by omega) (by omega) (by omega)]
    exact k5
  · refine ⟨by rw [bH10]; exact a8, fun j hj hj2 => ?_⟩
    rw [bH10] at hj2 ⊢
    rcases j with _ | j
    · rw [show aH A 10 + 1 - 1 - 0 = aH A 10 by omega, bD0, bD1]
      exact ⟨a90, a91⟩
    · have hx := k6.2 j (by omega) (by omega)
      rw [show aH A 10 + 1 - 1 - (j + 1) = aH A 10 - 1 - j by omega, bDs, bDs]
      have hne : (aH A 10 - 1 - j) % 20 ≠ aH A 10 % 20 := by omega
      rw [(a9 _ hne).1, (a9 _ hne).2]
      exact hx
  · intro x hx
    by_cases e : x = 2
    · subst e
      rw [a112, bC2]
    · rw [a11 x e, bCo x e]
      exact k7 x hx
  · intro f' hf'
    rw [bH 3 (by omega) (by omega)] at hf'
    have e : ab_nx B f' = ab_nx A f' := by
      show ab_ns B f' (aF B f' 0) (aH B 5 - aH B 6) = ab_ns A f' (aF A f' 0) (aH A 5 - aH A 6)
      rw [bF, bH 5 (by omega) (by omega), bH 6 (by omega) (by omega), hns]
    rw [a7 f' 6 (by omega), e]
    exact ct1 f' hf'
  · intro m k' hm' h1 h2 h3 h5
    by_cases e : m = n
    · subst e
      rw [bS4] at h2
      exact absurd h2 (by decide)
    · rw [bSm m e] at h2 h3 h5
      rw [bH 6 (by omega) (by omega)] at h1
      have e : ab_de B m k' = ab_de A m k' := by
        show ab_dp B (aF B (aS B m 0) 0) m k' = ab_dp A (aF A (aS A m 0) 0) m k'
        rw [bF, bSm m e]
        exact dp_eq (A := A) (A' := B) (bH 6 (by omega) (by omega)) (bSm m e) (hns _ _ _)
      rw [a2 3 (by omega) (by omega) (by omega) (by omega) (by omega) (by omega) (by omega) (by omega), e]
      exact ct2 m k' ((bwin m).mp hm') h1 h2 h3 h5

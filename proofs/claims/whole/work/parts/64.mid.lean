/-! A piece is gone, its send goes on. -/
def go_A1 (A : ab_A) (n k f : Nat) : ab_A := sX (sP (sH A (u1 (aH A) 11 0)) (u3 (aP A) n k 2 (nI (aH A 4)))) (u2 (aX A) f 0 (aX A f 0 + nI (ab_sz A n k - 12)))
theorem go_mid {σ τ : en_M} {g t n k f : Nat} {A : ab_A} (hC : ab_CR σ g A) (hM : ab_MR (τ 25 0 0) A) (hW : ab_W A t) (h11 : aH A 11 ≠ 0) (h7 : aH A 7 = 0) (hR1 : aH A 6 < aH A 5 → aS A (aH A 6) 4 ≤ 1) (hlog : ∀ row, row < aH A 9 → aL A row 5 < aH A 4) (hn : aH A 8 = n) (hk : aS A n 7 = k + 1) (hf : aS A n 0 = f) (hl : ¬ aS A n 6 ≤ k + 1) : ∃ σ1 τ1, k_cd_letGo g σ = some σ1 ∧ k_mm_isGone τ = some τ1 ∧ ab_PR σ1 g (τ1 25 0 0) (go_A1 A n k f) t ∧ en_fr [(25, 0)] τ τ1 := by
  obtain ⟨s, a1, a2, a3, a4, a5, a6, a7, a8⟩ := go_cls hC hW h11 hn hk hf
  obtain ⟨r, b1, b2, b3, b4, b5⟩ := go_mod hM hW h11 hn hk hf
  rw [if_neg hl] at a1 b1
  refine ⟨s, r, a1, b1, ?_, b5⟩
  have hN := ab_N hW
  obtain ⟨hR, hlt, h4, -⟩ := hW.2.2.2.2.1 h11
  rw [hn] at hR hlt h4
  have hw := ab_in_win hW hR hlt
  have hp := ab_pc hW hw
  have hm : ∀ n, n % 8 < 8 := fun n => Nat.mod_lt _ (by decide)
  have hm8 := hm n
  have hf3 := (hW.2.2.1 n hw).1
  rw [hf] at hf3
  have hk20 : k < 20 := by omega
  clear a1 b1 b5
  obtain ⟨B, hB⟩ : ∃ B, go_A1 A n k f = B := ⟨_, rfl⟩
  rw [hB]
  have bH : ∀ x, x ≠ 11 → aH B x = aH A x := fun x h => by
    rw [← hB]
    show u1 (aH A) 11 0 x = _
    rw [u1_n h]
  have bH11 : aH B 11 = 0 := by
    rw [← hB]
    show u1 (aH A) 11 0 11 = _
    rw [u1_s]
  have bS : aS B = aS A := by rw [← hB]; rfl
  have bF : aF B = aF A := by rw [← hB]; rfl
  have bC : aC B = aC A := by rw [← hB]; rfl
  have bL : aL B = aL A := by rw [← hB]; rfl
  have bD : aD B = aD A := by rw [← hB]; rfl
  have bR : aR B = aR A := by rw [← hB]; rfl
  have bPo : ∀ m k' w, ¬ (m = n ∧ k' = k ∧ w = 2) → aP B m k' w = aP A m k' w := fun m k' w h => by
    rw [← hB]
    show u3 (aP A) n k 2 _ m k' w = _
    rw [u3_n h]
  have bP2 : aP B n k 2 = nI (aH A 4) := by
    rw [← hB]
    show u3 (aP A) n k 2 (nI (aH A 4)) n k 2 = _
    rw [u3_s]
  have bXo : ∀ f' w, ¬ (f' = f ∧ w = 0) → aX B f' w = aX A f' w := fun f' w h => by
    rw [← hB]
    show u2 (aX A) f 0 _ f' w = _
    rw [u2_n h]
  have bX0 : aX B f 0 = aX A f 0 + nI (ab_sz A n k - 12) := by
    rw [← hB]
    show u2 (aX A) f 0 (aX A f 0 + nI (ab_sz A n k - 12)) f 0 = _
    rw [u2_s]
  have bwin : ∀ m, ab_win B m ↔ ab_win A m := fun m => by simp only [ab_win, bH 5 (by omega)]
  have hns : ∀ f' rt m, ab_ns B f' rt m = ab_ns A f' rt m := fun f' rt m => ns_eq (A := A) (A' := B) (bH 6 (by omega)) (by simp only [ab_in, bF]) m (fun _ _ _ => by rw [bS])
  have hWB : ab_W B t := by
    obtain ⟨w1, w2, w3, w4, w5, w6⟩ := hW
    refine ⟨?_, fun f' hf' => ?_, fun m hm' => ?_, fun m k' hm' hk' => ?_, fun h => absurd bH11 h, ?_⟩
    · simp only [ab_W1, bH 0 (by omega), bH 1 (by omega), bH 2 (by omega), bH 3 (by omega), bH 4 (by omega), bH 5 (by omega), bH 6 (by omega), bH 7 (by omega), bH 9 (by omega), bH 10 (by omega)]
      exact w1
    · rw [bH 3 (by omega)] at hf'
      rw [bF]
      exact w2 f' hf'
    · obtain ⟨x1, x2, x3, x4, x5, x6, x7, x8, x9, x10, x11, x12⟩ := w3 m ((bwin m).mp hm')
      rw [bS, bR, bH 3 (by omega), bH 4 (by omega), bH 6 (by omega)]
      refine ⟨x1, x2, x3, x4, x5, x6, x7, x8, x9, x10, x11, fun q1 q2 => ?_⟩
      have := (x12 q1 q2).2
      rw [hn] at this
      subst this
      omega
    · rw [bS] at hk' ⊢
      have hx := w4 m k' ((bwin m).mp hm') hk'
      rw [bH11, bH 4 (by omega), bPo m k' 1 (by omega)]
      refine ⟨fun q => ⟨(hx.1 q).1, fun z => absurd rfl z.1, fun _ => ?_⟩, fun q => ?_⟩
      · by_cases e : m = n ∧ k' = k
        · obtain ⟨rfl, rfl⟩ := e
          rw [bP2]
          exact ⟨_, Nat.le_refl _, rfl⟩
        · rw [bPo m k' 2 (by omega)]
          refine (hx.1 q).2.2 (fun z => e ⟨z.2.1.trans hn, ?_⟩)
          have := z.2.2
          rw [z.2.1, hn, hk] at this
          omega
      · rw [bPo m k' 2 (fun z => by
          obtain ⟨rfl, rfl, -⟩ := z
          omega)]
        exact hx.2 q
    · simp only [ab_W6, bL, bH 9 (by omega), bH 4 (by omega)]
      exact w6
  refine ⟨?_, ?_, hWB, ?_⟩
  · obtain ⟨⟨k1, k3, k2, k2b, k4, k5, k6, k7⟩, ct1, ct2⟩ := hC
    refine ⟨⟨?_, ?_, ?_, ?_, ?_, ?_, ?_, ?_⟩, ?_, ?_⟩
    · simp only [ab_C1, bH11, bH 0 (by omega), bH 1 (by omega), bH 2 (by omega), bH 3 (by omega), bH 4 (by omega), bH 5 (by omega), bH 6 (by omega), bH 7 (by omega), bH 8 (by omega), a4, a3 8 (by omega), a3 9 (by omega), a3 10 (by omega), a3 11 (by omega), a3 12 (by omega), a3 13 (by omega), a3 14 (by omega), a3 16 (by omega)]
      exact ⟨k1.1, k1.2.1, k1.2.2.1, k1.2.2.2.1, k1.2.2.2.2.1, k1.2.2.2.2.2.1, k1.2.2.2.2.2.2.1, by rw [if_pos trivial], fun h => absurd rfl h⟩
    · intro m hm'
      rw [a2 13 (by omega) (by omega) (by omega), bS, bR]
      exact k3 m ((bwin m).mp hm')
    · intro f' hf'
      rw [bH 3 (by omega)] at hf'
      obtain ⟨x0, x1, x2, x3, x4, x5, x7, x8⟩ := k2 f' hf'
      rw [a7 f' 0 (by omega), a7 f' 1 (by omega), a7 f' 2 (by omega), a7 f' 3 (by omega), a7 f' 4 (by omega), a7 f' 5 (by omega), a7 f' 8 (by omega), bF, bXo f' 1 (by omega)]
      refine ⟨x0, x1, x2, x3, x4, x5, ?_, x8⟩
      by_cases e : f' = f
      · subst e
        rw [a8, bX0]
      · rw [a7 f' 7 (by omega), bXo f' 0 (by omega)]
        exact x7
    · intro f' hf'
      rw [a7 f' 2 (by omega)]
      exact k2b f' hf'
    · intro m k' hm' hk'
      have hmA := (bwin m).mp hm'
      rw [bS] at hk' ⊢
      have hx := k4 m k' hmA hk'
      have hpm := ab_pc hW hmA
      rw [a2 3 (by omega) (by omega) (by omega), a2 4 (by omega) (by omega) (by omega), bPo m k' 0 (by omega), bPo m k' 1 (by omega)]
      refine ⟨hx.1, hx.2.1, ?_⟩
      by_cases e : m = n ∧ k' = k
      · obtain ⟨rfl, rfl⟩ := e
        rw [a6, bP2]
      · rw [a5 _ (fun q => e (ti_apart hmA hw (by omega) hk20 q)), bPo m k' 2 (by omega)]
        exact hx.2.2
    · simp only [ab_C5, bH 9 (by omega), bL, a2 6 (by omega) (by omega) (by omega), a2 7 (by omega) (by omega) (by omega)]
      exact k5
    · simp only [ab_C6, bH 10 (by omega), bD, a2 8 (by omega) (by omega) (by omega), a2 9 (by omega) (by omega) (by omega), a2 10 (by omega) (by omega) (by omega)]
      exact k6
    · simp only [ab_C7, bC, a2 11 (by omega) (by omega) (by omega)]
      exact k7
    · intro f' hf'
      rw [bH 3 (by omega)] at hf'
      have e : ab_nx B f' = ab_nx A f' := by
        show ab_ns B f' (aF B f' 0) (aH B 5 - aH B 6) = ab_ns A f' (aF A f' 0) (aH A 5 - aH A 6)
        rw [bF, bH 5 (by omega), bH 6 (by omega), hns]
      rw [a7 f' 6 (by omega), e]
      exact ct1 f' hf'
    · intro m k' hm' h1 h2 h3 h5
      rw [bS] at h2 h3 h5
      rw [bH 6 (by omega)] at h1
      have e : ab_de B m k' = ab_de A m k' := by
        show ab_dp B (aF B (aS B m 0) 0) m k' = ab_dp A (aF A (aS A m 0) 0) m k'
        rw [bF, bS]
        exact dp_eq (A := A) (A' := B) (bH 6 (by omega)) (by rw [bS]) (hns _ _ _)
      rw [a2 3 (by omega) (by omega) (by omega), e]
      exact ct2 m k' ((bwin m).mp hm') h1 h2 h3 h5
  · obtain ⟨m1, m2, m3, m4, m5, m6⟩ := hM
    have h9 := ab_l40 hW
    obtain ⟨x1, x2, x3, x4, x5, x6, x7, x8, x9, x10⟩ := m1
    have lo : ∀ x, x < 20 → r 25 0 0 x = τ 25 0 0 x := fun x hx => b2 x (by omega) (by omega)
    have hi : ∀ x, 618 ≤ x → r 25 0 0 x = τ 25 0 0 x := fun x hx => b2 x (by omega) (by omega)
    refine ⟨⟨fun x hx => by rw [lo x (by omega), bH x (by omega)]; exact x1 x hx, ?_⟩, fun f' hf' => ?_, fun m hm' => ?_, fun m k' hm' hk' => ?_, fun row c q1 q2 => ?_, fun x w q1 q2 q3 => ?_⟩
    · rw [lo 7 (by omega), lo 8 (by omega), lo 9 (by omega), lo 10 (by omega), lo 11 (by omega), lo 12 (by omega), lo 13 (by omega), lo 14 (by omega), lo 15 (by omega), lo 16 (by omega), lo 17 (by omega), lo 18 (by omega), lo 19 (by omega), bC, bH11, bH 7 (by omega), bH 9 (by omega), bH 10 (by omega)]
      exact ⟨x2, x3, x4, x5, x6, x7, x8, fun h => absurd rfl h, x10⟩
    · rw [bH 3 (by omega)] at hf'
      have hx := m2 f' hf'
      have hf6 : f' < 6 := by omega
      have yo : ∀ w, w < 9 → ¬ (f' = f ∧ w = 7) → r 25 0 0 (20 + 9 * f' + w) = τ 25 0 0 (20 + 9 * f' + w) := fun w q1 q2 => b2 _ (by omega) (by omega)
      rw [yo 5 (by omega) (by omega), yo 6 (by omega) (by omega), yo 8 (by omega) (by omega), bF, bXo f' 1 (by omega)]
      refine ⟨fun w hw' => by rw [yo w (by omega) (by omega)]; exact hx.1 w hw', hx.2.1, ?_, hx.2.2.2⟩
      by_cases e : f' = f
      · subst e
        rw [b4, bX0]
      · rw [yo 7 (by omega) (by omega), bXo f' 0 (by omega)]
        exact hx.2.2.1
    · have hx := m3 m ((bwin m).mp hm')
      have := hm m
      have yo : ∀ w, w < 8 → r 25 0 0 (74 + 68 * (m % 8) + w) = τ 25 0 0 (74 + 68 * (m % 8) + w) := fun w q1 => b2 _ (le_ix q1 hk20 (by omega)) (by omega)
      rw [bS, bR]
      exact ⟨fun w hw' => by rw [yo w (by omega)]; exact hx.1 w hw', fun w hw' => by rw [yo (5 + w) (by omega)]; exact hx.2 w hw'⟩
    · have hmA := (bwin m).mp hm'
      have hx := m4 m k' hmA hk'
      have := hm m
      have yo : ∀ w, w < 3 → ¬ (m % 8 = n % 8 ∧ k' = k ∧ w = 2) → r 25 0 0 (74 + 68 * (m % 8) + (8 + 3 * k' + w)) = τ 25 0 0 (74 + 68 * (m % 8) + (8 + 3 * k' + w)) := fun w q1 q2 => b2 _ (le_ix2 hk20 hk' q1 (by omega) q2) (by omega)
      have y0 := yo 0 (by omega) (by omega)
      rw [Nat.add_zero] at y0
      rw [yo 1 (by omega) (by omega), y0, bS, bPo m k' 0 (by omega), bPo m k' 1 (by omega)]
      refine ⟨fun q => ⟨(hx.1 q).1, ?_⟩, hx.2⟩
      by_cases e : m = n ∧ k' = k
      · obtain ⟨rfl, rfl⟩ := e
        rw [b3, bP2]
      · rw [yo 2 (by omega) (fun q => e ⟨(ti_apart hmA hw (k := 0) (k' := 0) (by omega) (by omega) (by omega)).1, q.2.1⟩), bPo m k' 2 (by omega)]
        exact (hx.1 q).2
    · rw [bH 9 (by omega)] at q1
      rw [hi _ (by omega), bL]
      exact m5 row c q1 q2
    · rw [bH 10 (by omega)] at q2 ⊢
      rw [hi _ (by omega), bD]
      exact m6 x w q1 q2 q3
  · refine ⟨?_, ⟨fun _ => ?_, fun _ => bH11⟩, ?_⟩
    · rw [bH 6 (by omega), bH 5 (by omega), bS]
      exact hR1
    · rw [bH 7 (by omega)]
      exact h7
    · rw [bH 9 (by omega), bL, bH 4 (by omega)]
      exact hlog

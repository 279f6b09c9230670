/-! On paper: when a send would be done. -/
section pen
variable {t : Nat} {A : ab_A}
theorem gr_m1 {v : Nat} (hv : v < 2 ^ 31) : k_mm_greater (-1) (nI v) = nI v := by
  rw [k_mm_greater, if_pos]
  rw [Int32.le_iff_toInt_le, nI_toInt hv]
  have : ((-1 : Int32)).toInt = -1 := rfl
  omega
theorem eo_some (hW : ab_W A t) {s : en_M} (hM : ab_MR (s 25 0 0) A) {n H : Nat} (hw : ab_win A n) (hH : H < 2 ^ 30) (h1 : 1 ≤ aS A n 6) (hg : ∀ k, k < aS A n 6 → ∃ v, v ≤ H ∧ s 33 0 0 (20 * (n % 8) + k) = nI v) (hl : s 33 0 0 (20 * (n % 8) + (aS A n 6 - 1)) = nI H) : ∀ d k F (v2 : Int32), k + d + 1 = aS A n 6 → d + 1 < F → (v2 = -1 ∨ ∃ m, m ≤ H ∧ v2 = nI m) → k_mm_endOf_4 F (nI n) v2 (nI k) s = some (.inr (nI H)) := by
  have hp := (ab_pc hW hw).1
  have hN := ab_N hW
  have hn := hw.1
  have hm8 : n % 8 < 8 := Nat.mod_lt _ (by decide)
  intro d
  induction d with
  | zero =>
    intro k F v2 e hF hv
    obtain ⟨F, rfl⟩ : ∃ q, F = q + 1 + 1 := ⟨F - 2, by omega⟩
    have e2 : k_mm_greater v2 (nI H) = nI H := by
      rcases hv with rfl | ⟨m, m1, rfl⟩
      · exact gr_m1 (by omega)
      · rw [nu_gr (by omega) (by omega), Nat.max_eq_right m1]
    rw [k_mm_endOf_4, mo_pcs hM hW hw, pu_b1, it_le (by omega) (by omega), if_neg (by omega), mo_pl (by omega), pu_rd (by omega) (by decide), pu_b1, show k = aS A n 6 - 1 by omega, hl, it_m1 (by omega), e2, nI_1, k_mm_endOf_4, mo_pcs hM hW hw, pu_b1, it_le (by omega) (by omega), if_pos (by omega)]
  | succ d ih =>
    intro k F v2 e hF hv
    obtain ⟨F, rfl⟩ : ∃ q, F = q + 1 := ⟨F - 1, by omega⟩
    obtain ⟨v, v1, v3⟩ := hg k (by omega)
    rw [k_mm_endOf_4, mo_pcs hM hW hw, pu_b1, it_le (by omega) (by omega), if_neg (by omega), mo_pl (by omega), pu_rd (by omega) (by decide), pu_b1, v3, it_m1 (by omega), nI_1]
    refine ih (k + 1) F _ (by omega) (by omega) (Or.inr ?_)
    rcases hv with rfl | ⟨m, m1, rfl⟩
    · exact ⟨v, v1, gr_m1 (by omega)⟩
    · exact ⟨max m v, by omega, nu_gr (by omega) (by omega)⟩
theorem eo_none (hW : ab_W A t) {s : en_M} (hM : ab_MR (s 25 0 0) A) {n k0 : Nat} (hw : ab_win A n) (h0 : k0 < aS A n 6) (hg : ∀ k, k < aS A n 6 → s 33 0 0 (20 * (n % 8) + k) = -1 ∨ ∃ v, v < 2 ^ 30 ∧ s 33 0 0 (20 * (n % 8) + k) = nI v) (hl : s 33 0 0 (20 * (n % 8) + k0) = -1) : ∀ d k F (v2 : Int32), k + d = k0 → d < F → k_mm_endOf_4 F (nI n) v2 (nI k) s = some (.inl (-1)) := by
  have hp := (ab_pc hW hw).1
  have hN := ab_N hW
  have hn := hw.1
  have hm8 : n % 8 < 8 := Nat.mod_lt _ (by decide)
  intro d
  induction d with
  | zero =>
    intro k F v2 e hF
    obtain ⟨F, rfl⟩ : ∃ q, F = q + 1 := ⟨F - 1, by omega⟩
    rw [k_mm_endOf_4, mo_pcs hM hW hw, pu_b1, it_le (by omega) (by omega), if_neg (by omega), mo_pl (by omega), pu_rd (by omega) (by decide), pu_b1, show k = k0 by omega, hl, if_pos rfl]
  | succ d ih =>
    intro k F v2 e hF
    obtain ⟨F, rfl⟩ : ∃ q, F = q + 1 := ⟨F - 1, by omega⟩
    rw [k_mm_endOf_4, mo_pcs hM hW hw, pu_b1, it_le (by omega) (by omega), if_neg (by omega), mo_pl (by omega), pu_rd (by omega) (by decide), pu_b1]
    rcases hg k (by omega) with q | ⟨v, v1, v3⟩
    · rw [q, if_pos rfl]
    · rw [v3, it_m1 (by omega), nI_1]
      exact ih (k + 1) F _ (by omega) (by omega)
/-- how a send that is seen ends on paper -/
def eo_P (A : ab_A) (c : Nat → Nat) (N n : Nat) (x : Int32) : Prop := (aS A n 7 = aS A n 6 ∧ x = pl_v (pl_f A c 0)) ∨ (aS A n 7 < aS A n 6 ∧ aF A (aS A n 0) 2 = 0 ∧ ∃ j, j < N ∧ c j = 64 * n + (aS A n 6 - 1) ∧ x = pl_v (pl_f A c (j + 1))) ∨ (aS A n 7 < aS A n 6 ∧ aF A (aS A n 0) 2 ≠ 0 ∧ x = -1)
theorem eo_p1 (hW : ab_W A t) {n : Nat} (hw : ab_win A n) (h4 : aS A n 4 = 1) : 1 ≤ aS A n 6 := by
  obtain ⟨-, q1, q2, -, -, q5, -⟩ := hW.2.2.1 n hw
  rw [(q5 (Or.inl h4)).1]
  exact ab_up_pos q1.1 (by omega)
theorem eo_end (hW : ab_W A t) (hH : ab_WH A) {s : en_M} (hM : ab_MR (s 25 0 0) A) {c : Nat → Nat} {N n : Nat} (h : pl_A s A c N) (h6 : aH A 6 ≤ n) (h5 : n < aH A 5) (h4 : aS A n 4 = 1) : ∃ x, k_mm_endOf (nI n) s = some x ∧ eo_P A c N n x := by
  obtain ⟨hS, p2, p3, p4, p5⟩ := h
  have hN := ab_N hW
  have hw := ab_in_win hW h6 h5
  have hp := ab_pc hW hw
  have h1 := eo_p1 hW hw h4
  have hf0 : pl_f A c 0 = aH A 4 + aH A 7 := rfl
  have w7 : aH A 7 ≤ 112 := hW.1.2.2.2.2.2.2.2.2.1
  -- pieces that left
  have low : ∀ k, k < aS A n 7 → s 33 0 0 (20 * (n % 8) + k) = pl_v (pl_f A c 0) ∨ ∃ v, v ≤ aH A 4 ∧ s 33 0 0 (20 * (n % 8) + k) = nI v := fun k hk => by
    rw [p5 n k h6 h5 (by omega) (fun i hi q => by
      have := (hS.1 i hi).2.2.2.2.1
      obtain ⟨e1, e2⟩ := pq_code (n := n) (k := k) (by omega)
      rw [q, e1, e2] at this
      omega)]
    obtain ⟨-, y2, y3⟩ := (hW.2.2.2.1 n k hw (Or.inl (by omega))).1 hk
    by_cases q : aH A 11 ≠ 0 ∧ n = aH A 8 ∧ k + 1 = aS A n 7
    · rw [if_pos q]
      exact Or.inl rfl
    · rw [if_neg q]
      exact Or.inr (y3 q)
  have done : ∀ {r : Int32 ⊕ Int32} {x : Int32}, k_mm_endOf_4 en_fu (nI n) (-1) 0 s = some r → (r = .inl x ∨ r = .inr x) → k_mm_endOf (nI n) s = some x := fun {r x} q1 q2 => by
    rw [k_mm_endOf, q1]
    rcases q2 with rfl | rfl
    · rfl
    · rfl
  have some_ : ∀ {H : Nat}, H < 2 ^ 30 → (∀ k, k < aS A n 6 → ∃ v, v ≤ H ∧ s 33 0 0 (20 * (n % 8) + k) = nI v) → s 33 0 0 (20 * (n % 8) + (aS A n 6 - 1)) = nI H → k_mm_endOf (nI n) s = some (nI H) := fun {H} q1 q2 q3 => done (eo_some hW hM hw q1 h1 q2 q3 (aS A n 6 - 1) 0 en_fu (-1) (by omega) (by rw [en_fu]; omega) (Or.inl rfl)) (Or.inr rfl)
  have none_ : ∀ {k0 : Nat}, k0 < aS A n 6 → (∀ k, k < aS A n 6 → s 33 0 0 (20 * (n % 8) + k) = -1 ∨ ∃ v, v < 2 ^ 30 ∧ s 33 0 0 (20 * (n % 8) + k) = nI v) → s 33 0 0 (20 * (n % 8) + k0) = -1 → k_mm_endOf (nI n) s = some (-1) := fun {k0} q1 q2 q3 => done (eo_none hW hM hw q1 q2 q3 k0 0 en_fu (-1) (by omega) (by rw [en_fu]; omega)) (Or.inl rfl)
  have vlow : ∀ k, k < aS A n 7 → s 33 0 0 (20 * (n % 8) + k) = -1 ∨ ∃ v, v < 2 ^ 30 ∧ s 33 0 0 (20 * (n % 8) + k) = nI v := fun k hk => by
    rcases low k hk with q | ⟨v, v1, v2⟩
    · rw [q, pl_v]
      by_cases z : pl_f A c 0 ≤ 9999
      · rw [if_pos z]
        exact Or.inr ⟨_, by omega, rfl⟩
      · rw [if_neg z]
        exact Or.inl rfl
    · exact Or.inr ⟨v, by omega, v2⟩
  by_cases c7 : aS A n 7 = aS A n 6
  · obtain ⟨g1, g2⟩ := (hW.2.2.1 n hw).2.2.2.2.2.2.2.2.2.2.2 h4 c7
    have last : s 33 0 0 (20 * (n % 8) + (aS A n 6 - 1)) = pl_v (pl_f A c 0) := by
      rw [p5 n _ h6 h5 (by omega) (fun i hi q => by
        have := (hS.1 i hi).2.2.2.2.1
        obtain ⟨e1, e2⟩ := pq_code (n := n) (k := aS A n 6 - 1) (by omega)
        rw [q, e1, e2] at this
        omega), if_pos ⟨g1, g2.symm, by omega⟩, hf0]
    refine ⟨pl_v (pl_f A c 0), ?_, Or.inl ⟨c7, rfl⟩⟩
    by_cases z : pl_f A c 0 ≤ 9999
    · rw [pl_v, if_pos z] at last ⊢
      refine some_ (by omega) (fun k hk => ?_) last
      rcases low k (by omega) with q | ⟨v, v1, v2⟩
      · rw [pl_v, if_pos z] at q
        exact ⟨_, Nat.le_refl _, q⟩
      · exact ⟨v, by omega, v2⟩
    · rw [pl_v, if_neg z] at last ⊢
      exact none_ (by omega) (fun k hk => vlow k (by omega)) last
  · by_cases hz : aF A (aS A n 0) 2 = 0
    · have hin : ∀ k, aS A n 7 ≤ k → k < aS A n 6 → pq_in A (64 * n + k) := fun k q1 q2 => by
        obtain ⟨e1, e2⟩ := pq_code (n := n) (k := k) (by omega)
        rw [pq_in, e1, e2]
        exact ⟨h6, h5, h4, hz, q1, q2⟩
      obtain ⟨jl, jl1, jl2⟩ := hS.2.2.1 _ (hin (aS A n 6 - 1) (by omega) (by omega))
      have high : ∀ k, aS A n 7 ≤ k → k < aS A n 6 → ∃ i, i ≤ jl ∧ s 33 0 0 (20 * (n % 8) + k) = pl_v (pl_f A c (i + 1)) := fun k q1 q2 => by
        obtain ⟨i, i1, i2⟩ := hS.2.2.1 _ (hin k q1 q2)
        obtain ⟨e1, e2⟩ := pq_code (n := n) (k := k) (by omega)
        obtain ⟨e3, e4⟩ := pq_code (n := n) (k := aS A n 6 - 1) (by omega)
        have hv := (p4 i i1).2
        rw [i2, e1, e2] at hv
        refine ⟨i, ?_, hv⟩
        by_cases e : k = aS A n 6 - 1
        · rw [e, ← jl2] at i2
          apply Decidable.byContradiction
          intro z
          have := hS.2.1 jl i (by omega) i1
          rw [i2, pq_lt] at this
          omega
        · have hl : pq_lt A (c i) (c jl) := by
            have hD : pq_D A (c i) ≤ pq_D A (c jl) := by
              rw [i2, jl2, pq_D, pq_D, e1, e2, e3, e4, ab_de, ab_de]
              exact rd_dp_k (by omega)
            rw [pq_lt]
            omega
          exact Nat.le_of_lt (pq_ix hS i1 jl1 hl)
      obtain ⟨l1, l2, l3, l4, l5⟩ := pl_s_le hW hS jl1
      have last : s 33 0 0 (20 * (n % 8) + (aS A n 6 - 1)) = pl_v (pl_f A c (jl + 1)) := by
        have hv := (p4 jl jl1).2
        obtain ⟨e3, e4⟩ := pq_code (n := n) (k := aS A n 6 - 1) (by omega)
        rw [jl2, e3, e4] at hv
        exact hv
      refine ⟨pl_v (pl_f A c (jl + 1)), ?_, Or.inr (Or.inl ⟨by omega, hz, jl, jl1, jl2, rfl⟩)⟩
      have m0 := pl_mono' hW hS (show 0 ≤ jl + 1 by omega) (by omega)
      by_cases z : pl_f A c (jl + 1) ≤ 9999
      · rw [pl_v, if_pos z] at last ⊢
        refine some_ (by omega) (fun k hk => ?_) last
        by_cases q : k < aS A n 7
        · rcases low k q with q | ⟨v, v1, v2⟩
          · rw [pl_v, if_pos (by omega)] at q
            exact ⟨_, by omega, q⟩
          · exact ⟨v, by omega, v2⟩
        · obtain ⟨i, i1, i2⟩ := high k (by omega) hk
          have := pl_mono' hW hS (show i + 1 ≤ jl + 1 by omega) (by omega)
          rw [pl_v, if_pos (by omega)] at i2
          exact ⟨_, this, i2⟩
      · rw [pl_v, if_neg z] at last ⊢
        refine none_ (k0 := aS A n 6 - 1) (by omega) (fun k hk => ?_) last
        by_cases q : k < aS A n 7
        · exact vlow k q
        · obtain ⟨i, i1, i2⟩ := high k (by omega) hk
          have := pl_mono' hW hS (show i + 1 ≤ jl + 1 by omega) (by omega)
          rw [i2, pl_v]
          by_cases z2 : pl_f A c (i + 1) ≤ 9999
          · rw [if_pos z2]
            exact Or.inr ⟨_, by omega, rfl⟩
          · rw [if_neg z2]
            exact Or.inl rfl
    · have high : ∀ k, aS A n 7 ≤ k → k < aS A n 6 → s 33 0 0 (20 * (n % 8) + k) = -1 := fun k q1 q2 => by
        rw [p5 n k h6 h5 q2 (fun i hi q => by
          have := (hS.1 i hi).2.2.2.1
          obtain ⟨e1, e2⟩ := pq_code (n := n) (k := k) (by omega)
          rw [q, e1] at this
          exact hz this), if_neg (fun z => by have := z.2.2; omega)]
        exact ((hW.2.2.2.1 n k hw (Or.inl q2)).2 q1).2
      refine ⟨-1, none_ (k0 := aS A n 7) (by omega) (fun k hk => ?_) (high _ (Nat.le_refl _) (by omega)), Or.inr (Or.inr ⟨by omega, hz, rfl⟩)⟩
      by_cases q : k < aS A n 7
      · exact vlow k q
      · exact Or.inl (high k (by omega) hk)
/-- the class runs to the last piece of a send -/
theorem re_15 (hW : ab_W A t) {c : Nat → Nat} {N n Lm jl : Nat} (hS : pq_S A c N) (hw : ab_win A n) (hL : Lm ≤ 9999) (hjl : jl < N) (hc : c jl = 64 * n + (aS A n 6 - 1)) (h1 : 1 ≤ aS A n 6) : ∀ d j F (σ : en_M), j + d = jl → d < F → pc_S σ A c j → ∃ s, (∀ j, j ≠ 17 → j ≠ 18 → s j = σ j) ∧ (k_pp_runToEnd_15 F 0 0 (n % 8) (nI Lm) (nI j) σ = some (.inl (nI (pl_f A c (jl + 1)), s)) ∨ (k_pp_runToEnd_15 F 0 0 (n % 8) (nI Lm) (nI j) σ = some (.inr s) ∧ Lm < pl_f A c (jl + 1))) := by
  have hN := hS.2.2.2
  have hNN := ab_N hW
  have hn := hw.1
  have h20 := (ab_pc hW hw).1
  obtain ⟨e3, e4⟩ := pq_code (n := n) (k := aS A n 6 - 1) (by omega)
  intro d
  induction d with
  | zero =>
    intro j F σ e hF h
    obtain ⟨F, rfl⟩ : ∃ q, F = q + 1 := ⟨F - 1, by omega⟩
    have hj : j = jl := by omega
    subst hj
    obtain ⟨l1, l2, l3, l4, l5⟩ := pl_s_le hW hS hjl
    rw [k_pp_runToEnd_15, itx_le (a := 160) (b := j) (x := 160) rfl rfl (by decide) (by omega), if_neg (by omega), h.2.1, it_le (by omega) (by omega)]
    by_cases q : Lm ≤ pl_f A c j
    · rw [if_pos q]
      exact ⟨σ, fun _ _ _ => rfl, Or.inr ⟨rfl, by omega⟩⟩
    · rw [if_neg q]
      rcases pc_step hW hS (show j ≤ N by omega) h with ⟨q1, q2, s, s1, s2, s3, s4, s5, s6, s7⟩ | ⟨q1, q2⟩
      · rw [hc, e4, e3, if_pos (by omega)] at s6
        rw [hc, e3] at s3
        have e13 : s 13 0 (n % 8) 0 = nI n := by rw [s7 13 (by decide) (by decide)]; exact (h.1.1.2 n hw).1
        rw [s1, pu_b2, if_neg (show ¬ (1 : Int32) = 0 by decide), s6, if_neg (show ¬ (1 : Int32) = 0 by decide), s3, e13, if_pos rfl, s2.2.1]
        exact ⟨s, s7, Or.inl rfl⟩
      · have := q1 hjl
        rw [q2, pu_b2, if_pos rfl]
        exact ⟨σ, fun _ _ _ => rfl, Or.inr ⟨rfl, by omega⟩⟩
  | succ d ih =>
    intro j F σ e hF h
    obtain ⟨F, rfl⟩ : ∃ q, F = q + 1 := ⟨F - 1, by omega⟩
    obtain ⟨l1, l2, l3, l4, l5⟩ := pl_s_le hW hS (j := j) (by omega)
    have hmo := pl_mono' hW hS (show j + 1 ≤ jl + 1 by omega) (by omega)
    have hle := pl_le hW hS (jl + 1) (by omega)
    rw [k_pp_runToEnd_15, itx_le (a := 160) (b := j) (x := 160) rfl rfl (by decide) (by omega), if_neg (by omega), h.2.1, it_le (by omega) (by omega)]
    by_cases q : Lm ≤ pl_f A c j
    · rw [if_pos q]
      exact ⟨σ, fun _ _ _ => rfl, Or.inr ⟨rfl, by omega⟩⟩
    · rw [if_neg q]
      rcases pc_step hW hS (show j ≤ N by omega) h with ⟨q1, q2, s, s1, s2, s3, s4, s5, s6, s7⟩ | ⟨q1, q2⟩
      · have hin := hS.1 j q1
        obtain ⟨b1, b2, b3, b4, b5⟩ := pq_bd hW hin
        have e13 : s 13 0 (n % 8) 0 = nI n := by rw [s7 13 (by decide) (by decide)]; exact (h.1.1.2 n hw).1
        obtain ⟨s', r1, r2⟩ := ih (j + 1) F s (by omega) (by omega) s2
        have out : ∃ s'', (∀ j, j ≠ 17 → j ≠ 18 → s'' j = σ j) ∧ (k_pp_runToEnd_15 F 0 0 (n % 8) (nI Lm) (nI (j + 1)) s = some (.inl (nI (pl_f A c (jl + 1)), s'')) ∨ (k_pp_runToEnd_15 F 0 0 (n % 8) (nI Lm) (nI (j + 1)) s = some (.inr s'') ∧ Lm < pl_f A c (jl + 1))) := ⟨s', fun j z1 z2 => by rw [r1 j z1 z2, s7 j z1 z2], r2⟩
        rw [s1, pu_b2, if_neg (show ¬ (1 : Int32) = 0 by decide), s6, s3, e13, it_eq (by omega) (by omega), nI_1]
        by_cases z : c j % 64 + 1 = aS A (c j / 64) 6
        · rw [if_pos z, if_neg (show ¬ (1 : Int32) = 0 by decide), if_neg]
          · exact out
          · intro z2
            rw [z2] at z
            have hcc : c j = c jl := by
              rw [hc]
              omega
            have := hS.2.1 j jl (by omega) hjl
            rw [hcc, pq_lt] at this
            omega
        · rw [if_neg z, if_pos rfl]
          exact out
      · have := q1 (by omega)
        rw [q2, pu_b2, if_pos rfl]
        exact ⟨σ, fun _ _ _ => rfl, Or.inr ⟨rfl, by omega⟩⟩
/-- .. which a send of a paused flow never comes to -/
theorem re_15p (hW : ab_W A t) {c : Nat → Nat} {N n Lm : Nat} (hS : pq_S A c N) (hw : ab_win A n) (hL : Lm ≤ 9999) (hz : aF A (aS A n 0) 2 ≠ 0) : ∀ d j F (σ : en_M), j + d = N → d < F → pc_S σ A c j → ∃ s, (∀ j, j ≠ 17 → j ≠ 18 → s j = σ j) ∧ k_pp_runToEnd_15 F 0 0 (n % 8) (nI Lm) (nI j) σ = some (.inr s) := by
  have hN := hS.2.2.2
  have hNN := ab_N hW
  have hn := hw.1
  intro d
  induction d with
  | zero =>
    intro j F σ e hF h
    obtain ⟨F, rfl⟩ : ∃ q, F = q + 1 := ⟨F - 1, by omega⟩
    rw [k_pp_runToEnd_15]
    rcases pc_step hW hS (show j ≤ N by omega) h with ⟨q1, -⟩ | ⟨-, q2⟩
    · omega
    · rw [q2, pu_b2, if_pos (show (0 : Int32) = 0 from rfl)]
      refine ⟨σ, fun _ _ _ => rfl, ?_⟩
      split
      · rfl
      · split <;> rfl
  | succ d ih =>
    intro j F σ e hF h
    obtain ⟨F, rfl⟩ : ∃ q, F = q + 1 := ⟨F - 1, by omega⟩
    obtain ⟨l1, l2, l3, l4, l5⟩ := pl_s_le hW hS (j := j) (by omega)
    rw [k_pp_runToEnd_15, itx_le (a := 160) (b := j) (x := 160) rfl rfl (by decide) (by omega), if_neg (by omega), h.2.1, it_le (by omega) (by omega)]
    by_cases q : Lm ≤ pl_f A c j
    · rw [if_pos q]
      exact ⟨σ, fun _ _ _ => rfl, rfl⟩
    · rw [if_neg q]
      rcases pc_step hW hS (show j ≤ N by omega) h with ⟨q1, q2, s, s1, s2, s3, s4, s5, s6, s7⟩ | ⟨q1, q2⟩
      · have hin := hS.1 j q1
        obtain ⟨b1, b2, b3, b4, b5⟩ := pq_bd hW hin
        have e13 : s 13 0 (n % 8) 0 = nI n := by rw [s7 13 (by decide) (by decide)]; exact (h.1.1.2 n hw).1
        obtain ⟨s', r1, r2⟩ := ih (j + 1) F s (by omega) (by omega) s2
        rw [s1, pu_b2, if_neg (show ¬ (1 : Int32) = 0 by decide), s6, s3, e13, it_eq (by omega) (by omega), nI_1, if_neg (show ¬ c j / 64 = n from fun z2 => hz (by have := hin.2.2.2.1; rw [z2] at this; exact this)), r2]
        refine ⟨s', fun j z1 z2 => by rw [r1 j z1 z2, s7 j z1 z2], ?_⟩
        split <;> rfl
      · rw [q2, pu_b2, if_pos rfl]
        exact ⟨σ, fun _ _ _ => rfl, rfl⟩
/-- when the class says a send would be done, if it is by a time -/
theorem re_end (hW : ab_W A t) {c : Nat → Nat} {N n Lm : Nat} {x : Int32} {σ : en_M} (hS : pq_S A c N) (h6 : aH A 6 ≤ n) (h5 : n < aH A 5) (h4 : aS A n 4 = 1) (hL : Lm ≤ 9999) (hx : eo_P A c N n x) (h : pc_S σ A c 0) : ∃ s v, k_pp_runToEnd 0 0 (n % 8) (nI Lm) σ = some (nI v, s) ∧ v ≤ 400000 ∧ (∀ j, j ≠ 17 → j ≠ 18 → s j = σ j) ∧ (v ≤ Lm → x = nI v) ∧ (Lm < v → x = -1 ∨ ∃ u, Lm < u ∧ u ≤ 9999 ∧ x = nI u) := by
  have hN := hS.2.2.2
  have hw := ab_in_win hW h6 h5
  have h1 := eo_p1 hW hw h4
  have h20 := (ab_pc hW hw).1
  rcases hx with ⟨c7, rfl⟩ | ⟨c7, hz, jl, jl1, jl2, rfl⟩ | ⟨c7, hz, rfl⟩
  · obtain ⟨g1, g2⟩ := (hW.2.2.1 n hw).2.2.2.2.2.2.2.2.2.2.2 h4 c7
    have e16 := h.1.1.1.2.2.2.2.2.2.2.2 g1
    have hf := pl_le hW hS 0 (by omega)
    have ew : k_sd_waits 0 (n % 8) σ = 0 := by rw [ac_waits h.1.1 hW hw, if_neg (by omega)]
    rw [k_pp_runToEnd, ew, if_pos rfl, e16]
    refine ⟨σ, pl_f A c 0, rfl, by omega, fun _ _ _ => rfl, fun q => by rw [pl_v, if_pos (by omega)], fun q => ?_⟩
    rw [pl_v]
    by_cases z : pl_f A c 0 ≤ 9999
    · rw [if_pos z]
      exact Or.inr ⟨_, q, z, rfl⟩
    · rw [if_neg z]
      exact Or.inl rfl
  · have hf := pl_le hW hS (jl + 1) (by omega)
    have ew : k_sd_waits 0 (n % 8) σ = 1 := by rw [ac_waits h.1.1 hW hw, if_pos ⟨h4, c7⟩]
    rw [k_pp_runToEnd, ew, if_neg (show ¬ (1 : Int32) = 0 by decide)]
    obtain ⟨s, r1, r2⟩ := re_15 hW hS hw hL jl1 jl2 h1 jl 0 en_fu σ (by omega) (by rw [en_fu]; omega) h
    rcases r2 with r2 | ⟨r2, r3⟩
    · rw [show k_pp_runToEnd_15 en_fu 0 0 (n % 8) (nI Lm) 0 σ = _ from r2, pu_rxl]
      refine ⟨s, pl_f A c (jl + 1), rfl, by omega, r1, fun q => by rw [pl_v, if_pos (by omega)], fun q => ?_⟩
      rw [pl_v]
      by_cases z : pl_f A c (jl + 1) ≤ 9999
      · rw [if_pos z]
        exact Or.inr ⟨_, q, z, rfl⟩
      · rw [if_neg z]
        exact Or.inl rfl
    · rw [show k_pp_runToEnd_15 en_fu 0 0 (n % 8) (nI Lm) 0 σ = _ from r2, pu_rxr]
      refine ⟨s, 10000, rfl, by omega, r1, fun q => by omega, fun q => ?_⟩
      rw [pl_v]
      by_cases z : pl_f A c (jl + 1) ≤ 9999
      · rw [if_pos z]
        exact Or.inr ⟨_, r3, z, rfl⟩
      · rw [if_neg z]
        exact Or.inl rfl
  · have ew : k_sd_waits 0 (n % 8) σ = 1 := by rw [ac_waits h.1.1 hW hw, if_pos ⟨h4, c7⟩]
    rw [k_pp_runToEnd, ew, if_neg (show ¬ (1 : Int32) = 0 by decide)]
    obtain ⟨s, r1, r2⟩ := re_15p hW hS hw hL hz N 0 en_fu σ (by omega) (by rw [en_fu]; omega) h
    rw [show k_pp_runToEnd_15 en_fu 0 0 (n % 8) (nI Lm) 0 σ = _ from r2, pu_rxr]
    exact ⟨s, 10000, rfl, by omega, r1, fun q => by omega, fun _ => Or.inl rfl⟩
end pen
theorem pb_ends {σ τ : en_M} {t : Nat} (h : Rel σ τ t) (v : Int32) : ∃ a x σ1 τ1, k_cc_ends v σ = some (a, σ1) ∧ k_mm_ends v τ = some (x, τ1) ∧ rl_A [(2, 1)] a x (τ1 24 0 0 0) ∧ Rel σ1 τ1 t := by
  obtain ⟨A, hA0⟩ := h.1
  rcases ac_known hA0.1.1.s hA0.2.1 hA0.2.2.1 v with ⟨n, rfl, hwin, -, n1, n2⟩ | ⟨n1, n2⟩
  · have n2' : ¬ k_mm_isKnown (nI n) τ = 0 := by rw [n2]; decide
    obtain ⟨s, s1, s2, s3, s4, -⟩ := q_set h
    have hA : ab_PR σ 0 (s 25 0 0) A t := by rw [← s1, pu_wr_j (by decide)]; exact hA0
    have hW := hA.2.2.1
    have hH := hA.2.2.2.2
    have d5 := (hA.1.1.2.1 n hwin).2.2.2.2.2.1
    have d9 := (hA.1.1.2.1 n hwin).2.2.2.2.2.2.2.2.2.1
    have q4 := (hW.2.2.1 n hwin).2.2.2.2.1
    have q10 := (hW.2.2.1 n hwin).2.2.2.2.2.2.2.2.2.1
    have q11 := (hW.2.2.1 n hwin).2.2.2.2.2.2.2.2.2.2.1
    rw [k_cc_ends, n1, pu_b1, k_mm_ends, if_neg n2', pu_let, s1, if_pos s3, mo_snd hA.2.1 hW (x := 4) (w := 4) rfl hwin (by decide), pu_b1, pu_b1, itx_eq (a := aS A n 4) (b := 2) (y := 2) rfl rfl (by omega) (by decide), itx_eq (a := aS A n 4) (b := 1) (y := 1) rfl rfl (by omega) (by decide), mo_raw hA.2.1 hW (x := 6) (w := 1) rfl hwin (by decide), pu_b1]
    simp only []
    rw [d5, itx_eq (a := aS A n 4) (b := 1) (y := 1) rfl rfl (by omega) (by decide), d9]
    by_cases h4 : aS A n 4 = 1
    · have h6 : aH A 6 ≤ n := by
        apply Decidable.byContradiction
        intro q
        have := q10 (by omega)
        omega
      obtain ⟨m, c, N, a1, a2, a3, a4⟩ := pl_all hW hH hA.2.1
      have hMm : ab_MR (m 25 0 0) A := by rw [a3 25 (by decide) (by decide)]; exact hA.2.1
      obtain ⟨p1, b1, b2, b3⟩ := pb_timed hW hH hA.1 c
      obtain ⟨x, e1, e2⟩ := eo_end hW hH hMm a2 h6 hwin.1 h4
      obtain ⟨s', u, r1, r2, r3, r4, r5⟩ := re_end hW (Lm := 9999) a2.1 h6 hwin.1 h4 (by omega) e2 b2
      have r1' : k_pp_runToEnd 0 0 (n % 8) 9999 p1 = some (nI u, s') := r1
      have R := rl_pp (σ1 := s') s4 (fun j z1 z2 z3 => by rw [r3 j z1 z2, b3 j z1 z2 z3]) a3 a4
      rw [if_pos h4, if_neg (by omega), if_pos h4, k_pp_endOf, b1, pu_b1, r1', pu_b2, a1, pu_b1, e1, pu_b1, itx_lt (a := 9999) (b := u) (x := 9999) rfl rfl (by decide) (by omega)]
      by_cases c9 : 9999 < u
      · have hx : x = -1 := by
          rcases r5 c9 with q | ⟨w, w1, w2, -⟩
          · exact q
          · omega
        rw [if_pos c9, pu_b2, hx]
        exact ⟨_, _, _, _, rfl, rfl, ⟨by rw [a4 0 (by decide), s2], rfl⟩, R⟩
      · rw [if_neg c9, pu_b2, r4 (by omega)]
        exact ⟨_, _, _, _, rfl, rfl, ⟨by rw [a4 0 (by decide), s2], rfl⟩, R⟩
    · rw [if_neg h4, if_neg h4]
      by_cases h2 : aS A n 4 = 2
      · rw [if_pos h2]
        exact ⟨_, _, _, _, rfl, rfl, ⟨s2, rfl⟩, s4⟩
      · rw [if_neg h2, q11 h2]
        exact ⟨_, _, _, _, rfl, rfl, ⟨s2, rfl⟩, s4⟩
  · obtain ⟨s, s1, s2, s3, s4⟩ := q_bad h (v := 1) (by decide)
    refine ⟨.inl 2, 0, σ, s, ?_, ?_, ?_, s4⟩
    · rw [k_cc_ends, n1, pu_b1]
    · rw [k_mm_ends, if_pos n2, pu_let, s1, if_neg s3]
    · show (_, _) ∈ _
      rw [s2]
      simp

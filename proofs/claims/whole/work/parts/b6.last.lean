/-! On paper: when the last send would be done. -/
def lo_n (A : ab_A) (c : Nat → Nat) (j : Nat) : Nat → Nat → Nat
  | 0, _ => 0
  | m + 1, n => (if aS A n 4 = 1 ∧ pc_v A c j n < aS A n 6 then 1 else 0) + lo_n A c j m (n + 1)
section pla
variable {t : Nat} {A : ab_A}
theorem lo_le (A : ab_A) (c : Nat → Nat) (j : Nat) : ∀ m n, lo_n A c j m n ≤ m := by
  intro m
  induction m with
  | zero => exact fun _ => Nat.le_refl _
  | succ m ih =>
    intro n
    have := ih (n + 1)
    simp only [lo_n]
    split <;> omega
theorem lo_zero {c : Nat → Nat} {j : Nat} : ∀ m n, lo_n A c j m n = 0 → ∀ q, n ≤ q → q < n + m → aS A q 4 = 1 → aS A q 6 ≤ pc_v A c j q := by
  intro m
  induction m with
  | zero => intro n _ q q1 q2; omega
  | succ m ih =>
    intro n h q q1 q2 q4
    rw [lo_n] at h
    by_cases e : q = n
    · subst e
      apply Decidable.byContradiction
      intro z
      rw [if_pos ⟨q4, by omega⟩] at h
      omega
    · exact ih (n + 1) (by omega) q (by omega) (by omega) q4
theorem lo_pos {c : Nat → Nat} {j : Nat} : ∀ m n, 0 < lo_n A c j m n → ∃ q, n ≤ q ∧ q < n + m ∧ aS A q 4 = 1 ∧ pc_v A c j q < aS A q 6 := by
  intro m
  induction m with
  | zero => intro n h; rw [lo_n] at h; omega
  | succ m ih =>
    intro n h
    rw [lo_n] at h
    by_cases e : aS A n 4 = 1 ∧ pc_v A c j n < aS A n 6
    · exact ⟨n, by omega, by omega, e⟩
    · rw [if_neg e] at h
      obtain ⟨q, q1, q2, q3⟩ := ih (n + 1) (by omega)
      exact ⟨q, by omega, by omega, q3⟩
/-- whether a number lies in a span -/
def lo_i (q m n : Nat) : Nat := if n ≤ q ∧ q < n + m then 1 else 0
theorem lo_i0 (q n : Nat) : lo_i q 0 n = 0 := by
  rw [lo_i, if_neg (by omega)]
theorem lo_is (q m n : Nat) : lo_i q (m + 1) n = (if n = q then 1 else 0) + lo_i q m (n + 1) := by
  rw [lo_i, lo_i]
  by_cases e : n = q
  · rw [if_pos (by omega), if_pos e, if_neg (by omega)]
  · rw [if_neg e]
    by_cases z : n ≤ q ∧ q < n + (m + 1)
    · rw [if_pos z, if_pos (by omega)]
    · rw [if_neg z, if_neg (by omega)]
/-- the send that the wire has the last piece of -/
def lo_h (A : ab_A) : Prop := aH A 11 ≠ 0 ∧ aS A (aH A 8) 7 = aS A (aH A 8) 6
theorem lo_ct (hW : ab_W A t) {c : Nat → Nat} (hh : lo_h A) : ∀ m n, aH A 6 ≤ n → n + m ≤ aH A 5 → ct_n A 1 m n = lo_n A c 0 m n + lo_i (aH A 8) m n := by
  obtain ⟨-, -, v3, -⟩ := hW.2.2.2.2.1 hh.1
  intro m
  induction m with
  | zero => intro n _ _; rw [lo_i0]; rfl
  | succ m ih =>
    intro n h6 h5
    have h1 := ih (n + 1) (by omega) (by omega)
    have hw := ab_in_win hW h6 (show n < aH A 5 by omega)
    have hp := ab_pc hW hw
    have hlast := (hW.2.2.1 n hw).2.2.2.2.2.2.2.2.2.2.2
    have ev : pc_v A c 0 n = aS A n 7 := rfl
    rw [ct_n, lo_n, lo_is, h1, ev]
    by_cases e : n = aH A 8
    · have h7 := hh.2
      rw [← e] at h7 v3
      rw [if_pos v3, if_neg (by omega), if_pos e]
      omega
    · rw [if_neg e]
      by_cases e4 : aS A n 4 = 1
      · have : aS A n 7 < aS A n 6 := by
          apply Decidable.byContradiction
          intro z
          exact e (hlast e4 (by omega)).2.symm
        rw [if_pos e4, if_pos ⟨e4, this⟩]
        omega
      · rw [if_neg e4, if_neg (fun z => e4 z.1)]
        omega
theorem lo_ct' (hW : ab_W A t) {c : Nat → Nat} (hh : ¬ lo_h A) : ∀ m n, aH A 6 ≤ n → n + m ≤ aH A 5 → ct_n A 1 m n = lo_n A c 0 m n := by
  intro m
  induction m with
  | zero => intro n _ _; rfl
  | succ m ih =>
    intro n h6 h5
    have h1 := ih (n + 1) (by omega) (by omega)
    have hw := ab_in_win hW h6 (show n < aH A 5 by omega)
    have hp := ab_pc hW hw
    have hlast := (hW.2.2.1 n hw).2.2.2.2.2.2.2.2.2.2.2
    have ev : pc_v A c 0 n = aS A n 7 := rfl
    rw [ct_n, lo_n, h1, ev]
    by_cases e4 : aS A n 4 = 1
    · have : aS A n 7 < aS A n 6 := by
        apply Decidable.byContradiction
        intro z
        have z7 : aS A n 7 = aS A n 6 := by omega
        obtain ⟨g1, g2⟩ := hlast e4 z7
        exact hh ⟨g1, by rw [g2]; exact z7⟩
      rw [if_pos e4, if_pos ⟨e4, this⟩]
    · rw [if_neg e4, if_neg (fun z => e4 z.1)]
theorem lo_step (hW : ab_W A t) {c : Nat → Nat} {N j : Nat} (hS : pq_S A c N) (hj : j < N) : ∀ m n, lo_n A c j m n = lo_n A c (j + 1) m n + (if c j % 64 + 1 = aS A (c j / 64) 6 then lo_i (c j / 64) m n else 0) := by
  have hin := hS.1 j hj
  have hh := pc_head hW hS hj (pc_inv hW hS j (by omega))
  have h6 := hin.2.2.2.2.2
  have h4 := hin.2.2.1
  intro m
  induction m with
  | zero =>
    intro n
    rw [lo_i0]
    split <;> rfl
  | succ m ih =>
    intro n
    rw [lo_n, lo_n, ih (n + 1), lo_is, pc_v]
    by_cases e : c j / 64 = n
    · rw [if_pos e]
      rw [e] at hh h6 h4 ⊢
      rw [if_pos (show aS A n 4 = 1 ∧ pc_v A c j n < aS A n 6 from ⟨h4, by omega⟩), if_pos (show n = n from rfl)]
      by_cases z : c j % 64 + 1 = aS A n 6
      · rw [if_pos z, if_pos z, if_neg (by omega)]
        omega
      · rw [if_neg z, if_neg z, if_pos ⟨h4, by omega⟩]
        omega
    · rw [if_neg e, if_neg (fun z : n = c j / 64 => e z.symm)]
      split <;> split <;> omega
/-- all of the ring -/
def lo_a (A : ab_A) (c : Nat → Nat) (j : Nat) : Nat := lo_n A c j (aH A 5 - aH A 6) (aH A 6)
theorem lo_stepa (hW : ab_W A t) {c : Nat → Nat} {N j : Nat} (hS : pq_S A c N) (hj : j < N) : lo_a A c j = lo_a A c (j + 1) + (if c j % 64 + 1 = aS A (c j / 64) 6 then 1 else 0) := by
  have hin := hS.1 j hj
  rw [lo_a, lo_a, lo_step hW hS hj, lo_i, if_pos (show aH A 6 ≤ c j / 64 ∧ c j / 64 < aH A 6 + (aH A 5 - aH A 6) by have := hin.1; have := hin.2.1; omega)]
theorem lo_some (hW : ab_W A t) {c : Nat → Nat} {N j : Nat} (hS : pq_S A c N) (hj : j < N) : 0 < lo_a A c j := by
  apply Decidable.byContradiction
  intro z
  have hin := hS.1 j hj
  have hh := pc_head hW hS hj (pc_inv hW hS j (by omega))
  have h1 := hin.1
  have h2 := hin.2.1
  have := lo_zero (A := A) (c := c) (j := j) _ _ (show lo_n A c j (aH A 5 - aH A 6) (aH A 6) = 0 by rw [lo_a] at z; omega) (c j / 64) h1 (by omega) hin.2.2.1
  have := hin.2.2.2.2.2
  omega
theorem la_50 (hW : ab_W A t) {c : Nat → Nat} {N : Nat} (hS : pq_S A c N) : ∀ d j F (σ : en_M) (e0 : Nat), j + d = N → d + 1 < F → pc_S σ A c j → ∃ s o e, k_pp_lastEnd_50 F 0 (nI (lo_a A c j)) (nI e0) (nI j) σ = some (nI o, nI e, s) ∧ o ≤ 8 ∧ (∀ j, j ≠ 17 → j ≠ 18 → s j = σ j) ∧ ((o = 0 ∧ lo_a A c j = 0 ∧ e = e0) ∨ (o = 0 ∧ 0 < lo_a A c j ∧ lo_a A c N = 0 ∧ e = pl_f A c N) ∨ (0 < o ∧ (0 < lo_a A c N ∨ ∃ i, i < N ∧ 9999 ≤ pl_s A c i))) := by
  have hN := hS.2.2.2
  have hNN := ab_N hW
  have l8 : ∀ j, lo_a A c j ≤ 8 := fun j => by
    have := lo_le A c j (aH A 5 - aH A 6) (aH A 6)
    rw [lo_a]
    omega
  intro d
  induction d with
  | zero =>
    intro j F σ e0 e hF h
    obtain ⟨F, rfl⟩ : ∃ q, F = q + 1 := ⟨F - 1, by omega⟩
    have hj : j = N := by omega
    subst hj
    have := l8 j
    rw [k_pp_lastEnd_50, itx_le (a := lo_a A c j) (b := 0) (y := 0) rfl rfl (by omega) (by decide)]
    rcases pc_step hW hS (Nat.le_refl j) h with ⟨q1, -⟩ | ⟨-, q2⟩
    · omega
    · rw [q2, pu_b2, if_pos (show (0 : Int32) = 0 from rfl)]
      refine ⟨σ, lo_a A c j, e0, ?_, this, fun _ _ _ => rfl, ?_⟩
      · split
        · rfl
        · split <;> rfl
      · by_cases z : lo_a A c j = 0
        · exact Or.inl ⟨z, z, rfl⟩
        · exact Or.inr (Or.inr ⟨by omega, Or.inl (by omega)⟩)
  | succ d ih =>
    intro j F σ e0 e hF h
    obtain ⟨F, rfl⟩ : ∃ q, F = q + 1 := ⟨F - 1, by omega⟩
    have hl8 := l8 j
    have hpos := lo_some hW hS (show j < N by omega)
    have hst := lo_stepa hW hS (show j < N by omega)
    rw [k_pp_lastEnd_50, itx_le (a := 160) (b := j) (x := 160) rfl rfl (by decide) (by omega), if_neg (by omega), itx_le (a := lo_a A c j) (b := 0) (y := 0) rfl rfl (by omega) (by decide), if_neg (by omega)]
    rcases pc_step hW hS (show j ≤ N by omega) h with ⟨q1, q2, s, s1, s2, s3, s4, s5, s6, s7⟩ | ⟨q1, q2⟩
    · rw [s1, pu_b2, if_neg (show ¬ (1 : Int32) = 0 by decide), s6, s2.2.1, nI_1]
      by_cases z : c j % 64 + 1 = aS A (c j / 64) 6
      · rw [if_pos z] at hst ⊢
        rw [if_neg (show ¬ (1 : Int32) = 0 by decide), hst, pq_m1]
        obtain ⟨s', o, e1, r1, r2, r3, r4⟩ := ih (j + 1) F s (pl_f A c (j + 1)) (by omega) (by omega) s2
        refine ⟨s', o, e1, r1, r2, fun j z1 z2 => by rw [r3 j z1 z2, s7 j z1 z2], ?_⟩
        rcases r4 with ⟨g1, g2, g3⟩ | ⟨g1, g2, g3, g4⟩ | g
        · have hjN : j + 1 = N := by
            apply Decidable.byContradiction
            intro y
            have := lo_some hW hS (show j + 1 < N by omega)
            omega
          exact Or.inr (Or.inl ⟨g1, by omega, by rw [← hjN]; exact g2, by rw [← hjN]; exact g3⟩)
        · exact Or.inr (Or.inl ⟨g1, by omega, g3, g4⟩)
        · exact Or.inr (Or.inr g)
      · rw [if_neg z] at hst ⊢
        rw [if_pos rfl, show lo_a A c j = lo_a A c (j + 1) by omega]
        obtain ⟨s', o, e1, r1, r2, r3, r4⟩ := ih (j + 1) F s e0 (by omega) (by omega) s2
        refine ⟨s', o, e1, r1, r2, fun j z1 z2 => by rw [r3 j z1 z2, s7 j z1 z2], r4⟩
    · rw [q2, pu_b2, if_pos rfl]
      exact ⟨σ, _, e0, rfl, hl8, fun _ _ _ => rfl, Or.inr (Or.inr ⟨hpos, Or.inr ⟨j, by omega, q1 (by omega)⟩⟩)⟩
/-- the model's loop over the sends -/
def la_x (s : en_M) (A : ab_A) : Prop := ∀ q, aH A 6 ≤ q → q < aH A 5 → aS A q 4 = 1 → k_mm_endOf (nI q) s = some (-1) ∨ ∃ v, v ≤ 9999 ∧ k_mm_endOf (nI q) s = some (nI v)
theorem la_none (hW : ab_W A t) {s : en_M} (hM : ab_MR (s 25 0 0) A) (hx : la_x s A) {q0 : Nat} (h5 : q0 < aH A 5) (h4 : aS A q0 4 = 1) (hq : k_mm_endOf (nI q0) s = some (-1)) : ∀ d n F (v1 : Int32), n + d = q0 → aH A 6 ≤ n → d < F → k_mm_last_19 F v1 (nI n) s = some (.inl (-1, s)) := by
  have hN := ab_N hW
  intro d
  induction d with
  | zero =>
    intro n F v1 e h6 hF
    obtain ⟨F, rfl⟩ : ∃ q, F = q + 1 := ⟨F - 1, by omega⟩
    have hn : n = q0 := by omega
    subst hn
    have hw := ab_in_win hW h6 h5
    rw [k_mm_last_19, hM.1.1 5 (by decide), it_le (by omega) (by omega), if_neg (by omega), mo_snd hM hW (x := 4) (w := 4) rfl hw (by decide), pu_b1, h4, if_pos (show nI 1 = 1 from rfl), hq, pu_b1, if_pos rfl]
  | succ d ih =>
    intro n F v1 e h6 hF
    obtain ⟨F, rfl⟩ : ∃ q, F = q + 1 := ⟨F - 1, by omega⟩
    have hw := ab_in_win hW h6 (show n < aH A 5 by omega)
    have q4 := (hW.2.2.1 n hw).2.2.2.2.1
    rw [k_mm_last_19, hM.1.1 5 (by decide), it_le (by omega) (by omega), if_neg (by omega), mo_snd hM hW (x := 4) (w := 4) rfl hw (by decide), pu_b1, itx_eq (a := aS A n 4) (b := 1) (y := 1) rfl rfl (by omega) (by decide), nI_1]
    by_cases z : aS A n 4 = 1
    · rw [if_pos z]
      rcases hx n h6 (by omega) z with y | ⟨v, v1, y⟩
      · rw [y, pu_b1, if_pos rfl]
      · rw [y, pu_b1, it_m1 (by omega), pu_b1]
        exact ih (n + 1) F _ (by omega) (by omega) (by omega)
    · rw [if_neg z]
      exact ih (n + 1) F v1 (by omega) (by omega) (by omega)
theorem la_zero (hW : ab_W A t) {s : en_M} (hM : ab_MR (s 25 0 0) A) (hz : ∀ q, aH A 6 ≤ q → q < aH A 5 → aS A q 4 ≠ 1) : ∀ d n F (v1 : Int32), n + d = aH A 5 → aH A 6 ≤ n → d < F → k_mm_last_19 F v1 (nI n) s = some (.inr v1) := by
  have hN := ab_N hW
  intro d
  induction d with
  | zero =>
    intro n F v1 e h6 hF
    obtain ⟨F, rfl⟩ : ∃ q, F = q + 1 := ⟨F - 1, by omega⟩
    rw [k_mm_last_19, hM.1.1 5 (by decide), it_le (by omega) (by omega), if_pos (by omega)]
  | succ d ih =>
    intro n F v1 e h6 hF
    obtain ⟨F, rfl⟩ : ∃ q, F = q + 1 := ⟨F - 1, by omega⟩
    have hw := ab_in_win hW h6 (show n < aH A 5 by omega)
    have q4 := (hW.2.2.1 n hw).2.2.2.2.1
    rw [k_mm_last_19, hM.1.1 5 (by decide), it_le (by omega) (by omega), if_neg (by omega), mo_snd hM hW (x := 4) (w := 4) rfl hw (by decide), pu_b1, itx_eq (a := aS A n 4) (b := 1) (y := 1) rfl rfl (by omega) (by decide), if_neg (hz n h6 (by omega)), nI_1]
    exact ih (n + 1) F v1 (by omega) (by omega) (by omega)
theorem la_some (hW : ab_W A t) {s : en_M} (hM : ab_MR (s 25 0 0) A) {H : Nat} (hH : H ≤ 9999) (hx : ∀ q, aH A 6 ≤ q → q < aH A 5 → aS A q 4 = 1 → ∃ v, v ≤ H ∧ k_mm_endOf (nI q) s = some (nI v)) {q0 : Nat} (h5 : q0 < aH A 5) (h4 : aS A q0 4 = 1) (hq : k_mm_endOf (nI q0) s = some (nI H)) : ∀ d n F (v1 : Int32), n + d = aH A 5 → aH A 6 ≤ n → d < F → (v1 = nI H ∨ (n ≤ q0 ∧ (v1 = -1 ∨ ∃ m, m ≤ H ∧ v1 = nI m))) → k_mm_last_19 F v1 (nI n) s = some (.inr (nI H)) := by
  have hN := ab_N hW
  intro d
  induction d with
  | zero =>
    intro n F v1 e h6 hF hv
    obtain ⟨F, rfl⟩ : ∃ q, F = q + 1 := ⟨F - 1, by omega⟩
    rw [k_mm_last_19, hM.1.1 5 (by decide), it_le (by omega) (by omega), if_pos (by omega)]
    rcases hv with rfl | ⟨hv, -⟩
    · rfl
    · omega
  | succ d ih =>
    intro n F v1 e h6 hF hv
    obtain ⟨F, rfl⟩ : ∃ q, F = q + 1 := ⟨F - 1, by omega⟩
    have hw := ab_in_win hW h6 (show n < aH A 5 by omega)
    have q4 := (hW.2.2.1 n hw).2.2.2.2.1
    rw [k_mm_last_19, hM.1.1 5 (by decide), it_le (by omega) (by omega), if_neg (by omega), mo_snd hM hW (x := 4) (w := 4) rfl hw (by decide), pu_b1, itx_eq (a := aS A n 4) (b := 1) (y := 1) rfl rfl (by omega) (by decide), nI_1]
    by_cases z : aS A n 4 = 1
    · obtain ⟨v, v2, y⟩ := hx n h6 (by omega) z
      rw [if_pos z, y, pu_b1, it_m1 (by omega), pu_b1]
      refine ih (n + 1) F _ (by omega) (by omega) (by omega) ?_
      rcases hv with rfl | ⟨hn, hv⟩
      · exact Or.inl (by rw [nu_gr (by omega) (by omega), Nat.max_eq_left v2])
      · by_cases en : n = q0
        · rw [en] at y
          rw [hq] at y
          have hvH : v = H := by
            have := Option.some.inj y
            rw [nI_eq (by omega) (by omega)] at this
            exact this.symm
          left
          rcases hv with rfl | ⟨m, m1, rfl⟩
          · rw [gr_m1 (by omega), hvH]
          · rw [nu_gr (by omega) (by omega), hvH, Nat.max_eq_right m1]
        · refine Or.inr ⟨by omega, Or.inr ?_⟩
          rcases hv with rfl | ⟨m, m1, rfl⟩
          · exact ⟨v, v2, gr_m1 (by omega)⟩
          · exact ⟨max m v, by omega, nu_gr (by omega) (by omega)⟩
    · rw [if_neg z]
      refine ih (n + 1) F v1 (by omega) (by omega) (by omega) ?_
      rcases hv with hv | ⟨hn, hv⟩
      · exact Or.inl hv
      · have : n ≠ q0 := fun en => z (by rw [en]; exact h4)
        exact Or.inr ⟨by omega, hv⟩
/-- a bad end for the model -/
theorem la_bad (hW : ab_W A t) {c : Nat → Nat} {N : Nat} (hS : pq_S A c N) (hb : 0 < lo_a A c N ∨ (∃ i, i < N ∧ 9999 ≤ pl_s A c i)) : ∃ q, aH A 6 ≤ q ∧ q < aH A 5 ∧ aS A q 4 = 1 ∧ ∀ x, eo_P A c N q x → x = -1 := by
  rcases hb with hb | ⟨i, i1, i2⟩
  · obtain ⟨q, q1, q2, q3, q4⟩ := lo_pos _ _ hb
    have q5 : q < aH A 5 := by omega
    have hw := ab_in_win hW q1 q5
    have h20 := (ab_pc hW hw).1
    have h7 := pc_v7 A c q N
    refine ⟨q, q1, q5, q3, fun x hx => ?_⟩
    rcases hx with ⟨c7, -⟩ | ⟨c7, hz, j, j1, j2, -⟩ | ⟨-, -, rfl⟩
    · omega
    · obtain ⟨e1, e2⟩ := pq_code (n := q) (k := pc_v A c N q) (by omega)
      have hin : pq_in A (64 * q + pc_v A c N q) := by
        rw [pq_in, e1, e2]
        exact ⟨q1, q5, q3, hz, h7, q4⟩
      obtain ⟨k, k1, k2⟩ := hS.2.2.1 _ hin
      have := (pc_inv hW hS N (Nat.le_refl _) _ _ hin (by omega)).2 ⟨k, k1, k2⟩
      omega
    · rfl
  · have hin := hS.1 i i1
    obtain ⟨b1, b2, b3, b4, b5⟩ := pq_bd hW hin
    refine ⟨c i / 64, hin.1, hin.2.1, hin.2.2.1, fun x hx => ?_⟩
    have h7 := hin.2.2.2.2.1
    have h6 := hin.2.2.2.2.2
    have hz := hin.2.2.2.1
    rcases hx with ⟨c7, -⟩ | ⟨c7, -, j, j1, j2, rfl⟩ | ⟨-, z, -⟩
    · omega
    · have hij : i ≤ j := by
        have h20 := (ab_pc hW b4).1
        obtain ⟨e3, e4⟩ := pq_code (n := c i / 64) (k := aS A (c i / 64) 6 - 1) (by omega)
        have hD : pq_D A (c i) ≤ pq_D A (c j) := by
          rw [pq_D, pq_D, j2, e3, e4, ab_de, ab_de]
          exact rd_dp_k (by omega)
        have hle : c i ≤ c j := by
          rw [j2]
          have := Nat.div_add_mod (c i) 64
          omega
        apply Decidable.byContradiction
        intro y
        have := hS.2.1 j i (by omega) i1
        rw [pq_lt] at this
        omega
      have h1 := pl_smono hW hS hij j1
      have h2 := (pl_s_le hW hS j1).2.1
      rw [pl_v, if_neg (by omega)]
    · exact absurd hz z
/-- a good end for the model: who is the last -/
theorem la_good (hW : ab_W A t) {c : Nat → Nat} {N : Nat} (hS : pq_S A c N) (h0 : lo_a A c N = 0) (hq : ∃ q, aH A 6 ≤ q ∧ q < aH A 5 ∧ aS A q 4 = 1) : (∃ q, aH A 6 ≤ q ∧ q < aH A 5 ∧ aS A q 4 = 1 ∧ ∀ x, eo_P A c N q x → x = pl_v (pl_f A c N)) ∧ ∀ q x, aH A 6 ≤ q → q < aH A 5 → aS A q 4 = 1 → eo_P A c N q x → ∃ v, v ≤ pl_f A c N ∧ x = pl_v v := by
  have hz := lo_zero (A := A) (c := c) (j := N) _ _ h0
  refine ⟨?_, fun q x q1 q2 q3 hx => ?_⟩
  · by_cases hN : N = 0
    · obtain ⟨q, q1, q2, q3⟩ := hq
      refine ⟨q, q1, q2, q3, fun x hx => ?_⟩
      have := hz q q1 (by omega) q3
      rw [hN] at this
      have ev : pc_v A c 0 q = aS A q 7 := rfl
      rw [hN]
      rcases hx with ⟨-, rfl⟩ | ⟨c7, -⟩ | ⟨c7, -⟩
      · rfl
      · omega
      · omega
    · obtain ⟨M, rfl⟩ : ∃ M, N = M + 1 := ⟨N - 1, by omega⟩
      have hin := hS.1 M (by omega)
      obtain ⟨b1, b2, b3, b4, b5⟩ := pq_bd hW hin
      have hh := pc_head hW hS (j := M) (by omega) (pc_inv hW hS M (by omega))
      have h1 := hin.1
      have h2 := hin.2.1
      have := hz (c M / 64) h1 (by omega) hin.2.2.1
      rw [pc_v, if_pos rfl] at this
      have h6 := hin.2.2.2.2.2
      have h7 := hin.2.2.2.2.1
      refine ⟨c M / 64, hin.1, hin.2.1, hin.2.2.1, fun x hx => ?_⟩
      rcases hx with ⟨c7, -⟩ | ⟨c7, -, j, j1, j2, rfl⟩ | ⟨-, z, -⟩
      · omega
      · have hcj : c j = c M := by
          rw [j2]
          have := Nat.div_add_mod (c M) 64
          omega
        have hj : j = M := by
          apply Decidable.byContradiction
          intro y
          have := hS.2.1 j M (by omega) (by omega)
          rw [hcj, pq_lt] at this
          omega
        rw [hj]
      · exact absurd hin.2.2.2.1 z
  · rcases hx with ⟨c7, rfl⟩ | ⟨c7, -, j, j1, j2, rfl⟩ | ⟨c7, zp, rfl⟩
    · exact ⟨_, pl_mono' hW hS (show 0 ≤ N by omega) (Nat.le_refl _), rfl⟩
    · exact ⟨_, pl_mono' hW hS (show j + 1 ≤ N by omega) (Nat.le_refl _), rfl⟩
    · exfalso
      have hv : ∀ j, j ≤ N → pc_v A c j q = aS A q 7 := fun j => by
        induction j with
        | zero => intro _; rfl
        | succ j ih =>
          intro hj
          rw [pc_v, if_neg (fun z => zp (by have := (hS.1 j (by omega)).2.2.2.1; rw [z] at this; exact this))]
          exact ih (by omega)
      have := hz q q1 (by omega) q3
      rw [hv N (Nat.le_refl _)] at this
      omega
end pla
theorem pb_last {σ τ : en_M} {t : Nat} (h : Rel σ τ t) : ∃ x σ1 τ1, k_cc_last σ = some (x, σ1) ∧ k_mm_last τ = some (x, τ1) ∧ τ1 24 0 0 0 = 0 ∧ Rel σ1 τ1 t := by
  obtain ⟨s, s1, s2, s3, s4, A, hA⟩ := q_set h
  have hW := hA.2.2.1
  have hH := hA.2.2.2.2
  have hN := ab_N hW
  obtain ⟨m, c, N, a1, a2, a3, a4⟩ := pl_all hW hH hA.2.1
  have hS := a2.1
  have hMm : ab_MR (m 25 0 0) A := by rw [a3 25 (by decide) (by decide)]; exact hA.2.1
  obtain ⟨p1, b1, b2, b3⟩ := pb_timed hW hH hA.1 c
  have hC := b2.1.1
  have hfN := pl_le hW hS N (Nat.le_refl _)
  have hN160 := hS.2.2.2
  have hf0 : pl_f A c 0 ≤ 320000 := by have := pl_le hW hS 0 (by omega); omega
  -- the model's answers
  have hend : ∀ q, aH A 6 ≤ q → q < aH A 5 → aS A q 4 = 1 → ∃ x, k_mm_endOf (nI q) m = some x ∧ eo_P A c N q x := fun q q1 q2 q3 => eo_end hW hH hMm a2 q1 q2 q3
  have hlx : la_x m A := fun q q1 q2 q3 => by
    obtain ⟨x, x1, x2⟩ := hend q q1 q2 q3
    have : x = -1 ∨ ∃ v, v ≤ 9999 ∧ x = nI v := by
      have pv : ∀ u, pl_v u = -1 ∨ ∃ v, v ≤ 9999 ∧ pl_v u = nI v := fun u => by
        rw [pl_v]
        by_cases z : u ≤ 9999
        · rw [if_pos z]; exact Or.inr ⟨u, z, rfl⟩
        · rw [if_neg z]; exact Or.inl rfl
      rcases x2 with ⟨-, rfl⟩ | ⟨-, -, j, -, -, rfl⟩ | ⟨-, -, rfl⟩
      · exact pv _
      · exact pv _
      · exact Or.inl rfl
    rcases this with rfl | ⟨v, v1, rfl⟩
    · exact Or.inl x1
    · exact Or.inr ⟨v, v1, x1⟩
  have m_none : ∀ q, aH A 6 ≤ q → q < aH A 5 → aS A q 4 = 1 → (∀ x, eo_P A c N q x → x = -1) → k_mm_last τ = some (-1, m) := fun q q1 q2 q3 q4 => by
    obtain ⟨x, x1, x2⟩ := hend q q1 q2 q3
    rw [q4 x x2] at x1
    rw [k_mm_last, pu_let, s1, a1, pu_b1, hMm.1.1 6 (by decide), la_none hW hMm hlx q2 q3 x1 (q - aH A 6) (aH A 6) en_fu (-1) (by omega) (Nat.le_refl _) (by rw [en_fu]; omega), pu_rxl]
  have m_good : lo_a A c N = 0 → (∃ q, aH A 6 ≤ q ∧ q < aH A 5 ∧ aS A q 4 = 1) → k_mm_last τ = some (pl_v (pl_f A c N), m) := fun g1 g2 => by
    obtain ⟨⟨q, q1, q2, q3, q4⟩, g3⟩ := la_good hW hS g1 g2
    by_cases z : pl_f A c N ≤ 9999
    · obtain ⟨x, x1, x2⟩ := hend q q1 q2 q3
      rw [q4 x x2, pl_v, if_pos z] at x1
      rw [k_mm_last, pu_let, s1, a1, pu_b1, hMm.1.1 6 (by decide), la_some hW hMm z (fun q' y1 y2 y3 => by
        obtain ⟨x', x1', x2'⟩ := hend q' y1 y2 y3
        obtain ⟨v, v1, v2⟩ := g3 q' x' y1 y2 y3 x2'
        rw [pl_v, if_pos (by omega)] at v2
        exact ⟨v, v1, by rw [x1', v2]⟩) q2 q3 x1 (aH A 5 - aH A 6) (aH A 6) en_fu (-1) (by omega) (Nat.le_refl _) (by rw [en_fu]; omega) (Or.inr ⟨q1, Or.inl rfl⟩), pu_rxr, it_m1 (by omega), pl_v, if_pos z]
    · rw [pl_v, if_neg z]
      refine m_none q q1 q2 q3 (fun x hx => ?_)
      rw [q4 x hx, pl_v, if_neg z]
  have m_zero : (∀ q, aH A 6 ≤ q → q < aH A 5 → aS A q 4 ≠ 1) → k_mm_last τ = some (nI (aH A 4), m) := fun g => by
    rw [k_mm_last, pu_let, s1, a1, pu_b1, hMm.1.1 6 (by decide), la_zero hW hMm g (aH A 5 - aH A 6) (aH A 6) en_fu (-1) (by omega) (Nat.le_refl _) (by rw [en_fu]; omega), pu_rxr, if_pos rfl, hMm.1.1 4 (by decide)]
  -- the class
  have eT : p1 0 0 0 11 = nI (aH A 4) := hC.1.2.2.2.1
  have eS : k_cd_inState 0 1 p1 = some (nI (ct_n A 1 (aH A 5 - aH A 6) (aH A 6))) := ct_inState hC hW (st := 1) rfl (by decide)
  have e15 : p1 0 0 0 15 = (if aH A 11 = 0 then -1 else nI (aH A 8)) := hC.1.2.2.2.2.2.2.2.1
  have hcl : (lo_h A → k_cc_last σ = en_b3 (k_pp_lastEnd_50 en_fu 0 (nI (ct_n A 1 (aH A 5 - aH A 6) (aH A 6)) + (-1)) (nI (pl_f A c 0)) 0 p1) fun x30 x31 s33 => if x30 = 0 then (if 9999 < x31 then some ((-1), s33) else some (x31, s33)) else some ((-1), s33)) ∧ (¬ lo_h A → k_cc_last σ = en_b3 (k_pp_lastEnd_50 en_fu 0 (nI (ct_n A 1 (aH A 5 - aH A 6) (aH A 6))) (nI (aH A 4)) 0 p1) fun x30 x31 s33 => if x30 = 0 then (if 9999 < x31 then some ((-1), s33) else some (x31, s33)) else some ((-1), s33)) := by
    have cl : ∀ {x : Option (Int32 × en_M)}, (en_b2 x fun t1 s2 => some (t1, s2)) = x := fun {x} => by
      cases x with
      | none => rfl
      | some z => rfl
    have e0 : k_cc_last σ = k_pp_lastEnd 0 σ := by rw [k_cc_last, cl]
    rw [e0, k_pp_lastEnd, b1, pu_b1, eS, pu_b1, e15, eT, b2.2.1]
    by_cases h11 : aH A 11 = 0
    · refine ⟨fun z => absurd h11 z.1, fun _ => ?_⟩
      rw [if_pos h11, ac_sendOut hC hW (v := -1) (fun n hn hw => by
        have := hw.1
        have h1 := nu_m1 (a := n) (by omega)
        rw [← hn] at h1
        exact h1.mp rfl), pu_b1]
    · obtain ⟨v1, v2, v3, v4⟩ := hW.2.2.2.2.1 h11
      have hw := ab_in_win hW v1 v2
      have hp := ab_pc hW hw
      rw [if_neg h11, ac_sendAt hC hW hw, pu_b1]
      simp only []
      refine ⟨fun z => ?_, fun z => ?_⟩
      · have z2 := z.2
        have ew : k_sd_waits 0 (aH A 8 % 8) p1 = 0 := by rw [ac_waits hC hW hw, if_neg (by omega)]
        rw [ew, if_pos rfl]
      · have z7 : aS A (aH A 8) 7 < aS A (aH A 8) 6 := by
          apply Decidable.byContradiction
          intro y
          exact z ⟨h11, by omega⟩
        have ew : k_sd_waits 0 (aH A 8 % 8) p1 = 1 := by rw [ac_waits hC hW hw, if_pos ⟨v3, z7⟩]
        rw [ew, if_neg (show ¬ (1 : Int32) = 0 by decide)]
  have fin : ∀ (e0 : Nat), e0 ≤ 320000 → (lo_a A c 0 = 0 → k_mm_last τ = some (pl_v e0, m)) → ∃ x σ1 τ1, (en_b3 (k_pp_lastEnd_50 en_fu 0 (nI (lo_a A c 0)) (nI e0) 0 p1) fun x30 x31 s33 => if x30 = 0 then (if 9999 < x31 then some ((-1), s33) else some (x31, s33)) else some ((-1), s33)) = some (x, σ1) ∧ k_mm_last τ = some (x, τ1) ∧ τ1 24 0 0 0 = 0 ∧ Rel σ1 τ1 t := fun e0 he0 hz => by
    obtain ⟨s', o, e, r1, r2, r3, r4⟩ := la_50 hW hS N 0 en_fu p1 e0 (by omega) (by rw [en_fu]; omega) b2
    have r1' : k_pp_lastEnd_50 en_fu 0 (nI (lo_a A c 0)) (nI e0) 0 p1 = some (nI o, nI e, s') := r1
    have R := rl_pp (σ1 := s') s4 (fun j z1 z2 z3 => by rw [r3 j z1 z2, b3 j z1 z2 z3]) a3 a4
    have hth : m 24 0 0 0 = 0 := by rw [a4 0 (by decide), s2]
    have he : o = 0 → e ≤ 320000 := fun y => by
      rcases r4 with ⟨-, -, y3⟩ | ⟨-, -, -, y3⟩ | ⟨y3, -⟩
      · omega
      · omega
      · omega
    rw [r1', pu_b3, itx_eq (a := o) (b := 0) (y := 0) rfl rfl (by omega) (by decide)]
    have good : o = 0 → k_mm_last τ = some (pl_v e, m) := fun y => by
      rcases r4 with ⟨-, y2, y3⟩ | ⟨-, y2, y3, y4⟩ | ⟨y3, -⟩
      · rw [y3]
        exact hz y2
      · rw [y4]
        refine m_good y3 ?_
        obtain ⟨q, q1, q2, q3, -⟩ := lo_pos _ _ y2
        exact ⟨q, q1, by omega, q3⟩
      · omega
    by_cases c0 : o = 0
    · have hel := he c0
      have hg := good c0
      rw [if_pos c0, itx_lt (a := 9999) (b := e) (x := 9999) rfl rfl (by decide) (by omega)]
      by_cases c9 : 9999 < e
      · rw [if_pos c9]
        rw [pl_v, if_neg (by omega)] at hg
        exact ⟨_, _, _, rfl, hg, hth, R⟩
      · rw [if_neg c9]
        rw [pl_v, if_pos (by omega)] at hg
        exact ⟨_, _, _, rfl, hg, hth, R⟩
    · rw [if_neg c0]
      rcases r4 with ⟨y1, -⟩ | ⟨y1, -⟩ | ⟨-, y⟩
      · exact absurd y1 c0
      · exact absurd y1 c0
      · obtain ⟨q, q1, q2, q3, q4⟩ := la_bad hW hS y
        exact ⟨_, _, _, rfl, m_none q q1 q2 q3 q4, hth, R⟩
  have lo0 : lo_a A c 0 = 0 → N = 0 := fun z => by
    apply Decidable.byContradiction
    intro y
    have := lo_some hW hS (show 0 < N by omega)
    omega
  by_cases hh : lo_h A
  · obtain ⟨v1, v2, v3, v4⟩ := hW.2.2.2.2.1 hh.1
    have hct := lo_ct hW (c := c) hh (aH A 5 - aH A 6) (aH A 6) (Nat.le_refl _) (by omega)
    rw [lo_i, if_pos (show aH A 6 ≤ aH A 8 ∧ aH A 8 < aH A 6 + (aH A 5 - aH A 6) by omega)] at hct
    rw [hcl.1 hh, hct, pq_m1]
    refine fin _ hf0 (fun z => ?_)
    have hN0 := lo0 z
    have := m_good (by rw [hN0]; exact z) ⟨aH A 8, v1, v2, v3⟩
    rw [hN0] at this
    exact this
  · have hct := lo_ct' hW (c := c) hh (aH A 5 - aH A 6) (aH A 6) (Nat.le_refl _) (by omega)
    rw [hcl.2 hh, hct]
    refine fin _ (by omega) (fun z => ?_)
    rw [pl_v, if_pos hN.2.2.2.2.2.2.2]
    refine m_zero (fun q q1 q2 q3 => ?_)
    have hz := lo_zero (A := A) (c := c) (j := 0) _ _ z q q1 (by omega) q3
    have ev : pc_v A c 0 q = aS A q 7 := rfl
    have hw := ab_in_win hW q1 q2
    have hp := ab_pc hW hw
    have h7 : aS A q 7 = aS A q 6 := by omega
    obtain ⟨g1, g2⟩ := (hW.2.2.1 q hw).2.2.2.2.2.2.2.2.2.2.2 q3 h7
    exact hh ⟨g1, by rw [g2]; exact h7⟩

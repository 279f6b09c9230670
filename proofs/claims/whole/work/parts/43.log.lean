/-! Questions of the log: the class's loops and the model's. -/
section lgq
variable {σ τ : en_M} {g t : Nat} {A : ab_A}
theorem ab_l40 (hW : ab_W A t) : aH A 9 ≤ 40 := hW.1.2.2.2.2.2.2.2.2.2.1
theorem lq_sz (hC : ab_CW σ g A) : σ 6 g 0 2 = nI (aH A 9) := hC.2.2.2.2.2.1.1
theorem lq_szm (hM : ab_MR (τ 25 0 0) A) : τ 25 0 0 18 = nI (aH A 9) := hM.1.2.2.2.2.2.2.2.2.2.2.1
theorem lq_share (hC : ab_CW σ g A) (hM : ab_MR (τ 25 0 0) A) (hW : ab_W A t) (v : Int32) : ∀ (f k S : Nat) (m : Int32), k ≤ aH A 9 → aH A 9 < k + f → S ≤ 112 * k → ∃ a S', S' ≤ 4480 ∧ k_lg_shareOf_7 f g v m (nI S) (nI k) σ = some (a, nI S') ∧ k_mm_share_33 f v (nI S) m (nI k) τ = some (nI S', a) := by
  have h40 := ab_l40 hW
  have s1 := lq_sz hC
  have m1 := lq_szm hM
  obtain ⟨w1, -⟩ := hW.2.2.2.2.2
  intro f
  induction f with
  | zero => intro k S m h1 h2; omega
  | succ f ih =>
    intro k S m h1 h2 h3
    rw [k_lg_shareOf_7, k_mm_share_33, s1, m1, it_le (by omega) (by omega), it_le (by omega) (by omega)]
    by_cases hk : k < aH A 9
    · have hs := w1 k hk
      rw [if_neg (by omega), if_neg (by omega), ac_at hC hW (x := 2) (c := 2) rfl hk (by decide), pu_b1, ac_at hC hW (x := 3) (c := 3) rfl hk (by decide), pu_b1, pu_b1, pu_b1, mo_log hM hW (x := 3) (c := 3) rfl hk (by decide), pu_b1, mo_log hM hW (x := 2) (c := 2) rfl hk (by decide), pu_b1, pu_b1, nI_add, nI_1]
      split
      · exact ih (k + 1) _ _ (by omega) (by omega) (by omega)
      · exact ih (k + 1) _ _ (by omega) (by omega) (by omega)
    · rw [if_pos (by omega), if_pos (by omega)]
      exact ⟨m, S, by omega, rfl, rfl⟩
theorem lq_delay (hC : ab_CW σ g A) (hM : ab_MR (τ 25 0 0) A) (hW : ab_W A t) (v : Int32) : ∀ (f k S : Nat) (m : Int32), k ≤ aH A 9 → aH A 9 < k + f → S ≤ k → ∃ a S', S' ≤ 40 ∧ k_lg_delayOf_7 f g v m (nI S) (nI k) σ = some (a, nI S') ∧ k_mm_delay_33 f v m (nI S) (nI k) τ = some (a, nI S') := by
  have h40 := ab_l40 hW
  have s1 := lq_sz hC
  have m1 := lq_szm hM
  intro f
  induction f with
  | zero => intro k S m h1 h2; omega
  | succ f ih =>
    intro k S m h1 h2 h3
    rw [k_lg_delayOf_7, k_mm_delay_33, s1, m1, it_le (by omega) (by omega), it_le (by omega) (by omega)]
    by_cases hk : k < aH A 9
    · rw [if_neg (by omega), if_neg (by omega), ac_at hC hW (x := 2) (c := 2) rfl hk (by decide), pu_b1, mo_log hM hW (x := 2) (c := 2) rfl hk (by decide), pu_b1, ac_late hC hW hk, pu_b1, mo_late hM hW hk, pu_b1, nI_1, nI_1]
      split
      · exact ih (k + 1) _ _ (by omega) (by omega) (by omega)
      · exact ih (k + 1) _ _ (by omega) (by omega) (by omega)
    · rw [if_pos (by omega), if_pos (by omega)]
      exact ⟨m, S, by omega, rfl, rfl⟩
theorem lq_ring (a b c : Int32) : a + b - c = a + (b - c) := by
  rw [Int32.sub_eq_add_neg, Int32.sub_eq_add_neg, Int32.add_assoc]
theorem lq_merged (hC : ab_CW σ g A) (hM : ab_MR (τ 25 0 0) A) (hW : ab_W A t) (v b : Int32) : ∀ (f k : Nat) (m e x y : Int32), k ≤ aH A 9 → aH A 9 < k + f → ∃ a z, k_lg_mergedOf_7 f g v m e (nI k) σ = some a ∧ k_mm_mergedOf_14 f v b m x y e (nI k) τ = some (a, z) := by
  have h40 := ab_l40 hW
  have s1 := lq_sz hC
  have m1 := lq_szm hM
  intro f
  induction f with
  | zero => intro k m e x y h1 h2; omega
  | succ f ih =>
    intro k m e x y h1 h2
    rw [k_lg_mergedOf_7, k_mm_mergedOf_14, s1, m1, it_le (by omega) (by omega), it_le (by omega) (by omega)]
    by_cases hk : k < aH A 9
    · rw [if_neg (by omega), if_neg (by omega), ac_at hC hW (x := 2) (c := 2) rfl hk (by decide), pu_b1, mo_log hM hW (x := 2) (c := 2) rfl hk (by decide), pu_b1, ac_at hC hW (x := 6) (c := 6) rfl hk (by decide), pu_b1, pu_b1, pu_b1, ac_at hC hW (x := 3) (c := 3) rfl hk (by decide), pu_b1, pu_b1, mo_log hM hW (x := 3) (c := 3) rfl hk (by decide), pu_b1, mo_log hM hW (x := 6) (c := 6) rfl hk (by decide), pu_b1, pu_b1, pu_b1, nI_1, lq_ring, Int32.add_zero]
      split
      · split
        · exact ih (k + 1) _ _ _ _ (by omega) (by omega)
        · exact ih (k + 1) _ _ _ _ (by omega) (by omega)
      · exact ih (k + 1) _ _ _ _ (by omega) (by omega)
    · rw [if_pos (by omega), if_pos (by omega)]
      exact ⟨m, x, rfl, rfl⟩
theorem lq_ring2 {y : Int32} (w s e b : Int32) (h : e - b = y) (hw : w = e) : w + (s - 12) - b = y + (s - 12) := by
  subst hw
  rw [← h, Int32.sub_eq_add_neg, Int32.sub_eq_add_neg w b, Int32.add_assoc, Int32.add_assoc, Int32.add_comm (s - 12)]
theorem lq_ring3 (w s : Int32) : w + (s - 12) - w = 0 + (s - 12) := by
  rw [Int32.zero_add, Int32.sub_eq_add_neg, Int32.add_comm w, Int32.add_assoc, ← Int32.sub_eq_add_neg w w, Int32.sub_self, Int32.add_zero]
theorem lq_gr (a b : Int32) : k_mm_greater a b = (if a < b then b else a) := by
  rw [k_mm_greater]
  by_cases h : a < b
  · rw [if_pos h, if_pos (Int32.le_of_lt h)]
  · rw [if_neg h]
    split
    · rename_i h2
      exact Int32.le_antisymm (Int32.not_lt.mp h) h2
    · rfl
theorem lq_most (hC : ab_CW σ g A) (hM : ab_MR (τ 25 0 0) A) (hW : ab_W A t) (v b : Int32) : ∀ (f k : Nat) (m c e x y : Int32), k ≤ aH A 9 → aH A 9 < k + f → e - c = y → ∃ a z, k_lg_mostMergedOf_10 f g v m c e (nI k) σ = some a ∧ k_mm_mergedOf_14 f v b x m y e (nI k) τ = some (z, a) := by
  have h40 := ab_l40 hW
  have s1 := lq_sz hC
  have m1 := lq_szm hM
  intro f
  induction f with
  | zero => intro k m c e x y h1 h2; omega
  | succ f ih =>
    intro k m c e x y h1 h2 h3
    rw [k_lg_mostMergedOf_10, k_mm_mergedOf_14, s1, m1, it_le (by omega) (by omega), it_le (by omega) (by omega)]
    by_cases hk : k < aH A 9
    · rw [if_neg (by omega), if_neg (by omega), ac_at hC hW (x := 2) (c := 2) rfl hk (by decide), pu_b1, mo_log hM hW (x := 2) (c := 2) rfl hk (by decide), pu_b1, ac_at hC hW (x := 6) (c := 6) rfl hk (by decide), pu_b1, pu_b1, pu_b1, pu_b1, ac_at hC hW (x := 3) (c := 3) rfl hk (by decide), pu_b1, pu_b1, mo_log hM hW (x := 3) (c := 3) rfl hk (by decide), pu_b1, mo_log hM hW (x := 6) (c := 6) rfl hk (by decide), pu_b1, pu_b1, pu_b1, nI_1, lq_ring]
      split
      · split
        · rename_i he
          rw [lq_ring2 _ _ _ _ h3 he, lq_gr]
          exact ih (k + 1) _ _ _ _ _ (by omega) (by omega) (lq_ring2 _ _ _ _ h3 he)
        · rw [lq_ring3, lq_gr]
          exact ih (k + 1) _ _ _ _ _ (by omega) (by omega) (lq_ring3 _ _)
      · exact ih (k + 1) _ _ _ _ _ (by omega) (by omega) h3
    · rw [if_pos (by omega), if_pos (by omega)]
      exact ⟨m, x, rfl, rfl⟩
theorem lq_sub (a b c : Int32) : a - (b + c) = a - b - c := by
  rw [Int32.sub_eq_add_neg, Int32.neg_add, Int32.sub_eq_add_neg, Int32.sub_eq_add_neg, Int32.sub_eq_add_neg, Int32.add_assoc]
theorem lq_rest (hC : ab_CW σ g A) (hM : ab_MR (τ 25 0 0) A) (hW : ab_W A t) : ∀ (f k : Nat) (m : Int32), (1 ≤ f ∧ k ≤ 40) → aH A 9 < k + 1 + f → ∃ a, k_lg_restOf_4 f g (nI (aH A 1)) m (nI (k + 1)) σ = some a ∧ k_mm_rest_9 f m (nI (k + 1)) τ = some a := by
  have h40 := ab_l40 hW
  have s1 := lq_sz hC
  have m1 := lq_szm hM
  have m9 := hM.1.1 1 (by decide)
  obtain ⟨w1, -⟩ := hW.2.2.2.2.2
  have hwire := hW.1.2.1
  intro f
  induction f with
  | zero => intro k m h1 h2; omega
  | succ f ih =>
    intro k m h1 h2
    rw [k_lg_restOf_4, k_mm_rest_9, s1, m1, it_le (by omega) (by omega), it_le (by omega) (by omega)]
    by_cases hk : k + 1 < aH A 9
    · have hs := w1 k (by omega)
      rw [if_neg (by omega), if_neg (by omega), nI_pred, ac_at hC hW (x := 5) (c := 5) rfl (show k < aH A 9 by omega) (by decide), pu_b1, ac_at hC hW (x := 3) (c := 3) rfl (show k < aH A 9 by omega) (by decide), pu_b1, nu_up (by omega) (by omega), pu_b1, ac_at hC hW (x := 5) (c := 5) rfl hk (by decide), pu_b1, mo_log hM hW (x := 5) (c := 5) rfl hk (by decide), pu_b1, mo_log hM hW (x := 5) (c := 5) rfl (show k < aH A 9 by omega) (by decide), pu_b1, mo_log hM hW (x := 3) (c := 3) rfl (show k < aH A 9 by omega) (by decide), pu_b1, nu_tk m9 (by omega) (by omega), pu_b1, nI_1, lq_sub, lq_gr]
      exact ih (k + 1) _ (by omega) (by omega)
    · rw [if_pos (by omega), if_pos (by omega)]
      exact ⟨m, rfl, rfl⟩
end lgq

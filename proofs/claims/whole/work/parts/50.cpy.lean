/-! copyFrom. -/
theorem cp_fo {g g1 i : Nat} {σ : en_M} (hg : g1 ≠ g) (hb : σ 12 g1 i 2 = 0 ∨ σ 12 g1 i 2 = 1) : ∃ s, k_fo_copyFrom g i g1 i σ = some s ∧ (∀ k, k < 9 → s 12 g i k = σ 12 g1 i k) ∧ (∀ i' k, i' ≠ i → s 12 g i' k = σ 12 g i' k) := by
  simp only [k_fo_copyFrom, pu_let, pu_wr_g hg]
  rw [en_bz, if_pos hb, pu_b1]
  refine ⟨_, rfl, fun k hk => ?_, fun i' k hi => ?_⟩
  · rcases (show k = 0 ∨ k = 1 ∨ k = 2 ∨ k = 3 ∨ k = 4 ∨ k = 5 ∨ k = 6 ∨ k = 7 ∨ k = 8 by omega) with rfl | rfl | rfl | rfl | rfl | rfl | rfl | rfl | rfl <;> simp [en_wr]
  · simp only [pu_wr_i hi]
theorem cp_sd {g g1 i : Nat} {σ : en_M} (hg : g1 ≠ g) : ∃ s, k_sd_copyFrom g i g1 i σ = some s ∧ (∀ k, k < 11 → s 13 g i k = σ 13 g1 i k) ∧ (∀ i' k, i' ≠ i → s 13 g i' k = σ 13 g i' k) := by
  simp only [k_sd_copyFrom, pu_let, pu_wr_g hg]
  refine ⟨_, rfl, fun k hk => ?_, fun i' k hi => ?_⟩
  · rcases (show k = 0 ∨ k = 1 ∨ k = 2 ∨ k = 3 ∨ k = 4 ∨ k = 5 ∨ k = 6 ∨ k = 7 ∨ k = 8 ∨ k = 9 ∨ k = 10 by omega) with rfl | rfl | rfl | rfl | rfl | rfl | rfl | rfl | rfl | rfl | rfl <;> simp [en_wr]
  · simp only [pu_wr_i hi]
theorem cp_2 {g g1 : Nat} (hg : g1 ≠ g) (r : Nat → Nat → Int32) (hb : ∀ i, i < 6 → r i 2 = 0 ∨ r i 2 = 1) : ∀ (f i : Nat) (s : en_M), i ≤ 6 → 6 < i + f → s 12 g1 = r → (∀ i' k, i' < i → k < 9 → s 12 g i' k = r i' k) → ∃ s', k_cd_copyFrom_2 f g g1 (nI i) s = some s' ∧ ∀ i' k, i' < 6 → k < 9 → s' 12 g i' k = r i' k := by
  intro f
  induction f with
  | zero => intro i s h1 h2; omega
  | succ f ih =>
    intro i s h1 h2 h3 h4
    rw [k_cd_copyFrom_2, show (6 : Int32) = nI 6 from rfl, it_le (by decide) (by omega)]
    by_cases hi : i < 6
    · obtain ⟨s1, a1, a2, a3⟩ := cp_fo (g := g) (g1 := g1) (i := i) (σ := s) hg (by rw [h3]; exact hb i hi)
      have hf := f_fo_copyFrom a1
      have e1 : s1 12 g1 = r := by
        rw [hf 12 g1 (by simpa using hg)]
        exact h3
      rw [if_neg (by omega), pu_ix hi (by decide), pu_b1, pu_b1, a1, pu_b1, nI_1]
      refine ih (i + 1) s1 (by omega) (by omega) e1 (fun i' k c1 c2 => ?_)
      by_cases e : i' = i
      · subst e
        rw [a2 k c2, h3]
      · rw [a3 i' k e]
        exact h4 i' k (by omega) c2
    · rw [if_pos (by omega)]
      exact ⟨s, rfl, fun i' k c1 c2 => h4 i' k (by omega) c2⟩
theorem cp_31 {g g1 : Nat} (hg : g1 ≠ g) (r : Nat → Nat → Int32) : ∀ (f i : Nat) (s : en_M), i ≤ 8 → 8 < i + f → s 13 g1 = r → (∀ i' k, i' < i → k < 11 → s 13 g i' k = r i' k) → ∃ s', k_cd_copyFrom_31 f g g1 (nI i) s = some s' ∧ ∀ i' k, i' < 8 → k < 11 → s' 13 g i' k = r i' k := by
  intro f
  induction f with
  | zero => intro i s h1 h2; omega
  | succ f ih =>
    intro i s h1 h2 h3 h4
    rw [k_cd_copyFrom_31, show (8 : Int32) = nI 8 from rfl, it_le (by decide) (by omega)]
    by_cases hi : i < 8
    · obtain ⟨s1, a1, a2, a3⟩ := cp_sd (g := g) (g1 := g1) (i := i) (σ := s) hg
      have hf := f_sd_copyFrom a1
      have e1 : s1 13 g1 = r := by
        rw [hf 13 g1 (by simpa using hg)]
        exact h3
      rw [if_neg (by omega), pu_ix hi (by decide), pu_b1, pu_b1, a1, pu_b1, nI_1]
      refine ih (i + 1) s1 (by omega) (by omega) e1 (fun i' k c1 c2 => ?_)
      by_cases e : i' = i
      · subst e
        rw [a2 k c2, h3]
      · rw [a3 i' k e]
        exact h4 i' k (by omega) c2
    · rw [if_pos (by omega)]
      exact ⟨s, rfl, fun i' k c1 c2 => h4 i' k (by omega) c2⟩
theorem cp_card {g g1 : Nat} {σ : en_M} (hg : g1 ≠ g) (hb : ab_C2b σ g1) : ∃ s, k_cd_copyFrom g g1 σ = some s ∧ cd_same σ g1 s g := by
  obtain ⟨s9, a1, a2⟩ := cp_2 hg (σ 12 g1) hb en_fu 0 σ (by omega) (by rw [en_fu]; omega) rfl (fun i' k c1 c2 => by omega)
  rw [nI_0] at a1
  have fa := f_cd_copyFrom_2 a1
  obtain ⟨s19, b1, b2⟩ := cp_31 hg (σ 13 g1) en_fu 0 s9 (by omega) (by rw [en_fu]; omega) (fa 13 g1 (by simp)) (fun i' k c1 c2 => by omega)
  rw [nI_0] at b1
  have fb := f_cd_copyFrom_31 b1
  have e19 : ∀ j, j ≠ 12 → j ≠ 13 → s19 j = σ j := fun j h12 h13 => funext fun g' => by
    rw [fb j g' (by simp [h13]), fa j g' (by simp [h12])]
  have e12 : ∀ i k, i < 6 → k < 9 → s19 12 g i k = σ 12 g1 i k := fun i k c1 c2 => by
    rw [fb 12 g (by simp)]
    exact a2 i k c1 c2
  rw [k_cd_copyFrom, a1, pu_b1, b1, pu_b1]
  simp only [pu_let, k_lg_copyFrom, k_fi_copyFrom, k_ta_copyFrom, pu_b1]
  refine ⟨_, rfl, ?_⟩
  have hgg : ¬ g1 = g := hg
  refine ⟨fun k h1 h2 => ?_, fun i k h1 h2 => ?_, fun i k h1 h2 => ?_, fun k h1 => ⟨?_, ?_, ?_⟩, fun k h1 h2 => ?_, fun k h1 => ?_, ?_, fun k h1 => ⟨?_, ?_⟩, fun k h1 => ?_⟩
  · rcases (show k = 8 ∨ k = 9 ∨ k = 10 ∨ k = 11 ∨ k = 12 ∨ k = 13 ∨ k = 14 ∨ k = 15 ∨ k = 16 by omega) with rfl | rfl | rfl | rfl | rfl | rfl | rfl | rfl | rfl <;> simp [en_wr, en_cp, hgg, e19]
  · have := e12 i k h1 h2
    simp [en_wr, en_cp, this]
  · have := b2 i k h1 h2
    simp [en_wr, en_cp, this]
  · simp [en_wr, en_cp, h1, e19]
  · simp [en_wr, en_cp, h1, e19]
  · simp [en_wr, en_cp, h1, e19]
  · rcases (show k = 1 ∨ k = 2 by omega) with rfl | rfl <;> simp [en_wr, en_cp, hgg, e19]
  · simp [en_wr, en_cp, h1, e19]
  · simp [en_wr, en_cp, hgg, e19]
  · simp [en_wr, en_cp, h1, e19]
  · simp [en_wr, en_cp, h1, e19]
  · rcases (show k = 0 ∨ k = 1 ∨ k = 2 ∨ k = 3 ∨ k = 4 ∨ k = 5 by omega) with rfl | rfl | rfl | rfl | rfl | rfl <;> simp [en_wr, en_cp, hgg, e19]

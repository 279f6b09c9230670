/-! Rows copied, the model. -/
theorem cy_aside : ∀ (F i : Nat) (τ : en_M), i ≤ 938 → 938 < i + F → ∃ τ1, k_mm_putsAside_2 F (nI i) τ = some τ1 ∧ (∀ x, i ≤ x → x < 938 → τ1 26 0 0 x = τ 25 0 0 x) ∧ (∀ x, x < i → τ1 26 0 0 x = τ 26 0 0 x) ∧ en_fr [(26, 0)] τ τ1 := by
  intro F
  induction F with
  | zero => intro i τ h1 h2; omega
  | succ F ih =>
    intro i τ h1 h2
    rw [k_mm_putsAside_2, show (938 : Int32) = nI 938 from rfl, it_le (by decide) (by omega)]
    by_cases hi : i < 938
    · rw [if_neg (by omega), pu_rd (by omega) (by decide), pu_b1, pu_wa (by omega) (by decide), pu_b1, nI_1]
      obtain ⟨τ1, a1, a2, a3, a4⟩ := ih (i + 1) (en_wr τ 26 0 0 i (τ 25 0 0 i)) (by omega) (by omega)
      refine ⟨τ1, a1, fun x hx hx2 => ?_, fun x hx => ?_, fr_tr (fr_wr rfl (by simp)) a4⟩
      · by_cases e : x = i
        · subst e
          rw [a3 x (by omega), pu_wr_eq]
        · rw [a2 x (by omega) hx2, pu_wr_j (by decide)]
      · rw [a3 x (by omega), pu_wr_k (by omega)]
    · rw [if_pos (by omega)]
      exact ⟨τ, rfl, fun x _ _ => by omega, fun _ _ => rfl, fr_rf _ _⟩
theorem cy_back : ∀ (F i : Nat) (τ : en_M), i ≤ 938 → 938 < i + F → ∃ τ1, k_mm_back_16 F (nI i) τ = some τ1 ∧ (∀ x, i ≤ x → x < 938 → τ1 25 0 0 x = τ 27 0 0 x) ∧ (∀ x, x < i → τ1 25 0 0 x = τ 25 0 0 x) ∧ en_fr [(25, 0)] τ τ1 := by
  intro F
  induction F with
  | zero => intro i τ h1 h2; omega
  | succ F ih =>
    intro i τ h1 h2
    rw [k_mm_back_16, show (938 : Int32) = nI 938 from rfl, it_le (by decide) (by omega)]
    by_cases hi : i < 938
    · rw [if_neg (by omega), pu_rd (by omega) (by decide), pu_b1, pu_wa (by omega) (by decide), pu_b1, nI_1]
      obtain ⟨τ1, a1, a2, a3, a4⟩ := ih (i + 1) (en_wr τ 25 0 0 i (τ 27 0 0 i)) (by omega) (by omega)
      refine ⟨τ1, a1, fun x hx hx2 => ?_, fun x hx => ?_, fr_tr (fr_wr rfl (by simp)) a4⟩
      · by_cases e : x = i
        · subst e
          rw [a3 x (by omega), pu_wr_eq]
        · rw [a2 x (by omega) hx2, pu_wr_j (by decide)]
      · rw [a3 x (by omega), pu_wr_k (by omega)]
    · rw [if_pos (by omega)]
      exact ⟨τ, rfl, fun x _ _ => by omega, fun _ _ => rfl, fr_rf _ _⟩
theorem cy_image : ∀ (F i : Nat) (τ : en_M), i ≤ 938 → 938 < i + F → ∃ τ1, k_mm_image_7 F (nI i) τ = some τ1 ∧ (∀ x, i ≤ x → x < 938 → τ1 27 0 0 x = τ 25 0 0 x) ∧ (∀ x, x < i → τ1 27 0 0 x = τ 27 0 0 x) ∧ en_fr [(27, 0)] τ τ1 := by
  intro F
  induction F with
  | zero => intro i τ h1 h2; omega
  | succ F ih =>
    intro i τ h1 h2
    rw [k_mm_image_7, show (938 : Int32) = nI 938 from rfl, it_le (by decide) (by omega)]
    by_cases hi : i < 938
    · rw [if_neg (by omega), pu_rd (by omega) (by decide), pu_b1, pu_wa (by omega) (by decide), pu_b1, nI_1]
      obtain ⟨τ1, a1, a2, a3, a4⟩ := ih (i + 1) (en_wr τ 27 0 0 i (τ 25 0 0 i)) (by omega) (by omega)
      refine ⟨τ1, a1, fun x hx hx2 => ?_, fun x hx => ?_, fr_tr (fr_wr rfl (by simp)) a4⟩
      · by_cases e : x = i
        · subst e
          rw [a3 x (by omega), pu_wr_eq]
        · rw [a2 x (by omega) hx2, pu_wr_j (by decide)]
      · rw [a3 x (by omega), pu_wr_k (by omega)]
    · rw [if_pos (by omega)]
      exact ⟨τ, rfl, fun x _ _ => by omega, fun _ _ => rfl, fr_rf _ _⟩
theorem cy_acts : ∀ (F i : Nat) (τ : en_M), i ≤ 938 → 938 < i + F → ∃ τ1, k_mm_acts_220 F (nI i) τ = some τ1 ∧ (∀ x, i ≤ x → x < 938 → τ1 25 0 0 x = τ 26 0 0 x) ∧ (∀ x, x < i → τ1 25 0 0 x = τ 25 0 0 x) ∧ en_fr [(25, 0)] τ τ1 := by
  intro F
  induction F with
  | zero => intro i τ h1 h2; omega
  | succ F ih =>
    intro i τ h1 h2
    rw [k_mm_acts_220, show (938 : Int32) = nI 938 from rfl, it_le (by decide) (by omega)]
    by_cases hi : i < 938
    · rw [if_neg (by omega), pu_rd (by omega) (by decide), pu_b1, pu_wa (by omega) (by decide), pu_b1, nI_1]
      obtain ⟨τ1, a1, a2, a3, a4⟩ := ih (i + 1) (en_wr τ 25 0 0 i (τ 26 0 0 i)) (by omega) (by omega)
      refine ⟨τ1, a1, fun x hx hx2 => ?_, fun x hx => ?_, fr_tr (fr_wr rfl (by simp)) a4⟩
      · by_cases e : x = i
        · subst e
          rw [a3 x (by omega), pu_wr_eq]
        · rw [a2 x (by omega) hx2, pu_wr_j (by decide)]
      · rw [a3 x (by omega), pu_wr_k (by omega)]
    · rw [if_pos (by omega)]
      exact ⟨τ, rfl, fun x _ _ => by omega, fun _ _ => rfl, fr_rf _ _⟩
theorem cy_undo {c : Nat} (hc : c < 8) : ∀ (F i : Nat) (τ : en_M), τ 24 0 0 5 = nI c → i ≤ 938 → 938 < i + F → ∃ τ1, k_mm_undo_37 F (nI i) τ = some τ1 ∧ (∀ x, i ≤ x → x < 938 → τ1 25 0 0 x = τ 28 0 0 (938 * c + x)) ∧ (∀ x, x < i → τ1 25 0 0 x = τ 25 0 0 x) ∧ en_fr [(25, 0)] τ τ1 := by
  intro F
  induction F with
  | zero => intro i τ _ h1 h2; omega
  | succ F ih =>
    intro i τ h0 h1 h2
    rw [k_mm_undo_37, show (938 : Int32) = nI 938 from rfl, it_le (by decide) (by omega)]
    by_cases hi : i < 938
    · rw [if_neg (by omega), h0, pk_mul, nI_add, pu_rd (by omega) (by decide), pu_b1, pu_wa (by omega) (by decide), pu_b1, nI_1]
      obtain ⟨τ1, a1, a2, a3, a4⟩ := ih (i + 1) (en_wr τ 25 0 0 i (τ 28 0 0 (938 * c + i))) (by rw [pu_wr_j (by decide), h0]) (by omega) (by omega)
      refine ⟨τ1, a1, fun x hx hx2 => ?_, fun x hx => ?_, fr_tr (fr_wr rfl (by simp)) a4⟩
      · by_cases e : x = i
        · subst e
          rw [a3 x (by omega), pu_wr_eq]
        · rw [a2 x (by omega) hx2, pu_wr_j (by decide)]
      · rw [a3 x (by omega), pu_wr_k (by omega)]
    · rw [if_pos (by omega)]
      exact ⟨τ, rfl, fun x _ _ => by omega, fun _ _ => rfl, fr_rf _ _⟩
theorem cy_put {c : Nat} (hc : c < 8) : ∀ (F i : Nat) (τ : en_M), τ 24 0 0 5 = nI c → i ≤ 938 → 938 < i + F → ∃ τ1, k_mm_remembers_52 F (nI i) τ = some τ1 ∧ (∀ x, i ≤ x → x < 938 → τ1 28 0 0 (938 * c + x) = τ 26 0 0 x) ∧ (∀ x, (x < 938 * c + i ∨ 938 * c + 938 ≤ x) → τ1 28 0 0 x = τ 28 0 0 x) ∧ en_fr [(28, 0)] τ τ1 := by
  intro F
  induction F with
  | zero => intro i τ _ h1 h2; omega
  | succ F ih =>
    intro i τ h0 h1 h2
    rw [k_mm_remembers_52, show (938 : Int32) = nI 938 from rfl, it_le (by decide) (by omega)]
    by_cases hi : i < 938
    · rw [if_neg (by omega), h0, pk_mul, nI_add, pu_rd (by omega) (by decide), pu_b1, pu_wa (by omega) (by decide), pu_b1, nI_1]
      obtain ⟨τ1, a1, a2, a3, a4⟩ := ih (i + 1) (en_wr τ 28 0 0 (938 * c + i) (τ 26 0 0 i)) (by rw [pu_wr_j (by decide), h0]) (by omega) (by omega)
      refine ⟨τ1, a1, fun x hx hx2 => ?_, fun x hx => ?_, fr_tr (fr_wr rfl (by simp)) a4⟩
      · by_cases e : x = i
        · subst e
          rw [a3 _ (by omega), pu_wr_eq]
        · rw [a2 x (by omega) hx2, pu_wr_j (by decide)]
      · rw [a3 x (by omega), pu_wr_k (by omega)]
    · rw [if_pos (by omega)]
      exact ⟨τ, rfl, fun x _ _ => by omega, fun _ _ => rfl, fr_rf _ _⟩
theorem cy_shift : ∀ (F i : Nat) (τ : en_M), i ≤ 6566 → 6566 < i + F → ∃ τ1, k_mm_remembers_11 F (nI i) τ = some τ1 ∧ (∀ x, (x < i ∨ 6566 ≤ x) → τ1 28 0 0 x = τ 28 0 0 x) ∧ (∀ x, i ≤ x → x < 6566 → τ1 28 0 0 x = τ 28 0 0 (x + 938)) ∧ en_fr [(28, 0)] τ τ1 := by
  intro F
  induction F with
  | zero => intro i τ h2 h3; omega
  | succ F ih =>
    intro i τ h2 h3
    rw [k_mm_remembers_11, show (6566 : Int32) = nI 6566 from rfl, it_le (by decide) (by omega)]
    by_cases hi : i < 6566
    · rw [if_neg (by omega), show (938 : Int32) = nI 938 from rfl, nI_add, pu_rd (by omega) (by decide), pu_b1, pu_wa (by omega) (by decide), pu_b1, nI_1]
      obtain ⟨τ1, a1, a2, a3, a4⟩ := ih (i + 1) (en_wr τ 28 0 0 i (τ 28 0 0 (i + 938))) (by omega) (by omega)
      refine ⟨τ1, a1, fun x hx => ?_, fun x hx hx2 => ?_, fr_tr (fr_wr rfl (by simp)) a4⟩
      · rw [a2 x (by omega), pu_wr_k (by omega)]
      · by_cases e : x = i
        · subst e
          rw [a2 x (by omega), pu_wr_eq]
        · rw [a3 x (by omega) hx2, pu_wr_k (by omega)]
    · rw [if_pos (by omega)]
      exact ⟨τ, rfl, fun _ _ => rfl, fun x _ _ => by omega, fr_rf _ _⟩
/-- a row put aside, whole -/
theorem cy_puts (τ : en_M) : ∃ τ1, k_mm_putsAside τ = some τ1 ∧ (∀ x, x < 938 → τ1 26 0 0 x = τ 25 0 0 x) ∧ en_fr [(26, 0)] τ τ1 := by
  obtain ⟨τ1, a1, a2, -, a4⟩ := cy_aside en_fu 0 τ (by omega) (by rw [en_fu]; omega)
  rw [nI_0] at a1
  exact ⟨τ1, by rw [k_mm_putsAside, a1, pu_b1], fun x hx => a2 x (by omega) hx, a4⟩
/-- a row remembered: those before it, and it -/
theorem cy_rem {τ : en_M} {c : Nat} (hc : c ≤ 8) (h5 : τ 24 0 0 5 = nI c) : ∃ τ1, k_mm_remembers τ = some τ1 ∧ τ1 24 0 0 5 = nI (min 8 (c + 1)) ∧ (∀ x, x ≠ 5 → τ1 24 0 0 x = τ 24 0 0 x) ∧ (∀ x, x < 938 → τ1 28 0 0 (938 * (min 8 (c + 1) - 1) + x) = τ 26 0 0 x) ∧ (∀ i x, i + 1 < min 8 (c + 1) → x < 938 → τ1 28 0 0 (938 * i + x) = τ 28 0 0 (938 * (if c = 8 then i + 1 else i) + x)) ∧ en_fr [(24, 0), (28, 0)] τ τ1 := by
  rw [k_mm_remembers, itx_eq (a := c) (b := 8) (y := 8) h5 rfl (by omega) (by decide)]
  by_cases e : c = 8
  · subst e
    rw [if_pos rfl]
    obtain ⟨s18, a1, a2, a3, a4⟩ := cy_shift en_fu 0 τ (by omega) (by rw [en_fu]; omega)
    rw [nI_0] at a1
    have e5 : s18 24 0 0 5 = nI 8 := by rw [a4 24 0 (by simp), h5]
    obtain ⟨s20, h20⟩ : ∃ z, en_wr s18 24 0 0 5 (nI 7) = z := ⟨_, rfl⟩
    obtain ⟨s23, b1, b2, b3, b4⟩ := cy_put (c := 7) (by omega) en_fu 0 s20 (by rw [← h20, pu_wr_eq]) (by omega) (by rw [en_fu]; omega)
    rw [nI_0] at b1
    have e23 : s23 24 0 0 5 = nI 7 := by rw [b4 24 0 (by simp), ← h20, pu_wr_eq]
    refine ⟨en_wr s23 24 0 0 5 (nI 8), ?_, by rw [pu_wr_eq]; rfl, fun x hx => ?_, fun x hx => ?_, fun i x hi hx => ?_, ?_⟩
    · rw [a1, pu_b1, pu_let, e5, show nI 8 - 1 = nI 7 from rfl, h20, b1, pu_b1, pu_let, e23, show nI 7 + 1 = nI 8 from rfl]
    · rw [pu_wr_k hx, b4 24 0 (by simp), ← h20, pu_wr_k hx, a4 24 0 (by simp)]
    · rw [pu_wr_j (by decide), show min 8 (8 + 1) - 1 = 7 from rfl, b2 x (by omega) hx, ← h20, pu_wr_j (by decide), a4 26 0 (by simp)]
    · rw [pu_wr_j (by decide), b3 _ (by omega), ← h20, pu_wr_j (by decide), a3 _ (by omega) (by omega), if_pos rfl, show 938 * i + x + 938 = 938 * (i + 1) + x by omega]
    · exact fr_tr (fr_tr (fr_sub a4 (by simp)) (fr_wr h20 (by simp))) (fr_tr (fr_sub b4 (by simp)) (fr_wr rfl (by simp)))
  · rw [if_neg e]
    obtain ⟨s8, b1, b2, b3, b4⟩ := cy_put (c := c) (by omega) en_fu 0 τ h5 (by omega) (by rw [en_fu]; omega)
    rw [nI_0] at b1
    have e8 : s8 24 0 0 5 = nI c := by rw [b4 24 0 (by simp), h5]
    have em : min 8 (c + 1) = c + 1 := by omega
    rw [em]
    refine ⟨en_wr s8 24 0 0 5 (nI (c + 1)), ?_, by rw [pu_wr_eq], fun x hx => ?_, fun x hx => ?_, fun i x hi hx => ?_, ?_⟩
    · rw [b1, pu_b1, pu_let, e8, nI_1]
    · rw [pu_wr_k hx, b4 24 0 (by simp)]
    · rw [pu_wr_j (by decide), Nat.add_sub_cancel, b2 x (by omega) hx]
    · rw [pu_wr_j (by decide), b3 _ (by omega), if_neg e]
    · exact fr_tr (fr_sub b4 (by simp)) (fr_wr rfl (by simp))

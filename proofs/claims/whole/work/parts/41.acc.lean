/-! What the class and the model read of a card. -/
theorem nu_sl {a b c : Nat} (ha : a < 2 ^ 30) (hb : b < 2 ^ 30) (hc : c < 2 ^ 30) : (nI a - nI b ≤ nI c) = (a ≤ c + b) := by
  rw [Int32.le_iff_toInt_le, pk_sub_toInt ha hb, nI_toInt (by omega)]
  exact propext ⟨fun h => by omega, fun h => by omega⟩
theorem nu_sll {a b : Nat} {x : Int32} (ha : a < 2 ^ 30) (hb : b < 2 ^ 30) : (x < nI a - nI b) = (x.toInt + b < a) := by
  rw [Int32.lt_iff_toInt_lt, pk_sub_toInt ha hb]
  exact propext ⟨fun h => by omega, fun h => by omega⟩
theorem nu_slx {a b : Nat} {x : Int32} (ha : a < 2 ^ 30) (hb : b < 2 ^ 30) : (nI a - nI b ≤ x) = ((a : Int) ≤ x.toInt + b) := by
  rw [Int32.le_iff_toInt_le, pk_sub_toInt ha hb]
  exact propext ⟨fun h => by omega, fun h => by omega⟩
theorem nu_lx {a : Nat} {x : Int32} (ha : a < 2 ^ 31) : (nI a ≤ x) = ((a : Int) ≤ x.toInt) := by
  rw [Int32.le_iff_toInt_le, nI_toInt ha]
theorem nu_ltx {a : Nat} {x : Int32} (ha : a < 2 ^ 31) : (x < nI a) = (x.toInt < (a : Int)) := by
  rw [Int32.lt_iff_toInt_lt, nI_toInt ha]
theorem nu_ltx' {a : Nat} {x : Int32} (ha : a < 2 ^ 31) : (nI a < x) = ((a : Int) < x.toInt) := by
  rw [Int32.lt_iff_toInt_lt, nI_toInt ha]
theorem nu_lex {a : Nat} {x : Int32} (ha : a < 2 ^ 31) : (x ≤ nI a) = (x.toInt ≤ (a : Int)) := by
  rw [Int32.le_iff_toInt_le, nI_toInt ha]
theorem nu_of {x : Int32} {a : Nat} (h0 : 0 ≤ x.toInt) (h : x.toInt < (a : Int)) (ha : a < 2 ^ 31) : ∃ n, n < a ∧ x = nI n := by
  refine ⟨x.toInt.toNat, by omega, ?_⟩
  apply Int32.toInt_inj.mp
  rw [nI_toInt (by omega)]
  omega
theorem it_sl {α : Type} {a b c : Nat} {p q : α} (ha : a < 2 ^ 30) (hb : b < 2 ^ 30) (hc : c < 2 ^ 30) : (if nI a - nI b ≤ nI c then p else q) = (if a ≤ c + b then p else q) := by simp only [nu_sl ha hb hc]
theorem it_lx {α : Type} {a : Nat} {x : Int32} {p q : α} (ha : a < 2 ^ 31) : (if nI a ≤ x then p else q) = (if (a : Int) ≤ x.toInt then p else q) := by simp only [nu_lx ha]
theorem it_ltx' {α : Type} {a : Nat} {x : Int32} {p q : α} (ha : a < 2 ^ 31) : (if nI a < x then p else q) = (if (a : Int) < x.toInt then p else q) := by simp only [nu_ltx' ha]
theorem nu_m8 (n : Nat) (hn : n < 2 ^ 31) : nI n - nI n / 8 * 8 = nI (n % 8) := pu_rem hn (by decide) (by decide)
theorem ab_N {A : ab_A} {t : Nat} (hW : ab_W A t) : aH A 5 ≤ 7168 ∧ aH A 6 ≤ 7168 ∧ aH A 0 ≤ 8 ∧ 1 ≤ aH A 0 ∧ aH A 6 ≤ aH A 5 ∧ aH A 5 ≤ aH A 6 + 8 ∧ aH A 3 ≤ 6 ∧ aH A 4 ≤ 9999 := by
  obtain ⟨⟨w0, w1, w2, w3, w4, w5, w6, w7, w8, w9, w10, w11⟩, -⟩ := hW
  omega
theorem ab_in_win {A : ab_A} {t n : Nat} (hW : ab_W A t) (h : aH A 6 ≤ n) (h2 : n < aH A 5) : ab_win A n := by
  have := ab_N hW
  exact ⟨h2, by omega⟩
theorem ab_pc {A : ab_A} {t n : Nat} (hW : ab_W A t) (h : ab_win A n) : aS A n 6 ≤ 20 ∧ aS A n 7 ≤ aS A n 6 := by
  obtain ⟨-, -, w3, -⟩ := hW
  obtain ⟨-, q1, q2, -, q4, q5, q6, q7, -⟩ := w3 n h
  refine ⟨?_, q7⟩
  rcases (show aS A n 4 = 1 ∨ aS A n 4 = 2 ∨ aS A n 4 = 0 ∨ aS A n 4 = 3 by omega) with h1 | h1 | h1 | h1
  · rw [(q5 (Or.inl h1)).1]; exact ab_up_le q1.2 q2.1
  · rw [(q5 (Or.inr h1)).1]; exact ab_up_le q1.2 q2.1
  · rw [q6 (Or.inl h1)]; omega
  · rw [q6 (Or.inr h1)]; omega
/-- a piece that there is: its send is seen or done, and its bytes are there -/
theorem ab_pk {A : ab_A} {t n k : Nat} (hW : ab_W A t) (h : ab_win A n) (hk : k < aS A n 6) : (aS A n 4 = 1 ∨ aS A n 4 = 2) ∧ aS A n 6 = ab_up (aS A n 1) (aS A n 2) ∧ k * aS A n 2 < aS A n 1 ∧ k < 20 := by
  have h20 := (ab_pc hW h).1
  obtain ⟨-, -, w3, -⟩ := hW
  obtain ⟨-, q1, q2, -, q4, q5, q6, q7, -⟩ := w3 n h
  have hs : aS A n 4 = 1 ∨ aS A n 4 = 2 := by
    rcases (show aS A n 4 = 1 ∨ aS A n 4 = 2 ∨ aS A n 4 = 0 ∨ aS A n 4 = 3 by omega) with h1 | h1 | h1 | h1
    · exact Or.inl h1
    · exact Or.inr h1
    · rw [q6 (Or.inl h1)] at hk; omega
    · rw [q6 (Or.inr h1)] at hk; omega
  have e := (q5 hs).1
  exact ⟨hs, e, ab_up_lt q1.1 (by rw [← e]; exact hk), by omega⟩
section acc
variable {σ τ : en_M} {g t : Nat} {A : ab_A}
theorem ac_sendAt (hC : ab_Cs σ g A) (hW : ab_W A t) {n : Nat} (h : ab_win A n) : k_cd_sendAt g (nI n) σ = some (some (n % 8)) := by
  have hN := ab_N hW
  obtain ⟨⟨-, -, -, -, -, c5, -⟩, -⟩ := hC
  obtain ⟨h1, h2⟩ := h
  rw [k_cd_sendAt, it_neg (by omega), c5, it_le (by omega) (by omega), if_neg (by omega), show (8 : Int32) = nI 8 from rfl, it_sl (by omega) (by omega) (by omega), if_pos (by omega), pu_rem (by omega) (by decide) (by decide), pu_ix (Nat.mod_lt _ (by decide)) (by decide), pu_b1]
theorem ac_sendOut (hC : ab_Cs σ g A) (hW : ab_W A t) {v : Int32} (h : ∀ n, v = nI n → ¬ ab_win A n) : k_cd_sendAt g v σ = some none := by
  have hN := ab_N hW
  obtain ⟨⟨-, -, -, -, -, c5, -⟩, -⟩ := hC
  rw [k_cd_sendAt]
  split
  · rfl
  · rename_i h0
    rw [c5]
    split
    · rfl
    · rename_i h1
      rw [nu_lx (by omega)] at h1
      have h0' : 0 ≤ v.toInt := by
        rw [Int32.lt_iff_toInt_lt] at h0
        have e : (0 : Int32).toInt = 0 := by decide
        omega
      obtain ⟨n, hn, rfl⟩ := nu_of h0' (show v.toInt < (aH A 5 : Int) by omega) (by omega)
      have h2 := h n rfl
      rw [show (8 : Int32) = nI 8 from rfl, it_sl (by omega) (by omega) (by omega), if_neg]
      exact fun q => h2 ⟨hn, q⟩
theorem ac_known (hC : ab_Cs σ g A) (hM : ab_MR (τ 25 0 0) A) (hW : ab_W A t) (v : Int32) : (∃ n, v = nI n ∧ ab_win A n ∧ aH A 5 ≤ n + aH A 0 ∧ k_cd_knownSend g v σ = some (some (n % 8)) ∧ k_mm_isKnown v τ = 1) ∨ (k_cd_knownSend g v σ = some none ∧ k_mm_isKnown v τ = 0) := by
  have hN := ab_N hW
  have c5 := hC.1.2.2.2.2.2.1
  have c0 := hC.1.1
  have m5 := hM.1.1 5 (by decide)
  have m0 := hM.1.1 0 (by decide)
  by_cases hk : ∃ n, v = nI n ∧ n < aH A 5 ∧ aH A 5 ≤ n + aH A 0
  · obtain ⟨n, rfl, h1, h2⟩ := hk
    have hw : ab_win A n := ⟨h1, by omega⟩
    refine Or.inl ⟨n, rfl, hw, h2, ?_, ?_⟩
    · rw [k_cd_knownSend, c5, c0, it_sl (by omega) (by omega) (by omega), if_pos h2, ac_sendAt hC hW hw, pu_b1]
    · rw [k_mm_isKnown, m5, m0, k_mm_isIn, show (1 : Int32) = nI 1 from rfl, pk_sub (a := aH A 5) (b := 1) (by omega), if_neg, if_neg]
      · rw [pu_lt (by omega) (by omega)]
        omega
      · rw [k_mm_greater]
        split
        · rw [nu_sll (by omega) (by omega), nI_toInt (by omega)]
          omega
        · rw [nu_neg (by omega)]
          exact fun h => h
  · refine Or.inr ⟨?_, ?_⟩
    · rw [k_cd_knownSend, c5, c0]
      split
      · rename_i hq
        rw [nu_slx (by omega) (by omega)] at hq
        rw [ac_sendOut hC hW, pu_b1]
        rintro n rfl ⟨h1, h2⟩
        rw [nI_toInt (by omega)] at hq
        exact hk ⟨n, rfl, h1, by omega⟩
      · rfl
    · rw [k_mm_isKnown, m5, m0, k_mm_isIn]
      split
      · rfl
      · rename_i hl
        split
        · rfl
        · rename_i hh
          exfalso
          have h0 : 0 ≤ v.toInt := by
            rw [k_mm_greater] at hl
            split at hl
            · rename_i hz
              rw [nu_sll (by omega) (by omega)] at hl
              rw [← nI_0, Int32.le_iff_toInt_le, pk_sub_toInt (by omega) (by omega), nI_toInt (by decide)] at hz
              omega
            · rw [Int32.lt_iff_toInt_lt] at hl
              have e : (0 : Int32).toInt = 0 := by decide
              omega
          have h1 : v.toInt < (aH A 5 : Int) := by
            by_cases hz : aH A 5 = 0
            · rw [hz] at hh
              have e9 : nI 0 - 1 = -1 := by decide
              rw [e9, Int32.lt_iff_toInt_lt] at hh
              have e : (-1 : Int32).toInt = -1 := by decide
              omega
            · rw [show (1 : Int32) = nI 1 from rfl, pk_sub (by omega), nu_ltx' (by omega)] at hh
              omega
          obtain ⟨n, hn, rfl⟩ := nu_of h0 h1 (by omega)
          refine hk ⟨n, rfl, hn, ?_⟩
          rw [k_mm_greater] at hl
          split at hl
          · rw [nu_sll (by omega) (by omega), nI_toInt (by omega)] at hl
            omega
          · rename_i hz
            rw [← nI_0, Int32.le_iff_toInt_le, pk_sub_toInt (by omega) (by omega), nI_toInt (by decide)] at hz
            omega
theorem ac_flow (hC : ab_Cs σ g A) (hM : ab_MR (τ 25 0 0) A) (hW : ab_W A t) (v : Int32) : (∃ f, v = nI f ∧ f < aH A 3 ∧ k_cd_flowAt g v σ = some (some f) ∧ k_mm_isFlow v τ = 1) ∨ (k_cd_flowAt g v σ = some none ∧ k_mm_isFlow v τ = 0) := by
  have hN := ab_N hW
  have c3 := hC.1.2.2.2.2.1
  have m3 := hM.1.1 3 (by decide)
  by_cases h0 : v < 0
  · refine Or.inr ⟨by rw [k_cd_flowAt, if_pos h0], ?_⟩
    rw [k_mm_isFlow, k_mm_isIn, if_pos h0]
  · have h0' : 0 ≤ v.toInt := by
      rw [Int32.lt_iff_toInt_lt] at h0
      have e : (0 : Int32).toInt = 0 := by decide
      omega
    by_cases h1 : v.toInt < (aH A 3 : Int)
    · obtain ⟨f, hf, rfl⟩ := nu_of h0' h1 (by omega)
      refine Or.inl ⟨f, rfl, hf, ?_, ?_⟩
      · rw [k_cd_flowAt, if_neg h0, c3, it_le (by omega) (by omega), if_neg (by omega), show (6 : Int32) = nI 6 from rfl, it_lt (by omega) (by decide), if_pos (by omega), pu_ix (by omega) (by decide), pu_b1]
      · rw [k_mm_isFlow, k_mm_isIn, if_neg h0, m3, show (1 : Int32) = nI 1 from rfl, pk_sub (by omega), it_lt (by omega) (by omega), if_neg (by omega)]
    · refine Or.inr ⟨?_, ?_⟩
      · rw [k_cd_flowAt, if_neg h0, c3, it_lx (by omega), if_pos (by omega)]
      · rw [k_mm_isFlow, k_mm_isIn, if_neg h0, m3]
        by_cases hz : aH A 3 = 0
        · rw [hz, if_pos]
          rw [show nI 0 - 1 = -1 by decide, Int32.lt_iff_toInt_lt]
          have e : (-1 : Int32).toInt = -1 := by decide
          omega
        · rw [show (1 : Int32) = nI 1 from rfl, pk_sub (by omega), it_ltx' (by omega), if_pos (by omega)]
theorem ac_flowIn (hC : ab_Cs σ g A) (hW : ab_W A t) {f : Nat} (h : f < aH A 3) : k_cd_flowAt g (nI f) σ = some (some f) := by
  have hN := ab_N hW
  have c3 := hC.1.2.2.2.2.1
  rw [k_cd_flowAt, it_neg (by omega), c3, it_le (by omega) (by omega), if_neg (by omega), show (6 : Int32) = nI 6 from rfl, it_lt (by omega) (by decide), if_pos (by omega), pu_ix (by omega) (by decide), pu_b1]
theorem ac_waits (hC : ab_Cs σ g A) (hW : ab_W A t) {n : Nat} (h : ab_win A n) : k_sd_waits g (n % 8) σ = (if aS A n 4 = 1 ∧ aS A n 7 < aS A n 6 then 1 else 0) := by
  have hp := ab_pc hW h
  have hs : aS A n 4 ≤ 3 := (hW.2.2.1 n h).2.2.2.2.1
  obtain ⟨-, -, -, -, -, c5, c6, c7, -⟩ := hC.2 n h
  rw [k_sd_waits, c5, c6, c7, itx_eq (y := 1) (b := 1) rfl rfl (by omega) (by decide), it_le (by omega) (by omega)]
  by_cases h1 : aS A n 4 = 1
  · rw [if_pos h1]
    by_cases h2 : aS A n 7 < aS A n 6
    · rw [if_neg (by omega), if_pos ⟨h1, h2⟩]
    · rw [if_pos (by omega), if_neg (fun q => h2 q.2)]
  · rw [if_neg h1, if_neg (fun q => h1 q.1)]
theorem ac_over (hC : ab_Cs σ g A) (hW : ab_W A t) {n : Nat} (h : ab_win A n) : k_sd_isOver g (n % 8) σ = (if 2 ≤ aS A n 4 then 1 else 0) := by
  have hs : aS A n 4 ≤ 3 := (hW.2.2.1 n h).2.2.2.2.1
  obtain ⟨-, -, -, -, -, c5, -⟩ := hC.2 n h
  rw [k_sd_isOver, c5, itx_eq (y := 2) (b := 2) rfl rfl (by omega) (by decide), itx_eq (y := 3) (b := 3) rfl rfl (by omega) (by decide)]
  by_cases h1 : aS A n 4 = 2
  · rw [if_pos h1, if_pos (by omega)]
  · rw [if_neg h1]
    by_cases h2 : aS A n 4 = 3
    · rw [if_pos h2, if_pos (by omega)]
    · rw [if_neg h2, if_neg (by omega)]
theorem ac_index (hC : ab_Cs σ g A) (hW : ab_W A t) {n k : Nat} (h : ab_win A n) (hk : k < 20) : k_sd_indexOf g (n % 8) (nI k) σ = nI (20 * (n % 8) + k) := by
  have hN := ab_N hW
  have hn := h.1
  obtain ⟨c0, -⟩ := hC.2 n h
  rw [k_sd_indexOf, it_neg (by omega), show (20 : Int32) = nI 20 from rfl, it_le (by decide) (by omega), if_neg (by omega), c0, it_pos (by omega), nu_m8 n (by omega), pk_mul, nI_add, Nat.mul_comm]
theorem ac_size (hC : ab_Cs σ g A) (hW : ab_W A t) {n k : Nat} (h : ab_win A n) (hk : k < aS A n 6) : k_sd_sizeOf g (n % 8) (nI k) σ = nI (ab_sz A n k) := by
  obtain ⟨-, hu, hlt, h20⟩ := ab_pk hW h hk
  have hp := ab_pc hW h
  obtain ⟨-, q1, q2, -⟩ := hW.2.2.1 n h
  obtain ⟨-, -, c2, c3, -, -, c6, -⟩ := hC.2 n h
  rw [k_sd_sizeOf, c6, c2, c3, show (1 : Int32) = nI 1 from rfl, pk_sub (by omega), it_eq (by omega) (by omega), ab_sz, show (12 : Int32) = nI 12 from rfl]
  by_cases h1 : k = aS A n 6 - 1
  · have := ab_up_last (l := aS A n 1) (c := aS A n 2) (k := k) (by omega) (by omega)
    rw [if_pos h1, pk_mul, pk_sub (by omega), nI_add, Nat.min_eq_right this]
  · have := ab_up_mid (l := aS A n 1) (c := aS A n 2) (k := k) (by omega)
    rw [if_neg h1, nI_add, Nat.min_eq_left this]
end acc

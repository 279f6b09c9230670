/-! Sums of a piece. -/
theorem bt_shl8 {b : Nat} (hb : b < 65536) : nI b <<< (8 &&& 31) = nI (256 * b) := by
  apply Int32.toBitVec_inj.mp
  apply BitVec.eq_of_toNat_eq
  show ((nI b).toBitVec <<< ((8 &&& 31 : Int32).toBitVec.smod 32)).toNat = _
  rw [show ((8 &&& 31 : Int32).toBitVec.smod 32) = 8#32 by decide, BitVec.shiftLeft_eq', BitVec.toNat_shiftLeft, pk_tn (by omega), pk_tn (by omega), show (8#32).toNat = 8 from rfl, Nat.shiftLeft_eq]
  omega
theorem bt_or {a b : Nat} (hb : b < 256) (ha : a < 65536) : nI (256 * a) ||| nI b = nI (256 * a + b) := by
  apply Int32.toBitVec_inj.mp
  apply BitVec.eq_of_toNat_eq
  rw [Int32.toBitVec_or, BitVec.toNat_or, pk_tn (by omega), pk_tn (by omega), pk_tn (by omega)]
  exact (Nat.two_pow_add_eq_or_of_lt (i := 8) hb a).symm
theorem oc_b_lt (A : ab_A) (n j : Nat) : oc_b A n j < 256 := Nat.mod_lt _ (by decide)
def oc_h (A : ab_A) (n k : Nat) : Nat → Nat
  | 0 => 0
  | w + 1 => oc_h A n k w + oc_w A n k w
/-- the bytes' sum: of two the first counts 256 fold -/
def oc_s (A : ab_A) (n o : Nat) : Nat → Nat
  | 0 => 0
  | j + 1 => oc_s A n o j + (if j % 2 = 0 then 256 * oc_b A n (o + j) else oc_b A n (o + j))
theorem oc_s_le (A : ab_A) (n o : Nat) : ∀ j, oc_s A n o j ≤ 65280 * j := by
  intro j
  induction j with
  | zero => exact Nat.le_refl _
  | succ j ih =>
    have := oc_b_lt A n (o + j)
    rw [oc_s]
    split <;> omega
section sms
variable {σ τ : en_M} {g t : Nat} {A : ab_A}
theorem oc_w_lt (hW : ab_W A t) {n k w : Nat} (h : ab_win A n) (hk : k < aS A n 6) (hw : w < 5) : oc_w A n k w < 65536 := by
  obtain ⟨b1, b2, b3, b4, b5, b6, b7, b8⟩ := oc_bd hW h hk
  have hs := ab_sz_le (A := A) (n := n) (k := k) b8.2
  have hdiv : (aS A n 8 + k * aS A n 2) / 65536 < 65536 := Nat.div_lt_of_lt_mul (by omega)
  rw [oc_w]
  split
  · omega
  split
  · omega
  split
  · omega
  split
  · omega
  split <;> split <;> omega
theorem oc_h_le (hW : ab_W A t) {n k : Nat} (h : ab_win A n) (hk : k < aS A n 6) : ∀ w, w ≤ 5 → oc_h A n k w ≤ 65536 * w := by
  intro w
  induction w with
  | zero => intro _; exact Nat.le_refl _
  | succ w ih =>
    intro hw
    have := oc_w_lt hW h hk (w := w) (by omega)
    have := ih (by omega)
    rw [oc_h]
    omega
theorem sm_h (hC : ab_Cs σ g A) (hM : ab_MR (τ 25 0 0) A) (hW : ab_W A t) {n k : Nat} (h : ab_win A n) (hk : k < aS A n 6) : ∀ (m w F : Nat), w + m = 5 → m < F → k_sd_plainSum_4 F g (n % 8) (nI k) (nI (oc_h A n k w)) (nI w) σ = some (nI (oc_h A n k 5)) ∧ k_mm_sumOf_5 F (nI n) (nI k) (nI (oc_h A n k w)) (nI w) τ = some (nI (oc_h A n k 5)) := by
  intro m
  induction m with
  | zero =>
    intro w F e hF
    obtain ⟨F, rfl⟩ : ∃ q, F = q + 1 := ⟨F - 1, by omega⟩
    have hw : w = 5 := by omega
    subst hw
    exact ⟨by rw [k_sd_plainSum_4, if_pos (show (5 : Int32) ≤ nI 5 by decide)], by rw [k_mm_sumOf_5, if_pos (show (5 : Int32) ≤ nI 5 by decide)]⟩
  | succ m ih =>
    intro w F e hF
    obtain ⟨F, rfl⟩ : ∃ q, F = q + 1 := ⟨F - 1, by omega⟩
    obtain ⟨i1, i2⟩ := ih (w + 1) F (by omega) (by omega)
    refine ⟨?_, ?_⟩
    · rw [k_sd_plainSum_4, itx_le (a := 5) (b := w) (x := 5) rfl rfl (by decide) (by omega), if_neg (by omega), oc_head hC hW h hk (by omega), nI_add, nI_1]
      exact i1
    · rw [k_mm_sumOf_5, itx_le (a := 5) (b := w) (x := 5) rfl rfl (by decide) (by omega), if_neg (by omega), oc_headm hM hW h hk (by omega), pu_b1, nI_add, nI_1]
      exact i2
/-- a word of the body -/
theorem oc_bw (hC : ab_Cs σ g A) (hW : ab_W A t) {n k i : Nat} (h : ab_win A n) (hk : k < aS A n 6) (hi : 2 * i < ab_sz A n k - 12) : k_sd_bodyWord g (n % 8) (nI k) (nI (6 + i)) σ = nI (256 * oc_b A n (k * aS A n 2 + 2 * i) + (if 2 * i + 1 < ab_sz A n k - 12 then oc_b A n (k * aS A n 2 + (2 * i + 1)) else 0)) := by
  obtain ⟨b1, b2, b3, b4, b5, b6, b7, b8⟩ := oc_bd hW h hk
  have hs := ab_sz_le (A := A) (n := n) (k := k) b8.2
  have l1 := oc_b_lt A n (k * aS A n 2 + 2 * i)
  have l2 := oc_b_lt A n (k * aS A n 2 + (2 * i + 1))
  rw [k_sd_bodyWord, ac_size hC hW h hk, show (2 : Int32) = nI 2 from rfl, pk_mul, nI_1, nI_pred, it_le (by omega) (by omega), oc_body hC hW h hk (o := 2 * (6 + i)) (by omega) (by omega), oc_body hC hW h hk (o := 2 * (6 + i) + 1) (by omega) (by omega), show k * aS A n 2 + 2 * (6 + i) - 12 = k * aS A n 2 + 2 * i by omega, show k * aS A n 2 + (2 * (6 + i) + 1) - 12 = k * aS A n 2 + (2 * i + 1) by omega, bt_shl8 (by omega), show (0 : Int32) = nI 0 from rfl, bt_or (by omega) (by omega), bt_or (oc_b_lt _ _ _) (by omega)]
  by_cases e : 2 * i + 1 < ab_sz A n k - 12
  · rw [if_neg (by omega), if_pos e]
  · rw [if_pos (by omega), if_neg e]
theorem oc_s2 (A : ab_A) (n o m i : Nat) (hi : 2 * i < m) : oc_s A n o (min m (2 * (i + 1))) = oc_s A n o (min m (2 * i)) + (256 * oc_b A n (o + 2 * i) + (if 2 * i + 1 < m then oc_b A n (o + (2 * i + 1)) else 0)) := by
  rw [show min m (2 * i) = 2 * i by omega]
  by_cases e : 2 * i + 1 < m
  · rw [if_pos e, show min m (2 * (i + 1)) = 2 * i + 1 + 1 by omega, oc_s, oc_s, if_pos (by omega), if_neg (by omega)]
    omega
  · rw [if_neg e, show min m (2 * (i + 1)) = 2 * i + 1 by omega, oc_s, if_pos (by omega), Nat.add_zero]
theorem sm_c (hC : ab_Cs σ g A) (hW : ab_W A t) {n k : Nat} (h : ab_win A n) (hk : k < aS A n 6) (H : Nat) : ∀ (d i F : Nat), i + d = (ab_sz A n k - 12 + 1) / 2 → d < F → k_sd_plainSum_38 F g (n % 8) (nI k) (nI (H + oc_s A n (k * aS A n 2) (min (ab_sz A n k - 12) (2 * i)))) (nI ((ab_sz A n k + 1) / 2)) (nI (6 + i)) σ = some (nI (H + oc_s A n (k * aS A n 2) (ab_sz A n k - 12))) := by
  obtain ⟨b1, b2, b3, b4, b5, b6, b7, b8⟩ := oc_bd hW h hk
  have hs := ab_sz_le (A := A) (n := n) (k := k) b8.2
  have hs12 : 12 ≤ ab_sz A n k := by rw [ab_sz]; omega
  intro d
  induction d with
  | zero =>
    intro i F e hF
    obtain ⟨F, rfl⟩ : ∃ q, F = q + 1 := ⟨F - 1, by omega⟩
    rw [k_sd_plainSum_38, it_le (by omega) (by omega), if_pos (by omega), show min (ab_sz A n k - 12) (2 * i) = ab_sz A n k - 12 by omega]
  | succ d ih =>
    intro i F e hF
    obtain ⟨F, rfl⟩ : ∃ q, F = q + 1 := ⟨F - 1, by omega⟩
    rw [k_sd_plainSum_38, it_le (by omega) (by omega), if_neg (by omega), oc_bw hC hW h hk (by omega), nI_add, nI_1, Nat.add_assoc, ← oc_s2 A n _ _ i (by omega), Nat.add_assoc]
    exact ih (i + 1) F (by omega) (by omega)
theorem sm_m (hM : ab_MR (τ 25 0 0) A) (hW : ab_W A t) {n k : Nat} (h : ab_win A n) (hk : k < aS A n 6) (H : Nat) : ∀ (d j F : Nat), j + d = ab_sz A n k - 12 → d < F → k_mm_sumOf_41 F (nI n) (nI k) (nI (H + oc_s A n (k * aS A n 2) j)) (nI (k * aS A n 2)) (nI j) τ = some (nI (H + oc_s A n (k * aS A n 2) (ab_sz A n k - 12))) := by
  obtain ⟨b1, b2, b3, b4, b5, b6, b7, b8⟩ := oc_bd hW h hk
  have hs := ab_sz_le (A := A) (n := n) (k := k) b8.2
  have hby : k_mm_bytesOf (nI n) (nI k) τ = some (nI (ab_sz A n k - 12)) := by rw [mo_byt hM hW h hk, ab_sz, Nat.add_sub_cancel_left]
  intro d
  induction d with
  | zero =>
    intro j F e hF
    obtain ⟨F, rfl⟩ : ∃ q, F = q + 1 := ⟨F - 1, by omega⟩
    rw [k_mm_sumOf_41, hby, pu_b1, it_le (by omega) (by omega), if_pos (by omega), show j = ab_sz A n k - 12 by omega]
  | succ d ih =>
    intro j F e hF
    obtain ⟨F, rfl⟩ : ∃ q, F = q + 1 := ⟨F - 1, by omega⟩
    have i1 := ih (j + 1) F (by omega) (by omega)
    rw [oc_s] at i1
    rw [k_mm_sumOf_41, hby, pu_b1, it_le (by omega) (by omega), if_neg (by omega), show (2 : Int32) = nI 2 from rfl, pu_rem (by omega) (by decide) (by decide), itx_eq (a := j % 2) (b := 0) (y := 0) rfl rfl (by omega) (by decide), nI_add, oc_bodym hM hW h (by omega), pu_b1, pu_b1, show (256 : Int32) = nI 256 from rfl, pk_mul, nI_add, nI_add, nI_1]
    by_cases c : j % 2 = 0
    · rw [if_pos c] at i1 ⊢
      rw [Nat.add_assoc]
      exact i1
    · rw [if_neg c] at i1 ⊢
      rw [Nat.add_assoc]
      exact i1
end sms

/-! The words and bytes of a piece. -/
def oc_b (A : ab_A) (n j : Nat) : Nat := (j * j + 13 * j + 7 * n + aS A n 0) % 256
def oc_w (A : ab_A) (n k w : Nat) : Nat := if w = 0 then ab_sz A n k else if w = 1 then (64 * n + k) % 65536 else if w = 2 then (aS A n 8 + k * aS A n 2) / 65536 else if w = 3 then (aS A n 8 + k * aS A n 2) % 65536 else 16 * aS A n 0 + (if k = 0 then 1 else 0) + (if k + 1 = aS A n 6 then 2 else 0)
section oct
variable {σ τ : en_M} {g t : Nat} {A : ab_A}
theorem oc_bd (hW : ab_W A t) {n k : Nat} (h : ab_win A n) (hk : k < aS A n 6) : n ≤ 7168 ∧ aS A n 0 < 6 ∧ k < 20 ∧ k * aS A n 2 ≤ 200 ∧ aR A n 2 = nI (aS A n 8) ∧ aS A n 8 ≤ 11478799 ∧ (1 ≤ aS A n 1 ∧ aS A n 1 ≤ 200) ∧ (10 ≤ aS A n 2 ∧ aS A n 2 ≤ 100) := by
  obtain ⟨a1, a2, a3, a4⟩ := ab_pk hW h hk
  have hN := ab_N hW
  have ht := hW.1.2.2.2.2.2.2.2.2.2.2.2
  have hn := h.1
  obtain ⟨q0, q1, q2, -, -, q5, -⟩ := hW.2.2.1 n h
  obtain ⟨-, -, -, x1, x2⟩ := q5 a1
  exact ⟨by omega, by omega, a4, by omega, x1, by omega, q1, q2⟩
theorem oc_body (hC : ab_Cs σ g A) (hW : ab_W A t) {n k o : Nat} (h : ab_win A n) (hk : k < aS A n 6) (ho : 12 ≤ o) (ho2 : o ≤ 200) : k_sd_bodyOctet g (n % 8) (nI k) (nI o) σ = nI (oc_b A n (k * aS A n 2 + o - 12)) := by
  obtain ⟨b1, b2, b3, b4, b5, b6, b7, b8⟩ := oc_bd hW h hk
  obtain ⟨d0, d1, -, d3, -⟩ := hC.2 n h
  obtain ⟨j, hj⟩ : ∃ j, k * aS A n 2 + o - 12 = j := ⟨_, rfl⟩
  have hj4 : j ≤ 400 := by omega
  have hjj : j * j ≤ 400 * 400 := Nat.mul_le_mul hj4 hj4
  rw [k_sd_bodyOctet, d0, d1, d3, pk_mul, nI_add, show (12 : Int32) = nI 12 from rfl, pk_sub (by omega), hj, pk_mul, show (13 : Int32) = nI 13 from rfl, pk_mul, nI_add, show (7 : Int32) = nI 7 from rfl, pk_mul, nI_add, nI_add, bt_and8 (by omega), oc_b]
theorem oc_bodym (hM : ab_MR (τ 25 0 0) A) (hW : ab_W A t) {n j : Nat} (h : ab_win A n) (hj : j ≤ 400) : k_mm_byteOf (nI n) (nI j) τ = some (nI (oc_b A n j)) := by
  have hN := ab_N hW
  have hn := h.1
  have q0 := (hW.2.2.1 n h).1
  have hjj : j * j ≤ 400 * 400 := Nat.mul_le_mul hj hj
  rw [k_mm_byteOf, mo_snd hM hW (x := 0) (w := 0) rfl h (by decide), pu_b1, pk_mul, show (13 : Int32) = nI 13 from rfl, pk_mul, nI_add, show (7 : Int32) = nI 7 from rfl, pk_mul, nI_add, nI_add, show (256 : Int32) = nI 256 from rfl, pu_rem (by omega) (by decide) (by decide), oc_b]
theorem oc_head (hC : ab_Cs σ g A) (hW : ab_W A t) {n k w : Nat} (h : ab_win A n) (hk : k < aS A n 6) (hw : w < 5) : k_sd_headWord g (n % 8) (nI k) (nI w) σ = nI (oc_w A n k w) := by
  obtain ⟨b1, b2, b3, b4, b5, b6, b7, b8⟩ := oc_bd hW h hk
  have hp := ab_pc hW h
  obtain ⟨d0, d1, -, d3, -, -, d6, -, -, -, d10⟩ := hC.2 n h
  rw [b5] at d10
  have hwi : k_sd_whereIs g (n % 8) (nI k) σ = nI (aS A n 8 + k * aS A n 2) := by rw [k_sd_whereIs, d10, d3, pk_mul, nI_add]
  have hdiv : (aS A n 8 + k * aS A n 2) / 65536 < 65536 := Nat.div_lt_of_lt_mul (by omega)
  rw [k_sd_headWord, ac_size hC hW h hk, hwi, d0, d1, d6, show (64 : Int32) = nI 64 from rfl, pk_mul, nI_add, bt_and16 (by omega), bt_shr16 (by omega), bt_and16 (by omega), bt_and16 (by omega), Nat.mod_eq_of_lt hdiv, itx_eq (a := w) (b := 0) (y := 0) rfl rfl (by omega) (by decide), itx_eq (a := w) (b := 1) (y := 1) rfl rfl (by omega) (by decide), itx_eq (a := w) (b := 2) (y := 2) rfl rfl (by omega) (by decide), itx_eq (a := w) (b := 3) (y := 3) rfl rfl (by omega) (by decide), itx_eq (a := w) (b := 4) (y := 4) rfl rfl (by omega) (by decide), itx_eq (a := k) (b := 0) (y := 0) rfl rfl (by omega) (by decide), show (1 : Int32) = nI 1 from rfl, pk_sub (by omega), it_eq (by omega) (by omega), it_eq (by omega) (by omega), show (16 : Int32) = nI 16 from rfl, pk_mul, show (2 : Int32) = nI 2 from rfl, show (0 : Int32) = nI 0 from rfl]
  simp only [nI_add]
  by_cases c0 : w = 0
  · rw [if_pos c0, oc_w, if_pos c0]
  rw [if_neg c0, oc_w, if_neg c0]
  by_cases c1 : w = 1
  · rw [if_pos c1, if_pos c1]
  rw [if_neg c1, if_neg c1]
  by_cases c2 : w = 2
  · rw [if_pos c2, if_pos c2]
  rw [if_neg c2, if_neg c2]
  by_cases c3 : w = 3
  · rw [if_pos c3, if_pos c3]
  rw [if_neg c3, if_neg c3, if_pos (by omega)]
  by_cases e0 : k = 0
  · rw [if_pos e0, if_pos e0]
    by_cases e1 : k = aS A n 6 - 1
    · rw [if_pos e1, if_pos (by omega)]
    · rw [if_neg e1, if_neg (by omega)]
  · rw [if_neg e0, if_neg e0]
    by_cases e1 : k = aS A n 6 - 1
    · rw [if_pos e1, if_pos (by omega)]
    · rw [if_neg e1, if_neg (by omega)]
theorem oc_headm (hM : ab_MR (τ 25 0 0) A) (hW : ab_W A t) {n k w : Nat} (h : ab_win A n) (hk : k < aS A n 6) (hw : w < 5) : k_mm_wordOf (nI n) (nI k) (nI w) τ = some (nI (oc_w A n k w)) := by
  obtain ⟨b1, b2, b3, b4, b5, b6, b7, b8⟩ := oc_bd hW h hk
  have hp := ab_pc hW h
  rw [k_mm_wordOf, mo_raw hM hW (x := 7) (w := 2) rfl h (by decide), pu_b1, mo_snd hM hW (x := 2) (w := 2) rfl h (by decide), pu_b1, b5, mo_sz hM hW h hk, pu_b1, mo_snd hM hW (x := 0) (w := 0) rfl h (by decide), pu_b1, mo_pcs hM hW h, pu_b1, pu_b1, show (64 : Int32) = nI 64 from rfl, pk_mul, nI_add, pk_mul, nI_add, show (65536 : Int32) = nI 65536 from rfl, pu_rem (by omega) (by decide) (by decide), pu_rem (by omega) (by decide) (by decide), pk_div (by omega) (by decide) (by omega), itx_eq (a := w) (b := 0) (y := 0) rfl rfl (by omega) (by decide), itx_eq (a := w) (b := 1) (y := 1) rfl rfl (by omega) (by decide), itx_eq (a := w) (b := 2) (y := 2) rfl rfl (by omega) (by decide), itx_eq (a := w) (b := 3) (y := 3) rfl rfl (by omega) (by decide), itx_eq (a := k) (b := 0) (y := 0) rfl rfl (by omega) (by decide), show (1 : Int32) = nI 1 from rfl, pk_sub (by omega), it_eq (by omega) (by omega), it_eq (by omega) (by omega), show (16 : Int32) = nI 16 from rfl, pk_mul, show (2 : Int32) = nI 2 from rfl, show (0 : Int32) = nI 0 from rfl]
  simp only [nI_add]
  by_cases c0 : w = 0
  · rw [if_pos c0, oc_w, if_pos c0]
  rw [if_neg c0, oc_w, if_neg c0]
  by_cases c1 : w = 1
  · rw [if_pos c1, if_pos c1]
  rw [if_neg c1, if_neg c1]
  by_cases c2 : w = 2
  · rw [if_pos c2, if_pos c2]
  rw [if_neg c2, if_neg c2]
  by_cases c3 : w = 3
  · rw [if_pos c3, if_pos c3]
  rw [if_neg c3, if_neg c3]
  by_cases e0 : k = 0
  · rw [if_pos e0, if_pos e0]
    by_cases e1 : k = aS A n 6 - 1
    · rw [if_pos e1, if_pos (by omega)]
    · rw [if_neg e1, if_neg (by omega)]
  · rw [if_neg e0, if_neg e0]
    by_cases e1 : k = aS A n 6 - 1
    · rw [if_pos e1, if_pos (by omega)]
    · rw [if_neg e1, if_neg (by omega)]
end oct

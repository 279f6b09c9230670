/-! What the model reads of its row. -/
theorem mo_slot {n : Nat} (hn : n < 2 ^ 31) : k_mm_slotOf (nI n) = nI (74 + 68 * (n % 8)) := by
  rw [k_mm_slotOf, nu_m8 n hn, show (68 : Int32) = nI 68 from rfl, show (74 : Int32) = nI 74 from rfl, pk_mul, nI_add]
theorem mo_of {n w : Nat} {x : Int32} {τ : en_M} (hx : x = nI w) (hn : n < 2 ^ 31) (hw : w < 68) : k_mm_of (nI n) x τ = some (τ 25 0 0 (74 + 68 * (n % 8) + w)) := by
  have hm : n % 8 < 8 := Nat.mod_lt _ (by decide)
  rw [k_mm_of, hx, mo_slot hn, nI_add, pu_rd (by omega) (by decide), pu_b1]
theorem mo_fl {f w : Nat} {x : Int32} {τ : en_M} (hx : x = nI w) (hf : f < 6) (hw : w < 9) : k_mm_flowAt (nI f) x τ = some (τ 25 0 0 (20 + 9 * f + w)) := by
  rw [k_mm_flowAt, hx, show (20 : Int32) = nI 20 from rfl, show (9 : Int32) = nI 9 from rfl, pk_mul, nI_add, nI_add, pu_rd (by omega) (by decide), pu_b1]
theorem mo_pat {n k w : Nat} {x : Int32} (hx : x = nI w) (hn : n < 2 ^ 31) : k_mm_pieceAt (nI n) (nI k) x = nI (74 + 68 * (n % 8) + (8 + 3 * k + w)) := by
  rw [k_mm_pieceAt, hx, mo_slot hn, show (8 : Int32) = nI 8 from rfl, show (3 : Int32) = nI 3 from rfl, pk_mul, nI_add, nI_add, nI_add]
  congr 1
  omega
theorem mo_pl {n k : Nat} (hn : n < 2 ^ 31) : k_mm_placeIn (nI n) (nI k) = nI (20 * (n % 8) + k) := by
  rw [k_mm_placeIn, nu_m8 n hn, show (20 : Int32) = nI 20 from rfl, pk_mul, nI_add]
theorem mo_lg {k w : Nat} {x : Int32} {τ : en_M} (hx : x = nI w) (hk : k < 40) (hw : w < 7) : k_mm_logAt (nI k) x τ = some (τ 25 0 0 (618 + 7 * k + w)) := by
  rw [k_mm_logAt, hx, show (618 : Int32) = nI 618 from rfl, show (7 : Int32) = nI 7 from rfl, pk_mul, nI_add, nI_add, pu_rd (by omega) (by decide), pu_b1]
section mod
variable {σ τ : en_M} {g t : Nat} {A : ab_A}
theorem mo_snd (hM : ab_MR (τ 25 0 0) A) (hW : ab_W A t) {n w : Nat} {x : Int32} (hx : x = nI w) (h : ab_win A n) (hw : w < 5) : k_mm_of (nI n) x τ = some (nI (aS A n w)) := by
  have hN := ab_N hW
  have hn := h.1
  rw [mo_of hx (by omega) (by omega), (hM.2.2.1 n h).1 w hw]
theorem mo_raw (hM : ab_MR (τ 25 0 0) A) (hW : ab_W A t) {n w : Nat} {x : Int32} (hx : x = nI (5 + w)) (h : ab_win A n) (hw : w < 3) : k_mm_of (nI n) x τ = some (aR A n w) := by
  have hN := ab_N hW
  have hn := h.1
  rw [mo_of hx (by omega) (by omega), (hM.2.2.1 n h).2 w hw]
theorem mo_flw (hM : ab_MR (τ 25 0 0) A) (hW : ab_W A t) {f w : Nat} {x : Int32} (hx : x = nI w) (h : f < aH A 3) (hw : w < 5) : k_mm_flowAt (nI f) x τ = some (nI (aF A f w)) := by
  have hN := ab_N hW
  rw [mo_fl hx (by omega) (by omega), (hM.2.1 f h).1 w hw]
theorem mo_cuts (hM : ab_MR (τ 25 0 0) A) (hW : ab_W A t) {n : Nat} (h : ab_win A n) : k_mm_cutsOf (nI n) τ = some (nI (ab_up (aS A n 1) (aS A n 2))) := by
  obtain ⟨-, q1, q2, -⟩ := hW.2.2.1 n h
  rw [k_mm_cutsOf, mo_snd hM hW (x := 1) (w := 1) rfl h (by decide), pu_b1, mo_snd hM hW (x := 2) (w := 2) rfl h (by decide), pu_b1, pu_b1, nI_add, show (1 : Int32) = nI 1 from rfl, pk_sub (by omega), en_dv, if_neg (nI_ne0 (by omega) (by omega)), pu_b1, pk_div (by omega) (by omega) (by omega), ab_up]
theorem mo_pcs (hM : ab_MR (τ 25 0 0) A) (hW : ab_W A t) {n : Nat} (h : ab_win A n) : k_mm_piecesOf (nI n) τ = some (nI (aS A n 6)) := by
  obtain ⟨-, q1, q2, -, q4, q5, q6, -⟩ := hW.2.2.1 n h
  rw [k_mm_piecesOf, mo_snd hM hW (x := 4) (w := 4) rfl h (by decide), pu_b1, pu_b1, mo_cuts hM hW h, pu_b1, itx_eq (y := 1) (b := 1) rfl rfl (by omega) (by decide), itx_eq (y := 2) (b := 2) rfl rfl (by omega) (by decide)]
  by_cases h1 : aS A n 4 = 1
  · rw [if_pos h1, (q5 (Or.inl h1)).1]
  · rw [if_neg h1]
    by_cases h2 : aS A n 4 = 2
    · rw [if_pos h2, (q5 (Or.inr h2)).1]
    · rw [if_neg h2, q6 (by omega)]
      rfl
theorem mo_byt (hM : ab_MR (τ 25 0 0) A) (hW : ab_W A t) {n k : Nat} (h : ab_win A n) (hk : k < aS A n 6) : k_mm_bytesOf (nI n) (nI k) τ = some (nI (min (aS A n 2) (aS A n 1 - k * aS A n 2))) := by
  obtain ⟨-, hu, hlt, h20⟩ := ab_pk hW h hk
  obtain ⟨-, q1, q2, -⟩ := hW.2.2.1 n h
  rw [k_mm_bytesOf, mo_snd hM hW (x := 2) (w := 2) rfl h (by decide), pu_b1, mo_snd hM hW (x := 1) (w := 1) rfl h (by decide), pu_b1, pu_b1, pk_mul, pk_sub (by omega), nu_ls (by omega) (by omega)]
theorem mo_sz (hM : ab_MR (τ 25 0 0) A) (hW : ab_W A t) {n k : Nat} (h : ab_win A n) (hk : k < aS A n 6) : k_mm_sizeOf (nI n) (nI k) τ = some (nI (ab_sz A n k)) := by
  rw [k_mm_sizeOf, mo_byt hM hW h hk, pu_b1, show (12 : Int32) = nI 12 from rfl, nI_add, ab_sz]
theorem mo_left (hM : ab_MR (τ 25 0 0) A) (hW : ab_W A t) {n k : Nat} (h : ab_win A n) (hk : k < aS A n 6) : k_mm_hasLeft (nI n) (nI k) τ = some (if k < aS A n 7 then 1 else 0) := by
  have hN := ab_N hW
  have hn := h.1
  obtain ⟨-, hu, hlt, h20⟩ := ab_pk hW h hk
  have hm : n % 8 < 8 := Nat.mod_lt _ (by decide)
  obtain ⟨w1, w2⟩ := hW.2.2.2.1 n k h (Or.inl hk)
  rw [k_mm_hasLeft, mo_pat (x := 1) (w := 1) rfl (by omega), pu_rd (by omega) (by decide), pu_b1, ((hM.2.2.2.1 n k h h20).1 (Or.inl hk)).1]
  by_cases h1 : k < aS A n 7
  · obtain ⟨⟨v, hv, e⟩, -⟩ := w1 h1
    rw [e, it_m1 (by omega), if_pos h1]
  · rw [(w2 (by omega)).1, if_pos rfl, if_neg h1]
theorem mo_paused (hM : ab_MR (τ 25 0 0) A) (hW : ab_W A t) {n : Nat} (h : ab_win A n) : k_mm_flowAt (nI (aS A n 0)) 2 τ = some (nI (aF A (aS A n 0) 2)) := mo_flw hM hW rfl (hW.2.2.1 n h).1 (by decide)
theorem ac_paused (hC : ab_CW σ g A) (hW : ab_W A t) {n : Nat} (h : ab_win A n) : k_cd_isPaused g (nI (aS A n 0)) σ = some (nI (aF A (aS A n 0) 2)) := by
  have hN := ab_N hW
  have hf := (hW.2.2.1 n h).1
  have hp := (hW.2.1 _ hf).2.2.1
  rw [k_cd_isPaused, it_neg (by omega), show (6 : Int32) = nI 6 from rfl, it_le (by decide) (by omega), if_neg (by omega), pu_ix (by omega) (by decide), pu_b1, (hC.2.2.1 _ hf).2.2.1]
  rcases (show aF A (aS A n 0) 2 = 0 ∨ aF A (aS A n 0) 2 = 1 by omega) with e | e <;> rw [e]
  · rw [if_pos (by decide)]; rfl
  · rw [if_neg (by decide)]; rfl
/-- a row of the log -/
theorem ac_at (hC : ab_CW σ g A) (hW : ab_W A t) {k c : Nat} {x : Int32} (hx : x = nI c) (hk : k < aH A 9) (hc : c < 7) : k_lg_at g (nI k) x σ = some (nI (aL A k c)) := by
  obtain ⟨-, -, -, -, -, -, -, -, -, h9, -⟩ := hW.1
  obtain ⟨s1, e, he, s2, s3, s4⟩ := hC.2.2.2.2.2.1
  have h40 : (e + k) % 40 < 40 := Nat.mod_lt _ (by decide)
  rw [k_lg_at, it_neg (by omega), s1, it_le (by omega) (by omega), if_neg (by omega), hx, it_neg (by omega), show (7 : Int32) = nI 7 from rfl, it_lt (by omega) (by decide), if_pos hc, s2, nI_add, show (40 : Int32) = nI 40 from rfl, nu_fm (by omega) (by decide) (by decide), pk_mul, nI_add, pu_rd (by omega) (by decide), pu_b1, Nat.mul_comm, s4 k c hk hc]
theorem ac_late (hC : ab_CW σ g A) (hW : ab_W A t) {k : Nat} (hk : k < aH A 9) : k_lg_lateOf g (nI k) σ = some (nI (aL A k 5 - aL A k 4)) := by
  obtain ⟨-, -, -, -, -, -, -, -, -, h9, -⟩ := hW.1
  obtain ⟨l1, -⟩ := hW.2.2.2.2.2
  obtain ⟨s1, -⟩ := hC.2.2.2.2.2.1
  rw [k_lg_lateOf, it_neg (by omega), s1, it_lt (by omega) (by omega), if_pos hk, ac_at hC hW (x := 5) (c := 5) rfl hk (by decide), pu_b1, ac_at hC hW (x := 4) (c := 4) rfl hk (by decide), pu_b1, pk_sub (l1 k hk).2.2.1]
theorem mo_log (hM : ab_MR (τ 25 0 0) A) (hW : ab_W A t) {k c : Nat} {x : Int32} (hx : x = nI c) (hk : k < aH A 9) (hc : c < 7) : k_mm_logAt (nI k) x τ = some (nI (aL A k c)) := by
  obtain ⟨-, -, -, -, -, -, -, -, -, h9, -⟩ := hW.1
  rw [mo_lg hx (by omega) hc, hM.2.2.2.2.1 k c hk hc]
theorem mo_late (hM : ab_MR (τ 25 0 0) A) (hW : ab_W A t) {k : Nat} (hk : k < aH A 9) : k_mm_lateOf (nI k) τ = some (nI (aL A k 5 - aL A k 4)) := by
  obtain ⟨l1, -⟩ := hW.2.2.2.2.2
  rw [k_mm_lateOf, mo_log hM hW (x := 5) (c := 5) rfl hk (by decide), pu_b1, mo_log hM hW (x := 4) (c := 4) rfl hk (by decide), pu_b1, pk_sub (l1 k hk).2.2.1]
end mod

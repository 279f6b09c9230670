/-! On paper: the pieces that remain, in their order. A piece is told as 64 times its send and its number, together. -/
def pq_in (A : ab_A) (x : Nat) : Prop := aH A 6 ≤ x / 64 ∧ x / 64 < aH A 5 ∧ aS A (x / 64) 4 = 1 ∧ aF A (aS A (x / 64) 0) 2 = 0 ∧ aS A (x / 64) 7 ≤ x % 64 ∧ x % 64 < aS A (x / 64) 6
noncomputable def pq_D (A : ab_A) (x : Nat) : Nat := ab_de A (x / 64) (x % 64)
def pq_lt (A : ab_A) (x y : Nat) : Prop := pq_D A x < pq_D A y ∨ (pq_D A x = pq_D A y ∧ x < y)
theorem pq_tr {A : ab_A} {x y z : Nat} (h : pq_lt A x y) (h2 : pq_lt A y z) : pq_lt A x z := by
  rw [pq_lt] at h h2 ⊢
  omega
theorem pq_tot {A : ab_A} {x y : Nat} (h : ¬ pq_lt A x y) (h2 : x ≠ y) : pq_lt A y x := by
  rw [pq_lt] at h ⊢
  omega
/-- the pieces that remain, sorted -/
def pq_S (A : ab_A) (c : Nat → Nat) (N : Nat) : Prop := (∀ j, j < N → pq_in A (c j)) ∧ (∀ i j, i < j → j < N → pq_lt A (c i) (c j)) ∧ (∀ x, pq_in A x → ∃ j, j < N ∧ c j = x) ∧ N ≤ 160
def pq_d (τ : en_M) (A : ab_A) : Prop := ∀ n k, aH A 6 ≤ n → n < aH A 5 → aS A n 4 = 1 → aS A n 7 ≤ k → k < aS A n 6 → τ 30 0 0 (20 * (n % 8) + k) = nI (ab_de A n k)
section pqs
variable {t : Nat} {A : ab_A}
theorem pq_bd (hW : ab_W A t) {x : Nat} (h : pq_in A x) : x < 2 ^ 20 ∧ x / 64 ≤ 7168 ∧ x % 64 < 20 ∧ ab_win A (x / 64) ∧ pq_D A x ≤ 300000 := by
  have hN := ab_N hW
  obtain ⟨h1, h2, h3, h4, h5, h6⟩ := h
  have hw := ab_in_win hW h1 h2
  have hp := (ab_pc hW hw).1
  exact ⟨by omega, by omega, by omega, hw, ti_dp_le hW h1 h2 h3 h6⟩
theorem pq_rd (hW : ab_W A t) {τ : en_M} (hd : pq_d τ A) {x : Nat} (h : pq_in A x) : en_rd 160 (τ 30 0 0) (k_mm_placeIn (nI (x / 64)) (nI (x % 64))) = some (nI (pq_D A x)) := by
  obtain ⟨b1, b2, b3, b4, b5⟩ := pq_bd hW h
  have hm : x / 64 % 8 < 8 := Nat.mod_lt _ (by decide)
  rw [mo_pl (by omega), pu_rd (by omega) (by decide), hd _ _ h.1 h.2.1 h.2.2.1 h.2.2.2.2.1 h.2.2.2.2.2, pq_D]
theorem pq_dm {x : Nat} (hx : x < 2 ^ 31) : nI x / 64 = nI (x / 64) ∧ nI x - nI x / 64 * 64 = nI (x % 64) :=
  ⟨pk_div (a := x) (d := 64) hx (by decide) (by decide), pu_rem (a := x) (d := 64) hx (by decide) (by decide)⟩
theorem pq_ah (hW : ab_W A t) {τ : en_M} (hd : pq_d τ A) {x y : Nat} (h : pq_in A x) (h2 : pq_in A y) : ∃ v, k_mm_isSortedAhead (nI x) (nI y) τ = some v ∧ ((pq_lt A x y ∧ ¬ v = 0) ∨ (¬ pq_lt A x y ∧ v = 0)) := by
  obtain ⟨b1, b2, b3, b4, b5⟩ := pq_bd hW h
  obtain ⟨c1, c2, c3, c4, c5⟩ := pq_bd hW h2
  obtain ⟨d1, d2⟩ := pq_dm (x := x) (by omega)
  obtain ⟨e1, e2⟩ := pq_dm (x := y) (by omega)
  refine ⟨_, by rw [k_mm_isSortedAhead, d2, d1, e2, e1, pq_rd hW hd h, pu_b1, pq_rd hW hd h2, pu_b1, rd_ah (by omega) (by omega) (by omega) (by omega) (by omega) (by omega)], ?_⟩
  by_cases q : pq_lt A x y
  · refine Or.inl ⟨q, ?_⟩
    rw [pq_lt] at q
    rw [if_pos (by omega)]
    decide
  · refine Or.inr ⟨q, ?_⟩
    rw [pq_lt] at q
    rw [if_neg (by omega)]
theorem pq_m1 (p : Nat) : nI (p + 1) + -1 = nI p := by
  rw [← nI_1, Int32.add_assoc]
  exact Int32.add_zero _
theorem so_83 (hW : ab_W A t) {x m : Nat} (hx : pq_in A x) (hm : m < 160) {c : Nat → Nat} (hc : ∀ j, j < m → pq_in A (c j) ∧ c j ≠ x) (hs : ∀ i j, i < j → j < m → pq_lt A (c i) (c j)) : ∀ p F (τ : en_M), p ≤ m → p < F → pq_d τ A → (∀ j, j < p → τ 32 0 0 j = nI (c j)) → (∀ j, p < j → j ≤ m → τ 32 0 0 j = nI (c (j - 1))) → (∀ j, p ≤ j → j < m → pq_lt A x (c j)) → ∃ q s, k_mm_sorts_83 F (nI (x / 64)) (nI (x % 64)) (nI p) τ = some (nI q, s) ∧ q ≤ m ∧ (∀ j, j < q → s 32 0 0 j = nI (c j)) ∧ (∀ j, q < j → j ≤ m → s 32 0 0 j = nI (c (j - 1))) ∧ (∀ j, j < q → pq_lt A (c j) x) ∧ (∀ j, q ≤ j → j < m → pq_lt A x (c j)) ∧ (∀ j, j ≠ 32 → s j = τ j) := by
  intro p
  induction p with
  | zero =>
    intro F τ hp hF hd h1 h2 h3
    obtain ⟨F, rfl⟩ : ∃ q, F = q + 1 := ⟨F - 1, by omega⟩
    refine ⟨0, τ, ?_, by omega, h1, h2, fun j q => by omega, h3, fun _ _ => rfl⟩
    rw [k_mm_sorts_83, if_pos (show nI 0 ≤ 0 by decide)]
  | succ p ih =>
    intro F τ hp hF hd h1 h2 h3
    obtain ⟨F, rfl⟩ : ∃ q, F = q + 1 := ⟨F - 1, by omega⟩
    obtain ⟨b1, b2, b3, b4, b5⟩ := pq_bd hW hx
    obtain ⟨v, v1, v2⟩ := pq_ah hW hd hx (hc p (by omega)).1
    have hx64 : 64 * nI (x / 64) + nI (x % 64) = nI x := by
      rw [show (64 : Int32) = nI 64 from rfl, pk_mul, nI_add, Nat.div_add_mod]
    rw [k_mm_sorts_83, itx_le (a := p + 1) (b := 0) (y := 0) rfl rfl (by omega) (by decide), if_neg (by omega), nI_pred, pu_rd (by omega) (by decide), pu_b1, hx64, h1 p (by omega), v1, pu_b1, pu_b1, pu_wa (by omega) (by decide), pu_b1, pq_m1]
    rcases v2 with ⟨q1, q2⟩ | ⟨q1, q2⟩
    · rw [if_neg q2]
      obtain ⟨q, s, s1, s2, s3, s4, s5, s6, s7⟩ := ih F (en_wr τ 32 0 0 (p + 1) (nI (c p))) (by omega) (by omega) (by rw [pq_d, pu_wr_j (by decide)]; exact hd) (fun j q => by rw [pu_wr_k (by omega)]; exact h1 j (by omega)) (fun j z1 z2 => by
        by_cases e : j = p + 1
        · rw [e, pu_wr_eq]
          rfl
        · rw [pu_wr_k e]
          exact h2 j (by omega) z2) (fun j z1 z2 => by
        by_cases e : j = p
        · rw [e]; exact q1
        · exact h3 j (by omega) z2)
      exact ⟨q, s, s1, s2, s3, s4, s5, s6, fun j z => by rw [s7 j z, pu_wr_j z]⟩
    · rw [if_pos q2]
      refine ⟨p + 1, τ, rfl, hp, h1, h2, fun j q => ?_, h3, fun _ _ => rfl⟩
      have hpx := pq_tot q1 (Ne.symm (hc p (by omega)).2)
      by_cases e : j = p
      · rw [e]; exact hpx
      · exact pq_tr (hs j p (by omega) (by omega)) hpx
/-- all pieces below z are sorted in -/
def so_I (τ : en_M) (A : ab_A) (c : Nat → Nat) (m z : Nat) : Prop := (∀ j, j < m → pq_in A (c j) ∧ c j < z ∧ τ 32 0 0 j = nI (c j)) ∧ (∀ i j, i < j → j < m → pq_lt A (c i) (c j)) ∧ (∀ x, pq_in A x → x < z → ∃ j, j < m ∧ c j = x) ∧ τ 24 0 0 16 = nI m
def so_f (τ s : en_M) : Prop := (∀ j, j ≠ 24 → j ≠ 32 → s j = τ j) ∧ ∀ k, k ≠ 16 → s 24 0 0 k = τ 24 0 0 k
theorem so_rf (τ : en_M) : so_f τ τ := ⟨fun _ _ _ => rfl, fun _ _ => rfl⟩
theorem so_tr {a b c : en_M} (h : so_f a b) (h2 : so_f b c) : so_f a c := ⟨fun j q1 q2 => by rw [h2.1 j q1 q2, h.1 j q1 q2], fun k q => by rw [h2.2 k q, h.2 k q]⟩
theorem so_up {τ : en_M} {c : Nat → Nat} {m z z' : Nat} (h : so_I τ A c m z) (hz : z ≤ z') (hn : ∀ x, z ≤ x → x < z' → ¬ pq_in A x) : so_I τ A c m z' := by
  obtain ⟨h1, h2, h3, h4⟩ := h
  refine ⟨fun j q => ⟨(h1 j q).1, by have := (h1 j q).2.1; omega, (h1 j q).2.2⟩, h2, fun x q1 q2 => h3 x q1 ?_, h4⟩
  apply Decidable.byContradiction
  intro q
  exact hn x (by omega) q2 q1
def so_c (c : Nat → Nat) (q x j : Nat) : Nat := if j < q then c j else if j = q then x else c (j - 1)
theorem so_lo {c : Nat → Nat} {q x j : Nat} (h : j < q) : so_c c q x j = c j := by rw [so_c, if_pos h]
theorem so_eq {c : Nat → Nat} {q x j : Nat} (h : j = q) : so_c c q x j = x := by rw [so_c, if_neg (by omega), if_pos h]
theorem so_hi {c : Nat → Nat} {q x j : Nat} (h : q < j) : so_c c q x j = c (j - 1) := by rw [so_c, if_neg (by omega), if_neg (by omega)]
theorem so_ins (hW : ab_W A t) {τ : en_M} {c : Nat → Nat} {m x : Nat} (hd : pq_d τ A) (h : so_I τ A c m x) (hx : pq_in A x) (hm : m < 160) : ∃ q s31 c', k_mm_sorts_83 en_fu (nI (x / 64)) (nI (x % 64)) (nI m) τ = some (nI q, s31) ∧ q < 160 ∧ so_I (en_wr (en_wr s31 32 0 0 q (nI x)) 24 0 0 16 (nI (m + 1))) A c' (m + 1) (x + 1) ∧ (∀ j, j ≠ 32 → s31 j = τ j) := by
  obtain ⟨h1, h2, h3, h4⟩ := h
  obtain ⟨q, s, s1, s2, s3, s4, s5, s6, s7⟩ := so_83 hW hx hm (c := c) (fun j z => ⟨(h1 j z).1, by have := (h1 j z).2.1; omega⟩) h2 m en_fu τ (Nat.le_refl _) (by rw [en_fu]; omega) hd (fun j z => (h1 j z).2.2) (fun j z1 z2 => by omega) (fun j z1 z2 => by omega)
  refine ⟨q, s, so_c c q x, s1, by omega, ⟨fun j hj => ?_, fun i j hi hj => ?_, fun y hy hyx => ?_, pu_wr_eq⟩, s7⟩
  · rw [pu_wr_j (by decide)]
    by_cases c1 : j < q
    · rw [so_lo c1, pu_wr_k (by omega)]
      have := h1 j (by omega)
      exact ⟨this.1, by omega, s3 j c1⟩
    · by_cases c2 : j = q
      · rw [so_eq c2, c2, pu_wr_eq]
        exact ⟨hx, by omega, rfl⟩
      · rw [so_hi (by omega), pu_wr_k c2]
        have := h1 (j - 1) (by omega)
        exact ⟨this.1, by omega, s4 j (by omega) (by omega)⟩
  · by_cases c1 : j < q
    · rw [so_lo (show i < q by omega), so_lo c1]
      exact h2 i j hi (by omega)
    · by_cases c2 : j = q
      · rw [so_eq c2, so_lo (show i < q by omega)]
        exact s5 i (by omega)
      · rw [so_hi (show q < j by omega)]
        by_cases c3 : i < q
        · rw [so_lo c3]
          exact h2 i (j - 1) (by omega) (by omega)
        · by_cases c4 : i = q
          · rw [so_eq c4]
            exact s6 (j - 1) (by omega) (by omega)
          · rw [so_hi (show q < i by omega)]
            exact h2 (i - 1) (j - 1) (by omega) (by omega)
  · by_cases e : y = x
    · exact ⟨q, by omega, by rw [so_eq rfl, e]⟩
    · obtain ⟨j, j1, j2⟩ := h3 y hy (by omega)
      by_cases c1 : j < q
      · exact ⟨j, by omega, by rw [so_lo c1, j2]⟩
      · exact ⟨j + 1, by omega, by rw [so_hi (by omega), Nat.add_sub_cancel, j2]⟩
theorem so_57 (hW : ab_W A t) {n : Nat} (h6 : aH A 6 ≤ n) (h5 : n < aH A 5) (h4 : aS A n 4 = 1) (hz : aF A (aS A n 0) 2 = 0) : ∀ d k F (τ : en_M) (c : Nat → Nat) (m : Nat), k + d = aS A n 6 → d < F → ab_MR (τ 25 0 0) A → pq_d τ A → so_I τ A c m (64 * n + k) → m ≤ 20 * (n - aH A 6) + k → ∃ s c' m', k_mm_sorts_57 F (nI n) (nI k) τ = some s ∧ so_I s A c' m' (64 * n + aS A n 6) ∧ m' ≤ 20 * (n - aH A 6) + aS A n 6 ∧ so_f τ s := by
  have hN := ab_N hW
  have hw := ab_in_win hW h6 h5
  have hp := (ab_pc hW hw).1
  intro d
  induction d with
  | zero =>
    intro k F τ c m e hF hM hd hI hm
    obtain ⟨F, rfl⟩ : ∃ q, F = q + 1 := ⟨F - 1, by omega⟩
    refine ⟨τ, c, m, ?_, by rw [← show k = aS A n 6 by omega]; exact hI, by omega, so_rf τ⟩
    rw [k_mm_sorts_57, mo_pcs hM hW hw, pu_b1, it_le (by omega) (by omega), if_pos (by omega)]
  | succ d ih =>
    intro k F τ c m e hF hM hd hI hm
    obtain ⟨F, rfl⟩ : ∃ q, F = q + 1 := ⟨F - 1, by omega⟩
    have e64 : 64 * nI n + nI k = nI (64 * n + k) := by rw [show (64 : Int32) = nI 64 from rfl, pk_mul, nI_add]
    have x1 : (64 * n + k) / 64 = n := by omega
    have x2 : (64 * n + k) % 64 = k := by omega
    rw [k_mm_sorts_57, mo_pcs hM hW hw, pu_b1, it_le (by omega) (by omega), if_neg (by omega), mo_left hM hW hw (by omega), pu_b1, e64, nI_1]
    by_cases hk : k < aS A n 7
    · rw [if_pos hk, if_neg (show ¬ (1 : Int32) = 0 by decide)]
      have hI2 : so_I τ A c m (64 * n + (k + 1)) := so_up hI (by omega) (fun x q1 q2 hx => by
        have hxe : x = 64 * n + k := by omega
        have := hx.2.2.2.2.1
        rw [hxe, x1, x2] at this
        omega)
      obtain ⟨s, c', m', s1, s2, s3, s4⟩ := ih (k + 1) F τ c m (by omega) (by omega) hM hd hI2 (by omega)
      exact ⟨s, c', m', s1, s2, s3, s4⟩
    · rw [if_neg hk, if_pos rfl]
      have hin : pq_in A (64 * n + k) := by
        rw [pq_in, x1, x2]
        exact ⟨h6, h5, h4, hz, by omega, by omega⟩
      obtain ⟨q, s31, c', r1, r2, r3, r4⟩ := so_ins hW hd hI hin (by omega)
      rw [x1, x2] at r1
      obtain ⟨s35, h35⟩ : ∃ z, en_wr (en_wr s31 32 0 0 q (nI (64 * n + k))) 24 0 0 16 (nI (m + 1)) = z := ⟨_, rfl⟩
      rw [h35] at r3
      have j35 : so_f τ s35 := ⟨fun j q1 q2 => by rw [← h35, pu_wr_j q1, pu_wr_j q2, r4 j q2], fun k q => by rw [← h35, pu_wr_k q, pu_wr_j (by decide), r4 24 (by decide)]⟩
      have e16 : en_wr s31 32 0 0 q (nI (64 * n + k)) 24 0 0 16 = nI m := by rw [pu_wr_j (by decide), r4 24 (by decide)]; exact hI.2.2.2
      obtain ⟨s, c2, m2, s1, s2, s3, s4⟩ := ih (k + 1) F s35 c' (m + 1) (by omega) (by omega) (by rw [j35.1 25 (by decide) (by decide)]; exact hM) (by rw [pq_d, j35.1 30 (by decide) (by decide)]; exact hd) (by rw [show 64 * n + (k + 1) = 64 * n + k + 1 by omega]; exact r3) (by omega)
      refine ⟨s, c2, m2, ?_, s2, s3, so_tr j35 s4⟩
      rw [hI.2.2.2, r1, pu_b2, pu_wa r2 (by decide), pu_b1, pu_let, e16, nI_1, h35]
      exact s1
theorem so_17 (hW : ab_W A t) : ∀ d n F (τ : en_M) (c : Nat → Nat) (m : Nat), n + d = aH A 5 → aH A 6 ≤ n → d < F → ab_MR (τ 25 0 0) A → pq_d τ A → so_I τ A c m (64 * n) → m ≤ 20 * (n - aH A 6) → ∃ s c' m', k_mm_sorts_17 F (nI n) τ = some s ∧ so_I s A c' m' (64 * aH A 5) ∧ m' ≤ 20 * (aH A 5 - aH A 6) ∧ so_f τ s := by
  have hN := ab_N hW
  intro d
  induction d with
  | zero =>
    intro n F τ c m e h6 hF hM hd hI hm
    obtain ⟨F, rfl⟩ : ∃ q, F = q + 1 := ⟨F - 1, by omega⟩
    refine ⟨τ, c, m, ?_, by rw [← show n = aH A 5 by omega]; exact hI, by omega, so_rf τ⟩
    rw [k_mm_sorts_17, hM.1.1 5 (by decide), it_le (by omega) (by omega), if_pos (by omega)]
  | succ d ih =>
    intro n F τ c m e h6 hF hM hd hI hm
    obtain ⟨F, rfl⟩ : ∃ q, F = q + 1 := ⟨F - 1, by omega⟩
    have hw := ab_in_win hW h6 (show n < aH A 5 by omega)
    have hp := (ab_pc hW hw).1
    have q4 := (hW.2.2.1 n hw).2.2.2.2.1
    have qf := (hW.2.2.1 n hw).1
    have qp := (hW.2.1 _ qf).2.2.1
    have hx64 : ∀ x, 64 * n ≤ x → x < 64 * (n + 1) → x / 64 = n := fun x z1 z2 => by omega
    rw [k_mm_sorts_17, hM.1.1 5 (by decide), it_le (by omega) (by omega), if_neg (by omega), mo_snd hM hW (x := 4) (w := 4) rfl hw (by decide), pu_b1, itx_eq (y := 1) (b := 1) rfl rfl (by omega) (by decide), nI_1]
    by_cases h4 : aS A n 4 = 1
    · rw [if_pos h4, mo_snd hM hW (x := 0) (w := 0) rfl hw (by decide), pu_b1, mo_paused hM hW hw, pu_b1, itx_eq (y := 1) (b := 1) rfl rfl (by omega) (by decide)]
      by_cases hz : aF A (aS A n 0) 2 = 1
      · rw [if_pos hz]
        obtain ⟨s, c', m', s1, s2, s3, s4⟩ := ih (n + 1) F τ c m (by omega) (by omega) (by omega) hM hd (so_up hI (by omega) (fun x z1 z2 hx => by
          have := hx.2.2.2.1
          rw [hx64 x z1 z2] at this
          omega)) (by omega)
        exact ⟨s, c', m', s1, s2, s3, s4⟩
      · rw [if_neg hz]
        obtain ⟨s39, c', m', r1, r2, r3, r4⟩ := so_57 hW h6 (by omega) h4 (by omega) (aS A n 6) 0 en_fu τ c m (by omega) (by rw [en_fu]; omega) hM hd hI (by omega)
        have r1' : k_mm_sorts_57 en_fu (nI n) 0 τ = some s39 := r1
        rw [r1', pu_b1]
        obtain ⟨s, c2, m2, s1, s2, s3, s4⟩ := ih (n + 1) F s39 c' m' (by omega) (by omega) (by omega) (by rw [r4.1 25 (by decide) (by decide)]; exact hM) (by rw [pq_d, r4.1 30 (by decide) (by decide)]; exact hd) (so_up r2 (by omega) (fun x z1 z2 hx => by
          have := hx.2.2.2.2.2
          rw [hx64 x (by omega) z2] at this
          omega)) (by omega)
        exact ⟨s, c2, m2, s1, s2, s3, so_tr r4 s4⟩
    · rw [if_neg h4]
      obtain ⟨s, c', m', s1, s2, s3, s4⟩ := ih (n + 1) F τ c m (by omega) (by omega) (by omega) hM hd (so_up hI (by omega) (fun x z1 z2 hx => by
        have := hx.2.2.1
        rw [hx64 x z1 z2] at this
        exact h4 this)) (by omega)
      exact ⟨s, c', m', s1, s2, s3, s4⟩
/-- the model sorts -/
theorem so_all (hW : ab_W A t) {τ : en_M} (hM : ab_MR (τ 25 0 0) A) : ∃ s c N, k_mm_sorts τ = some s ∧ pq_S A c N ∧ (∀ j, j < N → s 32 0 0 j = nI (c j)) ∧ s 24 0 0 16 = nI N ∧ pq_d s A ∧ (∀ j, j ≠ 24 → j ≠ 30 → j ≠ 31 → j ≠ 32 → s j 0 = τ j 0) ∧ ∀ k, k ≠ 16 → s 24 0 0 k = τ 24 0 0 k := by
  have hN := ab_N hW
  obtain ⟨s1, a1, a2, a3, a4⟩ := ti_times hM hW
  obtain ⟨s3, h3⟩ : ∃ z, en_wr s1 24 0 0 16 0 = z := ⟨_, rfl⟩
  have e25 : s3 25 0 = τ 25 0 := by rw [← h3, pu_wr_j (by decide), a2 25 0 (by simp)]
  have hM3 : ab_MR (s3 25 0 0) A := by rw [e25]; exact hM
  have hd3 : pq_d s3 A := by rw [pq_d, ← h3, pu_wr_j (by decide)]; exact a4
  obtain ⟨s, c, N, b1, b2, b3, b4⟩ := so_17 hW (aH A 5 - aH A 6) (aH A 6) en_fu s3 (fun _ => 0) 0 (by omega) (by omega) (by rw [en_fu]; omega) hM3 hd3 ⟨fun j q => by omega, fun i j _ q => by omega, fun x q1 q2 => by
    have := q1.1
    omega, by rw [← h3, pu_wr_eq]; rfl⟩ (by omega)
  refine ⟨s, c, N, ?_, ⟨fun j q => (b2.1 j q).1, b2.2.1, fun x q => b2.2.2.1 x q ?_, by omega⟩, fun j q => (b2.1 j q).2.2, b2.2.2.2, ?_, fun j q1 q2 q3 q4 => ?_, fun k q => ?_⟩
  · rw [k_mm_sorts, a1, pu_b1, pu_let, h3, hM3.1.1 6 (by decide), b1, pu_b1]
  · have := q.2.1
    omega
  · rw [pq_d, b4.1 30 (by decide) (by decide)]
    exact hd3
  · rw [b4.1 j q1 q4, ← h3, pu_wr_j q1, a2 j 0 (by simp [q2, q3])]
  · rw [b4.2 k q, ← h3, pu_wr_k q, a2 24 0 (by simp)]
end pqs

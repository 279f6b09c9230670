/-! On paper: when each piece would leave, and be gone. -/
noncomputable def pq_z (A : ab_A) (x : Nat) : Nat := ab_sz A (x / 64) (x % 64)
noncomputable def pl_f (A : ab_A) (c : Nat → Nat) : Nat → Nat
  | 0 => aH A 4 + aH A 7
  | j + 1 => max (pl_f A c j) (pq_D A (c j)) + ab_up (pq_z A (c j)) (aH A 1)
noncomputable def pl_s (A : ab_A) (c : Nat → Nat) (j : Nat) : Nat := max (pl_f A c j) (pq_D A (c j))
theorem pq_ix {A : ab_A} {c : Nat → Nat} {N i j : Nat} (h : pq_S A c N) (hi : i < N) (hj : j < N) (hl : pq_lt A (c i) (c j)) : i < j := by
  apply Decidable.byContradiction
  intro q
  by_cases e : i = j
  · rw [e, pq_lt] at hl
    omega
  · have := h.2.1 j i (by omega) hi
    rw [pq_lt] at hl this
    omega
section plp
variable {t : Nat} {A : ab_A}
theorem pq_tk (hW : ab_W A t) {x : Nat} (h : pq_in A x) : 1 ≤ ab_up (pq_z A x) (aH A 1) ∧ ab_up (pq_z A x) (aH A 1) ≤ 112 ∧ 12 ≤ pq_z A x ∧ pq_z A x ≤ 112 := by
  obtain ⟨b1, b2, b3, b4, b5⟩ := pq_bd hW h
  obtain ⟨-, w1, -⟩ := hW.1
  have hz : 12 ≤ pq_z A x := by rw [pq_z, ab_sz]; omega
  have hz2 : pq_z A x ≤ 112 := ab_sz_le (hW.2.2.1 _ b4).2.2.1.2
  refine ⟨ab_up_pos (by omega) w1.1, ?_, hz, hz2⟩
  rw [ab_up]
  have : pq_z A x + aH A 1 - 1 < aH A 1 * 113 := by omega
  have := Nat.div_lt_of_lt_mul this
  omega
theorem pl_le (hW : ab_W A t) {c : Nat → Nat} {N : Nat} (hS : pq_S A c N) : ∀ j, j ≤ N → pl_f A c j ≤ 300000 + 112 * j := by
  intro j
  induction j with
  | zero =>
    intro _
    have := hW.1
    obtain ⟨-, -, -, -, w4, -, -, -, w8, -⟩ := hW.1
    rw [pl_f]
    omega
  | succ j ih =>
    intro hj
    have h1 := ih (by omega)
    have h2 := (pq_bd hW (hS.1 j (by omega))).2.2.2.2
    have h3 := (pq_tk hW (hS.1 j (by omega))).2.1
    rw [pl_f]
    omega
theorem pl_s_le (hW : ab_W A t) {c : Nat → Nat} {N j : Nat} (hS : pq_S A c N) (hj : j < N) : pl_f A c j ≤ pl_s A c j ∧ pl_s A c j < pl_f A c (j + 1) ∧ pl_f A c (j + 1) ≤ 320000 ∧ pl_f A c j ≤ 320000 ∧ pl_f A c (j + 1) = pl_s A c j + ab_up (pq_z A (c j)) (aH A 1) := by
  have h1 := pl_le hW hS (j + 1) (by omega)
  have h2 := pl_le hW hS j (by omega)
  have h3 := (pq_tk hW (hS.1 j hj)).1
  have hN := hS.2.2.2
  have e : pl_f A c (j + 1) = pl_s A c j + ab_up (pq_z A (c j)) (aH A 1) := rfl
  rw [pl_s] at e ⊢
  omega
theorem pl_mono (hW : ab_W A t) {c : Nat → Nat} {N : Nat} (hS : pq_S A c N) : ∀ d i, i + d ≤ N → pl_f A c i ≤ pl_f A c (i + d) := by
  intro d
  induction d with
  | zero => intro i _; exact Nat.le_refl _
  | succ d ih =>
    intro i h
    have h1 := ih i (by omega)
    obtain ⟨a1, a2, -⟩ := pl_s_le hW hS (j := i + d) (by omega)
    rw [show i + (d + 1) = i + d + 1 by omega]
    omega
theorem pl_mono' (hW : ab_W A t) {c : Nat → Nat} {N i j : Nat} (hS : pq_S A c N) (h : i ≤ j) (hj : j ≤ N) : pl_f A c i ≤ pl_f A c j := by
  have := pl_mono hW hS (j - i) i (by omega)
  rw [show i + (j - i) = j by omega] at this
  exact this
theorem pl_smono (hW : ab_W A t) {c : Nat → Nat} {N i j : Nat} (hS : pq_S A c N) (h : i ≤ j) (hj : j < N) : pl_s A c i ≤ pl_s A c j := by
  have h1 := pl_mono' hW hS h (by omega)
  have h2 : pq_D A (c i) ≤ pq_D A (c j) := by
    by_cases e : i = j
    · rw [e]; exact Nat.le_refl _
    · have := hS.2.1 i j (by omega) hj
      rw [pq_lt] at this
      omega
  rw [pl_s, pl_s]
  omega
theorem pl_24 (hW : ab_W A t) {n : Nat} (h6 : aH A 6 ≤ n) (h5 : n < aH A 5) : ∀ d k F (τ : en_M), k + d = aS A n 6 → d < F → ab_MR (τ 25 0 0) A → ∃ s, k_mm_plays_24 F (nI n) (nI k) τ = some s ∧ (∀ i, k ≤ i → i < aS A n 6 → s 33 0 0 (20 * (n % 8) + i) = aP A n i 2) ∧ (∀ y, (∀ i, k ≤ i → i < aS A n 6 → y ≠ 20 * (n % 8) + i) → s 33 0 0 y = τ 33 0 0 y) ∧ (∀ j, j ≠ 33 → s j = τ j) := by
  have hN := ab_N hW
  have hw := ab_in_win hW h6 h5
  have hp := (ab_pc hW hw).1
  have hm : n % 8 < 8 := Nat.mod_lt _ (by decide)
  intro d
  induction d with
  | zero =>
    intro k F τ e hF hM
    obtain ⟨F, rfl⟩ : ∃ q, F = q + 1 := ⟨F - 1, by omega⟩
    refine ⟨τ, ?_, fun i q1 q2 => by omega, fun _ _ => rfl, fun _ _ => rfl⟩
    rw [k_mm_plays_24, mo_pcs hM hW hw, pu_b1, it_le (by omega) (by omega), if_pos (by omega)]
  | succ d ih =>
    intro k F τ e hF hM
    obtain ⟨F, rfl⟩ : ∃ q, F = q + 1 := ⟨F - 1, by omega⟩
    have hv := ((hM.2.2.2.1 n k hw (by omega)).1 (Or.inl (by omega))).2
    obtain ⟨s9, h9⟩ : ∃ z, en_wr τ 33 0 0 (20 * (n % 8) + k) (aP A n k 2) = z := ⟨_, rfl⟩
    have j9 : ∀ j, j ≠ 33 → s9 j = τ j := fun j q => by rw [← h9, pu_wr_j q]
    obtain ⟨s, s1, s2, s3, s4⟩ := ih (k + 1) F s9 (by omega) (by omega) (by rw [j9 25 (by decide)]; exact hM)
    refine ⟨s, ?_, fun i q1 q2 => ?_, fun y q => ?_, fun j q => by rw [s4 j q, j9 j q]⟩
    · rw [k_mm_plays_24, mo_pcs hM hW hw, pu_b1, it_le (by omega) (by omega), if_neg (by omega), mo_pat (x := 2) (w := 2) rfl (by omega), pu_rd (by omega) (by decide), pu_b1, hv, mo_pl (by omega), pu_wa (by omega) (by decide), pu_b1, h9, nI_1]
      exact s1
    · by_cases c : i = k
      · rw [c, s3 _ (fun i z1 z2 => by omega), ← h9, pu_wr_eq]
      · exact s2 i (by omega) q2
    · rw [s3 y (fun i z1 z2 => q i (by omega) z2), ← h9, pu_wr_k (q k (by omega) (by omega))]
theorem pl_12 (hW : ab_W A t) : ∀ d n F (τ : en_M), n + d = aH A 5 → aH A 6 ≤ n → d < F → ab_MR (τ 25 0 0) A → (∀ n' k, aH A 6 ≤ n' → n' < n → k < aS A n' 6 → τ 33 0 0 (20 * (n' % 8) + k) = aP A n' k 2) → ∃ s, k_mm_plays_12 F (nI n) τ = some s ∧ (∀ n' k, aH A 6 ≤ n' → n' < aH A 5 → k < aS A n' 6 → s 33 0 0 (20 * (n' % 8) + k) = aP A n' k 2) ∧ (∀ j, j ≠ 33 → s j = τ j) := by
  have hN := ab_N hW
  intro d
  induction d with
  | zero =>
    intro n F τ e h6 hF hM hp
    obtain ⟨F, rfl⟩ : ∃ q, F = q + 1 := ⟨F - 1, by omega⟩
    refine ⟨τ, ?_, fun n' k q1 q2 q3 => hp n' k q1 (by omega) q3, fun _ _ => rfl⟩
    rw [k_mm_plays_12, hM.1.1 5 (by decide), it_le (by omega) (by omega), if_pos (by omega)]
  | succ d ih =>
    intro n F τ e h6 hF hM hp
    obtain ⟨F, rfl⟩ : ∃ q, F = q + 1 := ⟨F - 1, by omega⟩
    have hw := ab_in_win hW h6 (show n < aH A 5 by omega)
    have h20 := (ab_pc hW hw).1
    obtain ⟨s12, a1, a2, a3, a4⟩ := pl_24 hW h6 (show n < aH A 5 by omega) (aS A n 6) 0 en_fu τ (by omega) (by rw [en_fu]; omega) hM
    have a1' : k_mm_plays_24 en_fu (nI n) 0 τ = some s12 := a1
    obtain ⟨s, s1, s2, s3⟩ := ih (n + 1) F s12 (by omega) (by omega) (by omega) (by rw [a4 25 (by decide)]; exact hM) (fun n' k q1 q2 q3 => by
      by_cases c : n' = n
      · rw [c] at q3 ⊢
        exact a2 k (by omega) q3
      · have hw' := ab_in_win hW q1 (show n' < aH A 5 by omega)
        have h20' := (ab_pc hW hw').1
        rw [a3 _ (fun i z1 z2 z3 => c (ti_apart hw' hw (by omega) (by omega) z3).1)]
        exact hp n' k q1 (by omega) q3)
    refine ⟨s, ?_, s2, fun j q => by rw [s3 j q, a4 j q]⟩
    rw [k_mm_plays_12, hM.1.1 5 (by decide), it_le (by omega) (by omega), if_neg (by omega), a1', pu_b1, nI_1]
    exact s1
noncomputable def pl_v (v : Nat) : Int32 := if v ≤ 9999 then nI v else -1
/-- what the model has on paper -/
def pl_P (τ : en_M) (A : ab_A) (c : Nat → Nat) (j : Nat) : Prop := (∀ i, i < j → τ 34 0 0 i = nI (pl_s A c i) ∧ τ 33 0 0 (20 * (c i / 64 % 8) + c i % 64) = pl_v (pl_f A c (i + 1)))
theorem pl_123 (hW : ab_W A t) {c : Nat → Nat} {N : Nat} (hS : pq_S A c N) : ∀ d j F (τ : en_M), j + d = N → d < F → ab_MR (τ 25 0 0) A → pq_d τ A → (∀ j, j < N → τ 32 0 0 j = nI (c j)) → τ 24 0 0 16 = nI N → pl_P τ A c j → ∃ s, k_mm_plays_123 F (nI (pl_f A c j)) (nI j) τ = some s ∧ pl_P s A c N ∧ (∀ y, (∀ i, j ≤ i → i < N → y ≠ 20 * (c i / 64 % 8) + c i % 64) → s 33 0 0 y = τ 33 0 0 y) ∧ (∀ j, j ≠ 33 → j ≠ 34 → s j = τ j) := by
  have hN160 := hS.2.2.2
  obtain ⟨-, w1, -⟩ := hW.1
  intro d
  induction d with
  | zero =>
    intro j F τ e hF hM hd h32 h16 hP
    obtain ⟨F, rfl⟩ : ∃ q, F = q + 1 := ⟨F - 1, by omega⟩
    refine ⟨τ, ?_, by rw [← show j = N by omega]; exact hP, fun _ _ => rfl, fun _ _ _ => rfl⟩
    rw [k_mm_plays_123, h16, it_le (by omega) (by omega), if_pos (by omega)]
  | succ d ih =>
    intro j F τ e hF hM hd h32 h16 hP
    obtain ⟨F, rfl⟩ : ∃ q, F = q + 1 := ⟨F - 1, by omega⟩
    have hin := hS.1 j (by omega)
    obtain ⟨b1, b2, b3, b4, b5⟩ := pq_bd hW hin
    obtain ⟨d1, d2⟩ := pq_dm (x := c j) (by omega)
    obtain ⟨l1, l2, l3, l4, l5⟩ := pl_s_le hW hS (j := j) (by omega)
    obtain ⟨z1, z2, z3, z4⟩ := pq_tk hW hin
    have hm : c j / 64 % 8 < 8 := Nat.mod_lt _ (by decide)
    obtain ⟨s26, h26⟩ : ∃ z, en_wr τ 34 0 0 j (nI (pl_s A c j)) = z := ⟨_, rfl⟩
    have j26 : ∀ j, j ≠ 34 → s26 j = τ j := fun j q => by rw [← h26, pu_wr_j q]
    have hes : pl_s A c j = max (pl_f A c j) (pq_D A (c j)) := rfl
    have e34 : s26 34 0 0 j = nI (pl_s A c j) := by rw [← h26, pu_wr_eq]
    have hM26 : ab_MR (s26 25 0 0) A := by rw [j26 25 (by decide)]; exact hM
    have hsz : k_mm_sizeOf (nI (c j / 64)) (nI (c j % 64)) s26 = some (nI (pq_z A (c j))) := by rw [mo_sz hM26 hW b4 hin.2.2.2.2.2, pq_z]
    have htk : k_mm_ticksOf (nI (pq_z A (c j))) s26 = some (nI (ab_up (pq_z A (c j)) (aH A 1))) := nu_tk (hM26.1.1 1 (by decide)) w1.1 (by omega)
    obtain ⟨s37, h37⟩ : ∃ z, en_wr s26 33 0 0 (20 * (c j / 64 % 8) + c j % 64) (pl_v (pl_f A c (j + 1))) = z := ⟨_, rfl⟩
    have j37 : ∀ j, j ≠ 33 → j ≠ 34 → s37 j = τ j := fun j q1 q2 => by rw [← h37, pu_wr_j q1, j26 j q2]
    have hapart : ∀ i, i < N → i ≠ j → 20 * (c i / 64 % 8) + c i % 64 ≠ 20 * (c j / 64 % 8) + c j % 64 := fun i hi hne q => by
      obtain ⟨e1, e2, e3, e4, e5⟩ := pq_bd hW (hS.1 i hi)
      obtain ⟨g1, g2⟩ := ti_apart e4 b4 e3 b3 q
      have hce : c i = c j := by omega
      by_cases c1 : i < j
      · have := hS.2.1 i j c1 (by omega)
        rw [hce, pq_lt] at this
        omega
      · have := hS.2.1 j i (by omega) hi
        rw [hce, pq_lt] at this
        omega
    obtain ⟨s, s1, s2, s3, s4⟩ := ih (j + 1) F s37 (by omega) (by omega) (by rw [j37 25 (by decide) (by decide)]; exact hM) (by rw [pq_d, j37 30 (by decide) (by decide)]; exact hd) (fun i q => by rw [j37 32 (by decide) (by decide)]; exact h32 i q) (by rw [j37 24 (by decide) (by decide)]; exact h16) (fun i hi => by
      by_cases ci : i = j
      · rw [ci]
        exact ⟨by rw [← h37, pu_wr_j (by decide), ← h26, pu_wr_eq], by rw [← h37, pu_wr_eq]⟩
      · obtain ⟨q1, q2⟩ := hP i (by omega)
        exact ⟨by rw [← h37, pu_wr_j (by decide), ← h26, pu_wr_k ci]; exact q1, by rw [← h37, pu_wr_k (hapart i (by omega) ci), j26 33 (by decide)]; exact q2⟩)
    refine ⟨s, ?_, s2, fun y q => ?_, fun j q1 q2 => by rw [s4 j q1 q2, j37 j q1 q2]⟩
    · rw [k_mm_plays_123, h16, it_le (by omega) (by omega), if_neg (by omega), pu_rd (by omega) (by decide), pu_b1, pu_b1, h32 j (by omega), d2, d1, pq_rd hW hd hin, pu_b1, nu_gr (by omega) (by omega), ← hes, pu_wa (by omega) (by decide), pu_b1, h26, pu_rd (by omega) (by decide), pu_b1, hsz, pu_b1, htk, pu_b1, e34, nI_add, ← l5, itx_lt (a := 9999) (b := pl_f A c (j + 1)) (x := 9999) rfl rfl (by decide) (by omega), mo_pl (by omega), pu_wa (by omega) (by decide), pu_wa (by omega) (by decide), pu_b1, pu_b1, nI_1]
      by_cases c9 : 9999 < pl_f A c (j + 1)
      · rw [pl_v, if_neg (by omega)] at h37
        rw [if_pos c9, h37]
        exact s1
      · rw [pl_v, if_pos (by omega)] at h37
        rw [if_neg c9, h37]
        exact s1
    · rw [s3 y (fun i q1 q2 => q i (by omega) q2), ← h37, pu_wr_k (q j (by omega) (by omega)), j26 33 (by decide)]
/-- what the model has on paper, all of it -/
def pl_A (s : en_M) (A : ab_A) (c : Nat → Nat) (N : Nat) : Prop := pq_S A c N ∧ (∀ j, j < N → s 32 0 0 j = nI (c j)) ∧ s 24 0 0 16 = nI N ∧ pl_P s A c N ∧ (∀ n k, aH A 6 ≤ n → n < aH A 5 → k < aS A n 6 → (∀ i, i < N → c i ≠ 64 * n + k) → s 33 0 0 (20 * (n % 8) + k) = if aH A 11 ≠ 0 ∧ n = aH A 8 ∧ k + 1 = aS A n 7 then pl_v (aH A 4 + aH A 7) else aP A n k 2)
theorem pl_all (hW : ab_W A t) (hH : ab_WH A) {τ : en_M} (hM : ab_MR (τ 25 0 0) A) : ∃ s c N, k_mm_plays τ = some s ∧ pl_A s A c N ∧ (∀ j, j < 30 → j ≠ 24 → s j 0 = τ j 0) ∧ (∀ k, k ≠ 16 → s 24 0 0 k = τ 24 0 0 k) := by
  have hN := ab_N hW
  obtain ⟨-, w1, -, -, -, -, -, -, w7, -⟩ := hW.1
  obtain ⟨s1, c, N, a1, hS, a3, a4, a5, a6, a7⟩ := so_all hW hM
  have hM1 : ab_MR (s1 25 0 0) A := by rw [a6 25 (by decide) (by decide) (by decide) (by decide)]; exact hM
  obtain ⟨s16, b1, b2, b3⟩ := pl_12 hW (aH A 5 - aH A 6) (aH A 6) en_fu s1 (by omega) (by omega) (by rw [en_fu]; omega) hM1 (fun n' k q1 q2 _ => by omega)
  have hM16 : ab_MR (s16 25 0 0) A := by rw [b3 25 (by decide)]; exact hM1
  have m4 := hM16.1.1 4 (by decide)
  have m17 := hM16.1.2.2.2.2.2.2.2.2.2.1
  have e0 : s16 25 0 0 4 + s16 25 0 0 17 = nI (pl_f A c 0) := by rw [m4, m17, nI_add, pl_f]
  have hf0 : pl_f A c 0 = aH A 4 + aH A 7 := rfl
  have fin : ∀ (s52 : en_M), (∀ j, j ≠ 33 → s52 j = s16 j) → (∀ n k, aH A 6 ≤ n → n < aH A 5 → k < aS A n 6 → s52 33 0 0 (20 * (n % 8) + k) = if aH A 11 ≠ 0 ∧ n = aH A 8 ∧ k + 1 = aS A n 7 then pl_v (aH A 4 + aH A 7) else aP A n k 2) → ∃ s, k_mm_plays_123 en_fu (nI (pl_f A c 0)) 0 s52 = some s ∧ pl_A s A c N ∧ (∀ j, j < 30 → j ≠ 24 → s j 0 = τ j 0) ∧ (∀ k, k ≠ 16 → s 24 0 0 k = τ 24 0 0 k) := fun s52 j52 h52 => by
    obtain ⟨s, q1, q2, q3, q4⟩ := pl_123 hW hS N 0 en_fu s52 (by omega) (by rw [en_fu]; have := hS.2.2.2; omega) (by rw [j52 25 (by decide)]; exact hM16) (by rw [pq_d, j52 30 (by decide), b3 30 (by decide)]; exact a5) (fun j q => by rw [j52 32 (by decide), b3 32 (by decide)]; exact a3 j q) (by rw [j52 24 (by decide), b3 24 (by decide)]; exact a4) (fun i q => by omega)
    refine ⟨s, q1, ⟨hS, fun j q => by rw [q4 32 (by decide) (by decide), j52 32 (by decide), b3 32 (by decide)]; exact a3 j q, by rw [q4 24 (by decide) (by decide), j52 24 (by decide), b3 24 (by decide)]; exact a4, q2, fun n k z1 z2 z3 z4 => ?_⟩, fun j z1 z2 => by rw [q4 j (by omega) (by omega), j52 j (by omega), b3 j (by omega), a6 j z2 (by omega) (by omega) (by omega)], fun k z => by rw [q4 24 (by decide) (by decide), j52 24 (by decide), b3 24 (by decide), a7 k z]⟩
    have hw := ab_in_win hW z1 z2
    have h20 := (ab_pc hW hw).1
    rw [q3 _ (fun i y1 y2 y3 => ?_), h52 n k z1 z2 z3]
    obtain ⟨e1, e2, e3, e4, e5⟩ := pq_bd hW (hS.1 i y2)
    obtain ⟨g1, g2⟩ := ti_apart hw e4 (by omega) e3 y3
    exact z4 i y2 (by omega)
  have hhold := hH.1
  by_cases c0 : aH A 7 = 0
  · obtain ⟨s, q1, q2, q3, q4⟩ := fin s16 (fun _ _ => rfl) (fun n k z1 z2 z3 => by rw [b2 n k z1 z2 z3, if_neg]; intro q; exact q.1 (hhold.2 c0))
    refine ⟨s, c, N, ?_, q2, q3, q4⟩
    rw [k_mm_plays, a1, pu_b1, hM1.1.1 6 (by decide), b1, pu_b1, e0, m17, itx_le (a := aH A 7) (b := 0) (y := 0) rfl rfl (by omega) (by decide), if_pos (by omega), q1, pu_b1]
  · have c11 : aH A 11 ≠ 0 := fun q => c0 (hhold.1 q)
    obtain ⟨v1, v2, v3, v4⟩ := hW.2.2.2.2.1 c11
    have hw := ab_in_win hW v1 v2
    have h20 := ab_pc hW hw
    have m15 := hM16.1.2.2.2.2.2.2.2.2.1 c11
    have hm : aH A 8 % 8 < 8 := Nat.mod_lt _ (by decide)
    by_cases c9 : 9999 < pl_f A c 0
    · obtain ⟨s, q1, q2, q3, q4⟩ := fin s16 (fun _ _ => rfl) (fun n k z1 z2 z3 => by
        rw [b2 n k z1 z2 z3]
        by_cases q : aH A 11 ≠ 0 ∧ n = aH A 8 ∧ k + 1 = aS A n 7
        · rw [if_pos q, pl_v, if_neg (by omega)]
          obtain ⟨-, qn, qk⟩ := q
          have := (hW.2.2.2.1 n k (ab_in_win hW z1 z2) (Or.inl z3)).1 (by omega)
          exact this.2.1 ⟨c11, qn, qk⟩
        · rw [if_neg q])
      refine ⟨s, c, N, ?_, q2, q3, q4⟩
      rw [k_mm_plays, a1, pu_b1, hM1.1.1 6 (by decide), b1, pu_b1, e0, m17, itx_le (a := aH A 7) (b := 0) (y := 0) rfl rfl (by omega) (by decide), if_neg (by omega), itx_lt (a := 9999) (x := 9999) rfl rfl (by decide) (by omega), if_pos c9, q1, pu_b1]
    · obtain ⟨s52, h52⟩ : ∃ z, en_wr s16 33 0 0 (20 * (aH A 8 % 8) + (aS A (aH A 8) 7 - 1)) (nI (pl_f A c 0)) = z := ⟨_, rfl⟩
      obtain ⟨s, q1, q2, q3, q4⟩ := fin s52 (fun j q => by rw [← h52, pu_wr_j q]) (fun n k z1 z2 z3 => by
        have hw2 := ab_in_win hW z1 z2
        have h202 := (ab_pc hW hw2).1
        by_cases q : aH A 11 ≠ 0 ∧ n = aH A 8 ∧ k + 1 = aS A n 7
        · rw [if_pos q, pl_v, if_pos (by omega)]
          obtain ⟨-, rfl, qk⟩ := q
          rw [← h52, show k = aS A (aH A 8) 7 - 1 by omega, pu_wr_eq, hf0]
        · rw [if_neg q, ← h52, pu_wr_k, b2 n k z1 z2 z3]
          intro qe
          obtain ⟨g1, g2⟩ := ti_apart hw2 hw (by omega) (by omega) qe
          exact q ⟨c11, g1, by rw [g1]; omega⟩)
      refine ⟨s, c, N, ?_, q2, q3, q4⟩
      rw [k_mm_plays, a1, pu_b1, hM1.1.1 6 (by decide), b1, pu_b1, e0, m17, itx_le (a := aH A 7) (b := 0) (y := 0) rfl rfl (by omega) (by decide), if_neg (by omega), itx_lt (a := 9999) (x := 9999) rfl rfl (by decide) (by omega), if_neg c9, m15.1, m15.2, mo_pl (by omega), pu_wa (by omega) (by decide), pu_b1, h52, q1, pu_b1]
end plp

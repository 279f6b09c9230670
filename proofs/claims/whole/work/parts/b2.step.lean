/-! On paper: one step of the class. -/
def pc_v (A : ab_A) (c : Nat → Nat) : Nat → Nat → Nat
  | 0, n => aS A n 7
  | j + 1, n => if c j / 64 = n then pc_v A c j n + 1 else pc_v A c j n
theorem pc_v7 (A : ab_A) (c : Nat → Nat) (n : Nat) : ∀ j, aS A n 7 ≤ pc_v A c j n := by
  intro j
  induction j with
  | zero => exact Nat.le_refl _
  | succ j ih =>
    rw [pc_v]
    split <;> omega
section pcs
variable {t : Nat} {A : ab_A}
theorem pq_code {n k : Nat} (hk : k < 64) : (64 * n + k) / 64 = n ∧ (64 * n + k) % 64 = k := by omega
theorem pc_head (hW : ab_W A t) {c : Nat → Nat} {N j : Nat} (hS : pq_S A c N) (hj : j < N) (hP : ∀ n k, pq_in A (64 * n + k) → k < 64 → (k < pc_v A c j n ↔ ∃ i, i < j ∧ c i = 64 * n + k)) : c j % 64 = pc_v A c j (c j / 64) := by
  have hin := hS.1 j hj
  obtain ⟨b1, b2, b3, b4, b5⟩ := pq_bd hW hin
  have h7 := pc_v7 A c (c j / 64) j
  have hcj : 64 * (c j / 64) + c j % 64 = c j := Nat.div_add_mod _ _
  have h1 : ¬ c j % 64 < pc_v A c j (c j / 64) := by
    intro q
    obtain ⟨i, i1, i2⟩ := (hP (c j / 64) (c j % 64) (by rw [hcj]; exact hin) (by omega)).1 q
    have := hS.2.1 i j i1 hj
    rw [i2, hcj, pq_lt] at this
    omega
  apply Decidable.byContradiction
  intro hne
  have hlt : pc_v A c j (c j / 64) < c j % 64 := by omega
  obtain ⟨e1, e2⟩ := pq_code (n := c j / 64) (k := pc_v A c j (c j / 64)) (by omega)
  have hy : pq_in A (64 * (c j / 64) + pc_v A c j (c j / 64)) := by
    rw [pq_in, e1, e2]
    exact ⟨hin.1, hin.2.1, hin.2.2.1, hin.2.2.2.1, h7, by have := hin.2.2.2.2.2; omega⟩
  obtain ⟨i, i1, i2⟩ := hS.2.2.1 _ hy
  have hl : pq_lt A (c i) (c j) := by
    have hD : pq_D A (64 * (c j / 64) + pc_v A c j (c j / 64)) ≤ pq_D A (c j) := by
      rw [pq_D, pq_D, e1, e2, ab_de, ab_de]
      exact rd_dp_k (by omega)
    rw [i2, pq_lt]
    omega
  have hij := pq_ix hS i1 hj hl
  have := (hP _ _ hy (by omega)).2 ⟨i, hij, i2⟩
  omega
theorem pc_inv (hW : ab_W A t) {c : Nat → Nat} {N : Nat} (hS : pq_S A c N) : ∀ j, j ≤ N → ∀ n k, pq_in A (64 * n + k) → k < 64 → (k < pc_v A c j n ↔ ∃ i, i < j ∧ c i = 64 * n + k) := by
  intro j
  induction j with
  | zero =>
    intro _ n k h hk
    obtain ⟨e1, e2⟩ := pq_code (n := n) hk
    have h7 := h.2.2.2.2.1
    rw [e1, e2] at h7
    exact ⟨fun q => by rw [pc_v] at q; omega, fun ⟨i, q, _⟩ => by omega⟩
  | succ j ih =>
    intro hj n k h hk
    have hP := ih (by omega)
    have hh := pc_head hW hS (j := j) (by omega) hP
    have hcj : 64 * (c j / 64) + c j % 64 = c j := Nat.div_add_mod _ _
    have h0 := hP n k h hk
    rw [pc_v]
    by_cases e : c j / 64 = n
    · rw [if_pos e]
      rw [e] at hh hcj
      refine ⟨fun q => ?_, fun ⟨i, i1, i2⟩ => ?_⟩
      · by_cases q2 : k < pc_v A c j n
        · obtain ⟨i, i1, i2⟩ := h0.1 q2
          exact ⟨i, by omega, i2⟩
        · exact ⟨j, by omega, by omega⟩
      · by_cases q2 : i = j
        · rw [q2] at i2
          omega
        · have := h0.2 ⟨i, by omega, i2⟩
          omega
    · rw [if_neg e]
      refine ⟨fun q => ?_, fun ⟨i, i1, i2⟩ => ?_⟩
      · obtain ⟨i, i1, i2⟩ := h0.1 q
        exact ⟨i, by omega, i2⟩
      · by_cases q2 : i = j
        · rw [q2] at i2
          omega
        · exact h0.2 ⟨i, by omega, i2⟩
theorem pc_le (hW : ab_W A t) {c : Nat → Nat} {N : Nat} (hS : pq_S A c N) {n : Nat} (hw : ab_win A n) : ∀ j, j ≤ N → pc_v A c j n ≤ aS A n 6 := by
  intro j
  induction j with
  | zero => intro _; exact (ab_pc hW hw).2
  | succ j ih =>
    intro hj
    have h1 := ih (by omega)
    have hh := pc_head hW hS (j := j) (by omega) (pc_inv hW hS j (by omega))
    have h6 := (hS.1 j (by omega)).2.2.2.2.2
    rw [pc_v]
    by_cases e : c j / 64 = n
    · rw [if_pos e]
      rw [e] at hh h6
      omega
    · rw [if_neg e]
      exact h1
/-- what the class needs of its card on paper -/
def pp_C (σ : en_M) (A : ab_A) : Prop := ab_Cs σ 0 A ∧ ∀ f, f < aH A 3 → σ 12 0 f 2 = nI (aF A f 2)
def pc_S (σ : en_M) (A : ab_A) (c : Nat → Nat) (j : Nat) : Prop := pp_C σ A ∧ σ 17 0 0 2 = nI (pl_f A c j) ∧ (∀ n, ab_win A n → σ 18 0 0 (n % 8) = nI (pc_v A c j n)) ∧ (∀ x, pq_in A x → σ 19 0 0 (20 * (x / 64 % 8) + x % 64) = nI (pq_D A x))
theorem pp_paused {σ : en_M} (hC : pp_C σ A) (hW : ab_W A t) {n : Nat} (h : ab_win A n) : k_cd_isPaused 0 (nI (aS A n 0)) σ = some (nI (aF A (aS A n 0) 2)) := by
  have hN := ab_N hW
  have hf := (hW.2.2.1 n h).1
  have hp := (hW.2.1 _ hf).2.2.1
  rw [k_cd_isPaused, it_neg (by omega), show (6 : Int32) = nI 6 from rfl, it_le (by decide) (by omega), if_neg (by omega), pu_ix (by omega) (by decide), pu_b1, hC.2 _ hf]
  rcases (show aF A (aS A n 0) 2 = 0 ∨ aF A (aS A n 0) 2 = 1 by omega) with e | e <;> rw [e]
  · rw [if_pos (by decide)]; rfl
  · rw [if_neg (by decide)]; rfl
/-- the head of a send's pieces at stage j -/
def pc_h (A : ab_A) (c : Nat → Nat) (j n : Nat) : Nat := 64 * n + pc_v A c j n
def pc_c (A : ab_A) (c : Nat → Nat) (j n : Nat) : Prop := aH A 6 ≤ n ∧ n < aH A 5 ∧ aS A n 4 = 1 ∧ aF A (aS A n 0) 2 = 0 ∧ pc_v A c j n < aS A n 6
theorem pc_hin (hW : ab_W A t) {c : Nat → Nat} {j n : Nat} (h : pc_c A c j n) : pq_in A (pc_h A c j n) := by
  obtain ⟨h1, h2, h3, h4, h5⟩ := h
  have h20 := (ab_pc hW (ab_in_win hW h1 h2)).1
  obtain ⟨e1, e2⟩ := pq_code (n := n) (k := pc_v A c j n) (by omega)
  rw [pq_in, pc_h, e1, e2]
  exact ⟨h1, h2, h3, h4, pc_v7 A c n j, h5⟩
/-- the best of the sends below n -/
def pc_b (A : ab_A) (c : Nat → Nat) (j n : Nat) (b : Option Nat) (L : Nat) : Prop := match b with
  | none => L = 9999 ∧ ∀ q, pc_c A c j q → q < n → 9999 ≤ pq_D A (pc_h A c j q)
  | some q => pc_c A c j q ∧ q < n ∧ L = pq_D A (pc_h A c j q) ∧ L < 9999 ∧ (∀ q', pc_c A c j q' → q' < n → L ≤ pq_D A (pc_h A c j q')) ∧ ∀ q', pc_c A c j q' → q' < q → L < pq_D A (pc_h A c j q')
theorem pc_bL {c : Nat → Nat} {j n L : Nat} {b : Option Nat} (h : pc_b A c j n b L) : L ≤ 9999 := by
  cases b with
  | none => exact Nat.le_of_eq h.1
  | some q => exact Nat.le_of_lt h.2.2.2.1
theorem pc_skip {c : Nat → Nat} {j n L : Nat} {b : Option Nat} (h : pc_b A c j n b L) (h2 : ¬ pc_c A c j n ∨ L ≤ pq_D A (pc_h A c j n)) : pc_b A c j (n + 1) b L := by
  have key : ∀ (P : Nat → Prop), (∀ q', pc_c A c j q' → q' < n → P q') → (pc_c A c j n → P n) → ∀ q', pc_c A c j q' → q' < n + 1 → P q' := fun P z1 z2 q' z3 z4 => by
    by_cases e : q' = n
    · rw [e] at z3 ⊢
      exact z2 z3
    · exact z1 q' z3 (by omega)
  cases b with
  | none =>
    refine ⟨h.1, key _ h.2 (fun q => ?_)⟩
    have := h.1
    rcases h2 with h2 | h2
    · exact absurd q h2
    · omega
  | some q =>
    obtain ⟨a1, a2, a3, a4, a5, a6⟩ := h
    refine ⟨a1, by omega, a3, a4, key _ a5 (fun z => ?_), a6⟩
    rcases h2 with h2 | h2
    · exact absurd z h2
    · exact h2
theorem pc_take {c : Nat → Nat} {j n L : Nat} {b : Option Nat} (h : pc_b A c j n b L) (hc : pc_c A c j n) (h2 : pq_D A (pc_h A c j n) < L) : pc_b A c j (n + 1) (some n) (pq_D A (pc_h A c j n)) := by
  have hL := pc_bL h
  have all : ∀ q', pc_c A c j q' → q' < n → pq_D A (pc_h A c j n) < pq_D A (pc_h A c j q') := fun q' z1 z2 => by
    cases b with
    | none =>
      have := h.2 q' z1 z2
      omega
    | some q =>
      have := h.2.2.2.2.1 q' z1 z2
      omega
  refine ⟨hc, by omega, rfl, by omega, fun q' z1 z2 => ?_, all⟩
  by_cases e : q' = n
  · rw [e]; exact Nat.le_refl _
  · have := all q' z1 (by omega)
    omega
theorem pc_scan (hW : ab_W A t) {c : Nat → Nat} {N j : Nat} {σ : en_M} (hS : pq_S A c N) (hj : j ≤ N) (h : pc_S σ A c j) : ∀ (F n : Nat) (b : Option Nat) (L : Nat), aH A 6 ≤ n → n ≤ aH A 5 → aH A 5 < n + F → pc_b A c j n b L → ∃ b' L', pc_b A c j (aH A 5) b' L' ∧ k_pp_step_12 F 0 (b.map (· % 8)) (nI L) (nI n) σ = some (b'.map (· % 8), nI L') := by
  have hN := ab_N hW
  obtain ⟨⟨hC, hpz⟩, h17, h18, h19⟩ := h
  have c5 := hC.1.2.2.2.2.2.1
  intro F
  induction F with
  | zero => intro n b L h1 h2 h3; omega
  | succ F ih =>
    intro n b L h1 h2 h3 hb
    have hL := pc_bL hb
    rw [k_pp_step_12, c5, it_le (by omega) (by omega)]
    by_cases hn : n < aH A 5
    · have hw := ab_in_win hW h1 hn
      have hp := ab_pc hW hw
      have hm8 : n % 8 < 8 := Nat.mod_lt _ (by decide)
      obtain ⟨-, d1, -, -, -, -, d6, d7, -⟩ := hC.2 n hw
      have hq2 := (hW.2.1 _ (hW.2.2.1 n hw).1).2.2.1
      have hvl := pc_le hW hS hw j hj
      have hv7 := pc_v7 A c n j
      rw [if_neg (by omega), ac_sendAt hC hW hw, pu_b1]
      simp only []
      rw [ac_waits hC hW hw, nI_1]
      by_cases hwt : aS A n 4 = 1 ∧ aS A n 7 < aS A n 6
      · rw [if_pos hwt, if_neg (show ¬ (1 : Int32) = 0 by decide), d1, pp_paused ⟨hC, hpz⟩ hW hw, pu_b1, itx_eq (a := aF A (aS A n 0) 2) (b := 0) (y := 0) rfl rfl (by omega) (by decide), show (8 : Int32) = nI 8 from rfl, nu_fm (by omega) (by decide) (by decide), pu_rd (by omega) (by decide), pu_b1, h18 n hw, d6, it_le (by omega) (by omega)]
        by_cases hz : aF A (aS A n 0) 2 = 0
        · rw [if_pos hz]
          by_cases hvp : aS A n 6 ≤ pc_v A c j n
          · rw [if_pos hvp]
            exact ih (n + 1) b L (by omega) (by omega) (by omega) (pc_skip hb (Or.inl (fun q => by have := q.2.2.2.2; omega)))
          · have hc : pc_c A c j n := ⟨h1, hn, hwt.1, hz, by omega⟩
            have hin := pc_hin hW hc
            have hDl := (pq_bd hW hin).2.2.2.2
            obtain ⟨e1, e2⟩ := pq_code (n := n) (k := pc_v A c j n) (by omega)
            have h19' := h19 _ hin
            rw [pc_h, e1, e2] at h19'
            rw [if_neg hvp, ac_index hC hW hw (by omega), pu_rd (by omega) (by decide), h19', pu_b1, pu_b1]
            show ∃ b' L', _ ∧ (if nI L ≤ nI (pq_D A (pc_h A c j n)) then _ else _) = _
            rw [it_le (by omega) (by omega)]
            by_cases hle : L ≤ pq_D A (pc_h A c j n)
            · rw [if_pos hle]
              exact ih (n + 1) b L (by omega) (by omega) (by omega) (pc_skip hb (Or.inr hle))
            · rw [if_neg hle]
              exact ih (n + 1) (some n) _ (by omega) (by omega) (by omega) (pc_take hb hc (by omega))
        · rw [if_neg hz]
          exact ih (n + 1) b L (by omega) (by omega) (by omega) (pc_skip hb (Or.inl (fun q => hz q.2.2.2.1)))
      · rw [if_neg hwt, if_pos rfl]
        exact ih (n + 1) b L (by omega) (by omega) (by omega) (pc_skip hb (Or.inl (fun q => hwt ⟨q.2.2.1, by have := q.2.2.2.2; omega⟩)))
    · have e : n = aH A 5 := by omega
      rw [if_pos (by omega)]
      exact ⟨b, L, by rw [← e]; exact hb, rfl⟩
/-- what the scan finds is the next of the sorted pieces -/
theorem pc_next (hW : ab_W A t) {c : Nat → Nat} {N j L : Nat} {b : Option Nat} (hS : pq_S A c N) (hj : j ≤ N) (h : pc_b A c j (aH A 5) b L) : (∃ q, b = some q ∧ j < N ∧ q = c j / 64 ∧ L = pq_D A (c j) ∧ L < 9999) ∨ (b = none ∧ (j < N → 9999 ≤ pq_D A (c j))) := by
  have hP := pc_inv hW hS j hj
  have head : j < N → pc_c A c j (c j / 64) ∧ pc_h A c j (c j / 64) = c j := fun hl => by
    have hin := hS.1 j hl
    have hh := pc_head hW hS hl hP
    refine ⟨⟨hin.1, hin.2.1, hin.2.2.1, hin.2.2.2.1, ?_⟩, ?_⟩
    · rw [← hh]
      exact hin.2.2.2.2.2
    · rw [pc_h, ← hh]
      exact Nat.div_add_mod _ _
  cases b with
  | none =>
    refine Or.inr ⟨rfl, fun hl => ?_⟩
    obtain ⟨a1, a2⟩ := head hl
    have := h.2 _ a1 a1.2.1
    rw [a2] at this
    exact this
  | some q =>
    obtain ⟨a1, a2, a3, a4, a5, a6⟩ := h
    have hin := pc_hin hW a1
    have h20 := (ab_pc hW (ab_in_win hW a1.1 a1.2.1)).1
    obtain ⟨i, i1, i2⟩ := hS.2.2.1 _ hin
    have hv := a1.2.2.2.2
    have hij : j ≤ i := by
      apply Decidable.byContradiction
      intro z
      have := (hP q (pc_v A c j q) hin (by omega)).2 ⟨i, by omega, i2⟩
      omega
    have hjN : j < N := by omega
    obtain ⟨b1, b2⟩ := head hjN
    have hle := a5 _ b1 b1.2.1
    rw [b2] at hle
    have hq : q = c j / 64 := by
      apply Decidable.byContradiction
      intro z
      by_cases e : i = j
      · rw [e, pc_h] at i2
        have := (pq_code (n := q) (k := pc_v A c j q) (by omega)).1
        rw [← i2] at this
        omega
      · have hl := hS.2.1 j i (by omega) i1
        rw [i2, pq_lt] at hl
        have hc : c j < pc_h A c j q := by omega
        have hqa : c j / 64 < q := by
          rw [pc_h] at hc
          have := Nat.div_add_mod (c j) 64
          omega
        have := a6 _ b1 hqa
        rw [b2] at this
        omega
    refine Or.inl ⟨q, rfl, hjN, hq, ?_, a4⟩
    rw [a3, hq, b2]
theorem pc_step (hW : ab_W A t) {c : Nat → Nat} {N j : Nat} {σ : en_M} (hS : pq_S A c N) (hj : j ≤ N) (h : pc_S σ A c j) : (j < N ∧ pl_s A c j < 9999 ∧ ∃ s, k_pp_step 0 σ = some (1, s) ∧ pc_S s A c (j + 1) ∧ s 17 0 0 3 = nI (c j / 64) ∧ s 17 0 0 4 = nI (c j % 64) ∧ s 17 0 0 5 = nI (pl_s A c j) ∧ s 17 0 0 6 = (if c j % 64 + 1 = aS A (c j / 64) 6 then 1 else 0) ∧ (∀ j, j ≠ 17 → j ≠ 18 → s j = σ j)) ∨ ((j < N → 9999 ≤ pl_s A c j) ∧ k_pp_step 0 σ = some (0, σ)) := by
  have hN := ab_N hW
  have hSC := h.1.1
  have h17 := h.2.1
  have c6 := hSC.1.2.2.2.2.2.2.1
  have hfl : pl_f A c j ≤ 320000 := by
    have := pl_le hW hS j hj
    have := hS.2.2.2
    omega
  obtain ⟨b, L, s1, s2⟩ := pc_scan hW hS hj h en_fu (aH A 6) none 9999 (by omega) (by omega) (by rw [en_fu]; omega) ⟨rfl, fun q z1 z2 => by have := z1.1; omega⟩
  have s2' : k_pp_step_12 en_fu 0 none 9999 (nI (aH A 6)) σ = some (b.map (· % 8), nI L) := s2
  rw [k_pp_step, c6, s2', pu_b2]
  rcases pc_next hW hS hj s1 with ⟨q, rfl, hjN, rfl, rfl, hL⟩ | ⟨rfl, hD⟩
  · have hin := hS.1 j hjN
    obtain ⟨b1, b2, b3, b4, b5⟩ := pq_bd hW hin
    obtain ⟨l1, l2, l3, l4, l5⟩ := pl_s_le hW hS hjN
    obtain ⟨z1, z2, z3, z4⟩ := pq_tk hW hin
    have hh := pc_head hW hS hjN (pc_inv hW hS j hj)
    have hm8 : c j / 64 % 8 < 8 := Nat.mod_lt _ (by decide)
    have hes : pl_s A c j = max (pl_f A c j) (pq_D A (c j)) := rfl
    simp only [Option.map_some]
    rw [h17, itx_lt (a := pl_f A c j) (b := 9999) (y := 9999) rfl rfl (by omega) (by decide)]
    by_cases hf : pl_f A c j < 9999
    · refine Or.inl ⟨hjN, by omega, ?_⟩
      rw [if_pos hf, pu_let]
      obtain ⟨d0, -, -, -, -, -, d6, -⟩ := hSC.2 _ b4
      obtain ⟨s25, h25⟩ : ∃ z, en_wr σ 17 0 0 3 (nI (c j / 64)) = z := ⟨_, rfl⟩
      have j25 : ∀ j, j ≠ 17 → s25 j = σ j := fun j q => by rw [← h25, pu_wr_j q]
      obtain ⟨s29, h29⟩ : ∃ z, en_wr s25 18 0 0 (c j / 64 % 8) (nI (c j % 64 + 1)) = z := ⟨_, rfl⟩
      obtain ⟨s31, h31⟩ : ∃ z, en_wr s29 17 0 0 4 (nI (c j % 64)) = z := ⟨_, rfl⟩
      obtain ⟨s33, h33⟩ : ∃ z, en_wr s31 17 0 0 5 (nI (pl_s A c j)) = z := ⟨_, rfl⟩
      obtain ⟨s37, h37⟩ : ∃ z, en_wr s33 17 0 0 2 (nI (pl_f A c (j + 1))) = z := ⟨_, rfl⟩
      have j33 : ∀ j, j ≠ 17 → j ≠ 18 → s33 j = σ j := fun j q1 q2 => by rw [← h33, pu_wr_j q1, ← h31, pu_wr_j q1, ← h29, pu_wr_j q2, j25 j q1]
      have j37 : ∀ j, j ≠ 17 → j ≠ 18 → s37 j = σ j := fun j q1 q2 => by rw [← h37, pu_wr_j q1, j33 j q1 q2]
      have hC33 : ab_Cs s33 0 A := by
        refine ⟨?_, ?_⟩
        · have := hSC.1
          rw [ab_C1] at this ⊢
          rw [j33 0 (by decide) (by decide)]
          exact this
        · intro n hn
          rw [j33 13 (by decide) (by decide)]
          exact hSC.2 n hn
      have e313 : s25 17 0 0 3 = nI (c j / 64) := by rw [← h25, pu_wr_eq]
      have e312 : s31 17 0 0 2 = nI (pl_f A c j) := by rw [← h31, pu_wr_k (by decide), ← h29, pu_wr_j (by decide), ← h25, pu_wr_k (by decide), h17]
      have e334 : s33 17 0 0 4 = nI (c j % 64) := by rw [← h33, pu_wr_k (by decide), ← h31, pu_wr_eq]
      have e335 : s33 17 0 0 5 = nI (pl_s A c j) := by rw [← h33, pu_wr_eq]
      have w1 := (hW.1.2.1).1
      have w1' := (hW.1.2.1).2
      have fin : ∀ (v : Int32) (s : en_M), v = (if c j % 64 + 1 = aS A (c j / 64) 6 then 1 else 0) → en_wr s37 17 0 0 6 v = s → pc_S s A c (j + 1) ∧ s 17 0 0 3 = nI (c j / 64) ∧ s 17 0 0 4 = nI (c j % 64) ∧ s 17 0 0 5 = nI (pl_s A c j) ∧ s 17 0 0 6 = (if c j % 64 + 1 = aS A (c j / 64) 6 then 1 else 0) ∧ (∀ j, j ≠ 17 → j ≠ 18 → s j = σ j) := fun v s hv hs => by
        have js : ∀ j, j ≠ 17 → j ≠ 18 → s j = σ j := fun j q1 q2 => by rw [← hs, pu_wr_j q1, j37 j q1 q2]
        refine ⟨⟨⟨⟨?_, ?_⟩, ?_⟩, ?_, ?_, ?_⟩, ?_, ?_, ?_, ?_, js⟩
        · have := hSC.1
          rw [ab_C1] at this ⊢
          rw [js 0 (by decide) (by decide)]
          exact this
        · intro n hn
          rw [js 13 (by decide) (by decide)]
          exact hSC.2 n hn
        · intro f hf
          rw [js 12 (by decide) (by decide)]
          exact h.1.2 f hf
        · rw [← hs, pu_wr_k (by decide), ← h37, pu_wr_eq]
        · intro n hn
          rw [← hs, pu_wr_j (by decide), ← h37, pu_wr_j (by decide), ← h33, pu_wr_j (by decide), ← h31, pu_wr_j (by decide), ← h29, pc_v]
          by_cases e : c j / 64 = n
          · rw [if_pos e, ← e, pu_wr_eq, hh]
          · have hne : n % 8 ≠ c j / 64 % 8 := fun q => by
              have := ti_apart hn b4 (k := 0) (k' := 0) (by omega) (by omega) (by omega)
              exact e this.1.symm
            rw [if_neg e, pu_wr_k hne, j25 18 (by decide)]
            exact h.2.2.1 n hn
        · intro x hx
          rw [js 19 (by decide) (by decide)]
          exact h.2.2.2 x hx
        · rw [← hs, pu_wr_k (by decide), ← h37, pu_wr_k (by decide), ← h33, pu_wr_k (by decide), ← h31, pu_wr_k (by decide), ← h29, pu_wr_j (by decide), e313]
        · rw [← hs, pu_wr_k (by decide), ← h37, pu_wr_k (by decide), e334]
        · rw [← hs, pu_wr_k (by decide), ← h37, pu_wr_k (by decide), e335]
        · rw [← hs, pu_wr_eq, hv]
      have e374 : s37 17 0 0 4 = nI (c j % 64) := by rw [← h37, pu_wr_k (by decide), e334]
      have e6 : s37 13 0 (c j / 64 % 8) 6 = nI (aS A (c j / 64) 6) := by rw [j37 13 (by decide) (by decide), d6]
      have h6l := hin.2.2.2.2.2
      have h20 := (ab_pc hW b4).1
      have eW : s33 0 0 0 9 = nI (aH A 1) := hC33.1.2.1
      rw [d0, h25, e313, show (8 : Int32) = nI 8 from rfl, nu_fm (by omega) (by decide) (by decide), pu_rd (by omega) (by decide), pu_b1, j25 18 (by decide), h.2.2.1 _ b4, ← hh, nI_1, pu_wa (by omega) (by decide), pu_b1, h29, pu_let, h31, pu_let, e312, nu_max (by omega) (by omega), ← hes, h33, e334, ac_size hC33 hW b4 h6l, eW, e335]
      show ∃ s, en_b1 (k_cc_roundedUp (nI (pq_z A (c j))) (nI (aH A 1))) _ = _ ∧ _
      rw [nu_up w1 (by omega), pu_b1, pu_let, nI_add, ← l5, h37, e374, e6, show (1 : Int32) = nI 1 from rfl, pk_sub (by omega), it_eq (by omega) (by omega)]
      by_cases cl : c j % 64 + 1 = aS A (c j / 64) 6
      · rw [if_pos (by omega), pu_let]
        exact ⟨_, rfl, fin (nI 1) _ (by rw [if_pos cl]; rfl) rfl⟩
      · rw [if_neg (by omega), pu_let]
        exact ⟨_, rfl, fin 0 _ (by rw [if_neg cl]) rfl⟩
    · refine Or.inr ⟨fun _ => by omega, ?_⟩
      rw [if_neg hf]
  · refine Or.inr ⟨fun hl => ?_, rfl⟩
    have := hD hl
    rw [pl_s]
    omega
end pcs

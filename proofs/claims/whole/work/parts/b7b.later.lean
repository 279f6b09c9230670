/-! On paper: by a greater rate a send is done no later. -/
/-- what all numbers below M that are so weigh, together -/
noncomputable def wx (w : Nat → Nat) (P : Nat → Prop) : Nat → Nat
  | 0 => 0
  | M + 1 => wx w P M + @ite Nat (P M) (Classical.propDecidable (P M)) (w M) 0
theorem wx_le {w : Nat → Nat} {P Q : Nat → Prop} (h : ∀ x, P x → Q x) : ∀ M, wx w P M ≤ wx w Q M := by
  intro M
  induction M with
  | zero => exact Nat.le_refl _
  | succ M ih =>
    rw [wx, wx]
    by_cases p : P M
    · rw [if_pos p, if_pos (h M p)]
      omega
    · rw [if_neg p]
      omega
theorem wx_no {w : Nat → Nat} {P : Nat → Prop} (h : ∀ x, ¬ P x) : ∀ M, wx w P M = 0 := by
  intro M
  induction M with
  | zero => rfl
  | succ M ih => rw [wx, if_neg (h M), ih]
theorem wx_add {w : Nat → Nat} {P Q : Nat → Prop} {y : Nat} (hP : ¬ P y) (h : ∀ x, Q x ↔ P x ∨ x = y) : ∀ M, wx w Q M = wx w P M + (if y < M then w y else 0) := by
  intro M
  induction M with
  | zero =>
    rw [if_neg (Nat.not_lt_zero y)]
    rfl
  | succ M ih =>
    rw [wx, wx, ih]
    by_cases e : M = y
    · have q : Q M := (h M).2 (Or.inr e)
      have p : ¬ P M := by rw [e]; exact hP
      rw [if_pos q, if_neg p, if_neg (show ¬ y < M by omega), if_pos (show y < M + 1 by omega), e]
    · have ey : (if y < M + 1 then w y else 0) = (if y < M then w y else 0) := by
        by_cases z : y < M
        · rw [if_pos z, if_pos (by omega)]
        · rw [if_neg z, if_neg (by omega)]
      rw [ey]
      by_cases p : P M
      · have q : Q M := (h M).2 (Or.inl p)
        rw [if_pos q, if_pos p]
        omega
      · have q : ¬ Q M := fun q => by
          rcases (h M).1 q with z | z
          · exact p z
          · exact e z
        rw [if_neg q, if_neg p]
        omega
theorem wx_least {P : Nat → Prop} : ∀ i, P i → ∃ a, a ≤ i ∧ P a ∧ ∀ k, k < a → ¬ P k := by
  intro i
  induction i using Nat.strongRecOn with
  | ind i ih =>
    intro h
    by_cases z : ∃ k, k < i ∧ P k
    · obtain ⟨k, k1, k2⟩ := z
      obtain ⟨a, a1, a2, a3⟩ := ih k k1 k2
      exact ⟨a, by omega, a2, a3⟩
    · exact ⟨i, Nat.le_refl _, h, fun k k1 k2 => z ⟨k, k1, k2⟩⟩
section pwx
variable {t : Nat} {A : ab_A}
/-- how long the wire has a piece -/
noncomputable def wx_w (A : ab_A) (x : Nat) : Nat := ab_up (pq_z A x) (aH A 1)
/-- the pieces from the a-th on, ahead of the j-th -/
def wx_P (c : Nat → Nat) (a j x : Nat) : Prop := ∃ i, a ≤ i ∧ i < j ∧ c i = x
theorem wx_in {c : Nat → Nat} {N i j : Nat} (hS : pq_S A c N) (hi : i < N) (hj : j < N) (h : c i = c j) : i = j := by
  apply Decidable.byContradiction
  intro z
  by_cases q : i < j
  · have := hS.2.1 i j q hj
    rw [h, pq_lt] at this
    omega
  · have := hS.2.1 j i (by omega) hi
    rw [h, pq_lt] at this
    omega
theorem wx_step {c : Nat → Nat} {N M a j : Nat} (hS : pq_S A c N) (hM : ∀ x, pq_in A x → x < M) (ha : a ≤ j) (hj : j < N) : wx (wx_w A) (wx_P c a (j + 1)) M = wx (wx_w A) (wx_P c a j) M + wx_w A (c j) := by
  have k1 : ¬ wx_P c a j (c j) := fun z => by
    obtain ⟨i, i1, i2, i3⟩ := z
    have := wx_in hS (by omega) hj i3
    omega
  have k2 : ∀ x, wx_P c a (j + 1) x ↔ wx_P c a j x ∨ x = c j := fun x => ⟨fun z => by
    obtain ⟨i, i1, i2, i3⟩ := z
    by_cases e : i = j
    · rw [e] at i3
      exact Or.inr i3.symm
    · exact Or.inl ⟨i, i1, by omega, i3⟩, fun z => by
    rcases z with ⟨i, i1, i2, i3⟩ | z
    · exact ⟨i, i1, by omega, i3⟩
    · exact ⟨j, ha, by omega, z.symm⟩⟩
  rw [wx_add (P := wx_P c a j) (Q := wx_P c a (j + 1)) (y := c j) k1 k2 M, if_pos (hM _ (hS.1 j hj))]
theorem wx_nil {c : Nat → Nat} {w : Nat → Nat} {a M : Nat} : wx w (wx_P c a a) M = 0 := wx_no (fun x z => by
  obtain ⟨i, i1, i2, -⟩ := z
  omega) M
/-- a piece is gone no earlier than what is ahead of it says .. -/
theorem wx_lo {c : Nat → Nat} {N M : Nat} (hS : pq_S A c N) (hM : ∀ x, pq_in A x → x < M) : ∀ j, j ≤ N → aH A 4 + aH A 7 + wx (wx_w A) (wx_P c 0 j) M ≤ pl_f A c j ∧ ∀ a, a < j → pq_D A (c a) + wx (wx_w A) (wx_P c a j) M ≤ pl_f A c j := by
  intro j
  induction j with
  | zero =>
    intro _
    rw [wx_nil]
    exact ⟨Nat.le_refl _, fun a h => by omega⟩
  | succ j ih =>
    intro hj
    obtain ⟨h1, h2⟩ := ih (by omega)
    have e : pl_f A c (j + 1) = max (pl_f A c j) (pq_D A (c j)) + wx_w A (c j) := rfl
    refine ⟨?_, fun a ha => ?_⟩
    · rw [wx_step hS hM (by omega) (by omega), e]
      omega
    · rw [wx_step hS hM (by omega) (by omega), e]
      by_cases q : a = j
      · rw [q, wx_nil]
        omega
      · have := h2 a (by omega)
        omega
/-- .. and just then -/
theorem wx_up {c : Nat → Nat} {N M : Nat} (hS : pq_S A c N) (hM : ∀ x, pq_in A x → x < M) : ∀ j, j ≤ N → pl_f A c j = aH A 4 + aH A 7 + wx (wx_w A) (wx_P c 0 j) M ∨ ∃ a, a < j ∧ pl_f A c j = pq_D A (c a) + wx (wx_w A) (wx_P c a j) M := by
  intro j
  induction j with
  | zero =>
    intro _
    rw [wx_nil]
    exact Or.inl rfl
  | succ j ih =>
    intro hj
    have e : pl_f A c (j + 1) = max (pl_f A c j) (pq_D A (c j)) + wx_w A (c j) := rfl
    by_cases q : pl_f A c j ≤ pq_D A (c j)
    · refine Or.inr ⟨j, by omega, ?_⟩
      rw [wx_step hS hM (by omega) (by omega), wx_nil, e]
      omega
    · rcases ih (by omega) with h | ⟨a, a1, a2⟩
      · refine Or.inl ?_
        rw [wx_step hS hM (by omega) (by omega), e]
        omega
      · refine Or.inr ⟨a, by omega, ?_⟩
        rw [wx_step hS hM (by omega) (by omega), e]
        omega
/-- by a greater rate .. -/
theorem rx_D {f r r' x : Nat} (h1 : 1 ≤ r) (h : r ≤ r') : pq_D (ra A f r') x ≤ pq_D (ra A f r) x := by
  by_cases e : aS A (x / 64) 0 = f
  · rw [ra_D e, ra_D e]
    exact dp_mono h1 h
  · rw [ra_D' e, ra_D' e]
    exact Nat.le_refl _
/-- .. no piece comes ahead of one of the flow that did not before -/
theorem rx_lt {f r r' x y : Nat} (h1 : 1 ≤ r) (h : r ≤ r') (hx : pq_in A x) (hy : pq_in A y) (hf : aS A (x / 64) 0 = f) (hl : pq_lt (ra A f r') y x) : pq_lt (ra A f r) y x := by
  have hD := rx_D (A := A) (f := f) (x := x) h1 h
  rw [pq_lt] at hl ⊢
  by_cases e : aS A (y / 64) 0 = f
  · by_cases q : y < x
    · have k := dp_code (rt := r) hy (e.trans hf.symm) q
      rw [← ra_D (f := f) e, ← ra_D (f := f) hf] at k
      omega
    · have q2 : x < y := by
        apply Decidable.byContradiction
        intro z
        have : x = y := by omega
        rw [this] at hl
        omega
      have k := dp_code (rt := r') hx (hf.trans e.symm) q2
      rw [← ra_D (f := f) e, ← ra_D (f := f) hf] at k
      omega
  · have e1 : pq_D (ra A f r') y = pq_D A y := ra_D' e
    have e2 : pq_D (ra A f r) y = pq_D A y := ra_D' e
    omega
theorem rx_f {f r r' x j j' N N' M : Nat} {c c' : Nat → Nat} (h1 : 1 ≤ r) (h : r ≤ r') (hM : ∀ x, pq_in A x → x < M) (hS : pq_S (ra A f r) c N) (hS' : pq_S (ra A f r') c' N') (hj : j < N) (hj' : j' < N') (hc : c j = x) (hc' : c' j' = x) (hf : aS A (x / 64) 0 = f) : pl_f (ra A f r') c' (j' + 1) ≤ pl_f (ra A f r) c (j + 1) := by
  have hx : pq_in A x := by
    rw [← hc]
    exact ra_in.1 (hS.1 j hj)
  have inc : ∀ i', i' < j' + 1 → ∃ i, i < j + 1 ∧ c i = c' i' := fun i' hi => by
    have hy := ra_in.1 (hS'.1 i' (by omega))
    obtain ⟨i, i1, i2⟩ := hS.2.2.1 _ (ra_in.2 hy)
    refine ⟨i, ?_, i2⟩
    by_cases e : i' = j'
    · rw [e, hc', ← hc] at i2
      have := wx_in hS i1 hj i2
      omega
    · have hl := hS'.2.1 i' j' (by omega) hj'
      rw [hc'] at hl
      have hl2 := rx_lt h1 h hx hy hf hl
      rw [← i2, ← hc] at hl2
      have := pq_ix hS i1 hj hl2
      omega
  have M1 : ∀ x, pq_in (ra A f r) x → x < M := fun x z => hM x (ra_in.1 z)
  have M2 : ∀ x, pq_in (ra A f r') x → x < M := fun x z => hM x (ra_in.1 z)
  have L : aH A 4 + aH A 7 + wx (wx_w A) (wx_P c 0 (j + 1)) M ≤ pl_f (ra A f r) c (j + 1) ∧ ∀ a, a < j + 1 → pq_D (ra A f r) (c a) + wx (wx_w A) (wx_P c a (j + 1)) M ≤ pl_f (ra A f r) c (j + 1) := wx_lo hS M1 (j + 1) (by omega)
  have U : pl_f (ra A f r') c' (j' + 1) = aH A 4 + aH A 7 + wx (wx_w A) (wx_P c' 0 (j' + 1)) M ∨ ∃ a, a < j' + 1 ∧ pl_f (ra A f r') c' (j' + 1) = pq_D (ra A f r') (c' a) + wx (wx_w A) (wx_P c' a (j' + 1)) M := wx_up hS' M2 (j' + 1) (by omega)
  rcases U with U | ⟨a', a1, U⟩
  · have := wx_le (w := wx_w A) (P := wx_P c' 0 (j' + 1)) (Q := wx_P c 0 (j + 1)) (fun y z => by
      obtain ⟨i', i1, i2, i3⟩ := z
      obtain ⟨i, k1, k2⟩ := inc i' i2
      exact ⟨i, by omega, k1, k2.trans i3⟩) M
    have := L.1
    omega
  · obtain ⟨i0, k1, k2⟩ := inc a' a1
    have hD0 : pq_D (ra A f r') (c' a') ≤ pq_D (ra A f r) (c i0) := by
      rw [k2]
      exact rx_D h1 h
    obtain ⟨a, a2, a3, a4⟩ := wx_least (P := fun i => pq_D (ra A f r') (c' a') ≤ pq_D (ra A f r) (c i)) i0 hD0
    have := wx_le (w := wx_w A) (P := wx_P c' a' (j' + 1)) (Q := wx_P c a (j + 1)) (fun y z => by
      obtain ⟨i', i1, i2, i3⟩ := z
      obtain ⟨i, k3, k4⟩ := inc i' i2
      refine ⟨i, ?_, k3, k4.trans i3⟩
      apply Decidable.byContradiction
      intro q
      refine a4 i (by omega) ?_
      show pq_D (ra A f r') (c' a') ≤ pq_D (ra A f r) (c i)
      have hD1 : pq_D (ra A f r') (c' a') ≤ pq_D (ra A f r') (c' i') := by
        by_cases e : a' = i'
        · rw [e]
          exact Nat.le_refl _
        · have := hS'.2.1 a' i' (by omega) (by omega)
          rw [pq_lt] at this
          omega
      have hD2 : pq_D (ra A f r') (c' i') ≤ pq_D (ra A f r) (c i) := by
        rw [k4]
        exact rx_D h1 h
      omega) M
    have := L.2 a (by omega)
    have a3' : pq_D (ra A f r') (c' a') ≤ pq_D (ra A f r) (c a) := a3
    omega
/-- .. so a send is done no later -/
theorem rx_eo (hW : ab_W A t) {f r r' n N N' u : Nat} {c c' : Nat → Nat} {x' : Int32} (h1 : 1 ≤ r) (h : r ≤ r') (hf : aS A n 0 = f) (h6 : aH A 6 ≤ n) (h5 : n < aH A 5) (hS : pq_S (ra A f r) c N) (hS' : pq_S (ra A f r') c' N') (hx : eo_P (ra A f r) c N n (nI u)) (hu : u ≤ 9999) (hx' : eo_P (ra A f r') c' N' n x') : ∃ u', u' ≤ u ∧ x' = nI u' := by
  have hv : ∀ v, nI u = pl_v v → v = u := fun v z => by
    rw [pl_v] at z
    by_cases q : v ≤ 9999
    · rw [if_pos q] at z
      have := (nI_eq (by omega) (by omega)).1 z
      omega
    · rw [if_neg q] at z
      rw [nu_m1 (by omega)] at z
      exact z.elim
  have hp : ∀ q, aF (ra A f q) (aS A n 0) 2 = aF A (aS A n 0) 2 := fun q => ra_F (by omega)
  have h20 := (ab_pc hW (ab_in_win hW h6 h5)).1
  rcases hx with ⟨a1, a2⟩ | ⟨a1, a2, j, j1, j2, j3⟩ | ⟨a1, a2, a3⟩
  · have e0 := hv _ a2
    rcases hx' with ⟨b1, b2⟩ | ⟨b1, b2, -⟩ | ⟨b1, b2, -⟩
    · refine ⟨u, Nat.le_refl _, ?_⟩
      rw [b2, a2]
      rfl
    · have a1' : aS A n 7 = aS A n 6 := a1
      have b1' : aS A n 7 < aS A n 6 := b1
      omega
    · have a1' : aS A n 7 = aS A n 6 := a1
      have b1' : aS A n 7 < aS A n 6 := b1
      omega
  · have e0 := hv _ j3
    have a1' : aS A n 7 < aS A n 6 := a1
    rcases hx' with ⟨b1, b2⟩ | ⟨b1, b2, j', k1, k2, k3⟩ | ⟨b1, b2, -⟩
    · have b1' : aS A n 7 = aS A n 6 := b1
      omega
    · have j2' : c j = 64 * n + (aS A n 6 - 1) := j2
      have k2' : c' j' = 64 * n + (aS A n 6 - 1) := k2
      obtain ⟨e1, e2⟩ := pq_code (n := n) (k := aS A n 6 - 1) (by omega)
      have z := rx_f h1 h (M := 2 ^ 20) (fun x q => (pq_bd hW q).1) hS hS' j1 k1 j2' k2' (by rw [e1]; exact hf)
      refine ⟨pl_f (ra A f r') c' (j' + 1), by omega, ?_⟩
      rw [k3, pl_v, if_pos (by omega)]
    · have a2' : aF (ra A f r) (aS A n 0) 2 = 0 := a2
      have b2' : ¬ aF (ra A f r') (aS A n 0) 2 = 0 := b2
      rw [hp] at a2' b2'
      exact absurd a2' b2'
  · rw [nu_m1 (by omega)] at a3
    exact a3.elim
end pwx

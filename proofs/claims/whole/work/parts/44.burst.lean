/-! burst -/
def bu_s (A : ab_A) (v : Int32) (E : Nat) : Nat → Nat → Nat
  | 0, _ => 0
  | m + 1, i => if aL A i 5 < E then (if nI (aL A i 2) = v then aL A i 3 else 0) + bu_s A v E m (i + 1) else 0
def bu_c (A : ab_A) (v : Int32) (n : Nat) : Nat → Nat → Nat
  | 0, _ => 0
  | m + 1, k => max (if nI (aL A k 2) = v then bu_s A v (aL A k 5 + n) (m + 1) k else 0) (bu_c A v n m (k + 1))
def bu_m (A : ab_A) (v : Int32) (n : Nat) : Nat → Nat → Nat
  | 0, _ => 0
  | m + 1, k => max (bu_s A v (aL A k 5 + n) (m + 1) k) (bu_m A v n m (k + 1))
theorem bu_mono (A : ab_A) (v : Int32) {E E' : Nat} (h : E ≤ E') : ∀ m i, bu_s A v E m i ≤ bu_s A v E' m i := by
  intro m
  induction m with
  | zero => intro i; exact Nat.le_refl _
  | succ m ih =>
    intro i
    simp only [bu_s]
    by_cases h1 : aL A i 5 < E
    · rw [if_pos h1, if_pos (show aL A i 5 < E' by omega)]
      exact Nat.add_le_add_left (ih (i + 1)) _
    · rw [if_neg h1]
      omega
theorem bu_eq {A : ab_A} {t : Nat} (hW : ab_W A t) (v : Int32) (n : Nat) : ∀ m k, k + m = aH A 9 → bu_c A v n m k = bu_m A v n m k ∧ (∀ m', m = m' + 1 → bu_s A v (aL A k 5 + n) (m' + 1) k ≤ bu_c A v n m k) := by
  obtain ⟨w1, w2⟩ := hW.2.2.2.2.2
  intro m
  induction m with
  | zero => exact fun k _ => ⟨rfl, fun m' h => by omega⟩
  | succ m ih =>
    intro k hk
    obtain ⟨e1, e2⟩ := ih (k + 1) (by omega)
    have key : bu_s A v (aL A k 5 + n) (m + 1) k ≤ bu_c A v n (m + 1) k := by
      simp only [bu_c]
      by_cases hf : nI (aL A k 2) = v
      · rw [if_pos hf]
        omega
      · have h1 : bu_s A v (aL A k 5 + n) (m + 1) k ≤ bu_s A v (aL A k 5 + n) m (k + 1) := by
          simp only [bu_s]
          rw [if_neg hf]
          split <;> omega
        cases m with
        | zero =>
          simp only [bu_s] at h1 ⊢
          omega
        | succ m =>
          have h2 := w2 k (by omega)
          have h3 := bu_mono A v (show aL A k 5 + n ≤ aL A (k + 1) 5 + n by omega) (m + 1) (k + 1)
          have h4 := e2 m rfl
          omega
    refine ⟨?_, fun m' hm => by cases hm; exact key⟩
    have k2 := key
    simp only [bu_c, bu_m] at k2 ⊢
    rw [e1] at k2 ⊢
    split at k2 <;> rename_i hf
    · rw [if_pos hf]
    · rw [if_neg hf]
      omega
section buq
variable {σ τ : en_M} {g t : Nat} {A : ab_A}
theorem bu_bd (hW : ab_W A t) (v : Int32) (E : Nat) : ∀ m i, i + m ≤ aH A 9 → bu_s A v E m i ≤ 112 * m := by
  obtain ⟨w1, w2⟩ := hW.2.2.2.2.2
  intro m
  induction m with
  | zero => intro i _; exact Nat.le_refl _
  | succ m ih =>
    intro i hi
    have h1 := ih (i + 1) (by omega)
    have h2 := w1 i (by omega)
    simp only [bu_s]
    split
    · split <;> omega
    · omega
theorem bu_inc (hW : ab_W A t) : ∀ d i, i + d < aH A 9 → aL A i 5 ≤ aL A (i + d) 5 := by
  obtain ⟨w1, w2⟩ := hW.2.2.2.2.2
  intro d
  induction d with
  | zero => intro i _; exact Nat.le_refl _
  | succ d ih =>
    intro i hi
    have h1 := ih i (by omega)
    have h2 := w2 (i + d) (by omega)
    have e : i + (d + 1) = i + d + 1 := by omega
    rw [e]
    omega
theorem bu_until (hC : ab_CW σ g A) (hW : ab_W A t) (v : Int32) {E : Nat} (hE : E < 2 ^ 31) : ∀ m f i S, i + m = aH A 9 → m < f → k_lg_sizesUntil_6 f g v (nI E) (nI S) (nI i) σ = some (nI (S + bu_s A v E m i)) := by
  have h40 := ab_l40 hW
  have s1 := lq_sz hC
  obtain ⟨w1, w2⟩ := hW.2.2.2.2.2
  have hT := (ab_N hW).2.2.2.2.2.2.2
  intro m
  induction m with
  | zero =>
    intro f i S h1 h2
    cases f with
    | zero => omega
    | succ f => rw [k_lg_sizesUntil_6, s1, it_le (by omega) (by omega), if_pos (by omega)]; rfl
  | succ m ih =>
    intro f i S h1 h2
    cases f with
    | zero => omega
    | succ f =>
      have hi : i < aH A 9 := by omega
      have hw := w1 i hi
      rw [k_lg_sizesUntil_6, s1, it_le (by omega) (by omega), if_neg (by omega), ac_at hC hW (x := 5) (c := 5) rfl hi (by decide), pu_b1, it_le hE (by omega)]
      simp only [bu_s]
      by_cases h3 : aL A i 5 < E
      · rw [if_neg (by omega), if_pos h3, ac_at hC hW (x := 2) (c := 2) rfl hi (by decide), pu_b1, ac_at hC hW (x := 3) (c := 3) rfl hi (by decide), pu_b1, nI_add, nI_1, Int32.add_zero]
        split
        · rw [ih f (i + 1) _ (by omega) (by omega), Nat.add_assoc]
        · rw [ih f (i + 1) _ (by omega) (by omega), Nat.zero_add]
      · rw [if_pos (by omega), if_neg h3]
        rfl
theorem bu_from (hM : ab_MR (τ 25 0 0) A) (hW : ab_W A t) (v : Int32) {L n : Nat} (hL : L ≤ 9999) (hn : 1 ≤ n) (hn9 : n ≤ 99) : ∀ m f i S, i + m = aH A 9 → m < f → (∀ j, i ≤ j → j < aH A 9 → L ≤ aL A j 5) → k_mm_sizesFrom_6 f v (nI L) (nI n) (nI S) (nI i) τ = some (nI (S + bu_s A v (L + n) m i)) := by
  have h40 := ab_l40 hW
  have m1 := lq_szm hM
  obtain ⟨w1, w2⟩ := hW.2.2.2.2.2
  have hT := (ab_N hW).2.2.2.2.2.2.2
  have key : ∀ m i, i + m ≤ aH A 9 → (∀ j, i ≤ j → j < aH A 9 → L + n ≤ aL A j 5) → bu_s A v (L + n) m i = 0 := by
    intro m i hm hj
    cases m with
    | zero => rfl
    | succ m =>
      simp only [bu_s]
      rw [if_neg]
      have := hj i (Nat.le_refl _) (by omega)
      omega
  intro m
  induction m with
  | zero =>
    intro f i S h1 h2 _
    cases f with
    | zero => omega
    | succ f => rw [k_mm_sizesFrom_6, m1, it_le (by omega) (by omega), if_pos (by omega)]; rfl
  | succ m ih =>
    intro f i S h1 h2 hj
    cases f with
    | zero => omega
    | succ f =>
      have hi : i < aH A 9 := by omega
      have hw := w1 i hi
      have hji := hj i (Nat.le_refl _) hi
      have hin : k_mm_isIn (nI (aL A i 5)) (nI L) ((nI L + nI n) - 1) = (if aL A i 5 < L + n then 1 else 0) := by
        rw [k_mm_isIn, it_lt (by omega) (by omega), if_neg (by omega), nI_add, show (1 : Int32) = nI 1 from rfl, pk_sub (by omega), it_lt (by omega) (by omega)]
        by_cases h3 : aL A i 5 < L + n
        · rw [if_neg (by omega), if_pos h3]
        · rw [if_pos (by omega), if_neg h3]
      have hx := fun S => ih f (i + 1) S (by omega) (by omega) (fun j h5 h6 => hj j (by omega) h6)
      rw [k_mm_sizesFrom_6, m1, it_le (by omega) (by omega), if_neg (by omega), mo_log hM hW (x := 2) (c := 2) rfl hi (by decide), pu_b1, mo_log hM hW (x := 5) (c := 5) rfl hi (by decide), pu_b1, hin, mo_log hM hW (x := 3) (c := 3) rfl hi (by decide), pu_b1, Int32.add_zero, nI_add, nI_1, hx, hx]
      simp only [bu_s]
      by_cases h3 : aL A i 5 < L + n
      · rw [if_pos h3, if_neg (show ¬ (1 : Int32) = 0 by decide), if_pos h3]
        split
        · rw [Nat.add_assoc]
        · rw [Nat.zero_add]
      · have h0 := key m (i + 1) (by omega) (fun j h5 h6 => by
          have := bu_inc hW (j - i) i (by omega)
          rw [show i + (j - i) = j by omega] at this
          omega)
        rw [if_neg h3, if_pos rfl, if_neg h3, h0]
        split <;> rfl
theorem bu_from0 (hM : ab_MR (τ 25 0 0) A) (hW : ab_W A t) (v : Int32) {k n : Nat} (hk : k < aH A 9) (hn : 1 ≤ n) (hn9 : n ≤ 99) : ∀ d f i, i + d = k → aH A 9 < i + f → k_mm_sizesFrom_6 f v (nI (aL A k 5)) (nI n) 0 (nI i) τ = some (nI (bu_s A v (aL A k 5 + n) (aH A 9 - k) k)) := by
  have h40 := ab_l40 hW
  have m1 := lq_szm hM
  obtain ⟨w1, w2⟩ := hW.2.2.2.2.2
  have hT := (ab_N hW).2.2.2.2.2.2.2
  intro d
  induction d with
  | zero =>
    intro f i h1 h2
    have e : i = k := by omega
    subst e
    have := bu_from hM hW v (L := aL A i 5) (by have := w1 i hk; omega) hn hn9 (aH A 9 - i) f i 0 (by omega) (by omega) (fun j h5 h6 => by
      have := bu_inc hW (j - i) i (by omega)
      rw [show i + (j - i) = j by omega] at this
      exact this)
    rw [nI_0, Nat.zero_add] at this
    exact this
  | succ d ih =>
    intro f i h1 h2
    cases f with
    | zero => omega
    | succ f =>
      have hi : i < aH A 9 := by omega
      have hw := w1 i hi
      have hwk := w1 k hk
      have h3 := bu_inc hW d (i + 1) (by omega)
      have h4 := w2 i (by omega)
      rw [show i + 1 + d = k by omega] at h3
      rw [k_mm_sizesFrom_6, m1, it_le (by omega) (by omega), if_neg (by omega), mo_log hM hW (x := 2) (c := 2) rfl hi (by decide), pu_b1, mo_log hM hW (x := 5) (c := 5) rfl hi (by decide), pu_b1, k_mm_isIn, it_lt (by omega) (by omega), if_pos (show aL A i 5 < aL A k 5 by omega), if_pos rfl, Int32.add_zero, nI_1, ih f (i + 1) (by omega) (by omega)]
      split <;> rfl
theorem bu_cls (hC : ab_CW σ g A) (hW : ab_W A t) (v : Int32) {n : Nat} (hn9 : n ≤ 99) : ∀ m f k S, k + m = aH A 9 → m < f → S ≤ 4480 → k_lg_burstOf_5 f g v (nI n) (nI S) (nI k) σ = some (nI (max S (bu_c A v n m k))) := by
  have h40 := ab_l40 hW
  have s1 := lq_sz hC
  obtain ⟨w1, w2⟩ := hW.2.2.2.2.2
  have hT := (ab_N hW).2.2.2.2.2.2.2
  intro m
  induction m with
  | zero =>
    intro f i S h1 h2 _
    cases f with
    | zero => omega
    | succ f => rw [k_lg_burstOf_5, s1, it_le (by omega) (by omega), if_pos (by omega)]; simp [bu_c]
  | succ m ih =>
    intro f i S h1 h2 h3
    cases f with
    | zero => omega
    | succ f =>
      have hi : i < aH A 9 := by omega
      have hw := w1 i hi
      have hb := bu_bd hW v (aL A i 5 + n) (m + 1) i (by omega)
      rw [k_lg_burstOf_5, s1, it_le (by omega) (by omega), if_neg (by omega), ac_at hC hW (x := 2) (c := 2) rfl hi (by decide), pu_b1, ac_at hC hW (x := 5) (c := 5) rfl hi (by decide), pu_b1, nI_add, k_lg_sizesUntil]
      have := bu_until hC hW v (E := aL A i 5 + n) (by omega) (m + 1) en_fu i 0 (by omega) (by rw [en_fu]; omega)
      rw [nI_0, Nat.zero_add] at this
      rw [this, pu_b1, pu_b1, nI_1, nu_max (by omega) (by omega)]
      simp only [bu_c]
      split
      · rw [ih f (i + 1) _ (by omega) (by omega) (by omega), Nat.max_assoc]
      · rw [ih f (i + 1) _ (by omega) (by omega) h3, Nat.zero_max]
theorem bu_mod (hM : ab_MR (τ 25 0 0) A) (hW : ab_W A t) (v : Int32) {n : Nat} (hn : 1 ≤ n) (hn9 : n ≤ 99) : ∀ m f k S, k + m = aH A 9 → m < f → S ≤ 4480 → k_mm_burst_45 f v (nI n) (nI S) (nI k) τ = some (nI (max S (bu_m A v n m k))) := by
  have h40 := ab_l40 hW
  have m1 := lq_szm hM
  obtain ⟨w1, w2⟩ := hW.2.2.2.2.2
  have hT := (ab_N hW).2.2.2.2.2.2.2
  intro m
  induction m with
  | zero =>
    intro f i S h1 h2 _
    cases f with
    | zero => omega
    | succ f => rw [k_mm_burst_45, m1, it_le (by omega) (by omega), if_pos (by omega)]; simp [bu_m]
  | succ m ih =>
    intro f i S h1 h2 h3
    cases f with
    | zero => omega
    | succ f =>
      have hi : i < aH A 9 := by omega
      have hw := w1 i hi
      have hb := bu_bd hW v (aL A i 5 + n) (m + 1) i (by omega)
      have := bu_from0 hM hW v hi hn hn9 i en_fu 0 (by omega) (by rw [en_fu]; omega)
      rw [nI_0, show aH A 9 - i = m + 1 by omega] at this
      rw [k_mm_burst_45, m1, it_le (by omega) (by omega), if_neg (by omega), mo_log hM hW (x := 5) (c := 5) rfl hi (by decide), pu_b1, k_mm_sizesFrom, this, pu_b1, pu_b1, nI_1, nu_gr (by omega) (by omega), ih f (i + 1) _ (by omega) (by omega) (by omega)]
      simp only [bu_m]
      rw [Nat.max_assoc]
/-- burst, both -/
theorem lq_burst (hC : ab_CW σ g A) (hM : ab_MR (τ 25 0 0) A) (hW : ab_W A t) (v : Int32) {n : Nat} (hn : 1 ≤ n) (hn9 : n ≤ 99) : ∃ x, k_lg_burstOf g v (nI n) σ = some x ∧ k_mm_burst_45 en_fu v (nI n) 0 0 τ = some x := by
  have h40 := ab_l40 hW
  have a1 := bu_cls hC hW v hn9 (aH A 9) en_fu 0 0 (by omega) (by rw [en_fu]; omega) (by omega)
  have a2 := bu_mod hM hW v hn hn9 (aH A 9) en_fu 0 0 (by omega) (by rw [en_fu]; omega) (by omega)
  rw [nI_0] at a1 a2
  refine ⟨_, ?_, a2⟩
  rw [k_lg_burstOf, a1, pu_b1, (bu_eq hW v n (aH A 9) 0 (by omega)).1]
end buq

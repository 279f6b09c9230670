/-! jitter, latest -/
section jit
variable {σ τ : en_M} {g t : Nat} {A : ab_A}
theorem lq_jit (hC : ab_CW σ g A) (hM : ab_MR (τ 25 0 0) A) (hW : ab_W A t) (v : Int32) : ∀ (f k c L a b : Nat) (ah la a' b' : Int32), k ≤ aH A 9 → aH A 9 < k + f → c ≤ k → (1 ≤ c → ah = nI L ∧ la = nI L ∧ ∀ row, k ≤ row → row < aH A 9 → L ≤ aL A row 5) → a ≤ 9999 → b ≤ 9999 → (2 ≤ c → a' = nI a ∧ b' = nI b) → (c ≤ 1 → a = 9999 ∧ b = 0) →
    ∃ (c' x y : Nat) (x' y' : Int32), c' ≤ 40 ∧ k_lg_jitterOf_15 f g v (nI c) ah (nI a) (nI b) (nI k) σ = some (nI c', nI x, nI y) ∧ k_mm_jitter_13 f v la (nI c) a' b' (nI k) τ = some (nI c', x', y') ∧ (3 ≤ c' → x' = nI x ∧ y' = nI y) := by
  have h40 := ab_l40 hW
  have s1 := lq_sz hC
  have m1 := lq_szm hM
  obtain ⟨w1, w2⟩ := hW.2.2.2.2.2
  have hT := (ab_N hW).2.2.2.2.2.2.2
  intro f
  induction f with
  | zero => intro k c L a b ah la a' b' h1 h2; omega
  | succ f ih =>
    intro k c L a b ah la a' b' h1 h2 h3 h4 h5 h6 h7 h8
    rw [k_lg_jitterOf_15, k_mm_jitter_13, s1, m1, it_le (by omega) (by omega), it_le (by omega) (by omega)]
    by_cases hk : k < aH A 9
    · have hw := w1 k hk
      have hinc : ∀ row, k + 1 ≤ row → row < aH A 9 → aL A k 5 ≤ aL A row 5 := fun row h9 h10 => by
        have := bu_inc hW (row - k) k (by omega)
        rw [show k + (row - k) = row by omega] at this
        exact this
      rw [if_neg (by omega), if_neg (by omega), ac_at hC hW (x := 2) (c := 2) rfl hk (by decide), pu_b1, mo_log hM hW (x := 2) (c := 2) rfl hk (by decide), pu_b1, ac_at hC hW (x := 5) (c := 5) rfl hk (by decide), pu_b1, mo_log hM hW (x := 5) (c := 5) rfl hk (by decide), pu_b1]
      simp only [pu_b1]
      have c0 : (nI c = 0) = (c = 0) := nu_eq rfl nI_0.symm (by omega) (by decide)
      have c1 : (nI (c + 1) = 2) = (c + 1 = 2) := nu_eq rfl rfl (by omega) (by decide)
      have c2 : ((2 : Int32) ≤ nI (c + 1)) = (2 ≤ c + 1) := nu_le rfl rfl (by decide) (by omega)
      simp only [nI_1, c0, c1, c2]
      by_cases hf : nI (aL A k 2) = v
      · rw [if_pos hf, if_pos hf]
        by_cases hc0 : c = 0
        · subst hc0
          rw [if_pos rfl, if_pos rfl, if_neg (by omega)]
          exact ih (k + 1) 1 (aL A k 5) a b _ _ _ _ (by omega) (by omega) (by omega) (fun _ => ⟨rfl, rfl, hinc⟩) h5 h6 (fun q => by omega) (fun _ => h8 (by omega))
        · obtain ⟨rfl, rfl, hL⟩ := h4 (by omega)
          have hLk := hL k (Nat.le_refl _) hk
          rw [if_neg hc0, if_neg hc0, if_pos (show 2 ≤ c + 1 by omega), pk_sub hLk]
          by_cases hc1 : c = 1
          · subst hc1
            obtain ⟨rfl, rfl⟩ := h8 (by omega)
            rw [if_pos (show 1 + 1 = 2 from rfl), if_pos (show 1 + 1 = 2 from rfl), it_lt (by omega) (by omega), it_lt (by omega) (by omega)]
            have e1 : (if aL A k 5 - L < 9999 then nI (aL A k 5 - L) else nI 9999) = nI (aL A k 5 - L) := by
              split
              · rfl
              · congr 1
                omega
            have e2 : (if 0 < aL A k 5 - L then nI (aL A k 5 - L) else nI 0) = nI (aL A k 5 - L) := by
              split
              · rfl
              · congr 1
                omega
            rw [e1, e2]
            exact ih (k + 1) 2 (aL A k 5) _ _ _ _ _ _ (by omega) (by omega) (by omega) (fun _ => ⟨rfl, rfl, hinc⟩) (by omega) (by omega) (fun _ => ⟨rfl, rfl⟩) (fun q => by omega)
          · obtain ⟨rfl, rfl⟩ := h7 (by omega)
            rw [if_neg (show ¬ c + 1 = 2 by omega), if_neg (show ¬ c + 1 = 2 by omega), nu_ls (by omega) (by omega), nu_gr (by omega) (by omega), nu_max (by omega) (by omega)]
            have e1 : (if nI (aL A k 5 - L) < nI a then nI (aL A k 5 - L) else nI a) = nI (min a (aL A k 5 - L)) := by
              rw [it_lt (by omega) (by omega)]
              split
              · rw [Nat.min_eq_right (by omega)]
              · rw [Nat.min_eq_left (by omega)]
            rw [e1]
            exact ih (k + 1) (c + 1) (aL A k 5) _ _ _ _ _ _ (by omega) (by omega) (by omega) (fun _ => ⟨rfl, rfl, hinc⟩) (by omega) (by omega) (fun _ => ⟨rfl, rfl⟩) (fun q => by omega)
      · rw [if_neg hf, if_neg hf]
        exact ih (k + 1) c L a b _ _ _ _ (by omega) (by omega) (by omega) (fun q => ⟨(h4 q).1, (h4 q).2.1, fun row h9 h10 => (h4 q).2.2 row (by omega) h10⟩) h5 h6 h7 h8
    · rw [if_pos (by omega), if_pos (by omega)]
      exact ⟨c, a, b, a', b', by omega, rfl, rfl, fun q => h7 (by omega)⟩
theorem lq_jitter (hC : ab_CW σ g A) (hM : ab_MR (τ 25 0 0) A) (hW : ab_W A t) (v : Int32) : ∃ x, k_lg_jitterOf g v σ = some x ∧ k_mm_jitter v τ = some x := by
  have h40 := ab_l40 hW
  obtain ⟨c', x, y, x', y', h1, h2, h3, h4⟩ := lq_jit hC hM hW v en_fu 0 0 0 9999 0 0 (-1) 0 0 (by omega) (by rw [en_fu]; omega) (by omega) (fun q => by omega) (by omega) (by omega) (fun q => by omega) (fun _ => ⟨rfl, rfl⟩)
  rw [nI_0, show nI 9999 = (9999 : Int32) from rfl] at h2
  rw [nI_0] at h3
  rw [k_lg_jitterOf, h2, pu_b3, k_mm_jitter, h3, pu_b3, itx_le (a := 3) (b := c') (x := 3) rfl rfl (by decide) (by omega), itx_le (a := 3) (b := c') (x := 3) rfl rfl (by decide) (by omega)]
  by_cases h9 : 3 ≤ c'
  · obtain ⟨rfl, rfl⟩ := h4 h9
    rw [if_pos h9]
    exact ⟨_, rfl, rfl⟩
  · rw [if_neg h9, if_neg h9]
    exact ⟨_, rfl, rfl⟩
end jit
/-! latest: the place of a row among the first i rows, by how late, then by number -/
def la_lt (A : ab_A) (y x : Nat) : Bool := decide (aL A x 5 - aL A x 4 < aL A y 5 - aL A y 4) || (decide (aL A x 5 - aL A x 4 = aL A y 5 - aL A y 4) && decide (y < x))
def la_ps (A : ab_A) (x : Nat) : Nat → Nat
  | 0 => 0
  | i + 1 => la_ps A x i + (if la_lt A i x then 1 else 0)
theorem la_le (A : ab_A) (x : Nat) : ∀ i, la_ps A x i ≤ i := by
  intro i
  induction i with
  | zero => exact Nat.le_refl _
  | succ i ih =>
    simp only [la_ps]
    split <;> omega
theorem la_irr (A : ab_A) (x : Nat) : la_lt A x x = false := by simp [la_lt]
theorem la_lt_i (A : ab_A) (x : Nat) : ∀ i, x < i → la_ps A x i < i := by
  intro i
  induction i with
  | zero => intro h; omega
  | succ i ih =>
    intro h
    simp only [la_ps]
    by_cases hx : x = i
    · subst hx
      have := la_le A x x
      rw [la_irr]
      simp
      omega
    · have := ih (by omega)
      split <;> omega
theorem la_tr (A : ab_A) {x y z : Nat} (h1 : la_lt A x y = true) (h2 : la_lt A y z = true) : la_lt A x z = true := by
  simp only [la_lt, Bool.or_eq_true, Bool.and_eq_true, decide_eq_true_eq] at h1 h2 ⊢
  omega
theorem la_tot (A : ab_A) {x y : Nat} (h : x ≠ y) (h1 : la_lt A x y = false) : la_lt A y x = true := by
  simp only [la_lt, Bool.or_eq_false_iff, Bool.and_eq_false_iff, decide_eq_false_iff_not, Bool.or_eq_true, Bool.and_eq_true, decide_eq_true_eq] at h1 ⊢
  omega
theorem la_cnt (A : ab_A) {a b : Nat} : ∀ i, (∀ y, y < i → la_lt A y a = true → la_lt A y b = true) → la_ps A a i ≤ la_ps A b i := by
  intro i
  induction i with
  | zero => exact fun _ => Nat.le_refl _
  | succ i ih =>
    intro h
    have h1 := ih (fun y hy => h y (by omega))
    have h2 := h i (by omega)
    simp only [la_ps]
    cases ha : la_lt A i a with
    | false => simp; omega
    | true => rw [h2 ha]; simp; omega
theorem la_cnt' (A : ab_A) {a b x : Nat} : ∀ i, x < i → la_lt A x b = true → la_lt A x a = false → (∀ y, y < i → la_lt A y a = true → la_lt A y b = true) → la_ps A a i < la_ps A b i := by
  intro i
  induction i with
  | zero => intro h; omega
  | succ i ih =>
    intro hx hb ha h
    have h2 := h i (by omega)
    simp only [la_ps]
    by_cases e : x = i
    · subst e
      have h1 := la_cnt A (a := a) (b := b) x (fun y hy => h y (by omega))
      rw [ha, hb]
      simp
      omega
    · have h1 := ih (by omega) hb ha (fun y hy => h y (by omega))
      cases ha' : la_lt A i a with
      | false => simp; omega
      | true => rw [h2 ha']; simp; omega
/-- whether row i goes ahead of row x, by their places -/
theorem la_cmp (A : ab_A) {i x : Nat} (hx : x < i) : (la_lt A i x = true ↔ la_ps A i i ≤ la_ps A x i) := by
  constructor
  · intro h
    exact la_cnt A i (fun y _ hy => la_tr A hy h)
  · intro h
    cases hc : la_lt A i x with
    | true => rfl
    | false =>
      have h1 := la_tot A (by omega) hc
      have h2 := la_cnt' A (a := x) (b := i) i hx h1 (la_irr A x) (fun y _ hy => la_tr A hy h1)
      omega
section lat
variable {σ τ : en_M} {g t : Nat} {A : ab_A}
theorem la_late {x : Nat} (hW : ab_W A t) (hx : x < aH A 9) : aL A x 5 - aL A x 4 ≤ 9999 := by
  have := hW.2.2.2.2.2.1 x hx
  have := (ab_N hW).2.2.2.2.2.2.2
  omega
def la_inv (A : ab_A) (i : Nat) (τ : en_M) : Prop := (∀ x, x < i → τ 35 0 0 (la_ps A x i) = nI x) ∧ ∀ p, p < i → ∃ x, x < i ∧ la_ps A x i = p
theorem la_in (hW : ab_W A t) {i : Nat} (hi : i < aH A 9) (v : Int32) (hj : ∀ p, p < i → ∃ x, x < i ∧ la_ps A x i = p) : ∀ (p f : Nat) (τ : en_M), ab_MR (τ 25 0 0) A → p ≤ i → p < f → la_ps A i i ≤ p → (∀ x, x < i → la_ps A x i < p → τ 35 0 0 (la_ps A x i) = nI x) → (∀ x, x < i → p ≤ la_ps A x i → τ 35 0 0 (la_ps A x i + 1) = nI x) →
    ∃ τ1, k_mm_latest_20 f v (nI i) (nI p) τ = some (nI (la_ps A i i), τ1) ∧ en_fr [(35, 0)] τ τ1 ∧ (∀ x, x < i → la_ps A x i < la_ps A i i → τ1 35 0 0 (la_ps A x i) = nI x) ∧ (∀ x, x < i → la_ps A i i ≤ la_ps A x i → τ1 35 0 0 (la_ps A x i + 1) = nI x) := by
  have h40 := ab_l40 hW
  intro p
  induction p with
  | zero =>
    intro f τ hM h1 h2 h3 h4 h5
    have e : la_ps A i i = 0 := by omega
    cases f with
    | zero => omega
    | succ f =>
      rw [k_mm_latest_20, nI_0, if_pos (by decide), e]
      exact ⟨τ, rfl, fr_rf _ _, fun x hx hp => by omega, fun x hx _ => h5 x hx (by omega)⟩
  | succ p ih =>
    intro f τ hM h1 h2 h3 h4 h5
    cases f with
    | zero => omega
    | succ f =>
      obtain ⟨x, hx, hp⟩ := hj p (by omega)
      have hxl : x < aH A 9 := by omega
      have l1 := la_late hW hxl
      have l2 := la_late hW hi
      have hr := h4 x hx (by omega)
      rw [hp] at hr
      rw [k_mm_latest_20, if_neg (nI_nle (by omega) (by omega)), nI_pred, pu_rd (by omega) (by decide), pu_b1, hr, mo_late hM hW hxl, pu_b1, mo_late hM hW hi, pu_b1, it_le (by omega) (by omega)]
      have hcmp := la_cmp A (i := i) hx
      have hlt : la_lt A i x = true ↔ aL A x 5 - aL A x 4 < aL A i 5 - aL A i 4 := by
        simp only [la_lt, Bool.or_eq_true, Bool.and_eq_true, decide_eq_true_eq]
        omega
      by_cases hc : la_ps A i i ≤ p
      · have hs : aL A x 5 - aL A x 4 < aL A i 5 - aL A i 4 := hlt.mp (hcmp.mpr (by omega))
        rw [if_neg (by omega), pu_b1, pu_wa (by omega) (by decide), pu_b1, pk_m1]
        obtain ⟨τ1, a1, a2, a3, a4⟩ := ih f (en_wr τ 35 0 0 (p + 1) (nI x)) (by rw [pu_wr_j (by decide)]; exact hM) (by omega) (by omega) hc (fun y hy hq => by
            rw [pu_wr_k (by omega)]
            exact h4 y hy (by omega)) (fun y hy hq => by
            by_cases e : la_ps A y i = p
            · rw [e, pu_wr_eq]
              by_cases exy : y = x
              · rw [exy]
              · exfalso
                have q1 := h4 y hy (by omega)
                rw [e, hr] at q1
                exact exy ((pu_eq (by omega) (by omega)).mp q1).symm
            · rw [pu_wr_k (by omega)]
              exact h5 y hy (by omega))
        exact ⟨τ1, a1, fr_tr (fr_wr rfl (by simp)) a2, a3, a4⟩
      · have e : la_ps A i i = p + 1 := by omega
        have hs : ¬ aL A x 5 - aL A x 4 < aL A i 5 - aL A i 4 := fun q => by
          have := hcmp.mp (hlt.mpr q)
          omega
        rw [if_pos (by omega), e]
        exact ⟨τ, rfl, fr_rf _ _, fun y hy hq => h4 y hy (by omega), fun y hy hq => h5 y hy (by omega)⟩
theorem la_out (hW : ab_W A t) (v : Int32) : ∀ (f i : Nat) (τ : en_M), ab_MR (τ 25 0 0) A → i ≤ aH A 9 → aH A 9 < i + f → la_inv A i τ → ∃ τ1, k_mm_latest_7 f v (nI i) τ = some τ1 ∧ en_fr [(35, 0)] τ τ1 ∧ la_inv A (aH A 9) τ1 := by
  have h40 := ab_l40 hW
  intro f
  induction f with
  | zero => intro i τ _ h1 h2; omega
  | succ f ih =>
    intro i τ hM h1 h2 hI
    rw [k_mm_latest_7, lq_szm hM, it_le (by omega) (by omega)]
    by_cases hi : i < aH A 9
    · have hle := la_le A i i
      obtain ⟨τ1, a1, a2, a3, a4⟩ := la_in hW hi v hI.2 i en_fu τ hM (Nat.le_refl _) (by rw [en_fu]; omega) hle (fun x hx _ => hI.1 x hx) (fun x hx hq => by
        have := la_lt_i A x i hx
        omega)
      have hM1 : ab_MR (τ1 25 0 0) A := by
        rw [a2 25 0 (by simp)]
        exact hM
      have e9 : la_ps A i (i + 1) = la_ps A i i := by simp [la_ps, la_irr]
      rw [if_neg (by omega), a1, pu_b2, pu_wa (by omega) (by decide), pu_b1, nI_1]
      obtain ⟨τ2, b1, b2, b3⟩ := ih (i + 1) (en_wr τ1 35 0 0 (la_ps A i i) (nI i)) (by rw [pu_wr_j (by decide)]; exact hM1) (by omega) (by omega) ⟨fun x hx => by
          by_cases e : x = i
          · subst e
            rw [e9, pu_wr_eq]
          · have hx' : x < i := by omega
            have hc := la_cmp A (i := i) hx'
            simp only [la_ps]
            cases hl : la_lt A i x with
            | true =>
              have := hc.mp hl
              simp only [if_true]
              rw [pu_wr_k (by omega)]
              exact a4 x hx' this
            | false =>
              have : ¬ la_ps A i i ≤ la_ps A x i := fun q => by
                have := hc.mpr q
                rw [hl] at this
                cases this
              simp only [Bool.false_eq_true, if_false, Nat.add_zero]
              rw [pu_wr_k (by omega)]
              exact a3 x hx' (by omega), fun p hp => by
          by_cases e : p = la_ps A i i
          · exact ⟨i, by omega, by rw [e9, e]⟩
          · by_cases hlt : p < la_ps A i i
            · obtain ⟨x, hx, hq⟩ := hI.2 p (by omega)
              refine ⟨x, by omega, ?_⟩
              have hc := la_cmp A (i := i) hx
              simp only [la_ps]
              cases hl : la_lt A i x with
              | true =>
                have := hc.mp hl
                omega
              | false => simpa using hq
            · obtain ⟨x, hx, hq⟩ := hI.2 (p - 1) (by omega)
              refine ⟨x, by omega, ?_⟩
              have hc := (la_cmp A (i := i) hx).mpr (by omega)
              simp only [la_ps, hc, if_true]
              omega⟩
      exact ⟨τ2, b1, fr_tr (fr_tr a2 (fr_wr rfl (by simp))) b2, b3⟩
    · have e : i = aH A 9 := by omega
      rw [if_pos (by omega)]
      exact ⟨τ, rfl, fr_rf _ _, by rw [← e]; exact hI⟩
theorem la_pm (A : ab_A) (x : Nat) {i j : Nat} (h : i ≤ j) : la_ps A x i ≤ la_ps A x j := by
  induction j with
  | zero => rw [show i = 0 by omega]; exact Nat.le_refl _
  | succ j ih =>
    by_cases e : i = j + 1
    · rw [e]; exact Nat.le_refl _
    · have := ih (by omega)
      simp only [la_ps]
      omega
theorem la_cls2 (hC : ab_CW σ g A) (hW : ab_W A t) {row K : Nat} (hr : row < aH A 9) (hK : K < 2 ^ 31) : ∀ (f o : Nat), o ≤ aH A 9 → aH A 9 < o + f → ∃ r, r < 2 ^ 31 ∧ k_lg_rowByLate_22 f g (nI K) (nI row) (nI (aL A row 5 - aL A row 4)) (nI (la_ps A row o)) (nI o) σ = some (nI r) ∧ (r = K ↔ la_ps A row (aH A 9) = K) := by
  have h40 := ab_l40 hW
  have s1 := lq_sz hC
  have l1 := la_late hW hr
  intro f
  induction f with
  | zero => intro o h1 h2; omega
  | succ f ih =>
    intro o h1 h2
    have hle := la_le A row o
    rw [k_lg_rowByLate_22, s1, it_le (by omega) (by omega)]
    by_cases ho : o < aH A 9
    · rw [if_neg (by omega), it_lt hK (by omega)]
      by_cases hc : K < la_ps A row o
      · rw [if_pos hc]
        have := la_pm A row (show o ≤ aH A 9 by omega)
        exact ⟨_, by omega, rfl, by omega⟩
      · have l2 := la_late hW ho
        rw [if_neg hc, ac_late hC hW ho, pu_b1]
        have e1 : ((0 : Int32) < nI (aL A o 5 - aL A o 4) - nI (aL A row 5 - aL A row 4)) = (aL A row 5 - aL A row 4 < aL A o 5 - aL A o 4) := by
          rw [Int32.lt_iff_toInt_lt, pk_sub_toInt (by omega) (by omega)]
          have e : (0 : Int32).toInt = 0 := by decide
          exact propext ⟨fun h => by omega, fun h => by omega⟩
        have e2 : (nI (aL A o 5 - aL A o 4) - nI (aL A row 5 - aL A row 4) = 0) = (aL A row 5 - aL A row 4 = aL A o 5 - aL A o 4) := by
          rw [← Int32.toInt_inj, pk_sub_toInt (by omega) (by omega)]
          have e : (0 : Int32).toInt = 0 := by decide
          exact propext ⟨fun h => by omega, fun h => by omega⟩
        simp only [e1, e2]
        rw [it_le (by omega) (by omega), nI_1, nI_1]
        have hstep := ih (o + 1) (by omega) (by omega)
        have hps : la_ps A row (o + 1) = la_ps A row o + (if la_lt A o row then 1 else 0) := rfl
        by_cases c1 : aL A row 5 - aL A row 4 < aL A o 5 - aL A o 4
        · have hl : la_lt A o row = true := by simp [la_lt, c1]
          rw [hps, hl] at hstep
          rw [if_pos c1]
          exact hstep
        · rw [if_neg c1]
          by_cases c2 : aL A row 5 - aL A row 4 = aL A o 5 - aL A o 4
          · rw [if_pos c2]
            by_cases c3 : row ≤ o
            · have hl : la_lt A o row = false := by
                simp only [la_lt, Bool.or_eq_false_iff, Bool.and_eq_false_iff, decide_eq_false_iff_not]
                omega
              rw [hps, hl] at hstep
              rw [if_pos c3]
              exact hstep
            · have hl : la_lt A o row = true := by
                simp only [la_lt, Bool.or_eq_true, Bool.and_eq_true, decide_eq_true_eq]
                omega
              rw [hps, hl] at hstep
              rw [if_neg c3]
              exact hstep
          · have hl : la_lt A o row = false := by
              simp only [la_lt, Bool.or_eq_false_iff, Bool.and_eq_false_iff, decide_eq_false_iff_not]
              omega
            rw [hps, hl] at hstep
            rw [if_neg c2]
            exact hstep
    · have e : o = aH A 9 := by omega
      rw [if_pos (by omega), e]
      exact ⟨_, by have := la_le A row (aH A 9); omega, rfl, Iff.rfl⟩
theorem la_cls (hC : ab_CW σ g A) (hW : ab_W A t) {K : Nat} (hK : K < 2 ^ 31) : ∀ (f row : Nat), row ≤ aH A 9 → aH A 9 < row + f → (∃ x, x < aH A 9 ∧ la_ps A x (aH A 9) = K ∧ k_lg_rowByLate_2 f g (nI K) (nI row) σ = some (.inl (nI x))) ∨ (k_lg_rowByLate_2 f g (nI K) (nI row) σ = some (.inr ()) ∧ ∀ x, row ≤ x → x < aH A 9 → la_ps A x (aH A 9) ≠ K) := by
  have h40 := ab_l40 hW
  have s1 := lq_sz hC
  intro f
  induction f with
  | zero => intro row h1 h2; omega
  | succ f ih =>
    intro row h1 h2
    rw [k_lg_rowByLate_2, s1, it_le (by omega) (by omega)]
    by_cases hr : row < aH A 9
    · obtain ⟨r, q0, q1, q2⟩ := la_cls2 hC hW hr hK en_fu 0 (by omega) (by rw [en_fu]; omega)
      have e0 : nI (la_ps A row 0) = 0 := rfl
      rw [e0, nI_0] at q1
      rw [if_neg (by omega), ac_late hC hW hr, pu_b1, q1, pu_b1, it_eq q0 hK, nI_1]
      by_cases hc : r = K
      · rw [if_pos hc]
        exact Or.inl ⟨row, hr, q2.mp hc, rfl⟩
      · rw [if_neg hc]
        rcases ih (row + 1) (by omega) (by omega) with h | ⟨h3, h4⟩
        · exact Or.inl h
        · refine Or.inr ⟨h3, fun x hx hx2 => ?_⟩
          by_cases e : x = row
          · subst e
            exact fun q => hc (q2.mpr q)
          · exact h4 x (by omega) hx2
    · rw [if_pos (by omega)]
      exact Or.inr ⟨rfl, fun x hx hx2 => by omega⟩
theorem la_neg (hC : ab_CW σ g A) (hW : ab_W A t) {v : Int32} (hv : v < 0) : ∀ (f row : Nat), row ≤ aH A 9 → aH A 9 < row + f → k_lg_rowByLate_2 f g v (nI row) σ = some (.inr ()) := by
  have h40 := ab_l40 hW
  have s1 := lq_sz hC
  intro f
  induction f with
  | zero => intro row h1 h2; omega
  | succ f ih =>
    intro row h1 h2
    rw [k_lg_rowByLate_2, s1, it_le (by omega) (by omega)]
    by_cases hr : row < aH A 9
    · have q1 : k_lg_rowByLate_22 en_fu g v (nI row) (nI (aL A row 5 - aL A row 4)) 0 0 σ = some 0 := by
        rw [show en_fu = 99999 + 1 from rfl, k_lg_rowByLate_22, s1, ← nI_0, it_le (by omega) (by omega), if_neg (by omega), nI_0, if_pos hv]
      rw [if_neg (by omega), ac_late hC hW hr, pu_b1, q1, pu_b1, if_neg, nI_1]
      · exact ih (row + 1) (by omega) (by omega)
      · rintro rfl
        exact absurd hv (by decide)
    · rw [if_pos (by omega)]
/-- latest, both -/
theorem lq_latest (hC : ab_CW σ g A) (hM : ab_MR (τ 25 0 0) A) (hW : ab_W A t) (v : Int32) : ∃ x τ1, k_lg_rowByLate g v σ = some x ∧ k_mm_latest v τ = some (x, τ1) ∧ en_fr [(24, 0), (35, 0)] τ τ1 ∧ τ1 24 0 0 = upd (τ 24 0 0) 0 0 := by
  have h40 := ab_l40 hW
  have hM0 : ab_MR ((en_wr τ 24 0 0 0 0) 25 0 0) A := by rw [pu_wr_j (by decide)]; exact hM
  obtain ⟨τ1, a1, a2, a3, a4⟩ := la_out hW v en_fu 0 (en_wr τ 24 0 0 0 0) hM0 (by omega) (by rw [en_fu]; omega) ⟨fun x hx => by omega, fun p hp => by omega⟩
  rw [nI_0] at a1
  have hM1 : ab_MR (τ1 25 0 0) A := by rw [a2 25 0 (by simp)]; exact hM0
  have hfr : en_fr [(24, 0), (35, 0)] τ τ1 := fr_tr (fr_wr rfl (by simp)) (fr_sub a2 (by simp))
  have h24 : τ1 24 0 0 = upd (τ 24 0 0) 0 0 := by
    rw [a2 24 0 (by simp)]
    exact en_wr_row
  rw [k_lg_rowByLate, k_mm_latest, pu_let, a1, pu_b1, lq_szm hM1, k_mm_isIn]
  by_cases h0 : v < 0
  · have := la_neg hC hW h0 en_fu 0 (by omega) (by rw [en_fu]; omega)
    rw [nI_0] at this
    rw [this, pu_rxr, if_pos h0, if_pos rfl]
    exact ⟨_, τ1, rfl, rfl, hfr, h24⟩
  · rw [if_neg h0]
    obtain ⟨K, hK, rfl⟩ := nI_of h0
    have hc := la_cls hC hW hK en_fu 0 (by omega) (by rw [en_fu]; omega)
    rw [nI_0] at hc
    by_cases hl : K < aH A 9
    · obtain ⟨y, hy, hyK⟩ := a4 K hl
      have hcond : ¬ nI (aH A 9) - 1 < nI K := by
        rw [show (1 : Int32) = nI 1 from rfl, pk_sub (by omega), pu_lt (by omega) (by omega)]
        omega
      have hyv := a3 y hy
      rw [hyK] at hyv
      rw [if_neg hcond, if_neg (by decide), pu_rd (by omega) (by decide), pu_b1, hyv]
      rcases hc with ⟨x, hx, hxK, hcl⟩ | ⟨-, hno⟩
      · have hxv := a3 x hx
        rw [hxK, hyv] at hxv
        rw [hcl, pu_rxl]
        exact ⟨_, τ1, rfl, by rw [hxv], hfr, h24⟩
      · exact absurd hyK (hno y (by omega) hy)
    · have hcond : nI (aH A 9) - 1 < nI K := by
        by_cases hz : aH A 9 = 0
        · rw [hz, show nI 0 - 1 = -1 by decide, Int32.lt_iff_toInt_lt, nI_toInt hK]
          have e : (-1 : Int32).toInt = -1 := by decide
          omega
        · rw [show (1 : Int32) = nI 1 from rfl, pk_sub (by omega), pu_lt (by omega) hK]
          omega
      rw [if_pos hcond, if_pos rfl]
      rcases hc with ⟨x, hx, hxK, -⟩ | ⟨hcl, -⟩
      · have := la_lt_i A x (aH A 9) hx
        omega
      · rw [hcl, pu_rxr]
        exact ⟨_, τ1, rfl, rfl, hfr, h24⟩
end lat

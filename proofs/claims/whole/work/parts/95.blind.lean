/-! Pairs of words that are not alike. -/
def bl_x (q : Nat) : Nat := if q < 5 then q else q + 1
def bl_r (f : Nat → Nat) (i : Nat) : Nat → Nat
  | 0 => 0
  | j + 1 => bl_r f i j + (if f i = f j then 0 else 1)
def bl_R (f : Nat → Nat) : Nat → Nat
  | 0 => 0
  | i + 1 => bl_R f i + bl_r f i i
def bl_m (f : Nat → Nat) (a : Nat) : Nat → Nat
  | 0 => 0
  | j + 1 => bl_m f a j + (if a = 5 then 0 else if j = 5 then 0 else if f a = f j then 0 else 1)
def bl_M (f : Nat → Nat) : Nat → Nat
  | 0 => 0
  | i + 1 => bl_M f i + bl_m f i i
theorem bl_x5 (q : Nat) : ¬ bl_x q = 5 := by
  rw [bl_x]
  split <;> omega
theorem bl_mr (f : Nat → Nat) (i : Nat) : ∀ j, bl_m f (bl_x i) (bl_x j) = bl_r (fun q => f (bl_x q)) i j := by
  intro j
  induction j with
  | zero => rfl
  | succ j ih =>
    have h5 := bl_x5 i
    rw [bl_r, ← ih]
    by_cases h : j < 4
    · rw [show bl_x (j + 1) = j + 1 by rw [bl_x, if_pos (by omega)], show bl_x j = j by rw [bl_x, if_pos (by omega)], bl_m, if_neg h5, if_neg (by omega)]
    · by_cases h4 : j = 4
      · subst h4
        rw [show bl_x (4 + 1) = 5 + 1 from rfl, show bl_x 4 = 4 from rfl, bl_m, bl_m, if_neg h5, if_pos rfl, if_neg h5, if_neg (by decide), Nat.add_zero]
      · rw [show bl_x (j + 1) = (j + 1) + 1 by rw [bl_x, if_neg (by omega)], show bl_x j = j + 1 by rw [bl_x, if_neg (by omega)], bl_m, if_neg h5, if_neg (by omega)]
theorem bl_m5 (f : Nat → Nat) : ∀ j, bl_m f 5 j = 0 := by
  intro j
  induction j with
  | zero => rfl
  | succ j ih => rw [bl_m, ih, if_pos rfl]
theorem bl_MR (f : Nat → Nat) : ∀ i, bl_M f (bl_x i) = bl_R (fun q => f (bl_x q)) i := by
  intro i
  induction i with
  | zero => rfl
  | succ i ih =>
    rw [bl_R, ← ih, ← bl_mr]
    by_cases h : i < 4
    · rw [show bl_x (i + 1) = i + 1 by rw [bl_x, if_pos (by omega)], show bl_x i = i by rw [bl_x, if_pos (by omega)], bl_M]
    · by_cases h4 : i = 4
      · subst h4
        rw [show bl_x (4 + 1) = 5 + 1 from rfl, show bl_x 4 = 4 from rfl, bl_M, bl_M, bl_m5, Nat.add_zero]
      · rw [show bl_x (i + 1) = (i + 1) + 1 by rw [bl_x, if_neg (by omega)], show bl_x i = i + 1 by rw [bl_x, if_neg (by omega)], bl_M]
section bld
variable {σ τ : en_M} {g t : Nat} {A : ab_A}
theorem bl_ci {F : Nat → Nat} {m : Nat} (hm : m ≤ 56) (hF : ∀ q, q < m → σ 23 0 0 q = nI (F q) ∧ F q < 2 ^ 31) {i : Nat} (hi : i < m) (v1 : Int32) (S : Nat) : ∀ d j f, j + d = i → d < f → k_cc_unlikePairs_21 f v1 (nI (S + bl_r F i j)) (nI i) (nI j) σ = some (nI (S + bl_r F i i)) := by
  intro d
  induction d with
  | zero =>
    intro j f e hf
    obtain ⟨f, rfl⟩ : ∃ q, f = q + 1 := ⟨f - 1, by omega⟩
    rw [k_cc_unlikePairs_21, it_le (by omega) (by omega), if_pos (by omega), show j = i by omega]
  | succ d ih =>
    intro j f e hf
    obtain ⟨f, rfl⟩ : ∃ q, f = q + 1 := ⟨f - 1, by omega⟩
    have i1 := ih (j + 1) f (by omega) (by omega)
    rw [bl_r] at i1
    rw [k_cc_unlikePairs_21, it_le (by omega) (by omega), if_neg (by omega), pu_rd (by omega) (by decide), pu_b1, pu_rd (by omega) (by decide), pu_b1, (hF i hi).1, (hF j (by omega)).1, it_eq (hF i hi).2 (hF j (by omega)).2, nI_1, nI_1]
    by_cases c : F i = F j
    · rw [if_pos c] at i1 ⊢
      exact i1
    · rw [if_neg c] at i1 ⊢
      exact i1
theorem bl_co {F : Nat → Nat} {m : Nat} (hm : m ≤ 56) (hF : ∀ q, q < m → σ 23 0 0 q = nI (F q) ∧ F q < 2 ^ 31) : ∀ d i f, i + d = m → d < f → k_cc_unlikePairs_4 f (nI m) (nI (bl_R F i)) (nI i) σ = some (nI (bl_R F m)) := by
  intro d
  induction d with
  | zero =>
    intro i f e hf
    obtain ⟨f, rfl⟩ : ∃ q, f = q + 1 := ⟨f - 1, by omega⟩
    rw [k_cc_unlikePairs_4, it_le (by omega) (by omega), if_pos (by omega), show i = m by omega]
  | succ d ih =>
    intro i f e hf
    obtain ⟨f, rfl⟩ : ∃ q, f = q + 1 := ⟨f - 1, by omega⟩
    have i0 : k_cc_unlikePairs_21 en_fu (nI m) (nI (bl_R F i)) (nI i) 0 σ = some (nI (bl_R F i + bl_r F i i)) := bl_ci hm hF (i := i) (by omega) (nI m) (bl_R F i) i 0 en_fu (by omega) (by rw [en_fu]; omega)
    have i1 := ih (i + 1) f (by omega) (by omega)
    rw [bl_R] at i1
    rw [k_cc_unlikePairs_4, it_le (by omega) (by omega), if_neg (by omega), itx_le (a := 56) (b := i) (x := 56) rfl rfl (by decide) (by omega), if_neg (by omega), i0, pu_b1, nI_1]
    exact i1
theorem bl_mi {P : Nat → Nat} {M n k : Nat} (hM : M ≤ 56) (hP : ∀ a, a < M → k_mm_pairAt (nI n) (nI k) (nI a) τ = some (nI (P a)) ∧ P a < 2 ^ 31) {a : Nat} (ha : a < M) (S : Nat) : ∀ d j f, j + d = a → d < f → k_mm_blind_48 f (nI n) (nI k) (nI (S + bl_m P a j)) (nI a) (nI j) τ = some (nI (S + bl_m P a a)) := by
  intro d
  induction d with
  | zero =>
    intro j f e hf
    obtain ⟨f, rfl⟩ : ∃ q, f = q + 1 := ⟨f - 1, by omega⟩
    rw [k_mm_blind_48, it_le (by omega) (by omega), if_pos (by omega), show j = a by omega]
  | succ d ih =>
    intro j f e hf
    obtain ⟨f, rfl⟩ : ∃ q, f = q + 1 := ⟨f - 1, by omega⟩
    have i1 := ih (j + 1) f (by omega) (by omega)
    rw [bl_m] at i1
    rw [k_mm_blind_48, it_le (by omega) (by omega), if_neg (by omega), itx_eq (a := a) (b := 5) (y := 5) rfl rfl (by omega) (by decide), itx_eq (a := j) (b := 5) (y := 5) rfl rfl (by omega) (by decide), (hP a ha).1, pu_b1, (hP j (by omega)).1, pu_b1, it_eq (hP a ha).2 (hP j (by omega)).2, nI_1, show (0 : Int32) = nI 0 from rfl, nI_add, nI_1]
    by_cases c1 : a = 5
    · rw [if_pos c1] at i1 ⊢
      exact i1
    · rw [if_neg c1] at i1 ⊢
      by_cases c2 : j = 5
      · rw [if_pos c2] at i1 ⊢
        exact i1
      · rw [if_neg c2] at i1 ⊢
        by_cases c : P a = P j
        · rw [if_pos c] at i1 ⊢
          exact i1
        · rw [if_neg c] at i1 ⊢
          exact i1
theorem bl_mo (hM : ab_MR (τ 25 0 0) A) (hW : ab_W A t) {n k : Nat} (h : ab_win A n) (hk : k < aS A n 6) {P : Nat → Nat} (hP : ∀ a, a < ab_sz A n k / 2 → k_mm_pairAt (nI n) (nI k) (nI a) τ = some (nI (P a)) ∧ P a < 2 ^ 31) : ∀ d i f, i + d = ab_sz A n k / 2 → d < f → k_mm_blind_32 f (nI n) (nI k) (nI (bl_M P i)) (nI i) τ = some (nI (bl_M P (ab_sz A n k / 2))) := by
  obtain ⟨b1, b2, b3, b4, b5, b6, b7, b8⟩ := oc_bd hW h hk
  have hs := ab_sz_le (A := A) (n := n) (k := k) b8.2
  have hsm := mo_sz hM hW h hk
  intro d
  induction d with
  | zero =>
    intro i f e hf
    obtain ⟨f, rfl⟩ : ∃ q, f = q + 1 := ⟨f - 1, by omega⟩
    rw [k_mm_blind_32, hsm, pu_b1, show (2 : Int32) = nI 2 from rfl, pk_div (by omega) (by decide) (by omega), it_le (by omega) (by omega), if_pos (by omega), show i = ab_sz A n k / 2 by omega]
  | succ d ih =>
    intro i f e hf
    obtain ⟨f, rfl⟩ : ∃ q, f = q + 1 := ⟨f - 1, by omega⟩
    have i0 : k_mm_blind_48 en_fu (nI n) (nI k) (nI (bl_M P i)) (nI i) 0 τ = some (nI (bl_M P i + bl_m P i i)) := bl_mi (M := ab_sz A n k / 2) (by omega) hP (a := i) (by omega) (bl_M P i) i 0 en_fu (by omega) (by rw [en_fu]; omega)
    have i1 := ih (i + 1) f (by omega) (by omega)
    rw [bl_M] at i1
    rw [k_mm_blind_32, hsm, pu_b1, show (2 : Int32) = nI 2 from rfl, pk_div (by omega) (by decide) (by omega), it_le (by omega) (by omega), if_neg (by omega), i0, pu_b1, nI_1]
    exact i1
/-- a word of 2 bytes of a piece -/
def bl_w (A : ab_A) (n k w : Nat) : Nat := 256 * oc_o A n k (2 * w) + oc_o A n k (2 * w + 1)
theorem bl_w_lt (hW : ab_W A t) {n k w : Nat} (h : ab_win A n) (hk : k < aS A n 6) : bl_w A n k w < 65536 := by
  have h1 := oc_o_lt (o := 2 * w) hW h hk
  have h2 := oc_o_lt (o := 2 * w + 1) hW h hk
  rw [bl_w]
  omega
theorem bl_pm (hC : ab_Cs σ g A) (hM : ab_MR (τ 25 0 0) A) (hW : ab_W A t) {n k w : Nat} (h : ab_win A n) (hk : k < aS A n 6) (hw : w < ab_sz A n k / 2) : k_mm_pairAt (nI n) (nI k) (nI w) τ = some (nI (bl_w A n k w)) := by
  rw [k_mm_pairAt, show (2 : Int32) = nI 2 from rfl, pk_mul, nI_1, (sm_oct hC hM hW h hk (o := 2 * w) (by omega)).2, pu_b1, (sm_oct hC hM hW h hk (o := 2 * w + 1) (by omega)).2, pu_b1, show (256 : Int32) = nI 256 from rfl, pk_mul, nI_add, bl_w]
theorem bl_wh (hW : ab_W A t) {n k w : Nat} (h : ab_win A n) (hk : k < aS A n 6) (hw : w < 5) : oc_w A n k w = bl_w A n k w := by
  rw [bl_w, oc_o, oc_o, if_pos (show 2 * w < 12 by omega), if_pos (show 2 * w + 1 < 12 by omega), if_pos (show 2 * w % 2 = 0 by omega), if_neg (show ¬ (2 * w + 1) % 2 = 0 by omega), show 2 * w / 2 = w by omega, show (2 * w + 1) / 2 = w by omega, if_neg (show ¬ w = 5 by omega)]
  omega
theorem bl_wb {n k i : Nat} : 256 * oc_b A n (k * aS A n 2 + 2 * i) + oc_b A n (k * aS A n 2 + (2 * i + 1)) = bl_w A n k (6 + i) := by
  rw [bl_w, oc_o, oc_o, if_neg (show ¬ 2 * (6 + i) < 12 by omega), if_neg (show ¬ 2 * (6 + i) + 1 < 12 by omega), show k * aS A n 2 + 2 * (6 + i) - 12 = k * aS A n 2 + 2 * i by omega, show k * aS A n 2 + (2 * (6 + i) + 1) - 12 = k * aS A n 2 + (2 * i + 1) by omega]
theorem bl_Cs {σ' : en_M} (hC : ab_Cs σ g A) (hj : ∀ j, j ≠ 23 → σ' j = σ j) : ab_Cs σ' g A := by
  refine ⟨?_, ?_⟩
  · have := hC.1
    rw [ab_C1] at this ⊢
    rw [hj 0 (by decide)]
    exact this
  · intro n hn
    rw [hj 13 (by decide)]
    exact hC.2 n hn
theorem bl_put (hW : ab_W A t) {n k : Nat} (h : ab_win A n) (hk : k < aS A n 6) : ∀ d j f (σ : en_M), ab_Cs σ g A → j + d = ab_sz A n k / 2 → d < f → (∀ q, q < (if j < 6 then j else j - 1) → σ 23 0 0 q = nI (bl_w A n k (bl_x q))) → ∃ s, k_sd_putWholeWords_5 f g (n % 8) (nI k) (nI (if j < 6 then j else j - 1)) (nI j) σ = some (nI (ab_sz A n k / 2 - 1), s) ∧ (∀ j, j ≠ 23 → s j = σ j) ∧ ∀ q, q < ab_sz A n k / 2 - 1 → s 23 0 0 q = nI (bl_w A n k (bl_x q)) := by
  obtain ⟨b1, b2, b3, b4, b5, b6, b7, b8⟩ := oc_bd hW h hk
  have hs := ab_sz_le (A := A) (n := n) (k := k) b8.2
  have hlt := (ab_pk hW h hk).2.2.1
  have hs12 : 13 ≤ ab_sz A n k := by rw [ab_sz]; omega
  intro d
  induction d with
  | zero =>
    intro j f σ hC e hf hq
    obtain ⟨f, rfl⟩ : ∃ q, f = q + 1 := ⟨f - 1, by omega⟩
    rw [if_neg (by omega)] at hq ⊢
    refine ⟨σ, ?_, fun _ _ => rfl, fun q hq' => hq q (by omega)⟩
    rw [k_sd_putWholeWords_5, ac_size hC hW h hk, show (2 : Int32) = nI 2 from rfl, pk_div (by omega) (by decide) (by omega), it_le (by omega) (by omega), if_pos (by omega), show j = ab_sz A n k / 2 by omega]
  | succ d ih =>
    intro j f σ hC e hf hq
    obtain ⟨f, rfl⟩ : ∃ q, f = q + 1 := ⟨f - 1, by omega⟩
    rw [k_sd_putWholeWords_5, ac_size hC hW h hk, show (2 : Int32) = nI 2 from rfl, pk_div (by omega) (by decide) (by omega), it_le (by omega) (by omega), if_neg (by omega), itx_eq (a := j) (b := 5) (y := 5) rfl rfl (by omega) (by decide), nI_1]
    by_cases c5 : j = 5
    · rw [if_pos c5]
      subst c5
      obtain ⟨s, s1, s2, s3⟩ := ih 6 f σ hC (by omega) (by omega) hq
      exact ⟨s, s1, s2, s3⟩
    · rw [if_neg c5]
      obtain ⟨p, hp⟩ : ∃ p, (if j < 6 then j else j - 1) = p := ⟨_, rfl⟩
      have hp56 : p < 56 := by
        rw [← hp]
        split <;> omega
      have hpx : bl_x p = j := by
        rw [← hp, bl_x]
        by_cases c : j < 6
        · rw [if_pos c, if_pos (by omega)]
        · rw [if_neg c, if_neg (by omega)]
          omega
      have hpn : (if j + 1 < 6 then j + 1 else j + 1 - 1) = p + 1 := by
        rw [← hp]
        by_cases c : j < 6
        · rw [if_pos c, if_pos (by omega)]
        · rw [if_neg c, if_neg (by omega)]
          omega
      rw [hp] at hq ⊢
      obtain ⟨σ1, h1⟩ : ∃ z, en_wr σ 23 0 0 p (nI (bl_w A n k j)) = z := ⟨_, rfl⟩
      have hj1 : ∀ j, j ≠ 23 → σ1 j = σ j := fun j q => by rw [← h1, pu_wr_j q]
      obtain ⟨s, s1, s2, s3⟩ := ih (j + 1) f σ1 (bl_Cs hC hj1) (by omega) (by omega) (fun q hq' => by
        rw [hpn] at hq'
        by_cases c : q = p
        · rw [← h1, c, pu_wr_eq, hpx]
        · rw [← h1, pu_wr_k c]
          exact hq q (by omega))
      rw [hpn] at s1
      refine ⟨s, ?_, fun j q => by rw [s2 j q, hj1 j q], s3⟩
      rw [itx_le (a := 56) (b := p) (x := 56) rfl rfl (by decide) (by omega), if_neg (by omega), itx_le (a := 6) (b := j) (x := 6) rfl rfl (by decide) (by omega), pu_wa hp56 (by decide), pu_wa hp56 (by decide), pu_b1, pu_b1, nI_1]
      by_cases c6 : 6 ≤ j
      · obtain ⟨i, rfl⟩ : ∃ i, j = 6 + i := ⟨j - 6, by omega⟩
        rw [if_pos c6, oc_bw hC hW h hk (by omega), if_pos (by omega), bl_wb, h1]
        exact s1
      · rw [if_neg c6, oc_head hC hW h hk (by omega), bl_wh hW h hk (by omega), h1]
        exact s1
end bld
theorem pb_blind {σ τ : en_M} {t : Nat} (h : Rel σ τ t) (v w : Int32) : ∃ a x σ1 τ1, k_cc_blind v w σ = some (a, σ1) ∧ k_mm_blind v w τ = some (x, τ1) ∧ rl_A [(2, 1)] a x (τ1 24 0 0 0) ∧ Rel σ1 τ1 t := by
  obtain ⟨A, hA⟩ := h.1
  rcases q_piece hA v w with ⟨p1, p2⟩ | ⟨n, k, rfl, rfl, hwin, hk, p1, p2, p3⟩
  · obtain ⟨s, s1, s2, s3, s4⟩ := q_bad h (v := 1) (by decide)
    refine ⟨.inl 2, 0, σ, s, ?_, ?_, ?_, s4⟩
    · rcases p2 with p2 | ⟨z, p2, p3⟩
      · rw [k_cc_blind, p2, pu_b1]
      · rw [k_cc_blind, p2, pu_b1]
        simp only []
        rw [p3, if_pos rfl]
    · rw [k_mm_blind, p1, pu_b1, if_pos rfl, pu_let, s1, if_neg s3]
    · show (_, _) ∈ _
      rw [s2]
      simp
  · obtain ⟨b1, b2, b3, b4, b5, b6, b7, b8⟩ := oc_bd hA.2.2.1 hwin hk
    have hs := ab_sz_le (A := A) (n := n) (k := k) b8.2
    have hlt := (ab_pk hA.2.2.1 hwin hk).2.2.1
    have hs12 : 13 ≤ ab_sz A n k := by rw [ab_sz]; omega
    obtain ⟨s, s1, s2, s3, s4, -⟩ := q_set h
    have e25 : s 25 0 0 = τ 25 0 0 := by rw [← s1, pu_wr_j (by decide)]
    have hMg : ab_MR (s 25 0 0) A := by rw [e25]; exact hA.2.1
    obtain ⟨σ1, f1, f2, f3⟩ := bl_put (g := 0) hA.2.2.1 hwin hk (ab_sz A n k / 2) 0 en_fu σ hA.1.1.s (by omega) (by rw [en_fu]; omega) (fun q hq => absurd hq (by simp))
    have f1' : k_sd_putWholeWords_5 en_fu 0 (n % 8) (nI k) 0 0 σ = some (nI (ab_sz A n k / 2 - 1), σ1) := f1
    have c1 : k_cc_unlikePairs_4 en_fu (nI (ab_sz A n k / 2 - 1)) 0 0 σ1 = some (nI (bl_R (fun q => bl_w A n k (bl_x q)) (ab_sz A n k / 2 - 1))) := bl_co (σ := σ1) (F := fun q => bl_w A n k (bl_x q)) (m := ab_sz A n k / 2 - 1) (by omega) (fun q hq => ⟨f3 q hq, by
      have := bl_w_lt (w := bl_x q) hA.2.2.1 hwin hk
      omega⟩) (ab_sz A n k / 2 - 1) 0 en_fu (by omega) (by rw [en_fu]; omega)
    have c2 : k_mm_blind_32 en_fu (nI n) (nI k) 0 0 s = some (nI (bl_M (bl_w A n k) (ab_sz A n k / 2))) := bl_mo hMg hA.2.2.1 hwin hk (P := bl_w A n k) (fun a ha => ⟨bl_pm hA.1.1.s hMg hA.2.2.1 hwin hk ha, by
      have := bl_w_lt (w := a) hA.2.2.1 hwin hk
      omega⟩) (ab_sz A n k / 2) 0 en_fu (by omega) (by rw [en_fu]; omega)
    have e := bl_MR (bl_w A n k) (ab_sz A n k / 2 - 1)
    rw [show bl_x (ab_sz A n k / 2 - 1) = ab_sz A n k / 2 by rw [bl_x, if_neg (by omega)]; omega] at e
    rw [k_cc_blind, p1, pu_b1, k_mm_blind, p3, pu_b1, if_neg (show ¬ (1 : Int32) = 0 by decide), pu_let, s1, if_pos s3, c2, pu_b1, e]
    simp only []
    rw [if_neg p2, k_sd_putWholeWords, f1', pu_b2, pu_b2, k_cc_unlikePairs, c1, pu_b1, pu_b1]
    refine ⟨_, _, σ1, s, rfl, rfl, ⟨s2, rfl⟩, ?_⟩
    obtain ⟨-, d2, d3, d4, d5, d6, d7⟩ := s4
    refine ⟨⟨A, ?_⟩, hi_fr d2 (by rw [f2 15 (by decide)]) (fun j g q _ => by rw [f2 j (by omega)]) rfl rfl (Nat.le_refl _) d7, im_fr d3 (by rw [f2 14 (by decide)]) (fun j q => by rw [f2 j (by omega)]) rfl rfl (Nat.le_refl _) d7, by rw [f2 14 (by decide)]; exact d4, by rw [f2 14 (by decide)]; exact d5, tx_fr d6 (by rw [f2 20 (by decide)]) (by rw [f2 21 (by decide)]) rfl rfl, d7⟩
    rw [e25]
    exact PR_fr hA (fun j q => by rw [f2 j (by omega)])

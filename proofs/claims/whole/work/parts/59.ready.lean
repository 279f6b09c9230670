/-! Which piece leaves next. -/
theorem rd_nk_up (A : ab_A) (rt n v : Nat) : ∀ j, ab_nk A rt n v j ≤ ab_nk A rt n v (j + 1) := by
  intro j
  simp only [ab_nk]
  omega
theorem rd_nk_le (A : ab_A) (rt n v : Nat) : ∀ d j, ab_nk A rt n v j ≤ ab_nk A rt n v (j + d) := by
  intro d
  induction d with
  | zero => intro j; exact Nat.le_refl _
  | succ d ih =>
    intro j
    exact Nat.le_trans (ih j) (rd_nk_up A rt n v (j + d))
theorem rd_dp_k {A : ab_A} {rt n k k' : Nat} (h : k ≤ k') : ab_dp A rt n k ≤ ab_dp A rt n k' := by
  simp only [ab_dp]
  have := rd_nk_le A rt n (ab_ns A (aS A n 0) rt (n - aH A 6)) ((k' - aS A n 7) - (k - aS A n 7)) (k - aS A n 7)
  rw [show (k - aS A n 7) + ((k' - aS A n 7) - (k - aS A n 7)) = k' - aS A n 7 by omega] at this
  omega
theorem rd_ns_up (A : ab_A) (f rt : Nat) : ∀ m, ab_ns A f rt m ≤ ab_ns A f rt (m + 1) := by
  intro m
  simp only [ab_ns]
  split
  · have := rd_nk_le A rt (aH A 6 + m) (ab_ns A f rt m) (aS A (aH A 6 + m) 6 - aS A (aH A 6 + m) 7) 0
    rw [Nat.zero_add] at this
    exact this
  · exact Nat.le_refl _
theorem rd_ns_le (A : ab_A) (f rt : Nat) : ∀ d m, ab_ns A f rt m ≤ ab_ns A f rt (m + d) := by
  intro d
  induction d with
  | zero => intro m; exact Nat.le_refl _
  | succ d ih =>
    intro m
    exact Nat.le_trans (ih m) (rd_ns_up A f rt (m + d))
/-- of a flow an earlier send's piece may leave no later -/
theorem rd_fl {A : ab_A} {rt n n' : Nat} (h0 : aH A 6 ≤ n') (h : n' < n) (h4 : aS A n' 4 = 1) (h7 : aS A n' 7 < aS A n' 6) (hf : aS A n' 0 = aS A n 0) : ab_dp A rt n' (aS A n' 7) ≤ ab_dp A rt n (aS A n 7) := by
  have h1 : ab_dp A rt n' (aS A n' 7) ≤ ab_ns A (aS A n 0) rt (n' - aH A 6 + 1) := by
    simp only [ab_ns, ab_dp]
    rw [show aH A 6 + (n' - aH A 6) = n' by omega, if_pos ⟨h4, h7, hf⟩, Nat.sub_self, hf]
    have := rd_nk_le A rt n' (ab_ns A (aS A n 0) rt (n' - aH A 6)) (aS A n' 6 - aS A n' 7 - 1) 1
    rw [show 1 + (aS A n' 6 - aS A n' 7 - 1) = aS A n' 6 - aS A n' 7 by omega] at this
    simp only [ab_nk] at this ⊢
    omega
  have h2 := rd_ns_le A (aS A n 0) rt (n - aH A 6 - (n' - aH A 6 + 1)) (n' - aH A 6 + 1)
  rw [show n' - aH A 6 + 1 + (n - aH A 6 - (n' - aH A 6 + 1)) = n - aH A 6 by omega] at h2
  have h3 : ab_ns A (aS A n 0) rt (n - aH A 6) ≤ ab_dp A rt n (aS A n 7) := by
    simp only [ab_dp]
    rw [Nat.sub_self]
    simp only [ab_nk]
    omega
  omega
/-- a send some piece of which may leave: p says whether paused ones count -/
def rd_c (A : ab_A) (p : Bool) (n : Nat) : Prop := aH A 6 ≤ n ∧ n < aH A 5 ∧ aS A n 4 = 1 ∧ aS A n 7 < aS A n 6 ∧ (p = false → aF A (aS A n 0) 2 = 0)
noncomputable def rd_D (A : ab_A) (n : Nat) : Nat := ab_de A n (aS A n 7)
/-- b is the best of those below m, or there is none -/
def rd_b (A : ab_A) (p : Bool) (m : Nat) (b : Option Nat) : Prop := match b with
  | none => ∀ n, rd_c A p n → n < m → aH A 4 < rd_D A n
  | some b => rd_c A p b ∧ b < m ∧ rd_D A b ≤ aH A 4 ∧ ∀ n, rd_c A p n → n < m → rd_D A b < rd_D A n ∨ (rd_D A b = rd_D A n ∧ b ≤ n)
noncomputable def rd_L (A : ab_A) (b : Option Nat) : Nat := match b with | none => aH A 4 + 1 | some q => rd_D A q
theorem rd_skip {A : ab_A} {p : Bool} {n : Nat} {b : Option Nat} (h : rd_b A p n b) (h2 : ¬ rd_c A p n ∨ rd_L A b ≤ rd_D A n) : rd_b A p (n + 1) b := by
  cases b with
  | none =>
    intro m hm hlt
    by_cases e : m = n
    · subst e
      rcases h2 with q | q
      · exact absurd hm q
      · simp only [rd_L] at q
        omega
    · exact h m hm (by omega)
  | some b =>
    obtain ⟨a1, a2, a3, a4⟩ := h
    refine ⟨a1, by omega, a3, fun m hm hlt => ?_⟩
    by_cases e : m = n
    · subst e
      rcases h2 with q | q
      · exact absurd hm q
      · simp only [rd_L] at q
        omega
    · exact a4 m hm (by omega)
theorem rd_take {A : ab_A} {p : Bool} {n : Nat} {b : Option Nat} (h : rd_b A p n b) (hc : rd_c A p n) (h2 : rd_D A n < rd_L A b) : rd_b A p (n + 1) (some n) := by
  cases b with
  | none =>
    simp only [rd_L] at h2
    refine ⟨hc, by omega, by omega, fun m hm hlt => ?_⟩
    by_cases e : m = n
    · subst e
      exact Or.inr ⟨rfl, Nat.le_refl _⟩
    · have := h m hm (by omega)
      omega
  | some b =>
    simp only [rd_L] at h2
    obtain ⟨a1, a2, a3, a4⟩ := h
    refine ⟨hc, by omega, by omega, fun m hm hlt => ?_⟩
    by_cases e : m = n
    · subst e
      exact Or.inr ⟨rfl, Nat.le_refl _⟩
    · have := a4 m hm (by omega)
      omega
theorem rd_uniq {A : ab_A} {p : Bool} {n : Nat} {b b' : Option Nat} (h : rd_b A p n b) (h' : rd_b A p n b') : b = b' := by
  cases b with
  | none =>
    cases b' with
    | none => rfl
    | some b' =>
      have := h b' h'.1 h'.2.1
      have := h'.2.2.1
      omega
  | some b =>
    cases b' with
    | none =>
      have := h' b h.1 h.2.1
      have := h.2.2.1
      omega
    | some b' =>
      have e1 := h.2.2.2 b' h'.1 h'.2.1
      have e2 := h'.2.2.2 b h.1 h.2.1
      congr 1
      omega
section rdy
variable {σ τ : en_M} {g t : Nat} {A : ab_A}
theorem rd_le (hW : ab_W A t) {p : Bool} {n : Nat} (h : rd_c A p n) : rd_D A n ≤ 300000 := ti_dp_le hW h.1 h.2.1 h.2.2.1 h.2.2.2.1
theorem rd_Lle (hW : ab_W A t) {p : Bool} {n : Nat} {b : Option Nat} (h : rd_b A p n b) : rd_L A b ≤ 300000 := by
  have hN := ab_N hW
  cases b with
  | none => simp only [rd_L]; omega
  | some b => exact rd_le hW h.1
theorem rd_cls (hC : ab_CR σ g A) (hW : ab_W A t) {p : Bool} {v : Int32} (hv : v = if p then 1 else 0) : ∀ (F n : Nat) (b : Option Nat), aH A 6 ≤ n → n ≤ aH A 5 → aH A 5 < n + F → rd_b A p n b → ∃ b', rd_b A p (aH A 5) b' ∧ k_cd_readySend_15 F g v (b.map (· % 8)) (nI (rd_L A b)) (nI n) σ = some (b'.map (· % 8)) := by
  have hN := ab_N hW
  have c5 := hC.1.1.2.2.2.2.2.1
  intro F
  induction F with
  | zero => intro n b h1 h2 h3; omega
  | succ F ih =>
    intro n b h1 h2 h3 hb
    have hL := rd_Lle hW hb
    rw [k_cd_readySend_15, c5, it_le (by omega) (by omega)]
    by_cases hn : n < aH A 5
    · have hw := ab_in_win hW h1 hn
      have hp := ab_pc hW hw
      have hm8 : n % 8 < 8 := Nat.mod_lt _ (by decide)
      obtain ⟨-, d1, -, -, -, -, -, d7, -⟩ := hC.1.2.1 n hw
      have hq2 := (hW.2.1 _ (hW.2.2.1 n hw).1).2.2.1
      rw [if_neg (by omega), ac_sendAt hC.1.s hW hw, pu_b1]
      simp only []
      rw [ac_waits hC.1.s hW hw, nI_1]
      by_cases hwt : aS A n 4 = 1 ∧ aS A n 7 < aS A n 6
      · have hD : en_rd 160 (σ 3 g 0) (k_sd_indexOf g (n % 8) (nI (aS A n 7)) σ) = some (nI (rd_D A n)) := by
          rw [ac_index hC.1.s hW hw (by omega), pu_rd (by omega) (by decide), hC.2.2 n (aS A n 7) hw h1 hwt.1 (Nat.le_refl _) hwt.2]
          rfl
        have hDle : rd_D A n ≤ 300000 := ti_dp_le hW h1 hn hwt.1 hwt.2
        rw [if_pos hwt, if_neg (show ¬ (1 : Int32) = 0 by decide), d7, hD, pu_b1, pu_b1, d1, ac_paused hC.1 hW hw, pu_b1, it_le (by omega) (by omega), itx_eq (a := aF A (aS A n 0) 2) (b := 0) (y := 0) rfl rfl (by omega) (by decide)]
        have hgo : ∀ (hc : rd_c A p n), ∃ b', rd_b A p (aH A 5) b' ∧ (if rd_L A b ≤ rd_D A n then k_cd_readySend_15 F g v (b.map (· % 8)) (nI (rd_L A b)) (nI (n + 1)) σ else k_cd_readySend_15 F g v (some (n % 8)) (nI (rd_D A n)) (nI (n + 1)) σ) = some (b'.map (· % 8)) := fun hc => by
          by_cases hle : rd_L A b ≤ rd_D A n
          · rw [if_pos hle]
            exact ih (n + 1) b (by omega) (by omega) (by omega) (rd_skip hb (Or.inr hle))
          · rw [if_neg hle]
            exact ih (n + 1) (some n) (by omega) (by omega) (by omega) (rd_take hb hc (by omega))
        cases p with
        | true =>
          rw [hv, if_pos rfl, if_neg (show ¬ (1 : Int32) = 0 by decide)]
          rw [hv, if_pos rfl] at hgo
          exact hgo ⟨h1, hn, hwt.1, hwt.2, fun q => by cases q⟩
        | false =>
          simp only [Bool.false_eq_true, if_false] at hv
          subst hv
          rw [if_pos rfl]
          by_cases hz : aF A (aS A n 0) 2 = 0
          · rw [if_pos hz]
            exact hgo ⟨h1, hn, hwt.1, hwt.2, fun _ => hz⟩
          · rw [if_neg hz]
            exact ih (n + 1) b (by omega) (by omega) (by omega) (rd_skip hb (Or.inl (fun q => hz (q.2.2.2.2 rfl))))
      · rw [if_neg hwt, if_pos rfl]
        exact ih (n + 1) b (by omega) (by omega) (by omega) (rd_skip hb (Or.inl (fun q => hwt ⟨q.2.2.1, q.2.2.2.1⟩)))
    · have e : n = aH A 5 := by omega
      rw [if_pos (by omega)]
      exact ⟨b, by rw [← e]; exact hb, rfl⟩
theorem rd_ready (hC : ab_CR σ g A) (hW : ab_W A t) {p : Bool} {v : Int32} (hv : v = if p then 1 else 0) : ∃ b, rd_b A p (aH A 5) b ∧ k_cd_readySend g v σ = some (b.map (· % 8)) := by
  have hN := ab_N hW
  have c4 := hC.1.1.2.2.2.1
  have c6 := hC.1.1.2.2.2.2.2.2.1
  obtain ⟨b, h1, h2⟩ := rd_cls hC hW hv en_fu (aH A 6) none (Nat.le_refl _) (by omega) (by rw [en_fu]; omega) (fun n hn hlt => by have := hn.1; omega)
  refine ⟨b, h1, ?_⟩
  have h3 : k_cd_readySend_15 en_fu g v none (nI (aH A 4 + 1)) (nI (aH A 6)) σ = some (b.map (· % 8)) := h2
  rw [k_cd_readySend, c4, c6, nI_1, h3, pu_b1]
/-! the model -/
theorem rd_ah {d n k D q a : Nat} (h1 : d < 2 ^ 31) (h2 : n < 2 ^ 31) (h3 : k < 2 ^ 31) (h4 : D < 2 ^ 31) (h5 : q < 2 ^ 31) (h6 : a < 2 ^ 31) : k_mm_isAhead (nI d) (nI n) (nI k) (nI D) (nI q) (nI a) = (if d < D ∨ (d = D ∧ (n < q ∨ (n = q ∧ k < a))) then 1 else 0) := by
  rw [k_mm_isAhead, it_eq h1 h4, it_eq h2 h5, it_le h6 h3, it_le h5 h2, it_le h4 h1]
  by_cases c1 : d = D
  · rw [if_pos c1]
    by_cases c2 : n = q
    · rw [if_pos c2]
      by_cases c3 : a ≤ k
      · rw [if_pos c3, if_neg (by omega)]
      · rw [if_neg c3, if_pos (by omega)]
    · rw [if_neg c2]
      by_cases c3 : q ≤ n
      · rw [if_pos c3, if_neg (by omega)]
      · rw [if_neg c3, if_pos (by omega)]
  · rw [if_neg c1]
    by_cases c2 : D ≤ d
    · rw [if_pos c2, if_neg (by omega)]
    · rw [if_neg c2, if_pos (by omega)]
def rd_f (A : ab_A) (τ : en_M) (b : Option Nat) (best : Int32) : Prop := match b with
  | none => τ 24 0 0 20 = -1
  | some q => τ 24 0 0 20 = nI q ∧ τ 24 0 0 21 = nI (aS A q 7) ∧ best = nI (rd_D A q)
theorem rd_tail (hM : ab_MR (τ 25 0 0) A) (hW : ab_W A t) {n : Nat} (h1 : aH A 6 ≤ n) (hn : n < aH A 5) (h4 : aS A n 4 = 1) (hd : ∀ k, aS A n 7 ≤ k → k < aS A n 6 → τ 30 0 0 (20 * (n % 8) + k) = nI (ab_de A n k)) {b : Option Nat} {best : Int32} (hf : rd_f A τ b best) (hb : ∀ q, b = some q → q < 2 ^ 31 ∧ aS A q 7 < 2 ^ 31 ∧ rd_D A q ≤ 300000) : ∀ (m k F : Nat), k + m = aS A n 6 → aS A n 7 ≤ k → m < F → (∀ k', k ≤ k' → k' < aS A n 6 → aH A 4 < ab_de A n k' ∨ ∃ q, b = some q ∧ (rd_D A q < ab_de A n k' ∨ (rd_D A q = ab_de A n k' ∧ (q < n ∨ (q = n ∧ aS A q 7 ≤ k'))))) → k_mm_finds1_56 F (nI (aH A 4)) best (nI n) (nI k) τ = some (best, τ) := by
  have hN := ab_N hW
  have hw := ab_in_win hW h1 hn
  have hp := ab_pc hW hw
  have hm8 : n % 8 < 8 := Nat.mod_lt _ (by decide)
  intro m
  induction m with
  | zero =>
    intro k F e1 e2 e3 _
    obtain ⟨F, rfl⟩ : ∃ q, F = q + 1 := ⟨F - 1, by omega⟩
    rw [k_mm_finds1_56, mo_pcs hM hW hw, pu_b1, it_le (by omega) (by omega), if_pos (by omega)]
  | succ m ih =>
    intro k F e1 e2 e3 hk
    obtain ⟨F, rfl⟩ : ∃ q, F = q + 1 := ⟨F - 1, by omega⟩
    have hD : ab_de A n k ≤ 300000 := ti_dp_le hW h1 hn h4 (by omega)
    have hrec := ih (k + 1) F (by omega) (by omega) (by omega) (fun k' c1 c2 => hk k' (by omega) c2)
    rw [k_mm_finds1_56, mo_pcs hM hW hw, pu_b1, it_le (by omega) (by omega), if_neg (by omega), mo_pl (by omega), pu_rd (by omega) (by decide), pu_b1, hd k e2 (by omega), mo_left hM hW hw (by omega), pu_b1, if_neg (show ¬ k < aS A n 7 by omega), if_pos rfl, it_lt (by omega) (by omega), nI_1, hrec]
    rcases hk k (Nat.le_refl _) (by omega) with c | ⟨q, rfl, c⟩
    · rw [if_pos c]
    · obtain ⟨f1, f2, f3⟩ := hf
      obtain ⟨g1, g2, g3⟩ := hb q rfl
      rw [f1, f2, it_m1 g1, f3, rd_ah (by omega) (by omega) (by omega) (by omega) g1 g2, if_neg (show ¬ (ab_de A n k < rd_D A q ∨ (ab_de A n k = rd_D A q ∧ (n < q ∨ (n = q ∧ k < aS A q 7)))) by
        rintro (z | ⟨z1, z2 | ⟨z2, z3⟩⟩)
        · omega
        · omega
        · omega), if_pos rfl]
      split <;> rfl
theorem rd_m1 (hM : ab_MR (τ 25 0 0) A) (hW : ab_W A t) {n : Nat} (h1 : aH A 6 ≤ n) (hn : n < aH A 5) {v best : Int32} : ∀ (d k F : Nat), k + d = aS A n 7 → d ≤ F → k_mm_finds1_56 F v best (nI n) (nI k) τ = k_mm_finds1_56 (F - d) v best (nI n) (nI (aS A n 7)) τ := by
  have hN := ab_N hW
  have hw := ab_in_win hW h1 hn
  have hp := ab_pc hW hw
  have hm8 : n % 8 < 8 := Nat.mod_lt _ (by decide)
  intro d
  induction d with
  | zero => intro k F e _; rw [show k = aS A n 7 by omega, Nat.sub_zero]
  | succ d ih =>
    intro k F e hF
    obtain ⟨F, rfl⟩ : ∃ q, F = q + 1 := ⟨F - 1, by omega⟩
    rw [k_mm_finds1_56, mo_pcs hM hW hw, pu_b1, it_le (by omega) (by omega), if_neg (by omega), mo_pl (by omega), pu_rd (by omega) (by decide), pu_b1, mo_left hM hW hw (by omega), pu_b1, if_pos (show k < aS A n 7 by omega), if_neg (show ¬ (1 : Int32) = 0 by decide), nI_1, ih (k + 1) F (by omega) (by omega), show F + 1 - (d + 1) = F - d by omega]
/-- one send looked at by the model -/
theorem rd_m2 (hM : ab_MR (τ 25 0 0) A) (hW : ab_W A t) {n : Nat} (h1 : aH A 6 ≤ n) (hn : n < aH A 5) (h4 : aS A n 4 = 1) (hz : aF A (aS A n 0) 2 = 0) (hd : ∀ k, aS A n 7 ≤ k → k < aS A n 6 → τ 30 0 0 (20 * (n % 8) + k) = nI (ab_de A n k)) {b : Option Nat} {best : Int32} (hb : rd_b A false n b) (hf : rd_f A τ b best) : ∃ b' best' τ1, k_mm_finds1_56 en_fu (nI (aH A 4)) best (nI n) 0 τ = some (best', τ1) ∧ rd_b A false (n + 1) b' ∧ rd_f A τ1 b' best' ∧ en_fr [(24, 0)] τ τ1 ∧ (∀ k, k < 20 → τ1 24 0 0 k = τ 24 0 0 k) := by
  have hN := ab_N hW
  have hw := ab_in_win hW h1 hn
  have hp := ab_pc hW hw
  have hm8 : n % 8 < 8 := Nat.mod_lt _ (by decide)
  have hsk := rd_m1 hM hW h1 hn (v := nI (aH A 4)) (best := best) (aS A n 7) 0 en_fu (by omega) (by rw [en_fu]; omega)
  rw [nI_0] at hsk
  rw [hsk]
  have hbb : ∀ q, b = some q → q < 2 ^ 31 ∧ aS A q 7 < 2 ^ 31 ∧ rd_D A q ≤ 300000 := fun q e => by
    subst e
    have hc := hb.1
    have := ab_pc hW (ab_in_win hW hc.1 hc.2.1)
    have := rd_le hW hc
    exact ⟨by have := hc.2.1; omega, by omega, by omega⟩
  have hmono : ∀ k', aS A n 7 ≤ k' → rd_D A n ≤ ab_de A n k' := fun k' h => rd_dp_k h
  by_cases hwt : aS A n 7 < aS A n 6
  · have hc : rd_c A false n := ⟨h1, hn, h4, hwt, fun _ => hz⟩
    have hDle := rd_le hW hc
    have hL := rd_Lle hW hb
    by_cases hlt : rd_D A n < rd_L A b
    · -- it is the best so far
      obtain ⟨q, hq⟩ : ∃ q, en_fu - aS A n 7 = q + 1 := ⟨en_fu - aS A n 7 - 1, by rw [en_fu]; omega⟩
      obtain ⟨s22, h22⟩ : ∃ z, en_wr τ 24 0 0 20 (nI n) = z := ⟨_, rfl⟩
      obtain ⟨s24, h24⟩ : ∃ z, en_wr s22 24 0 0 21 (nI (aS A n 7)) = z := ⟨_, rfl⟩
      have hfr : en_fr [(24, 0)] τ s24 := fr_tr (fr_wr h22 (by simp)) (fr_wr h24 (by simp))
      have hM24 : ab_MR (s24 25 0 0) A := by rw [hfr 25 0 (by simp)]; exact hM
      have hf24 : rd_f A s24 (some n) (nI (rd_D A n)) := ⟨by rw [← h24, pu_wr_k (by decide), ← h22, pu_wr_eq], by rw [← h24, pu_wr_eq], rfl⟩
      have htl := rd_tail hM24 hW h1 hn h4 (fun k a1 a2 => by rw [hfr 30 0 (by simp)]; exact hd k a1 a2) hf24 (fun q e => by
        cases e
        exact ⟨by omega, by omega, hDle⟩) (aS A n 6 - (aS A n 7 + 1)) (aS A n 7 + 1) q (by omega) (by omega) (by rw [en_fu] at hq; omega) (fun k' c1 c2 => Or.inr ⟨n, rfl, by
          have := hmono k' (by omega)
          omega⟩)
      have hT : rd_D A n ≤ aH A 4 := by
        cases b with
        | none => simp only [rd_L] at hlt; omega
        | some q =>
          simp only [rd_L] at hlt
          have := hb.2.2.1
          omega
      refine ⟨some n, nI (rd_D A n), s24, ?_, rd_take hb hc hlt, hf24, hfr, fun k hk => by rw [← h24, pu_wr_k (by omega), ← h22, pu_wr_k (by omega)]⟩
      have hdn : τ 30 0 0 (20 * (n % 8) + aS A n 7) = nI (rd_D A n) := hd _ (Nat.le_refl _) hwt
      rw [hq, k_mm_finds1_56, mo_pcs hM hW hw, pu_b1, it_le (by omega) (by omega), if_neg (by omega), mo_pl (by omega), pu_rd (by omega) (by decide), pu_b1, hdn, mo_left hM hW hw hwt, pu_b1, if_neg (show ¬ aS A n 7 < aS A n 7 by omega), if_pos rfl, it_lt (by omega) (by omega), if_neg (by omega), pu_let, h22, pu_let, h24, nI_1, htl]
      cases b with
      | none =>
        rw [if_pos (show τ 24 0 0 20 = -1 from hf)]
      | some q =>
        obtain ⟨f1, f2, f3⟩ := hf
        obtain ⟨g1, g2, g3⟩ := hbb q rfl
        simp only [rd_L] at hlt
        rw [f1, f2, it_m1 g1, f3, rd_ah (by omega) (by omega) (by omega) (by omega) g1 g2, if_pos (Or.inl hlt), if_neg (show ¬ (1 : Int32) = 0 by decide)]
    · have htl := rd_tail hM hW h1 hn h4 hd hf hbb (aS A n 6 - aS A n 7) (aS A n 7) (en_fu - aS A n 7) (by omega) (Nat.le_refl _) (by rw [en_fu]; omega) (fun k' c1 c2 => by
        have := hmono k' c1
        cases b with
        | none =>
          simp only [rd_L] at hlt
          exact Or.inl (by omega)
        | some q =>
          simp only [rd_L] at hlt
          have := hb.2.1
          exact Or.inr ⟨q, rfl, by omega⟩)
      exact ⟨b, best, τ, htl, rd_skip hb (Or.inr (by omega)), hf, fr_rf _ _, fun _ _ => rfl⟩
  · obtain ⟨q, hq⟩ : ∃ q, en_fu - aS A n 7 = q + 1 := ⟨en_fu - aS A n 7 - 1, by rw [en_fu]; omega⟩
    refine ⟨b, best, τ, ?_, rd_skip hb (Or.inl (fun q => hwt q.2.2.2.1)), hf, fr_rf _ _, fun _ _ => rfl⟩
    rw [hq, k_mm_finds1_56, mo_pcs hM hW hw, pu_b1, it_le (by omega) (by omega), if_pos (by omega)]
theorem rd_m3 (hW : ab_W A t) : ∀ (F n : Nat) (τ : en_M) (b : Option Nat) (best : Int32), ab_MR (τ 25 0 0) A → (∀ n k, aH A 6 ≤ n → n < aH A 5 → aS A n 4 = 1 → aS A n 7 ≤ k → k < aS A n 6 → τ 30 0 0 (20 * (n % 8) + k) = nI (ab_de A n k)) → aH A 6 ≤ n → n ≤ aH A 5 → aH A 5 < n + F → rd_b A false n b → rd_f A τ b best → ∃ b' best' τ1, k_mm_finds1_15 F (nI (aH A 4)) best (nI n) τ = some τ1 ∧ rd_b A false (aH A 5) b' ∧ rd_f A τ1 b' best' ∧ en_fr [(24, 0)] τ τ1 ∧ (∀ k, k < 20 → τ1 24 0 0 k = τ 24 0 0 k) := by
  have hN := ab_N hW
  intro F
  induction F with
  | zero => intro n τ b best _ _ h1 h2 h3; omega
  | succ F ih =>
    intro n τ b best hM hd h1 h2 h3 hb hf
    have m5 := hM.1.1 5 (by decide)
    rw [k_mm_finds1_15, m5, it_le (by omega) (by omega)]
    by_cases hn : n < aH A 5
    · have hw := ab_in_win hW h1 hn
      have q4 := (hW.2.2.1 n hw).2.2.2.2.1
      have hq2 := (hW.2.1 _ (hW.2.2.1 n hw).1).2.2.1
      rw [if_neg (by omega), mo_snd hM hW (x := 4) (w := 4) rfl hw (by decide), pu_b1, mo_snd hM hW (x := 0) (w := 0) rfl hw (by decide), pu_b1, mo_paused hM hW hw, pu_b1, itx_eq (a := aS A n 4) (b := 1) (y := 1) rfl rfl (by omega) (by decide), itx_eq (a := aF A (aS A n 0) 2) (b := 1) (y := 1) rfl rfl (by omega) (by decide), nI_1]
      by_cases h4 : aS A n 4 = 1
      · rw [if_pos h4]
        by_cases hz : aF A (aS A n 0) 2 = 1
        · rw [if_pos hz]
          exact ih (n + 1) τ b best hM hd (by omega) (by omega) (by omega) (rd_skip hb (Or.inl (fun q => by have := q.2.2.2.2 rfl; omega))) hf
        · obtain ⟨b1, best1, τ1, a1, a2, a3, a4, a5⟩ := rd_m2 hM hW h1 hn h4 (by omega) (fun k c1 c2 => hd n k h1 hn h4 c1 c2) hb hf
          obtain ⟨b', best', τ2, e1, e2, e3, e4, e5⟩ := ih (n + 1) τ1 b1 best1 (by rw [a4 25 0 (by simp)]; exact hM) (fun n' k c1 c2 c3 c4 c5 => by rw [a4 30 0 (by simp)]; exact hd n' k c1 c2 c3 c4 c5) (by omega) (by omega) (by omega) a2 a3
          rw [if_neg hz, a1, pu_b2]
          exact ⟨b', best', τ2, e1, e2, e3, fr_tr a4 e4, fun k hk => (e5 k hk).trans (a5 k hk)⟩
      · rw [if_neg h4]
        exact ih (n + 1) τ b best hM hd (by omega) (by omega) (by omega) (rd_skip hb (Or.inl (fun q => h4 q.2.2.1))) hf
    · have e : n = aH A 5 := by omega
      rw [if_pos (by omega)]
      exact ⟨b, best, τ, rfl, by rw [← e]; exact hb, hf, fr_rf _ _, fun _ _ => rfl⟩
/-- the model's finds -/
theorem rd_finds (hM : ab_MR (τ 25 0 0) A) (hW : ab_W A t) (hd : ∀ n k, aH A 6 ≤ n → n < aH A 5 → aS A n 4 = 1 → aS A n 7 ≤ k → k < aS A n 6 → τ 30 0 0 (20 * (n % 8) + k) = nI (ab_de A n k)) : ∃ b best τ1, k_mm_finds1 (nI (aH A 4)) τ = some ((if b.isSome then 1 else 0), τ1) ∧ rd_b A false (aH A 5) b ∧ rd_f A τ1 b best ∧ en_fr [(24, 0)] τ τ1 ∧ (∀ k, k < 20 → τ1 24 0 0 k = τ 24 0 0 k) := by
  have hN := ab_N hW
  obtain ⟨s1, h1⟩ : ∃ z, en_wr τ 24 0 0 20 (-1) = z := ⟨_, rfl⟩
  have hfr : en_fr [(24, 0)] τ s1 := fr_wr h1 (by simp)
  have hM1 : ab_MR (s1 25 0 0) A := by rw [hfr 25 0 (by simp)]; exact hM
  have m6 := hM1.1.1 6 (by decide)
  obtain ⟨b, best, τ1, a1, a2, a3, a4, a5⟩ := rd_m3 hW en_fu (aH A 6) s1 none 0 hM1 (fun n k c1 c2 c3 c4 c5 => by rw [hfr 30 0 (by simp)]; exact hd n k c1 c2 c3 c4 c5) (Nat.le_refl _) (by omega) (by rw [en_fu]; omega) (fun n hn hlt => by have := hn.1; omega) (by show s1 24 0 0 20 = -1; rw [← h1, pu_wr_eq])
  refine ⟨b, best, τ1, ?_, a2, a3, fr_tr hfr a4, fun k hk => by rw [a5 k hk, ← h1, pu_wr_k (by omega)]⟩
  rw [k_mm_finds1, pu_let, h1, m6, a1, pu_b1]
  cases b with
  | none => rw [if_pos (show τ1 24 0 0 20 = -1 from a3)]; rfl
  | some q =>
    have := a2.1.2.1
    rw [a3.1, it_m1 (by omega)]
    rfl
/-! starved -/
theorem rd_s1 (hM : ab_MR (τ 25 0 0) A) (hW : ab_W A t) {n : Nat} (h1 : aH A 6 ≤ n) (hn : n < aH A 5) (h4 : aS A n 4 = 1) (hd : ∀ k, aS A n 7 ≤ k → k < aS A n 6 → τ 30 0 0 (20 * (n % 8) + k) = nI (ab_de A n k)) : ∀ (m k F : Nat), k + m = aS A n 6 → m < F → k_mm_isStarved_33 F (nI n) (nI k) τ = some (if max k (aS A n 7) < aS A n 6 ∧ ab_de A n (max k (aS A n 7)) ≤ aH A 4 then .inl 1 else .inr ()) ∨ (aS A n 7 ≤ k ∧ aS A n 7 < aS A n 6 ∧ ¬ rd_D A n ≤ aH A 4 ∧ k_mm_isStarved_33 F (nI n) (nI k) τ = some (.inr ())) := by
  have hN := ab_N hW
  have hw := ab_in_win hW h1 hn
  have hp := ab_pc hW hw
  have hm8 : n % 8 < 8 := Nat.mod_lt _ (by decide)
  have mT := hM.1.1 4 (by decide)
  intro m
  induction m with
  | zero =>
    intro k F e1 e2
    obtain ⟨F, rfl⟩ : ∃ q, F = q + 1 := ⟨F - 1, by omega⟩
    left
    rw [k_mm_isStarved_33, mo_pcs hM hW hw, pu_b1, it_le (by omega) (by omega), if_pos (by omega), if_neg (by omega)]
  | succ m ih =>
    intro k F e1 e2
    obtain ⟨F, rfl⟩ : ∃ q, F = q + 1 := ⟨F - 1, by omega⟩
    rw [k_mm_isStarved_33, mo_pcs hM hW hw, pu_b1, it_le (by omega) (by omega), if_neg (by omega), mo_left hM hW hw (by omega), pu_b1, nI_1]
    by_cases hk : k < aS A n 7
    · rw [if_pos hk, if_neg (show ¬ (1 : Int32) = 0 by decide)]
      rcases ih (k + 1) F (by omega) (by omega) with h | ⟨a1, a2, a3, a4⟩
      · left
        rw [h, show max (k + 1) (aS A n 7) = max k (aS A n 7) by omega]
      · left
        rw [a4, show max k (aS A n 7) = aS A n 7 by omega, if_neg (fun q => a3 q.2)]
    · have hD : ab_de A n k ≤ 300000 := ti_dp_le hW h1 hn h4 (by omega)
      rw [if_neg hk, if_pos rfl, mo_pl (by omega), pu_rd (by omega) (by decide), pu_b1, hd k (by omega) (by omega), mT, it_lt (by omega) (by omega), show max k (aS A n 7) = k by omega]
      by_cases hT : aH A 4 < ab_de A n k
      · left
        rw [if_pos hT, if_neg (fun q => by omega)]
        rcases ih (k + 1) F (by omega) (by omega) with h | ⟨a1, a2, a3, a4⟩
        · rw [h, if_neg]
          rintro ⟨c1, c2⟩
          have : ab_de A n k ≤ ab_de A n (max (k + 1) (aS A n 7)) := rd_dp_k (by omega)
          omega
        · exact a4
      · left
        rw [if_neg hT, if_pos ⟨by omega, by omega⟩]
theorem rd_s2 (hM : ab_MR (τ 25 0 0) A) (hW : ab_W A t) (hd : ∀ n k, aH A 6 ≤ n → n < aH A 5 → aS A n 4 = 1 → aS A n 7 ≤ k → k < aS A n 6 → τ 30 0 0 (20 * (n % 8) + k) = nI (ab_de A n k)) : ∀ (F n : Nat), aH A 6 ≤ n → n ≤ aH A 5 → aH A 5 < n + F → (k_mm_isStarved_8 F (nI n) τ = some (.inl 1) ∧ ∃ m, rd_c A true m ∧ rd_D A m ≤ aH A 4) ∨ (k_mm_isStarved_8 F (nI n) τ = some (.inr ()) ∧ ∀ m, rd_c A true m → n ≤ m → aH A 4 < rd_D A m) := by
  have hN := ab_N hW
  have m5 := hM.1.1 5 (by decide)
  intro F
  induction F with
  | zero => intro n h1 h2 h3; omega
  | succ F ih =>
    intro n h1 h2 h3
    rw [k_mm_isStarved_8, m5, it_le (by omega) (by omega)]
    by_cases hn : n < aH A 5
    · have hw := ab_in_win hW h1 hn
      have hp := ab_pc hW hw
      have q4 := (hW.2.2.1 n hw).2.2.2.2.1
      rw [if_neg (by omega), mo_snd hM hW (x := 4) (w := 4) rfl hw (by decide), pu_b1, itx_eq (a := aS A n 4) (b := 1) (y := 1) rfl rfl (by omega) (by decide), nI_1]
      have hnext := ih (n + 1) (by omega) (by omega) (by omega)
      by_cases h4 : aS A n 4 = 1
      · rw [if_pos h4]
        have hs : k_mm_isStarved_33 en_fu (nI n) 0 τ = some (if aS A n 7 < aS A n 6 ∧ rd_D A n ≤ aH A 4 then .inl 1 else .inr ()) := by
          have := rd_s1 hM hW h1 hn h4 (fun k c1 c2 => hd n k h1 hn h4 c1 c2) (aS A n 6) 0 en_fu (by omega) (by rw [en_fu]; omega)
          rw [nI_0, show max 0 (aS A n 7) = aS A n 7 by omega] at this
          rcases this with h | ⟨b1, b2, b3, b4⟩
          · exact h
          · rw [b4, if_neg (fun q => b3 q.2)]
        rw [hs]
        by_cases hc : aS A n 7 < aS A n 6 ∧ rd_D A n ≤ aH A 4
        · rw [if_pos hc, pu_rxl]
          exact Or.inl ⟨rfl, n, ⟨h1, hn, h4, hc.1, fun q => by cases q⟩, hc.2⟩
        · rw [if_neg hc, pu_rxr]
          rcases hnext with h | ⟨b1, b2⟩
          · exact Or.inl h
          · refine Or.inr ⟨b1, fun m hm hle => ?_⟩
            by_cases e : m = n
            · subst e
              have := hm.2.2.2.1
              omega
            · exact b2 m hm (by omega)
      · rw [if_neg h4]
        rcases hnext with h | ⟨b1, b2⟩
        · exact Or.inl h
        · refine Or.inr ⟨b1, fun m hm hle => ?_⟩
          by_cases e : m = n
          · subst e
            exact absurd hm.2.2.1 h4
          · exact b2 m hm (by omega)
    · rw [if_pos (by omega)]
      exact Or.inr ⟨rfl, fun m hm hle => by have := hm.2.1; omega⟩
/-- starved, both -/
theorem rd_starve (hC : ab_CR σ g A) (hM : ab_MR (τ 25 0 0) A) (hW : ab_W A t) (hd : ∀ n k, aH A 6 ≤ n → n < aH A 5 → aS A n 4 = 1 → aS A n 7 ≤ k → k < aS A n 6 → τ 30 0 0 (20 * (n % 8) + k) = nI (ab_de A n k)) : ∃ b : Option Nat, k_cd_readySend g 1 σ = some b ∧ k_mm_isStarved τ = some (if b.isSome then 1 else 0) := by
  have hN := ab_N hW
  have m6 := hM.1.1 6 (by decide)
  obtain ⟨b, h1, h2⟩ := rd_ready hC hW (p := true) (v := 1) rfl
  refine ⟨_, h2, ?_⟩
  rw [k_mm_isStarved, m6]
  rcases rd_s2 hM hW hd en_fu (aH A 6) (Nat.le_refl _) (by omega) (by rw [en_fu]; omega) with ⟨a1, m, a2, a3⟩ | ⟨a1, a2⟩
  · rw [a1, pu_rxl]
    cases b with
    | none =>
      have := h1 m a2 a2.2.1
      omega
    | some q => rfl
  · rw [a1, pu_rxr]
    cases b with
    | none => rfl
    | some q =>
      have := a2 q h1.1 h1.1.1
      have := h1.2.2.1
      omega
end rdy

/-! Counts over the sends that aren't reclaimed. -/
def ct_n (A : ab_A) (st : Nat) : Nat → Nat → Nat
  | 0, _ => 0
  | m + 1, n => (if aS A n 4 = st then 1 else 0) + ct_n A st m (n + 1)
theorem ct_le (A : ab_A) (st : Nat) : ∀ m n, ct_n A st m n ≤ m := by
  intro m
  induction m with
  | zero => exact fun _ => Nat.le_refl _
  | succ m ih =>
    intro n
    have := ih (n + 1)
    simp only [ct_n]
    split <;> omega
theorem ti_dp_le {A : ab_A} {t rt n k : Nat} (hW : ab_W A t) (h : aH A 6 ≤ n) (h2 : n < aH A 5) (h1 : aS A n 4 = 1) (hk : k < aS A n 6) : ab_dp A rt n k ≤ 300000 := by
  have hw := ab_in_win hW h h2
  obtain ⟨q0, -, q2, -⟩ := hW.2.2.1 n hw
  have hb := ti_ns8 (rt := rt) hW q0 (show aH A 6 + (n - aH A 6) ≤ aH A 5 by omega)
  have he := ti_e_le hW hw h1
  have hn := ti_nk_le A rt n (ab_ns A (aS A n 0) rt (n - aH A 6)) q2.2 he (k - aS A n 7)
  have hp := ab_pc hW hw
  rw [ab_dp]
  omega
section cnt
variable {σ τ : en_M} {g t : Nat} {A : ab_A}
theorem ct_cls (hC : ab_Cs σ g A) (hW : ab_W A t) {st : Nat} (hst : st ≤ 3) : ∀ (f m n : Nat) (acc : Nat), aH A 6 ≤ n → n + m = aH A 5 → m < f → k_cd_inState_7 f g (nI st) (nI acc) (nI n) σ = some (nI (acc + ct_n A st m n)) := by
  have hN := ab_N hW
  have c5 := hC.1.2.2.2.2.2.1
  intro f
  induction f with
  | zero => intro m n acc h1 h2 h3; omega
  | succ f ih =>
    intro m n acc h1 h2 h3
    rw [k_cd_inState_7, c5, it_le (by omega) (by omega)]
    cases m with
    | zero => rw [if_pos (by omega)]; rfl
    | succ m =>
      have hw := ab_in_win hW h1 (show n < aH A 5 by omega)
      have q4 := (hW.2.2.1 n hw).2.2.2.2.1
      have d5 := (hC.2 n hw).2.2.2.2.2.1
      rw [if_neg (by omega), ac_sendAt hC hW hw, pu_b1]
      simp only [ct_n]
      rw [d5, it_eq (by omega) (by omega), nI_1, nI_1]
      split
      · rw [ih m (n + 1) _ (by omega) (by omega) (by omega), Nat.add_assoc]
      · rw [ih m (n + 1) _ (by omega) (by omega) (by omega), Nat.zero_add]
theorem ct_wait (hM : ab_MR (τ 25 0 0) A) (hW : ab_W A t) : ∀ (f m n : Nat) (acc : Nat), aH A 6 ≤ n → n + m = aH A 5 → m < f → k_mm_waiting_10 f (nI acc) (nI n) τ = some (nI (acc + ct_n A 0 m n)) := by
  have hN := ab_N hW
  have m5 := hM.1.1 5 (by decide)
  intro f
  induction f with
  | zero => intro m n acc h1 h2 h3; omega
  | succ f ih =>
    intro m n acc h1 h2 h3
    rw [k_mm_waiting_10, m5, it_le (by omega) (by omega)]
    cases m with
    | zero => rw [if_pos (by omega)]; rfl
    | succ m =>
      have hw := ab_in_win hW h1 (show n < aH A 5 by omega)
      have q4 := (hW.2.2.1 n hw).2.2.2.2.1
      rw [if_neg (by omega), mo_snd hM hW (x := 4) (w := 4) rfl hw (by decide), pu_b1, itx_eq (a := aS A n 4) (b := 0) (y := 0) rfl rfl (by omega) (by decide), nI_1, nI_1, Int32.add_zero]
      simp only [ct_n]
      split
      · rw [ih m (n + 1) _ (by omega) (by omega) (by omega), Nat.add_assoc]
      · rw [ih m (n + 1) _ (by omega) (by omega) (by omega), Nat.zero_add]
theorem ct_held (hM : ab_MR (τ 25 0 0) A) (hW : ab_W A t) : ∀ (f m n : Nat) (acc : Nat), aH A 6 ≤ n → n + m = aH A 5 → m < f → k_mm_held_10 f (nI acc) (nI n) τ = some (nI (acc + ct_n A 2 m n)) := by
  have hN := ab_N hW
  have m5 := hM.1.1 5 (by decide)
  intro f
  induction f with
  | zero => intro m n acc h1 h2 h3; omega
  | succ f ih =>
    intro m n acc h1 h2 h3
    rw [k_mm_held_10, m5, it_le (by omega) (by omega)]
    cases m with
    | zero => rw [if_pos (by omega)]; rfl
    | succ m =>
      have hw := ab_in_win hW h1 (show n < aH A 5 by omega)
      have q4 := (hW.2.2.1 n hw).2.2.2.2.1
      rw [if_neg (by omega), mo_snd hM hW (x := 4) (w := 4) rfl hw (by decide), pu_b1, itx_eq (a := aS A n 4) (b := 2) (y := 2) rfl rfl (by omega) (by decide), nI_1, nI_1, Int32.add_zero]
      simp only [ct_n]
      split
      · rw [ih m (n + 1) _ (by omega) (by omega) (by omega), Nat.add_assoc]
      · rw [ih m (n + 1) _ (by omega) (by omega) (by omega), Nat.zero_add]
theorem ct_inState (hC : ab_Cs σ g A) (hW : ab_W A t) {st : Nat} {v : Int32} (hv : v = nI st) (hst : st ≤ 3) : k_cd_inState g v σ = some (nI (ct_n A st (aH A 5 - aH A 6) (aH A 6))) := by
  have hN := ab_N hW
  have c6 := hC.1.2.2.2.2.2.2.1
  have h := ct_cls hC hW hst en_fu (aH A 5 - aH A 6) (aH A 6) 0 (Nat.le_refl _) (by omega) (by rw [en_fu]; omega)
  rw [nI_0, Nat.zero_add] at h
  rw [k_cd_inState, c6, hv, h, pu_b1]
theorem ct_waiting (hM : ab_MR (τ 25 0 0) A) (hW : ab_W A t) : k_mm_waiting τ = some (nI (ct_n A 0 (aH A 5 - aH A 6) (aH A 6))) := by
  have hN := ab_N hW
  have m6 := hM.1.1 6 (by decide)
  have h := ct_wait hM hW en_fu (aH A 5 - aH A 6) (aH A 6) 0 (Nat.le_refl _) (by omega) (by rw [en_fu]; omega)
  rw [nI_0, Nat.zero_add] at h
  rw [k_mm_waiting, m6, h, pu_b1]
theorem ct_heldq (hM : ab_MR (τ 25 0 0) A) (hW : ab_W A t) : k_mm_held τ = some (nI (ct_n A 2 (aH A 5 - aH A 6) (aH A 6))) := by
  have hN := ab_N hW
  have m6 := hM.1.1 6 (by decide)
  have h := ct_held hM hW en_fu (aH A 5 - aH A 6) (aH A 6) 0 (Nat.le_refl _) (by omega) (by rw [en_fu]; omega)
  rw [nI_0, Nat.zero_add] at h
  rw [k_mm_held, m6, h, pu_b1]
/-! pieces of a flow that wait -/
theorem ct_lb1 (hM : ab_MR (τ 25 0 0) A) (hW : ab_W A t) {v : Int32} {n : Nat} (h : ab_win A n) : ∀ (f m k : Nat) (acc : Int32), k + m = aS A n 6 → m < f → k_mm_leftBehind_46 f v acc (nI n) (nI k) τ = some (acc + nI (aS A n 6 - max k (aS A n 7))) := by
  have hp := ab_pc hW h
  intro f
  induction f with
  | zero => intro m k acc h1 h2; omega
  | succ f ih =>
    intro m k acc h1 h2
    rw [k_mm_leftBehind_46, mo_pcs hM hW h, pu_b1, it_le (by omega) (by omega)]
    cases m with
    | zero =>
      rw [if_pos (by omega), show aS A n 6 - max k (aS A n 7) = 0 by omega, nI_0, Int32.add_zero]
    | succ m =>
      rw [if_neg (by omega), mo_left hM hW h (by omega), pu_b1, nI_1]
      by_cases hk : k < aS A n 7
      · rw [if_pos hk, if_neg (by decide), Int32.add_zero, ih m (k + 1) _ (by omega) (by omega), show aS A n 6 - max (k + 1) (aS A n 7) = aS A n 6 - max k (aS A n 7) by omega]
      · rw [if_neg hk, if_pos rfl, ih m (k + 1) _ (by omega) (by omega), Int32.add_assoc, show (1 : Int32) = nI 1 from rfl, nI_add, show 1 + (aS A n 6 - max (k + 1) (aS A n 7)) = aS A n 6 - max k (aS A n 7) by omega]
theorem ct_lb (hC : ab_Cs σ g A) (hM : ab_MR (τ 25 0 0) A) (hW : ab_W A t) (v : Int32) : ∀ (f n : Nat) (acc : Int32), aH A 6 ≤ n → n ≤ aH A 5 → aH A 5 < n + f → ∃ x, k_cd_waitingOf_7 f g v acc (nI n) σ = some x ∧ k_mm_leftBehind_10 f v acc (nI n) τ = some x := by
  have hN := ab_N hW
  have c5 := hC.1.2.2.2.2.2.1
  have m5 := hM.1.1 5 (by decide)
  intro f
  induction f with
  | zero => intro n acc h1 h2 h3; omega
  | succ f ih =>
    intro n acc h1 h2 h3
    rw [k_cd_waitingOf_7, k_mm_leftBehind_10, c5, m5, it_le (by omega) (by omega), it_le (by omega) (by omega)]
    by_cases hn : n < aH A 5
    · have hw := ab_in_win hW h1 hn
      have hp := ab_pc hW hw
      have q4 := (hW.2.2.1 n hw).2.2.2.2.1
      obtain ⟨-, d1, -, -, -, -, d6, d7, -⟩ := hC.2 n hw
      rw [if_neg (by omega), if_neg (by omega), ac_sendAt hC hW hw, pu_b1]
      simp only []
      have hl := ct_lb1 hM hW (v := v) hw en_fu (aS A n 6) 0 acc (by omega) (by rw [en_fu]; omega)
      rw [nI_0] at hl
      rw [ac_waits hC hW hw, d1, d6, d7, mo_snd hM hW (x := 4) (w := 4) rfl hw (by decide), pu_b1, mo_snd hM hW (x := 0) (w := 0) rfl hw (by decide), pu_b1, hl, pu_b1, itx_eq (a := aS A n 4) (b := 1) (y := 1) rfl rfl (by omega) (by decide), pk_sub hp.2, nI_1]
      by_cases h4 : aS A n 4 = 1
      · by_cases hwt : aS A n 7 < aS A n 6
        · rw [if_pos (show aS A n 4 = 1 ∧ aS A n 7 < aS A n 6 from ⟨h4, hwt⟩), if_neg (show ¬ (1 : Int32) = 0 by decide), if_pos h4, show aS A n 6 - max 0 (aS A n 7) = aS A n 6 - aS A n 7 by omega]
          split
          · exact ih (n + 1) _ (by omega) (by omega) (by omega)
          · exact ih (n + 1) _ (by omega) (by omega) (by omega)
        · rw [if_neg (show ¬ (aS A n 4 = 1 ∧ aS A n 7 < aS A n 6) from fun q => hwt q.2), if_pos rfl, if_pos h4, show aS A n 6 - max 0 (aS A n 7) = 0 by omega, nI_0, Int32.add_zero]
          split
          · exact ih (n + 1) _ (by omega) (by omega) (by omega)
          · exact ih (n + 1) _ (by omega) (by omega) (by omega)
      · rw [if_neg (show ¬ (aS A n 4 = 1 ∧ aS A n 7 < aS A n 6) from fun q => h4 q.1), if_pos rfl, if_neg h4]
        exact ih (n + 1) _ (by omega) (by omega) (by omega)
    · rw [if_pos (by omega), if_pos (by omega)]
      exact ⟨acc, rfl, rfl⟩
theorem ct_left (hC : ab_Cs σ g A) (hM : ab_MR (τ 25 0 0) A) (hW : ab_W A t) (v : Int32) : ∃ x, k_cd_waitingOf g v σ = some x ∧ k_mm_leftBehind v τ = some x := by
  have hN := ab_N hW
  have c6 := hC.1.2.2.2.2.2.2.1
  have m6 := hM.1.1 6 (by decide)
  obtain ⟨x, h1, h2⟩ := ct_lb hC hM hW v en_fu (aH A 6) 0 (Nat.le_refl _) (by omega) (by rw [en_fu]; omega)
  exact ⟨x, by rw [k_cd_waitingOf, c6, h1, pu_b1], by rw [k_mm_leftBehind, m6, h2, pu_b1]⟩
/-! calendar -/
theorem cl_in (hC : ab_CR σ g A) (hW : ab_W A t) {n F E : Nat} {v : Int32} (h : aH A 6 ≤ n) (h2 : n < aH A 5) (h1 : aS A n 4 = 1) (hF : F < 2 ^ 31) (hE : 1 ≤ E) (hE2 : E < 2 ^ 31) (hM : ab_MR (τ 25 0 0) A) (hd : ∀ k, aS A n 7 ≤ k → k < aS A n 6 → τ 30 0 0 (20 * (n % 8) + k) = nI (ab_de A n k)) {nn kk ff : Int32} (he : ff + nn = nI E) (hk0 : kk = 0 → F = 0) (hk1 : kk ≠ 0 → ff = nI F) :
    ∀ (m k f f' : Nat) (acc : Int32), k + m = aS A n 6 → aS A n 7 ≤ k → m < f → m < f' → ∃ x, k_cd_departingIn_45 f g (nI F) (nI E) acc v (n % 8) (nI k) σ = some x ∧ k_mm_calendar_94 f' nn kk ff acc (nI n) (nI k) τ = some x := by
  have hN := ab_N hW
  have hw := ab_in_win hW h h2
  have hp := ab_pc hW hw
  have d6 := (hC.1.2.1 n hw).2.2.2.2.2.2.1
  have hm8 : n % 8 < 8 := Nat.mod_lt _ (by decide)
  intro m
  induction m with
  | zero =>
    intro k f f' acc g1 g2 g3 g4
    obtain ⟨f, rfl⟩ : ∃ q, f = q + 1 := ⟨f - 1, by omega⟩
    obtain ⟨f', rfl⟩ : ∃ q, f' = q + 1 := ⟨f' - 1, by omega⟩
    · skip
      rw [k_cd_departingIn_45, k_mm_calendar_94, d6, mo_pcs hM hW hw, pu_b1, it_le (by omega) (by omega), it_le (by omega) (by omega), if_pos (by omega), if_pos (by omega)]
      exact ⟨acc, rfl, rfl⟩
  | succ m ih =>
    intro k f f' acc g1 g2 g3 g4
    obtain ⟨f, rfl⟩ : ∃ q, f = q + 1 := ⟨f - 1, by omega⟩
    obtain ⟨f', rfl⟩ : ∃ q, f' = q + 1 := ⟨f' - 1, by omega⟩
    · skip
      have hk : k < aS A n 6 := by omega
      have hD := ti_dp_le (rt := aF A (aS A n 0) 0) hW h h2 h1 hk
      have hD' : ab_de A n k ≤ 300000 := hD
      have hc : k_cc_within (nI (ab_de A n k)) (nI F) (nI E - 1) = (if F ≤ ab_de A n k ∧ ab_de A n k < E then 1 else 0) := by
        rw [k_cc_within, it_lt (by omega) hF, show (1 : Int32) = nI 1 from rfl, pk_sub (by omega), it_lt (by omega) (by omega)]
        by_cases c1 : ab_de A n k < F
        · rw [if_pos c1, if_neg (by omega)]
        · by_cases c2 : E - 1 < ab_de A n k
          · rw [if_neg c1, if_pos c2, if_neg (by omega)]
          · rw [if_neg c1, if_neg c2, if_pos (by omega)]
      rw [k_cd_departingIn_45, k_mm_calendar_94, d6, mo_pcs hM hW hw, pu_b1, it_le (by omega) (by omega), it_le (by omega) (by omega), if_neg (by omega), if_neg (by omega), ac_index hC.1.s hW hw (by omega), pu_rd (by omega) (by decide), pu_b1, hC.2.2 n k hw h h1 g2 hk, hc, mo_pl (by omega), pu_rd (by omega) (by decide), pu_b1, hd k g2 hk, mo_left hM hW hw hk, pu_b1, if_neg (show ¬ k < aS A n 7 by omega), if_pos rfl, he, it_le hE2 (by omega), nI_1, Int32.add_zero]
      by_cases hz : kk = 0
      · have := hk0 hz
        rw [if_pos hz]
        by_cases c : ab_de A n k < E
        · rw [if_pos (show F ≤ ab_de A n k ∧ ab_de A n k < E by omega), if_neg (show ¬ (1 : Int32) = 0 by decide), if_neg (by omega)]
          exact ih (k + 1) f f' _ (by omega) (by omega) (by omega) (by omega)
        · rw [if_neg (show ¬ (F ≤ ab_de A n k ∧ ab_de A n k < E) by omega), if_pos rfl, if_pos (by omega)]
          exact ih (k + 1) f f' _ (by omega) (by omega) (by omega) (by omega)
      · have ih' : ∀ acc, ∃ x, k_cd_departingIn_45 f g (nI F) (nI E) acc v (n % 8) (nI (k + 1)) σ = some x ∧ k_mm_calendar_94 f' nn kk (nI F) acc (nI n) (nI (k + 1)) τ = some x := fun acc => by
          have h9 := ih (k + 1) f f' acc (by omega) (by omega) (by omega) (by omega)
          rw [hk1 hz] at h9
          exact h9
        rw [if_neg hz, hk1 hz, it_lt (by omega) hF]
        by_cases c1 : ab_de A n k < F
        · rw [if_neg (show ¬ (F ≤ ab_de A n k ∧ ab_de A n k < E) by omega), if_pos rfl, if_pos c1]
          exact ih' _
        · by_cases c : ab_de A n k < E
          · rw [if_pos (show F ≤ ab_de A n k ∧ ab_de A n k < E by omega), if_neg (show ¬ (1 : Int32) = 0 by decide), if_neg c1, if_neg (by omega)]
            exact ih' _
          · rw [if_neg (show ¬ (F ≤ ab_de A n k ∧ ab_de A n k < E) by omega), if_pos rfl, if_neg c1, if_pos (by omega)]
            exact ih' _
theorem cl_skip (hM : ab_MR (τ 25 0 0) A) (hW : ab_W A t) {n : Nat} (h : aH A 6 ≤ n) (h2 : n < aH A 5) {nn kk ff : Int32} : ∀ (d k f : Nat) (acc : Int32), k + d = aS A n 7 → d ≤ f → k_mm_calendar_94 f nn kk ff acc (nI n) (nI k) τ = k_mm_calendar_94 (f - d) nn kk ff acc (nI n) (nI (aS A n 7)) τ := by
  have hN := ab_N hW
  have hw := ab_in_win hW h h2
  have hp := ab_pc hW hw
  have hm8 : n % 8 < 8 := Nat.mod_lt _ (by decide)
  intro d
  induction d with
  | zero => intro k f acc g1 _; rw [show k = aS A n 7 by omega, Nat.sub_zero]
  | succ d ih =>
    intro k f acc g1 g2
    cases f with
    | zero => omega
    | succ f =>
      have hk : k < aS A n 6 := by omega
      rw [k_mm_calendar_94, mo_pcs hM hW hw, pu_b1, it_le (by omega) (by omega), if_neg (by omega), mo_pl (by omega), pu_rd (by omega) (by decide), pu_b1, mo_left hM hW hw hk, pu_b1, if_pos (show k < aS A n 7 by omega), if_neg (show ¬ (1 : Int32) = 0 by decide), nI_1, Int32.add_zero, ih (k + 1) f acc (by omega) (by omega), show f + 1 - (d + 1) = f - d by omega]
theorem cl_all (hC : ab_CR σ g A) (hW : ab_W A t) {F E : Nat} (hF : F < 2 ^ 31) (hE : 1 ≤ E) (hE2 : E < 2 ^ 31) (hM : ab_MR (τ 25 0 0) A) (hd : ∀ n k, aH A 6 ≤ n → n < aH A 5 → aS A n 4 = 1 → aS A n 7 ≤ k → k < aS A n 6 → τ 30 0 0 (20 * (n % 8) + k) = nI (ab_de A n k)) {nn kk ff : Int32} (he : ff + nn = nI E) (hk0 : kk = 0 → F = 0) (hk1 : kk ≠ 0 → ff = nI F) :
    ∀ (f n : Nat) (acc : Int32), aH A 6 ≤ n → n ≤ aH A 5 → aH A 5 < n + f → ∃ x, k_cd_departingIn_8 f g (nI F) (nI E) acc (nI n) σ = some x ∧ k_mm_calendar_66 f nn kk ff acc (nI n) τ = some x := by
  have hN := ab_N hW
  have c5 := hC.1.1.2.2.2.2.2.1
  have m5 := hM.1.1 5 (by decide)
  intro f
  induction f with
  | zero => intro n acc g1 g2 g3; omega
  | succ f ih =>
    intro n acc g1 g2 g3
    rw [k_cd_departingIn_8, k_mm_calendar_66, c5, m5, it_le (by omega) (by omega), it_le (by omega) (by omega)]
    by_cases hn : n < aH A 5
    · have hw := ab_in_win hW g1 hn
      have hp := ab_pc hW hw
      have q4 := (hW.2.2.1 n hw).2.2.2.2.1
      obtain ⟨-, -, -, -, -, -, -, d7, -⟩ := hC.1.2.1 n hw
      rw [if_neg (by omega), if_neg (by omega), ac_sendAt hC.1.s hW hw, pu_b1]
      simp only []
      rw [ac_waits hC.1.s hW hw, d7, mo_snd hM hW (x := 4) (w := 4) rfl hw (by decide), pu_b1, itx_eq (a := aS A n 4) (b := 1) (y := 1) rfl rfl (by omega) (by decide), nI_1]
      by_cases h4 : aS A n 4 = 1
      · have hsk := cl_skip hM hW g1 hn (nn := nn) (kk := kk) (ff := ff) (aS A n 7) 0 en_fu acc (by omega) (by rw [en_fu]; omega)
        rw [nI_0] at hsk
        by_cases hwt : aS A n 7 < aS A n 6
        · obtain ⟨x, y1, y2⟩ := cl_in (v := nI n) hC hW g1 hn h4 hF hE hE2 hM (hd n · g1 hn h4) he hk0 hk1 (aS A n 6 - aS A n 7) (aS A n 7) en_fu (en_fu - aS A n 7) acc (by omega) (Nat.le_refl _) (by rw [en_fu]; omega) (by rw [en_fu]; omega)
          rw [if_pos (show aS A n 4 = 1 ∧ aS A n 7 < aS A n 6 from ⟨h4, hwt⟩), if_neg (show ¬ (1 : Int32) = 0 by decide), y1, pu_b1, if_pos h4, hsk, y2, pu_b1]
          exact ih (n + 1) _ (by omega) (by omega) (by omega)
        · have h0 : k_mm_calendar_94 (en_fu - aS A n 7) nn kk ff acc (nI n) (nI (aS A n 7)) τ = some acc := by
            obtain ⟨q, hq⟩ : ∃ q, en_fu - aS A n 7 = q + 1 := ⟨en_fu - aS A n 7 - 1, by rw [en_fu]; omega⟩
            rw [hq, k_mm_calendar_94, mo_pcs hM hW hw, pu_b1, it_le (by omega) (by omega), if_pos (by omega)]
          rw [if_neg (show ¬ (aS A n 4 = 1 ∧ aS A n 7 < aS A n 6) from fun q => hwt q.2), if_pos rfl, if_pos h4, hsk, h0, pu_b1]
          exact ih (n + 1) _ (by omega) (by omega) (by omega)
      · rw [if_neg (show ¬ (aS A n 4 = 1 ∧ aS A n 7 < aS A n 6) from fun q => h4 q.1), if_pos rfl, if_neg h4]
        exact ih (n + 1) _ (by omega) (by omega) (by omega)
    · rw [if_pos (by omega), if_pos (by omega)]
      exact ⟨acc, rfl, rfl⟩
end cnt

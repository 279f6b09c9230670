/-! When pieces may leave: the model's times, the class's putDeparts. -/
theorem ti_nk_le (A : ab_A) (rt n v : Nat) (h2 : aS A n 2 ≤ 100) (he : ab_e A n ≤ 9999) : ∀ j, ab_nk A rt n v j ≤ max v 9999 + 1120 * j := by
  intro j
  induction j with
  | zero => simp only [ab_nk]; omega
  | succ j ih =>
    have := ab_gp_le (a := ab_sz A n (aS A n 7 + j)) (b := rt) (ab_sz_le h2)
    simp only [ab_nk]
    omega
theorem ti_in_le {A : ab_A} {t f rt : Nat} (hW : ab_W A t) (hf : f < aH A 3) : ab_in A f rt ≤ 11119 := by
  obtain ⟨-, -, -, -, q4, q5⟩ := hW.2.1 f hf
  rw [ab_in]
  split
  · omega
  · obtain ⟨q6, q7⟩ := q5 (by omega)
    have := ab_gp_le (a := aF A f 6) (b := rt) q7
    omega
theorem ti_e_le {A : ab_A} {t n : Nat} (hW : ab_W A t) (h : ab_win A n) (h1 : aS A n 4 = 1) : ab_e A n ≤ 9999 := by
  obtain ⟨-, -, -, q3, -, q5, -⟩ := hW.2.2.1 n h
  have := (q5 (Or.inl h1)).2.2.1
  have := (ab_N hW).2.2.2.2.2.2.2
  rw [ab_e]
  omega
theorem ti_ns_le {A : ab_A} {t f rt : Nat} (hW : ab_W A t) (hf : f < aH A 3) : ∀ m, aH A 6 + m ≤ aH A 5 → ab_ns A f rt m ≤ 11119 + 22400 * m := by
  intro m
  induction m with
  | zero => intro _; simp only [ab_ns]; have := ti_in_le (rt := rt) hW hf; omega
  | succ m ih =>
    intro hm
    have h1 := ih (by omega)
    simp only [ab_ns]
    split
    · rename_i hc
      have hw := ab_in_win hW (show aH A 6 ≤ aH A 6 + m by omega) (by omega)
      have h2 := ti_nk_le A rt (aH A 6 + m) (ab_ns A f rt m) (hW.2.2.1 _ hw).2.2.1.2 (ti_e_le hW hw hc.1) (aS A (aH A 6 + m) 6 - aS A (aH A 6 + m) 7)
      have h3 := ab_pc hW hw
      omega
    · omega
theorem ti_ns8 {A : ab_A} {t f rt m : Nat} (hW : ab_W A t) (hf : f < aH A 3) (hm : aH A 6 + m ≤ aH A 5) : ab_ns A f rt m ≤ 200000 := by
  have := ti_ns_le (rt := rt) hW hf m hm
  have := ab_N hW
  omega
/-- a slot's place is its own -/
theorem ti_apart {A : ab_A} {n n' k k' : Nat} (h : ab_win A n) (h' : ab_win A n') (hk : k < 20) (hk' : k' < 20) (e : 20 * (n % 8) + k = 20 * (n' % 8) + k') : n = n' ∧ k = k' := by
  obtain ⟨a1, a2⟩ := h
  obtain ⟨b1, b2⟩ := h'
  omega
section tim
variable {σ τ : en_M} {g t : Nat} {A : ab_A}
/-- the pieces of one send, the model -/
theorem ti_in1 (hW : ab_W A t) {n f v0 : Nat} (h : ab_win A n) (h1 : aS A n 4 = 1) (hf : aS A n 0 = f) (hv : v0 ≤ 200000) : ∀ (m k F : Nat) (τ : en_M), ab_MR (τ 25 0 0) A → k + m = aS A n 6 → aS A n 7 ≤ k → m < F → τ 31 0 0 f = nI (ab_nk A (aF A f 0) n v0 (k - aS A n 7)) →
    ∃ τ1, k_mm_times_101 F (nI n) (nI f) (nI k) τ = some τ1 ∧ en_fr [(30, 0), (31, 0)] τ τ1 ∧ τ1 31 0 0 f = nI (ab_nk A (aF A f 0) n v0 (aS A n 6 - aS A n 7)) ∧ (∀ f', f' ≠ f → τ1 31 0 0 f' = τ 31 0 0 f') ∧ (∀ k', k ≤ k' → k' < aS A n 6 → τ1 30 0 0 (20 * (n % 8) + k') = nI (max (ab_e A n) (ab_nk A (aF A f 0) n v0 (k' - aS A n 7)))) ∧ (∀ x, (∀ k', k ≤ k' → k' < aS A n 6 → x ≠ 20 * (n % 8) + k') → τ1 30 0 0 x = τ 30 0 0 x) := by
  have hp := ab_pc hW h
  have hN := ab_N hW
  have hn := h.1
  obtain ⟨q0, q1, q2, q3, -, q5, -⟩ := hW.2.2.1 n h
  obtain ⟨-, q6, q7, -⟩ := q5 (Or.inl h1)
  have he := ti_e_le hW h h1
  have hr := (hW.2.1 _ q0).1
  rw [hf] at hr q0
  intro m
  induction m with
  | zero =>
    intro k F τ hM h2 h3 h4 h5
    cases F with
    | zero => omega
    | succ F =>
      rw [k_mm_times_101, mo_pcs hM hW h, pu_b1, it_le (by omega) (by omega), if_pos (by omega)]
      have e : k = aS A n 6 := by omega
      rw [e] at h5
      exact ⟨τ, rfl, fr_rf _ _, h5, fun _ _ => rfl, fun k' _ _ => by omega, fun _ _ => rfl⟩
  | succ m ih =>
    intro k F τ hM h2 h3 h4 h5
    cases F with
    | zero => omega
    | succ F =>
      have hk : k < aS A n 6 := by omega
      have hm8 : n % 8 < 8 := Nat.mod_lt _ (by decide)
      have hb := ti_nk_le A (aF A f 0) n v0 q2.2 he (k - aS A n 7)
      have hg := ab_gp_le (a := ab_sz A n k) (b := aF A f 0) (ab_sz_le q2.2)
      have hsz := ab_sz_le (A := A) (n := n) (k := k) q2.2
      have e9 : aS A n 7 + (k - aS A n 7) = k := by omega
      rw [k_mm_times_101, mo_pcs hM hW h, pu_b1, it_le (by omega) (by omega), if_neg (by omega), mo_left hM hW h hk, pu_b1, if_neg (show ¬ k < aS A n 7 by omega), if_pos rfl, mo_raw hM hW (x := 5) (w := 0) rfl h (by decide), pu_b1, mo_snd hM hW (x := 3) (w := 3) rfl h (by decide), pu_b1, pu_rd (by omega) (by decide), pu_b1, q6, nu_gr (by omega) (by omega), h5, nu_gr (by omega) (by omega), mo_pl (by omega), pu_wa (by omega) (by decide), pu_b1]
      have e1 : max (max (aS A n 5) (aS A n 3)) (ab_nk A (aF A f 0) n v0 (k - aS A n 7)) = max (ab_e A n) (ab_nk A (aF A f 0) n v0 (k - aS A n 7)) := rfl
      rw [e1]
      obtain ⟨s1, hs1⟩ : ∃ s, en_wr τ 30 0 0 (20 * (n % 8) + k) (nI (max (ab_e A n) (ab_nk A (aF A f 0) n v0 (k - aS A n 7)))) = s := ⟨_, rfl⟩
      have hM1 : ab_MR (s1 25 0 0) A := by rw [← hs1, pu_wr_j (by decide)]; exact hM
      rw [hs1, mo_sz hM1 hW h hk, pu_b1, mo_flw hM1 hW (x := 0) (w := 0) rfl q0 (by decide), pu_b1, nu_gapm (by omega), pu_b1, nI_add, pu_wa (by omega) (by decide), pu_b1, nI_1]
      obtain ⟨s2, hs2⟩ : ∃ s, en_wr s1 31 0 0 f (nI (max (ab_e A n) (ab_nk A (aF A f 0) n v0 (k - aS A n 7)) + ab_gp (ab_sz A n k) (aF A f 0))) = s := ⟨_, rfl⟩
      have hM2 : ab_MR (s2 25 0 0) A := by rw [← hs2, pu_wr_j (by decide)]; exact hM1
      have hstep : ab_nk A (aF A f 0) n v0 (k + 1 - aS A n 7) = max (ab_e A n) (ab_nk A (aF A f 0) n v0 (k - aS A n 7)) + ab_gp (ab_sz A n k) (aF A f 0) := by
        rw [show k + 1 - aS A n 7 = (k - aS A n 7) + 1 by omega]
        simp only [ab_nk]
        rw [e9]
      rw [hs2]
      obtain ⟨τ1, a1, a2, a3, a4, a5, a6⟩ := ih (k + 1) F s2 hM2 (by omega) (by omega) (by omega) (by rw [← hs2, pu_wr_eq, hstep])
      refine ⟨τ1, a1, fr_tr (fr_tr (fr_wr hs1 (by simp)) (fr_wr hs2 (by simp))) a2, a3, fun f' hf' => ?_, fun k' c1 c2 => ?_, fun x hx => ?_⟩
      · rw [a4 f' hf', ← hs2, pu_wr_k hf', ← hs1, pu_wr_j (by decide)]
      · by_cases ek : k' = k
        · subst ek
          rw [a6 _ (fun k'' d1 d2 => by omega), ← hs2, pu_wr_j (by decide), ← hs1, pu_wr_eq]
        · exact a5 k' (by omega) c2
      · rw [a6 x (fun k'' d1 d2 => hx k'' (by omega) d2), ← hs2, pu_wr_j (by decide), ← hs1, pu_wr_k (hx k (Nat.le_refl _) hk)]
/-- .. those that left are passed over -/
theorem ti_in0 (hW : ab_W A t) {n f v0 : Nat} (h : ab_win A n) (h1 : aS A n 4 = 1) (hf : aS A n 0 = f) (hv : v0 ≤ 200000) : ∀ (d k F : Nat) (τ : en_M), ab_MR (τ 25 0 0) A → k + d = aS A n 7 → aS A n 6 < k + F → τ 31 0 0 f = nI v0 →
    ∃ τ1, k_mm_times_101 F (nI n) (nI f) (nI k) τ = some τ1 ∧ en_fr [(30, 0), (31, 0)] τ τ1 ∧ τ1 31 0 0 f = nI (ab_nk A (aF A f 0) n v0 (aS A n 6 - aS A n 7)) ∧ (∀ f', f' ≠ f → τ1 31 0 0 f' = τ 31 0 0 f') ∧ (∀ k', aS A n 7 ≤ k' → k' < aS A n 6 → τ1 30 0 0 (20 * (n % 8) + k') = nI (max (ab_e A n) (ab_nk A (aF A f 0) n v0 (k' - aS A n 7)))) ∧ (∀ x, (∀ k', aS A n 7 ≤ k' → k' < aS A n 6 → x ≠ 20 * (n % 8) + k') → τ1 30 0 0 x = τ 30 0 0 x) := by
  have hp := ab_pc hW h
  intro d
  induction d with
  | zero =>
    intro k F τ hM h2 h3 h4
    have e : k = aS A n 7 := by omega
    subst e
    exact ti_in1 hW h h1 hf hv (aS A n 6 - aS A n 7) (aS A n 7) F τ hM (by omega) (Nat.le_refl _) (by omega) (by rw [Nat.sub_self]; exact h4)
  | succ d ih =>
    intro k F τ hM h2 h3 h4
    cases F with
    | zero => omega
    | succ F =>
      rw [k_mm_times_101, mo_pcs hM hW h, pu_b1, it_le (by omega) (by omega), if_neg (by omega), mo_left hM hW h (by omega), pu_b1, if_pos (show k < aS A n 7 by omega), if_neg (by decide), nI_1]
      exact ih (k + 1) F τ hM (by omega) (by omega) h4
theorem ti_fl (hW : ab_W A t) : ∀ (f F : Nat) (τ : en_M), ab_MR (τ 25 0 0) A → f ≤ aH A 3 → aH A 3 < f + F → (∀ f', f' < f → τ 31 0 0 f' = nI (ab_in A f' (aF A f' 0))) → ∃ τ1, k_mm_times_2 F (nI f) τ = some τ1 ∧ en_fr [(30, 0), (31, 0)] τ τ1 ∧ ∀ f', f' < aH A 3 → τ1 31 0 0 f' = nI (ab_in A f' (aF A f' 0)) := by
  have hN := ab_N hW
  intro f F
  induction F generalizing f with
  | zero => intro τ _ h1 h2; omega
  | succ F ih =>
    intro τ hM h1 h2 h3
    have m3 := hM.1.1 3 (by decide)
    rw [k_mm_times_2, m3, it_le (by omega) (by omega)]
    by_cases hf : f < aH A 3
    · obtain ⟨q0, -, -, -, q4, q5⟩ := hW.2.1 f hf
      obtain ⟨-, r1, -⟩ := hM.2.1 f hf
      rw [if_neg (by omega), mo_flw hM hW (x := 4) (w := 4) rfl hf (by decide), pu_b1, itx_eq (a := aF A f 4) (b := 1) (y := 1) rfl rfl (by omega) (by decide)]
      by_cases hh : aF A f 4 = 1
      · obtain ⟨c1, c2⟩ := q5 hh
        have hg := ab_gp_le (a := aF A f 6) (b := aF A f 0) c2
        rw [if_pos hh, mo_fl (x := 5) (w := 5) rfl (by omega) (by decide), pu_b1, mo_fl (x := 6) (w := 6) rfl (by omega) (by decide), pu_b1, (r1 hh).1, (r1 hh).2, mo_flw hM hW (x := 0) (w := 0) rfl hf (by decide), pu_b1, nu_gapm (by omega), pu_b1, nI_add, pu_wa (by omega) (by decide), pu_b1, nI_1]
        obtain ⟨τ1, a1, a2, a3⟩ := ih (f + 1) (en_wr τ 31 0 0 f (nI (aF A f 5 + ab_gp (aF A f 6) (aF A f 0)))) (by rw [pu_wr_j (by decide)]; exact hM) (by omega) (by omega) (fun f' hf' => by
          by_cases e : f' = f
          · subst e
            rw [pu_wr_eq, ab_in, if_neg (by omega)]
          · rw [pu_wr_k e]
            exact h3 f' (by omega))
        exact ⟨τ1, a1, fr_tr (fr_wr rfl (by simp)) a2, a3⟩
      · rw [if_neg hh, pu_wa (by omega) (by decide), pu_b1, nI_1]
        obtain ⟨τ1, a1, a2, a3⟩ := ih (f + 1) (en_wr τ 31 0 0 f 0) (by rw [pu_wr_j (by decide)]; exact hM) (by omega) (by omega) (fun f' hf' => by
          by_cases e : f' = f
          · subst e
            rw [pu_wr_eq, ab_in, if_pos (by omega)]
            rfl
          · rw [pu_wr_k e]
            exact h3 f' (by omega))
        exact ⟨τ1, a1, fr_tr (fr_wr rfl (by simp)) a2, a3⟩
    · rw [if_pos (by omega)]
      exact ⟨τ, rfl, fr_rf _ _, fun f' hf' => h3 f' (by omega)⟩
theorem ti_all (hW : ab_W A t) : ∀ (F n : Nat) (τ : en_M), ab_MR (τ 25 0 0) A → aH A 6 ≤ n → n ≤ aH A 5 → aH A 5 < n + F → (∀ f, f < aH A 3 → τ 31 0 0 f = nI (ab_ns A f (aF A f 0) (n - aH A 6))) → (∀ n' k, aH A 6 ≤ n' → n' < n → aS A n' 4 = 1 → aS A n' 7 ≤ k → k < aS A n' 6 → τ 30 0 0 (20 * (n' % 8) + k) = nI (ab_de A n' k)) →
    ∃ τ1, k_mm_times_69 F (nI n) τ = some τ1 ∧ en_fr [(30, 0), (31, 0)] τ τ1 ∧ (∀ f, f < aH A 3 → τ1 31 0 0 f = nI (ab_nx A f)) ∧ (∀ n' k, aH A 6 ≤ n' → n' < aH A 5 → aS A n' 4 = 1 → aS A n' 7 ≤ k → k < aS A n' 6 → τ1 30 0 0 (20 * (n' % 8) + k) = nI (ab_de A n' k)) := by
  have hN := ab_N hW
  intro F
  induction F with
  | zero => intro n τ _ h1 h2 h3; omega
  | succ F ih =>
    intro n τ hM h1 h2 h3 h4 h5
    have m5 := hM.1.1 5 (by decide)
    rw [k_mm_times_69, m5, it_le (by omega) (by omega)]
    by_cases hn : n < aH A 5
    · have hw := ab_in_win hW h1 hn
      obtain ⟨q0, -, -, -, q4, -⟩ := hW.2.2.1 n hw
      have hp := ab_pc hW hw
      rw [if_neg (by omega), mo_snd hM hW (x := 4) (w := 4) rfl hw (by decide), pu_b1, itx_eq (a := aS A n 4) (b := 1) (y := 1) rfl rfl (by omega) (by decide)]
      have hs : ∀ f rt, ab_ns A f rt (n + 1 - aH A 6) = if aS A n 4 = 1 ∧ aS A n 7 < aS A n 6 ∧ aS A n 0 = f then ab_nk A rt n (ab_ns A f rt (n - aH A 6)) (aS A n 6 - aS A n 7) else ab_ns A f rt (n - aH A 6) := by
        intro f rt
        rw [show n + 1 - aH A 6 = (n - aH A 6) + 1 by omega]
        simp only [ab_ns]
        rw [show aH A 6 + (n - aH A 6) = n by omega]
      by_cases hst : aS A n 4 = 1
      · rw [if_pos hst, mo_snd hM hW (x := 0) (w := 0) rfl hw (by decide), pu_b1]
        have hb := ti_ns8 (rt := aF A (aS A n 0) 0) hW q0 (show aH A 6 + (n - aH A 6) ≤ aH A 5 by omega)
        obtain ⟨τ1, a1, a2, a3, a4, a5, a6⟩ := ti_in0 hW hw hst rfl hb (aS A n 7) 0 en_fu τ hM (by omega) (by rw [en_fu]; omega) (h4 _ q0)
        rw [nI_0] at a1
        have hM1 : ab_MR (τ1 25 0 0) A := by rw [a2 25 0 (by simp)]; exact hM
        rw [a1, pu_b1, nI_1]
        obtain ⟨τ2, b1, b2, b3, b4⟩ := ih (n + 1) τ1 hM1 (by omega) (by omega) (by omega) (fun f hf => by
            rw [hs]
            by_cases e : aS A n 0 = f
            · subst e
              rw [a3]
              by_cases hlt : aS A n 7 < aS A n 6
              · rw [if_pos ⟨hst, hlt, rfl⟩]
              · rw [if_neg (fun q => hlt q.2.1), show aS A n 6 - aS A n 7 = 0 by omega]
                rfl
            · rw [a4 f (fun q => e q.symm), h4 f hf, if_neg (fun q => e q.2.2)]) (fun n' k c1 c2 c3 c4 c5 => by
            by_cases e : n' = n
            · subst e
              rw [a5 k c4 c5]
              rfl
            · have hw' := ab_in_win hW c1 (show n' < aH A 5 by omega)
              have hp' := ab_pc hW hw'
              rw [a6 _ (fun k' d1 d2 => fun q => e (ti_apart hw' hw (by omega) (by omega) q).1)]
              exact h5 n' k c1 (by omega) c3 c4 c5)
        exact ⟨τ2, b1, fr_tr a2 b2, b3, b4⟩
      · rw [if_neg hst, nI_1]
        exact ih (n + 1) τ hM (by omega) (by omega) (by omega) (fun f hf => by
            rw [hs, if_neg (fun q => hst q.1)]
            exact h4 f hf) (fun n' k c1 c2 c3 c4 c5 => by
            by_cases e : n' = n
            · subst e
              exact absurd c3 hst
            · exact h5 n' k c1 (by omega) c3 c4 c5)
    · have e : n = aH A 5 := by omega
      rw [if_pos (by omega)]
      rw [e] at h4 h5
      exact ⟨τ, rfl, fr_rf _ _, h4, h5⟩
/-- the model's times -/
theorem ti_times (hM : ab_MR (τ 25 0 0) A) (hW : ab_W A t) : ∃ τ1, k_mm_times τ = some τ1 ∧ en_fr [(30, 0), (31, 0)] τ τ1 ∧ (∀ f, f < aH A 3 → τ1 31 0 0 f = nI (ab_nx A f)) ∧ (∀ n k, aH A 6 ≤ n → n < aH A 5 → aS A n 4 = 1 → aS A n 7 ≤ k → k < aS A n 6 → τ1 30 0 0 (20 * (n % 8) + k) = nI (ab_de A n k)) := by
  have hN := ab_N hW
  obtain ⟨τ1, a1, a2, a3⟩ := ti_fl hW 0 en_fu τ hM (by omega) (by rw [en_fu]; omega) (fun f' hf' => by omega)
  have hM1 : ab_MR (τ1 25 0 0) A := by rw [a2 25 0 (by simp)]; exact hM
  have m6 := hM1.1.1 6 (by decide)
  obtain ⟨τ2, b1, b2, b3, b4⟩ := ti_all hW en_fu (aH A 6) τ1 hM1 (Nat.le_refl _) (by omega) (by rw [en_fu]; omega) (fun f hf => by rw [Nat.sub_self]; exact a3 f hf) (fun n' k c1 c2 => by omega)
  rw [nI_0] at a1
  exact ⟨τ2, by rw [k_mm_times, a1, pu_b1, m6, b1, pu_b1], fr_tr a2 b2, b3, b4⟩
end tim

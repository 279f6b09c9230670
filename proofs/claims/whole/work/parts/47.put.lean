/-! The class's putDeparts. -/
theorem ab_Cs.fr {σ s : en_M} {g : Nat} {A : ab_A} {W : List (Nat × Nat)} (h : ab_Cs σ g A) (hf : en_fr W σ s) (hw : ∀ w ∈ W, w.1 ≠ 0 ∧ w.1 ≠ 13) : ab_Cs s g A := by
  have e0 : s 0 g = σ 0 g := hf 0 g (fun w hv q => (hw w hv).1 q.1.symm)
  have e1 : s 13 g = σ 13 g := hf 13 g (fun w hv q => (hw w hv).2 q.1.symm)
  obtain ⟨h1, h3⟩ := h
  refine ⟨?_, fun n hn => ?_⟩
  · simp only [ab_C1, e0]
    exact h1
  · rw [e1]
    exact h3 n hn
section put
variable {g t : Nat} {A : ab_A}
theorem pd_in (hW : ab_W A t) {n f rt v0 j3 g3 i3 : Nat} {v6 : Int32} (hj : j3 ≠ 0 ∧ j3 ≠ 13) (h : ab_win A n) (h1 : aS A n 4 = 1) (hf : aS A n 0 = f) (hrt : rt ≤ 999) (hv : v0 ≤ 200000) : ∀ (m k F : Nat) (σ : en_M), ab_Cs σ g A → k + m = aS A n 6 → aS A n 7 ≤ k → m < F →
    ∃ s1, k_cd_putDeparts_109 F g (nI f) (nI rt) g3 i3 j3 (nI (ab_nk A rt n v0 (k - aS A n 7))) v6 (n % 8) (nI (ab_e A n)) (nI k) σ = some (nI (ab_nk A rt n v0 (aS A n 6 - aS A n 7)), s1) ∧ en_fr [(j3, g3)] σ s1 ∧ (∀ k', k ≤ k' → k' < aS A n 6 → s1 j3 g3 i3 (20 * (n % 8) + k') = nI (max (ab_e A n) (ab_nk A rt n v0 (k' - aS A n 7)))) ∧ (∀ i x, ¬ (i = i3 ∧ ∃ k', aS A n 7 ≤ k' ∧ k' < aS A n 6 ∧ x = 20 * (n % 8) + k') → s1 j3 g3 i x = σ j3 g3 i x) ∧ (∀ i x, ¬ (i = i3 ∧ ∃ k', k ≤ k' ∧ k' < aS A n 6 ∧ x = 20 * (n % 8) + k') → s1 j3 g3 i x = σ j3 g3 i x) := by
  have hp := ab_pc hW h
  obtain ⟨q0, q1, q2, q3, -, q5, -⟩ := hW.2.2.1 n h
  have he := ti_e_le hW h h1
  intro m
  induction m with
  | zero =>
    intro k F σ hC h2 h3 h4
    cases F with
    | zero => omega
    | succ F =>
      have c6 := (hC.2 n h).2.2.2.2.2.2.1
      have e : k = aS A n 6 := by omega
      rw [k_cd_putDeparts_109, c6, it_le (by omega) (by omega), if_pos (by omega), e]
      exact ⟨σ, rfl, fr_rf _ _, fun k' _ _ => by omega, fun _ _ _ => rfl, fun _ _ _ => rfl⟩
  | succ m ih =>
    intro k F σ hC h2 h3 h4
    cases F with
    | zero => omega
    | succ F =>
      have hk : k < aS A n 6 := by omega
      have hm8 : n % 8 < 8 := Nat.mod_lt _ (by decide)
      have hb := ti_nk_le A rt n v0 q2.2 he (k - aS A n 7)
      have hg := ab_gp_le (a := ab_sz A n k) (b := rt) (ab_sz_le q2.2)
      have hsz := ab_sz_le (A := A) (n := n) (k := k) q2.2
      have e9 : aS A n 7 + (k - aS A n 7) = k := by omega
      have c6 := (hC.2 n h).2.2.2.2.2.2.1
      rw [k_cd_putDeparts_109, c6, it_le (by omega) (by omega), if_neg (by omega), ac_index hC hW h (by omega), show (160 : Int32) = nI 160 from rfl, it_le (by decide) (by omega), if_neg (by omega), nu_max (by omega) (by omega), pu_wa (by omega) (by decide), pu_b1]
      obtain ⟨s2, hs2⟩ : ∃ s, en_wr σ j3 g3 i3 (20 * (n % 8) + k) (nI (max (ab_e A n) (ab_nk A rt n v0 (k - aS A n 7)))) = s := ⟨_, rfl⟩
      have hf2 : en_fr [(j3, g3)] σ s2 := fr_wr hs2 (by simp)
      have hC2 : ab_Cs s2 g A := hC.fr hf2 (by simpa using hj)
      rw [hs2, ac_size hC2 hW h hk, nu_gap (by omega), pu_b1, nI_add, nI_1]
      have hstep : max (ab_e A n) (ab_nk A rt n v0 (k - aS A n 7)) + ab_gp (ab_sz A n k) rt = ab_nk A rt n v0 (k + 1 - aS A n 7) := by
        rw [show k + 1 - aS A n 7 = (k - aS A n 7) + 1 by omega]
        simp only [ab_nk]
        rw [e9]
      rw [hstep]
      obtain ⟨s1, a1, a2, a3, a4, a5⟩ := ih (k + 1) F s2 hC2 (by omega) (by omega) (by omega)
      refine ⟨s1, a1, fr_tr hf2 a2, fun k' c1 c2 => ?_, fun i x hx => ?_, fun i x hx => ?_⟩
      · by_cases ek : k' = k
        · subst ek
          rw [a5 i3 _ (fun q => by
            obtain ⟨-, k'', d1, d2, d3⟩ := q
            omega), ← hs2, pu_wr_eq]
        · exact a3 k' (by omega) c2
      · rw [a4 i x hx, ← hs2, pu_wr_ne]
        exact fun q => hx ⟨q.2.2.1, k, h3, hk, q.2.2.2⟩
      · rw [a5 i x (fun q => hx ⟨q.1, by
          obtain ⟨-, k'', d1, d2, d3⟩ := q
          exact ⟨k'', by omega, d2, d3⟩⟩), ← hs2, pu_wr_ne]
        exact fun q => hx ⟨q.2.2.1, k, Nat.le_refl _, hk, q.2.2.2⟩
theorem pd_all (hW : ab_W A t) {f rt j3 g3 i3 : Nat} (hj : j3 ≠ 0 ∧ j3 ≠ 13) (hf : f < aH A 3) (hrt : rt ≤ 999) : ∀ (F n : Nat) (σ : en_M), ab_Cs σ g A → aH A 6 ≤ n → n ≤ aH A 5 → aH A 5 < n + F →
    ∃ s1, k_cd_putDeparts_48 F g (nI f) (nI rt) g3 i3 j3 (nI (ab_ns A f rt (n - aH A 6))) (nI n) σ = some (nI (ab_ns A f rt (aH A 5 - aH A 6)), s1) ∧ en_fr [(j3, g3)] σ s1 ∧ (∀ n' k, n ≤ n' → n' < aH A 5 → aS A n' 4 = 1 → aS A n' 0 = f → aS A n' 7 ≤ k → k < aS A n' 6 → s1 j3 g3 i3 (20 * (n' % 8) + k) = nI (ab_dp A rt n' k)) ∧ (∀ i x, ¬ (i = i3 ∧ ∃ n' k, n ≤ n' ∧ n' < aH A 5 ∧ aS A n' 4 = 1 ∧ aS A n' 0 = f ∧ aS A n' 7 ≤ k ∧ k < aS A n' 6 ∧ x = 20 * (n' % 8) + k) → s1 j3 g3 i x = σ j3 g3 i x) := by
  have hN := ab_N hW
  intro F
  induction F with
  | zero => intro n σ _ h1 h2 h3; omega
  | succ F ih =>
    intro n σ hC h1 h2 h3
    have c5 := hC.1.2.2.2.2.2.1
    rw [k_cd_putDeparts_48, c5, it_le (by omega) (by omega)]
    by_cases hn : n < aH A 5
    · have hw := ab_in_win hW h1 hn
      obtain ⟨q0, q1, q2, q3, q4, q5, -⟩ := hW.2.2.1 n hw
      have hp := ab_pc hW hw
      obtain ⟨-, d1, -, -, d4, -, -, d7, d8, -⟩ := hC.2 n hw
      have hs : ab_ns A f rt (n + 1 - aH A 6) = if aS A n 4 = 1 ∧ aS A n 7 < aS A n 6 ∧ aS A n 0 = f then ab_nk A rt n (ab_ns A f rt (n - aH A 6)) (aS A n 6 - aS A n 7) else ab_ns A f rt (n - aH A 6) := by
        rw [show n + 1 - aH A 6 = (n - aH A 6) + 1 by omega]
        simp only [ab_ns]
        rw [show aH A 6 + (n - aH A 6) = n by omega]
      rw [if_neg (by omega), ac_sendAt hC hW hw, pu_b1]
      simp only []
      rw [ac_waits hC hW hw]
      by_cases hwt : aS A n 4 = 1 ∧ aS A n 7 < aS A n 6
      · rw [if_pos hwt, if_neg (by decide), d1, itx_eq (a := aS A n 0) (b := f) rfl rfl (by omega) (by omega)]
        by_cases hfl : aS A n 0 = f
        · obtain ⟨-, q6, q7, -⟩ := q5 (Or.inl hwt.1)
          have hb := ti_ns8 (rt := rt) hW hf (show aH A 6 + (n - aH A 6) ≤ aH A 5 by omega)
          have he : (if nI (aS A n 5) < nI (aS A n 3) then nI (aS A n 3) else nI (aS A n 5)) = nI (ab_e A n) := by
            rw [nu_max (by omega) (by omega)]
            rfl
          rw [if_pos hfl, d8, q6, d4, he, d7]
          obtain ⟨s2, a1, a2, a3, a4, -⟩ := pd_in (g := g) (g3 := g3) (i3 := i3) (v6 := nI n) hW hj hw hwt.1 hfl hrt hb (aS A n 6 - aS A n 7) (aS A n 7) en_fu σ hC (by omega) (Nat.le_refl _) (by rw [en_fu]; omega)
          have e0 : ab_nk A rt n (ab_ns A f rt (n - aH A 6)) (aS A n 7 - aS A n 7) = ab_ns A f rt (n - aH A 6) := by
            rw [Nat.sub_self]
            rfl
          rw [e0] at a1
          have hC2 : ab_Cs s2 g A := hC.fr a2 (by simpa using hj)
          rw [a1, pu_b2, nI_1]
          obtain ⟨s1, b1, b2, b3, b4⟩ := ih (n + 1) s2 hC2 (by omega) (by omega) (by omega)
          rw [hs, if_pos ⟨hwt.1, hwt.2, hfl⟩] at b1
          refine ⟨s1, b1, fr_tr a2 b2, fun n' k c1 c2 c3 c4 c5 c6 => ?_, fun i x hx => ?_⟩
          · by_cases e : n' = n
            · subst e
              rw [b4 i3 _ (fun q => by
                obtain ⟨-, n'', k'', e1, e2, e3, e4, e5, e6, e7⟩ := q
                have hw'' := ab_in_win hW (show aH A 6 ≤ n'' by omega) e2
                have hp'' := ab_pc hW hw''
                have := (ti_apart hw hw'' (by omega) (by omega) e7).1
                omega), a3 k c5 c6]
              rw [ab_dp, hfl]
            · exact b3 n' k (by omega) c2 c3 c4 c5 c6
          · rw [b4 i x (fun q => hx ⟨q.1, by
              obtain ⟨-, n'', k'', e1, e2⟩ := q
              exact ⟨n'', k'', by omega, e2⟩⟩), a4 i x (fun q => hx ⟨q.1, by
              obtain ⟨-, k'', e1, e2, e3⟩ := q
              exact ⟨n, k'', Nat.le_refl _, hn, hwt.1, hfl, e1, e2, e3⟩⟩)]
        · rw [if_neg hfl, nI_1]
          obtain ⟨s1, b1, b2, b3, b4⟩ := ih (n + 1) σ hC (by omega) (by omega) (by omega)
          rw [hs, if_neg (fun q => hfl q.2.2)] at b1
          refine ⟨s1, b1, b2, fun n' k c1 c2 c3 c4 c5 c6 => ?_, fun i x hx => ?_⟩
          · by_cases e : n' = n
            · subst e
              exact absurd c4 hfl
            · exact b3 n' k (by omega) c2 c3 c4 c5 c6
          · exact b4 i x (fun q => hx ⟨q.1, by
              obtain ⟨-, n'', k'', e1, e2⟩ := q
              exact ⟨n'', k'', by omega, e2⟩⟩)
      · rw [if_neg hwt, if_pos rfl, nI_1]
        obtain ⟨s1, b1, b2, b3, b4⟩ := ih (n + 1) σ hC (by omega) (by omega) (by omega)
        rw [hs, if_neg (fun q => hwt ⟨q.1, q.2.1⟩)] at b1
        refine ⟨s1, b1, b2, fun n' k c1 c2 c3 c4 c5 c6 => ?_, fun i x hx => ?_⟩
        · by_cases e : n' = n
          · subst e
            exact absurd ⟨c3, by omega⟩ hwt
          · exact b3 n' k (by omega) c2 c3 c4 c5 c6
        · exact b4 i x (fun q => hx ⟨q.1, by
            obtain ⟨-, n'', k'', e1, e2⟩ := q
            exact ⟨n'', k'', by omega, e2⟩⟩)
    · have e : n = aH A 5 := by omega
      rw [if_pos (by omega), e]
      exact ⟨σ, rfl, fr_rf _ _, fun n' k c1 c2 => by omega, fun _ _ _ => rfl⟩
/-- putDeparts -/
theorem pd_put {σ : en_M} {f : Nat} (hC : ab_Cs σ g A) (h4 : σ 12 g f 4 = (if aF A f 4 = 0 then -1 else nI (aF A f 5))) (h5 : σ 12 g f 5 = nI (if aF A f 4 = 0 then 0 else aF A f 6)) (hW : ab_W A t) {rt j3 g3 i3 : Nat} (hj : j3 ≠ 0 ∧ j3 ≠ 13) (hf : f < aH A 3) (hrt : rt ≤ 999) :
    ∃ s1, k_cd_putDeparts g (nI f) (nI rt) j3 g3 i3 σ = some (nI (ab_ns A f rt (aH A 5 - aH A 6)), s1) ∧ en_fr [(j3, g3)] σ s1 ∧ (∀ n' k, aH A 6 ≤ n' → n' < aH A 5 → aS A n' 4 = 1 → aS A n' 0 = f → aS A n' 7 ≤ k → k < aS A n' 6 → s1 j3 g3 i3 (20 * (n' % 8) + k) = nI (ab_dp A rt n' k)) ∧ (∀ i x, ¬ (i = i3 ∧ ∃ n' k, aH A 6 ≤ n' ∧ n' < aH A 5 ∧ aS A n' 4 = 1 ∧ aS A n' 0 = f ∧ aS A n' 7 ≤ k ∧ k < aS A n' 6 ∧ x = 20 * (n' % 8) + k) → s1 j3 g3 i x = σ j3 g3 i x) := by
  have hN := ab_N hW
  have c6 := hC.1.2.2.2.2.2.2.1
  obtain ⟨-, -, -, -, q4, q5⟩ := hW.2.1 f hf
  obtain ⟨s1, a1, a2⟩ := pd_all (g := g) (g3 := g3) (i3 := i3) hW hj hf hrt en_fu (aH A 6) σ hC (Nat.le_refl _) (by omega) (by rw [en_fu]; omega)
  refine ⟨s1, ?_, a2⟩
  have e0 : ab_ns A f rt (aH A 6 - aH A 6) = ab_in A f rt := by
    rw [Nat.sub_self]
    rfl
  rw [e0] at a1
  rw [k_cd_putDeparts, ac_flowIn hC hW hf, pu_b1]
  simp only []
  by_cases hh : aF A f 4 = 0
  · rw [h4, if_pos hh, if_pos rfl, c6]
    rw [ab_in, if_pos hh, nI_0] at a1
    rw [a1, pu_b2]
  · obtain ⟨r1, r2⟩ := q5 (by omega)
    rw [ab_in, if_neg hh] at a1
    rw [h4, if_neg hh, it_m1 (by omega), h5, if_neg hh, nu_gap (by omega), pu_b1, c6, nI_add, a1, pu_b2]
end put

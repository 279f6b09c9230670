/-! What a flow tells; holders; what is done; the calendar. -/
theorem q_times {σ τ : en_M} {t : Nat} {A : ab_A} (h : Rel σ τ t) (hA : ab_PR σ 0 (τ 25 0 0) A t) : ∃ s, k_mm_times τ = some s ∧ s 24 0 0 0 = τ 24 0 0 0 ∧ Rel σ s t ∧ ab_PR σ 0 (s 25 0 0) A t ∧ (∀ f, f < aH A 3 → s 31 0 0 f = nI (ab_nx A f)) ∧ (∀ n k, aH A 6 ≤ n → n < aH A 5 → aS A n 4 = 1 → aS A n 7 ≤ k → k < aS A n 6 → s 30 0 0 (20 * (n % 8) + k) = nI (ab_de A n k)) := by
  obtain ⟨s, a1, a2, a3, a4⟩ := ti_times hA.2.1 hA.2.2.1
  have ej : ∀ j, j ≠ 30 → j ≠ 31 → s j 0 = τ j 0 := fun j q1 q2 => a2 j 0 (by simp [q1, q2])
  have hA' : ab_PR σ 0 (s 25 0 0) A t := by rw [ej 25 (by decide) (by decide)]; exact hA
  obtain ⟨-, b2, b3, b4, b5, b6, b7⟩ := h
  have e24 : s 24 0 = τ 24 0 := ej 24 (by decide) (by decide)
  exact ⟨s, a1, by rw [e24], ⟨⟨A, hA'⟩, hi_fr b2 rfl (fun _ _ _ _ => rfl) (by rw [e24]) (ej 28 (by decide) (by decide)) (Nat.le_refl _) b7, im_fr b3 rfl (fun _ _ => rfl) (by rw [e24]) (ej 27 (by decide) (by decide)) (Nat.le_refl _) b7, by rw [e24]; exact b4, by rw [e24]; exact b5, tx_fr b6 rfl rfl (by rw [e24]) (ej 29 (by decide) (by decide)), b7⟩, hA', a3, a4⟩
theorem pb_calendar {σ τ : en_M} {t : Nat} (h : Rel σ τ t) (v w : Int32) : ∃ a x τ1, k_cc_calendar v w σ = some a ∧ k_mm_calendar v w τ = some (x, τ1) ∧ rl_A [(0, 1)] a x (τ1 24 0 0 0) ∧ Rel σ τ1 t := by
  by_cases hv : k_mm_isIn v 1 99 = 0
  · obtain ⟨s, s1, s2, s3, s4⟩ := q_bad h (v := 1) (by decide)
    refine ⟨.inl 0, 0, s, ?_, ?_, ?_, s4⟩
    · rw [k_cc_calendar, in_eq, if_pos hv]
    · rw [k_mm_calendar, if_pos hv, pu_let, s1, if_neg s3]
    · show (_, _) ∈ _
      rw [s2]
      simp
  by_cases hw : k_mm_isIn w 0 9999 = 0
  · obtain ⟨s, s1, s2, s3, s4⟩ := q_bad h (v := 1) (by decide)
    refine ⟨.inl 0, 0, s, ?_, ?_, ?_, s4⟩
    · rw [k_cc_calendar, in_eq, if_neg hv, in_eq, if_pos hw]
    · rw [k_mm_calendar, if_neg hv, if_pos hw, pu_let, s1, if_neg s3]
    · show (_, _) ∈ _
      rw [s2]
      simp
  obtain ⟨n, rfl, hn1, hn9⟩ := in_of (a := 1) (b := 99) (by decide) (by decide) hv
  obtain ⟨k, rfl, -, hk9⟩ := in_of (a := 0) (b := 9999) (by decide) (by decide) hw
  obtain ⟨s, s1, s2, s3, s4, A, hA⟩ := q_set h
  obtain ⟨s6, r1, r2, r3, r4, r5, r6⟩ := q_times s4 hA
  have hN := ab_N hA.2.2.1
  have hkn : k * n ≤ 9999 * 99 := Nat.mul_le_mul hk9 hn9
  have cT := hA.1.1.1.2.2.2.1
  have cR := hA.1.1.1.2.2.2.2.2.2.1
  have mT : s6 25 0 0 4 = nI (aH A 4) := r4.2.1.1.1 4 (by decide)
  have mR : s6 25 0 0 6 = nI (aH A 6) := r4.2.1.1.1 6 (by decide)
  have key : ∃ x, k_cd_departingIn_8 en_fu 0 (nI (if k = 0 then 0 else aH A 4 + k * n)) (nI (aH A 4 + k * n + n)) 0 (nI (aH A 6)) σ = some x ∧ k_mm_calendar_66 en_fu (nI n) (nI k) (nI (aH A 4 + k * n)) 0 (nI (aH A 6)) s6 = some x := by
    refine cl_all hA.1 hA.2.2.1 (F := if k = 0 then 0 else aH A 4 + k * n) (E := aH A 4 + k * n + n) ?_ (by omega) (by omega) r4.2.1 r6 (by rw [nI_add]) (fun q => ?_) (fun q => ?_) en_fu (aH A 6) 0 (Nat.le_refl _) (by omega) (by rw [en_fu]; omega)
    · split <;> omega
    · rw [show (0 : Int32) = nI 0 from rfl, pu_eq (by omega) (by decide)] at q
      rw [if_pos q]
    · rw [if_neg (fun e => q (by rw [e]; rfl))]
  obtain ⟨x, k1, k2⟩ := key
  refine ⟨.inr x, x, s6, ?_, ?_, ⟨by rw [r2, s2], rfl⟩, r3⟩
  · rw [k_cc_calendar, in_eq, if_neg hv, in_eq, if_neg hw, itx_eq (a := k) (b := 0) (y := 0) rfl rfl (by omega) (by decide), cT, pk_mul, nI_add, nI_add]
    by_cases e : k = 0
    · rw [if_pos e, k_cd_departingIn, cR, show (0 : Int32) = nI 0 from rfl]
      rw [if_pos e, show (0 : Int32) = nI 0 from rfl] at k1
      rw [k1, pu_b1, pu_b1]
    · rw [if_neg e, k_cd_departingIn, cR]
      rw [if_neg e] at k1
      rw [k1, pu_b1, pu_b1]
  · rw [k_mm_calendar, if_neg hv, if_neg hw, pu_let, s1, if_pos s3, r1, pu_b1, mT, mR, pk_mul, nI_add, k2, pu_b1]
theorem pb_done {σ τ : en_M} {t : Nat} (h : Rel σ τ t) (v w : Int32) : ∃ x τ1, k_cc_done v w σ = some x ∧ k_mm_done v w τ = some (x, τ1) ∧ τ1 24 0 0 0 = 0 ∧ Rel σ τ1 t := by
  obtain ⟨s, s1, s2, s3, s4, A, hA⟩ := q_set h
  have hD := hA.2.2.1.1.2.2.2.2.2.2.2.2.2.2.1
  have hN := ab_N hA.2.2.1
  have m19 : s 25 0 0 19 = nI (min 20 (aH A 10)) := hA.2.1.1.2.2.2.2.2.2.2.2.2.2.2
  obtain ⟨k8, k9⟩ := hA.1.1.2.2.2.2.2.2.1
  have fin : ∀ x y : Int32, x = y → ∃ x' τ1, some x = some x' ∧ some (y, s) = some (x', τ1) ∧ τ1 24 0 0 0 = 0 ∧ Rel σ τ1 t := fun x y e => ⟨x, s, rfl, by rw [e], s2, s4⟩
  rw [k_cc_done, k_mm_done, pu_let, s1, m19]
  rcases lr_in (v := v) (L := min 20 (aH A 10)) (by omega) with ⟨l1, l2⟩ | ⟨i, rfl, i1, l1⟩
  · have hh : k_fi_has 0 v σ = 0 := by
      rw [k_fi_has, k8]
      rcases l2 with q | ⟨q1, q2⟩
      · rw [if_pos q]
      · rw [if_neg q1]
        by_cases c : 20 ≤ v
        · rw [if_pos c]
        · rw [if_neg c, if_pos]
          rw [nu_lx (by omega)] at q2 ⊢
          rw [show (20 : Int32) = nI 20 from rfl, nu_lx (by decide)] at c
          omega
    rw [if_pos l1, k_fi_sendOf, hh, if_pos rfl, k_fi_timeOf, hh, if_pos rfl, pu_b1]
    split <;> exact fin _ _ rfl
  · have hh : ¬ k_fi_has 0 (nI i) σ = 0 := by
      rw [k_fi_has, k8, it_neg (by omega), itx_le (a := 20) (b := i) (x := 20) rfl rfl (by decide) (by omega), if_neg (by omega), it_le (by omega) (by omega), if_neg (by omega)]
      decide
    obtain ⟨L, hL⟩ : ∃ L, min 20 (aH A 10) = L + 1 := ⟨min 20 (aH A 10) - 1, by omega⟩
    have m6 := fun w hw => hA.2.1.2.2.2.2.2 i w (by omega) (by omega) hw
    have m60 := m6 0 (by decide)
    have m61 := m6 1 (by decide)
    rw [hL] at m60 m61 i1
    obtain ⟨q1, q2⟩ := k9 i (by omega) (by omega)
    obtain ⟨D, hDD⟩ : ∃ D, aH A 10 = D + 1 := ⟨aH A 10 - 1, by omega⟩
    rw [hDD] at q1 q2 k8
    have hx : (D + 1 - 1 - i) % 20 < 20 := Nat.mod_lt _ (by decide)
    rw [if_neg l1, k_fi_sendOf, if_neg hh, k_fi_timeOf, if_neg hh, k8, hL, nI_pred, nI_pred, pk_sub (by omega), pk_sub (by omega), show (20 : Int32) = nI 20 from rfl, nu_fm (by omega) (by decide) (by decide), show D - i = D + 1 - 1 - i by omega, pu_rd hx (by decide), pu_rd hx (by decide), pu_b1, pu_b1, pu_b1, pu_b1, q1, q2, show (898 : Int32) = nI 898 from rfl, show (2 : Int32) = nI 2 from rfl, pk_mul, nI_add, nI_1, show (0 : Int32) = nI 0 from rfl, nI_add, pu_rd (by omega) (by decide), pu_rd (by omega) (by decide), pu_b1, pu_b1]
    by_cases e : w = nI 0
    · rw [if_pos e, if_pos e]
      refine fin _ _ ?_
      rw [← m60, show L + 1 - 1 - i = L - i by omega]
    · rw [if_neg e, if_neg e]
      refine fin _ _ ?_
      rw [← m61, show L + 1 - 1 - i = L - i by omega]

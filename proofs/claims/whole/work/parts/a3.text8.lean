/-! Texts: acts as it is called. -/
def te_m (x : Option (Int32 × Int32 × en_M)) : Option (Int32 × en_M) := en_b3 x fun x87 x88 s90 =>
    if (s90 24 0 0 12) = (-1) then
      en_let (en_wr s90 24 0 0 0 0) fun s121 =>
      if (s121 24 0 0 0) = 0 then
        if x87 ≤ 0 then
          en_let (en_wr s121 24 0 0 7 (s121 24 0 0 7)) fun s136 =>
          en_let (en_wr s136 24 0 0 5 0) fun s138 =>
          some (x87, s138)
        else
          en_let (en_wr s121 24 0 0 7 0) fun s140 =>
          en_let (en_wr s140 24 0 0 5 0) fun s142 =>
          some (x87, s142)
      else
        if x88 ≤ 0 then
          en_let (en_wr s121 24 0 0 7 (s121 24 0 0 7)) fun s125 =>
          en_b1 (k_mm_acts_220 en_fu 0 s125) fun s128 =>
          some (0, s128)
        else
          en_let (en_wr s121 24 0 0 7 x88) fun s130 =>
          en_b1 (k_mm_acts_220 en_fu 0 s130) fun s133 =>
          some (0, s133)
    else
      en_let (en_wr s90 24 0 0 0 1) fun s93 =>
      if (s93 24 0 0 0) = 0 then
        if x87 ≤ 0 then
          en_let (en_wr s93 24 0 0 7 (s93 24 0 0 7)) fun s113 =>
          en_let (en_wr s113 24 0 0 5 0) fun s115 =>
          some (x87, s115)
        else
          en_let (en_wr s93 24 0 0 7 0) fun s117 =>
          en_let (en_wr s117 24 0 0 5 0) fun s119 =>
          some (x87, s119)
      else
        if x88 ≤ 0 then
          en_let (en_wr s93 24 0 0 7 (s93 24 0 0 7)) fun s97 =>
          en_b1 (k_mm_acts_220 en_fu 0 s97) fun s105 =>
          some (0, s105)
        else
          en_let (en_wr s93 24 0 0 7 x88) fun s107 =>
          en_b1 (k_mm_acts_220 en_fu 0 s107) fun s110 =>
          some (0, s110)
def te_c (x : Option (Int32 × en_M)) : Option ((Nat ⊕ Int32) × en_M) := en_b2 x fun t3 s4 =>
  en_let (en_wr s4 14 0 0 10 (s4 20 0 0 5)) fun s6 =>
  en_let (en_wr s6 20 0 0 1 0) fun s8 =>
  if t3 = (-1) then
    en_b1 (k_cd_copyFrom 0 1 s8) fun s16 =>
    some (.inl 0, s16)
  else
    en_b1 (k_hi_forget s8) fun s11 =>
    if t3 ≤ 0 then
      some (.inr t3, s11)
    else
      en_let (en_wr s11 14 0 0 9 0) fun s14 =>
      some (.inr t3, s14)
/-- what stays of all while a text is read -/
def te_B (σ τ σ1 τ1 : en_M) : Prop := (∀ j g, j < 14 → 2 ≤ g → σ1 j g = σ j g) ∧ σ1 15 0 = σ 15 0 ∧ (∀ k, k ≠ 9 → σ1 14 0 0 k = σ 14 0 0 k) ∧ τ1 24 0 0 9 = 0 ∧ (∀ k, k = 5 ∨ k = 6 ∨ k = 7 → τ1 24 0 0 k = τ 24 0 0 k) ∧ τ1 27 0 = τ 27 0 ∧ τ1 28 0 = τ 28 0
theorem te_txt {σ τ : en_M} (h1 : σ 20 0 0 1 = 0) (h2 : τ 24 0 0 9 = 0) : rl_txt σ τ := ⟨0, by omega, h1, h2, fun i hi => by omega⟩
/-- a text that is right -/
theorem te_right {σ τ σ1 τ1 : en_M} {t u k : Nat} {A : ab_A} (h : Rel σ τ t) (hb : te_B σ τ σ1 τ1) (hA : ab_PR σ1 0 (τ1 25 0 0) A u) (htu : t ≤ u) (hu : u ≤ 7168) (hk : k ≤ 14) (f1 : σ1 20 0 0 5 = -1) (f2 : τ1 24 0 0 12 = -1) (h9 : σ1 14 0 0 9 = σ 14 0 0 9) : ∃ σ2 τ2, te_c (some (nI k, σ1)) = some (.inr (nI k), σ2) ∧ te_m (some (nI k, 0, τ1)) = some (nI k, τ2) ∧ τ2 24 0 0 0 = 0 ∧ Rel σ2 τ2 u := by
  obtain ⟨-, b2, b3, b4, b5, b6, b7⟩ := h
  obtain ⟨c1, c2, c3, c4, c5, c6, c7⟩ := hb
  obtain ⟨s6, hs6⟩ : ∃ z, en_wr σ1 14 0 0 10 (-1) = z := ⟨_, rfl⟩
  obtain ⟨s8, hs8⟩ : ∃ z, en_wr s6 20 0 0 1 0 = z := ⟨_, rfl⟩
  obtain ⟨sa, hsa⟩ : ∃ z, en_wr s8 15 0 0 1 0 = z := ⟨_, rfl⟩
  obtain ⟨s11, hs11⟩ : ∃ z, en_wr sa 15 0 0 2 0 = z := ⟨_, rfl⟩
  obtain ⟨ta, hta⟩ : ∃ z, en_wr τ1 24 0 0 0 0 = z := ⟨_, rfl⟩
  have j11 : ∀ j, j ≠ 14 → j ≠ 20 → j ≠ 15 → s11 j = σ1 j := fun j q1 q2 q3 => by rw [← hs11, pu_wr_j q3, ← hsa, pu_wr_j q3, ← hs8, pu_wr_j q2, ← hs6, pu_wr_j q1]
  have k14 : ∀ k, k ≠ 10 → s11 14 0 0 k = σ1 14 0 0 k := fun k q => by rw [← hs11, pu_wr_j (by decide), ← hsa, pu_wr_j (by decide), ← hs8, pu_wr_j (by decide), ← hs6, pu_wr_k q]
  have k10 : s11 14 0 0 10 = -1 := by rw [← hs11, pu_wr_j (by decide), ← hsa, pu_wr_j (by decide), ← hs8, pu_wr_j (by decide), ← hs6, pu_wr_eq]
  have k20 : s11 20 0 0 1 = 0 := by rw [← hs11, pu_wr_j (by decide), ← hsa, pu_wr_j (by decide), ← hs8, pu_wr_eq]
  have k151 : s11 15 0 0 1 = 0 := by rw [← hs11, pu_wr_k (by decide), ← hsa, pu_wr_eq]
  have k152 : s11 15 0 0 2 = 0 := by rw [← hs11, pu_wr_eq]
  have hta0 : ta 24 0 0 0 = 0 := by rw [← hta, pu_wr_eq]
  have hne : ¬ nI k = -1 := by rw [nu_m1 (by omega)]; exact fun q => q
  have ec : te_c (some (nI k, σ1)) = if nI k ≤ 0 then some (.inr (nI k), s11) else some (.inr (nI k), en_wr s11 14 0 0 9 0) := by
    rw [te_c, pu_b2, f1, pu_let, hs6, pu_let, hs8, if_neg hne, k_hi_forget, pu_let, hsa, pu_let, hs11, pu_b1]
    rfl
  have em : te_m (some (nI k, 0, τ1)) = if nI k ≤ 0 then some (nI k, en_wr (en_wr ta 24 0 0 7 (ta 24 0 0 7)) 24 0 0 5 0) else some (nI k, en_wr (en_wr ta 24 0 0 7 0) 24 0 0 5 0) := by
    rw [te_m, pu_b3, if_pos f2, pu_let, hta, if_pos hta0]
    rfl
  have fin : ∀ (σ2 τ2 : en_M) (w : Int32), (∀ j, j ≠ 14 → σ2 j = s11 j) → (∀ k, k ≠ 9 → σ2 14 0 0 k = s11 14 0 0 k) → σ2 14 0 0 9 = w → en_wr (en_wr ta 24 0 0 7 w) 24 0 0 5 0 = τ2 → τ2 24 0 0 0 = 0 ∧ Rel σ2 τ2 u := fun σ2 τ2 w q1 q2 q3 q4 => by
    have tj : ∀ j, j ≠ 24 → τ2 j = τ1 j := fun j q => by rw [← q4, pu_wr_j q, pu_wr_j q, ← hta, pu_wr_j q]
    have tk : ∀ k, k ≠ 0 → k ≠ 5 → k ≠ 7 → τ2 24 0 0 k = τ1 24 0 0 k := fun k z0 z5 z7 => by rw [← q4, pu_wr_k z5, pu_wr_k z7, ← hta, pu_wr_k z0]
    refine ⟨by rw [← q4, pu_wr_k (by decide), pu_wr_k (by decide), hta0], ⟨A, ?_⟩, ⟨0, 0, by omega, by omega, by rw [q1 15 (by decide)]; exact k151, by rw [q1 15 (by decide)]; exact k152, by rw [← q4, pu_wr_eq]; rfl, fun i hi => by omega⟩, im_fr b3 ?_ ?_ ?_ ?_ htu hu, ?_, ?_, te_txt ?_ ?_, hu⟩
    · rw [tj 25 (by decide)]
      exact PR_fr hA (fun j q => by rw [q1 j (by omega), j11 j (by omega) (by omega) (by omega)])
    · rw [q2 8 (by decide), k14 8 (by decide), c3 8 (by decide)]
    · exact fun j q => by rw [q1 j (by omega), j11 j (by omega) (by omega) (by omega), c1 j 2 q (by omega)]
    · rw [tk 6 (by decide) (by decide) (by decide), c5 6 (by decide)]
    · rw [tj 27 (by decide), c6]
    · rw [q3, ← q4, pu_wr_k (by decide), pu_wr_eq]
    · rw [q2 10 (by decide), k10, tk 12 (by decide) (by decide) (by decide), f2]
    · rw [q1 20 (by decide), k20]
    · rw [tk 9 (by decide) (by decide) (by decide), c4]
  by_cases hz : nI k ≤ 0
  · rw [if_pos hz] at ec em
    obtain ⟨z1, z2⟩ := fin s11 _ (ta 24 0 0 7) (fun _ _ => rfl) (fun _ _ => rfl) (by rw [k14 9 (by decide), h9, b4, ← hta, pu_wr_k (by decide), c5 7 (by decide)]) rfl
    exact ⟨_, _, ec, em, z1, z2⟩
  · rw [if_neg hz] at ec em
    obtain ⟨z1, z2⟩ := fin (en_wr s11 14 0 0 9 0) _ 0 (fun j q => by rw [pu_wr_j q]) (fun k q => by rw [pu_wr_k q]) pu_wr_eq rfl
    exact ⟨_, _, ec, em, z1, z2⟩
/-- a text that is wrong -/
theorem te_wrong {σ τ σ1 τ1 : en_M} {t w : Nat} {A : ab_A} {k code : Int32} (h : Rel σ τ t) (hb : te_B σ τ σ1 τ1) (hA : ab_PR σ1 1 (τ 25 0 0) A t) (h26 : ∀ x, x < 938 → τ1 26 0 0 x = τ 25 0 0 x) (hw : w ≤ 400) (f1 : σ1 20 0 0 5 = nI w) (f2 : τ1 24 0 0 12 = nI w) (h9 : ta_w σ σ1 code) : ∃ σ2 τ2 x, te_c (some (-1, σ1)) = some (.inl 0, σ2) ∧ te_m (some (k, code, τ1)) = some (x, τ2) ∧ τ2 24 0 0 0 = 1 ∧ Rel σ2 τ2 t := by
  obtain ⟨-, b2, b3, b4, b5, b6, b7⟩ := h
  obtain ⟨c1, c2, c3, c4, c5, c6, c7⟩ := hb
  obtain ⟨s6, hs6⟩ : ∃ z, en_wr σ1 14 0 0 10 (nI w) = z := ⟨_, rfl⟩
  obtain ⟨s8, hs8⟩ : ∃ z, en_wr s6 20 0 0 1 0 = z := ⟨_, rfl⟩
  have j8 : ∀ j, j ≠ 14 → j ≠ 20 → s8 j = σ1 j := fun j q1 q2 => by rw [← hs8, pu_wr_j q2, ← hs6, pu_wr_j q1]
  have hA8 : ab_PR s8 1 (τ 25 0 0) A t := PR_fr hA (fun j q => by rw [j8 j (by omega) (by omega)])
  obtain ⟨σ2, p1, p2⟩ := cp_card (g := 0) (g1 := 1) (σ := s8) (by omega) hA8.1.1.2.2.2.1
  obtain ⟨g1, g2⟩ := fc_card (q := 0) (f_cd_copyFrom p1)
  have hA2 : ab_PR σ2 0 (τ 25 0 0) A t := PR_cls hA8 p2
  have k14 : ∀ k, k ≠ 10 → σ2 14 0 0 k = σ1 14 0 0 k := fun k q => by rw [g2 14 0 (by decide), ← hs8, pu_wr_j (by decide), ← hs6, pu_wr_k q]
  have k10 : σ2 14 0 0 10 = nI w := by rw [g2 14 0 (by decide), ← hs8, pu_wr_j (by decide), ← hs6, pu_wr_eq]
  have k20 : σ2 20 0 0 1 = 0 := by rw [g2 20 0 (by decide), ← hs8, pu_wr_eq]
  have ec : te_c (some (-1, σ1)) = some (.inl 0, σ2) := by
    rw [te_c, pu_b2, f1, pu_let, hs6, pu_let, hs8, if_pos rfl, p1, pu_b1]
  obtain ⟨ta, hta⟩ : ∃ z, en_wr τ1 24 0 0 0 1 = z := ⟨_, rfl⟩
  have hta0 : ta 24 0 0 0 = 1 := by rw [← hta, pu_wr_eq]
  have f2' : ¬ τ1 24 0 0 12 = -1 := by rw [f2, nu_m1 (by omega)]; exact fun q => q
  have em : te_m (some (k, code, τ1)) = if code ≤ 0 then en_b1 (k_mm_acts_220 en_fu 0 (en_wr ta 24 0 0 7 (ta 24 0 0 7))) fun s105 => some (0, s105) else en_b1 (k_mm_acts_220 en_fu 0 (en_wr ta 24 0 0 7 code)) fun s110 => some (0, s110) := by
    rw [te_m, pu_b3, if_neg f2', pu_let, hta, if_neg (show ¬ ta 24 0 0 0 = 0 by rw [hta0]; decide), pu_let, pu_let]
  have fin : ∀ (v : Int32), σ1 14 0 0 9 = v → ∃ τ2, k_mm_acts_220 en_fu 0 (en_wr ta 24 0 0 7 v) = some τ2 ∧ τ2 24 0 0 0 = 1 ∧ Rel σ2 τ2 t := fun v hv => by
    obtain ⟨τ2, r1, r2, -, r4⟩ := cy_acts en_fu 0 (en_wr ta 24 0 0 7 v) (by omega) (by rw [en_fu]; omega)
    have tj : ∀ j, j ≠ 24 → j ≠ 25 → τ2 j 0 = τ1 j 0 := fun j q1 q2 => by rw [r4 j 0 (by simp [q2]), pu_wr_j q1, ← hta, pu_wr_j q1]
    have tk : ∀ k, k ≠ 0 → k ≠ 7 → τ2 24 0 0 k = τ1 24 0 0 k := fun k z0 z7 => by rw [r4 24 0 (by simp), pu_wr_k z7, ← hta, pu_wr_k z0]
    refine ⟨τ2, r1, by rw [r4 24 0 (by simp), pu_wr_k (by decide), hta0], ⟨A, PR_row hA2 (fun x hx => ?_)⟩, hi_fr b2 ?_ ?_ ?_ ?_ (Nat.le_refl _) b7, im_fr b3 ?_ ?_ ?_ ?_ (Nat.le_refl _) b7, ?_, ?_, te_txt k20 ?_, b7⟩
    · rw [r2 x (by omega) hx, pu_wr_j (by decide), ← hta, pu_wr_j (by decide), h26 x hx]
    · rw [g2 15 0 (by decide), j8 15 (by decide) (by decide), c2]
    · exact fun j g q1 q2 => by rw [g1 j g (by omega), j8 j (by omega) (by omega), c1 j g q1 (by omega)]
    · rw [tk 5 (by decide) (by decide), c5 5 (by decide)]
    · rw [tj 28 (by decide) (by decide), c7]
    · rw [k14 8 (by decide), c3 8 (by decide)]
    · exact fun j q => by rw [g1 j 2 (by decide), j8 j (by omega) (by omega), c1 j 2 q (by omega)]
    · rw [tk 6 (by decide) (by decide), c5 6 (by decide)]
    · rw [tj 27 (by decide) (by decide), c6]
    · rw [k14 9 (by decide), hv, r4 24 0 (by simp), pu_wr_eq]
    · rw [k10, tk 12 (by decide) (by decide), f2]
    · rw [tk 9 (by decide) (by decide), c4]
  rcases h9 with ⟨q1, q2⟩ | ⟨q1, q2⟩
  · obtain ⟨τ2, z1, z2, z3⟩ := fin (ta 24 0 0 7) (by rw [q2, b4, ← hta, pu_wr_k (by decide), c5 7 (by decide)])
    rw [q1, if_pos (by decide), z1, pu_b1] at em
    exact ⟨σ2, τ2, 0, ec, by rw [q1]; exact em, z2, z3⟩
  · obtain ⟨τ2, z1, z2, z3⟩ := fin code q2
    rw [if_neg q1, z1, pu_b1] at em
    exact ⟨σ2, τ2, 0, ec, em, z2, z3⟩
theorem pb_acts {σ τ : en_M} {t : Nat} (h : Rel σ τ t) (ht : t + 14 ≤ 7168) : ∃ a x σ1 τ1, k_cc_acts σ = some (a, σ1) ∧ k_mm_acts τ = some (x, τ1) ∧ rl_A [(0, 1)] a x (τ1 24 0 0 0) ∧ Rel σ1 τ1 (t + 14) := by
  have h0 := h
  obtain ⟨⟨A, hA⟩, b2, b3, b4, b5, ⟨l, l1, l2, l3, l4⟩, b7⟩ := h
  obtain ⟨B, hB⟩ : ∃ B : Nat → Nat, ∀ i, i < l → B i < 256 ∧ τ 29 0 0 i = nI (B i) ∧ σ 21 0 0 i = (nI (B i)).toInt8.toInt32 := by
    refine ⟨fun i => if q : i < l then Classical.choose (l4 i q) else 0, fun i q => ?_⟩
    have := Classical.choose_spec (l4 i q)
    simp only [dif_pos q]
    exact this
  -- the class
  obtain ⟨s1, p1, p2⟩ := cp_card (g := 1) (g1 := 0) (σ := σ) (by omega) hA.1.1.2.2.2.1
  obtain ⟨f1, f2⟩ := fc_card (q := 1) (f_cd_copyFrom p1)
  obtain ⟨sa, hsa⟩ : ∃ z, en_wr s1 20 0 0 5 (-1) = z := ⟨_, rfl⟩
  obtain ⟨sb, hsb⟩ : ∃ z, en_wr sa 20 0 0 4 0 = z := ⟨_, rfl⟩
  have jb : ∀ j, j ≠ 20 → sb j = s1 j := fun j q => by rw [← hsb, pu_wr_j q, ← hsa, pu_wr_j q]
  have hCb : tx_C sb B l := ⟨l1, by rw [← hsb, pu_wr_k (by decide), ← hsa, pu_wr_k (by decide), f2 20 0 (by decide)]; exact l2, fun i hi => ⟨(hB i hi).1, by rw [jb 21 (by decide), f2 21 0 (by decide)]; exact (hB i hi).2.2⟩⟩
  obtain ⟨so, o1, o2, o3⟩ := tp_adv hCb (p := 0) (by omega) (by rw [← hsb, pu_wr_eq]; rfl)
  have hop : k_tp_open s1 = some so := by rw [k_tp_open, pu_let, hsa, pu_let, hsb, o1, pu_b1]
  have so5 : so 20 0 0 5 = -1 := by rw [o3.2.2, ← hsb, pu_wr_k (by decide), ← hsa, pu_wr_eq]
  have joj : ∀ j, j ≠ 20 → so j = s1 j := fun j q => by rw [o3.1 j q, jb j q]
  -- the model
  obtain ⟨m1, hm1⟩ : ∃ z, en_wr τ 24 0 0 12 (-1) = z := ⟨_, rfl⟩
  obtain ⟨m3, hm3⟩ : ∃ z, en_wr m1 24 0 0 10 (m1 24 0 0 9) = z := ⟨_, rfl⟩
  obtain ⟨m5, hm5⟩ : ∃ z, en_wr m3 24 0 0 9 0 = z := ⟨_, rfl⟩
  obtain ⟨m7, hm7⟩ : ∃ z, en_wr m5 24 0 0 11 0 = z := ⟨_, rfl⟩
  obtain ⟨m9, r1, r2, r3⟩ := cy_puts m7
  have mj : ∀ j, j ≠ 24 → j ≠ 26 → m9 j 0 = τ j 0 := fun j q1 q2 => by rw [r3 j 0 (by simp [q2]), ← hm7, pu_wr_j q1, ← hm5, pu_wr_j q1, ← hm3, pu_wr_j q1, ← hm1, pu_wr_j q1]
  have mk : ∀ k, k ≠ 9 → k ≠ 10 → k ≠ 11 → k ≠ 12 → m9 24 0 0 k = τ 24 0 0 k := fun k q1 q2 q3 q4 => by rw [r3 24 0 (by simp), ← hm7, pu_wr_k q3, ← hm5, pu_wr_k q1, ← hm3, pu_wr_k q2, ← hm1, pu_wr_k q4]
  have m_10 : m9 24 0 0 10 = nI l := by rw [r3 24 0 (by simp), ← hm7, pu_wr_k (by decide), ← hm5, pu_wr_k (by decide), ← hm3, pu_wr_eq, ← hm1, pu_wr_k (by decide)]; exact l3
  have m_9 : m9 24 0 0 9 = 0 := by rw [r3 24 0 (by simp), ← hm7, pu_wr_k (by decide), ← hm5, pu_wr_eq]
  have m_11 : m9 24 0 0 11 = nI 0 := by rw [r3 24 0 (by simp), ← hm7, pu_wr_eq]; rfl
  have m_12 : m9 24 0 0 12 = -1 := by rw [r3 24 0 (by simp), ← hm7, pu_wr_k (by decide), ← hm5, pu_wr_k (by decide), ← hm3, pu_wr_k (by decide), ← hm1, pu_wr_eq]
  have m_26 : ∀ x, x < 938 → m9 26 0 0 x = τ 25 0 0 x := fun x hx => by rw [r2 x hx, ← hm7, pu_wr_j (by decide), ← hm5, pu_wr_j (by decide), ← hm3, pu_wr_j (by decide), ← hm1, pu_wr_j (by decide)]
  have hM9 : tx_M m9 B l := ⟨l1, m_10, fun i hi => ⟨(hB i hi).1, by rw [mj 29 (by decide) (by decide)]; exact (hB i hi).2.1⟩⟩
  obtain ⟨m12, n1, n2, n3, n4⟩ := tm_here hM9 (p := 0) (by omega) m_11
  obtain ⟨b, hb⟩ : ∃ b, tx_run tx_bl B l 0 = b := ⟨_, rfl⟩
  rw [hb] at n1 n2 o2
  have hbl : b ≤ l ∧ tx_run tx_bl B l b = b := by
    rw [← hb]
    exact ⟨(tx_bd (P := tx_bl) (B := B) (show 0 ≤ l by omega)).2.1, tx_idem (by omega)⟩
  have hM12 := tx_M_f hM9 n4
  have hS : tx_S so m12 B l b b := ⟨tx_C_f hCb o3, hM12, o2, n2, hbl.1, hbl.2, so5, by rw [n3]; exact m_12⟩
  have hP0 : ab_PR so 0 (m12 25 0 0) A t := by
    rw [n4.1 25 (by decide), mj 25 (by decide) (by decide)]
    exact PR_fr hA (fun j q => by rw [joj j (by omega), f1 j 0 (by decide)])
  have hP1 : ab_PR so 1 (τ 25 0 0) A t := PR_fr (PR_cls hA p2) (fun j q => by rw [joj j (by omega)])
  have ec : k_cc_acts σ = te_c (if (k_tp_atEnd so) = 0 then tl_c en_fu 1 so else some (0, so)) := by
    rw [k_cc_acts, p1, pu_b1, k_cc_readActs, hop, pu_b1]
    rfl
  have em : k_mm_acts τ = te_m (if l ≤ b then k_mm_acts_48 en_fu 0 0 0 m12 else k_mm_acts_48 en_fu 0 0 1 m12) := by
    rw [k_mm_acts, pu_let, hm1, pu_let, hm3, pu_let, hm5, pu_let, hm7, r1, pu_b1, n1, pu_b2, hM12.2.1, it_le (by omega) (by omega)]
    by_cases q : l ≤ b
    · rw [if_pos q, if_pos q]
      rfl
    · rw [if_neg q, if_neg q]
      rfl
  have base : ∀ {σ1 τ1 : en_M}, tc_f so σ1 → mf_f m12 τ1 → te_B σ τ σ1 τ1 ∧ (∀ x, x < 938 → τ1 26 0 0 x = τ 25 0 0 x) ∧ ab_PR σ1 1 (τ 25 0 0) A t := fun {σ1 τ1} q1 q2 => by
    refine ⟨⟨fun j g z1 z2 => ?_, ?_, fun k z => ?_, ?_, fun k z => ?_, ?_, ?_⟩, fun x hx => ?_, PR_fr hP1 (fun j q => ?_)⟩
    · rw [q1.1 j g (by omega) (by omega) (by omega) (by omega), joj j (by omega), f1 j g (by omega)]
    · rw [q1.1 15 0 (by omega) (by omega) (by omega) (by omega), joj 15 (by decide), f2 15 0 (by decide)]
    · rw [q1.2 k z, joj 14 (by decide), f2 14 0 (by decide)]
    · rw [q2.1 9 (by decide) (by decide) (by decide) (by decide), n4.2 9 (by decide) (by decide), m_9]
    · rw [q2.1 k (by omega) (by omega) (by omega) (by omega), n4.2 k (by omega) (by omega), mk k (by omega) (by omega) (by omega) (by omega)]
    · rw [q2.2.2.1, n4.1 27 (by decide), mj 27 (by decide) (by decide)]
    · rw [q2.2.2.2.1, n4.1 28 (by decide), mj 28 (by decide) (by decide)]
    · rw [q2.2.1, n4.1 26 (by decide), m_26 x hx]
    · rw [q1.1 j 1 (by omega) (by omega) (by omega) (by omega)]
  have so9 : so 14 0 0 9 = σ 14 0 0 9 := by rw [joj 14 (by decide), f2 14 0 (by decide)]
  by_cases cl : l ≤ b
  · have hk : k_tp_atEnd so = 1 := by rw [k_tp_atEnd, o2.2.1, tx_k, if_pos cl]; rfl
    rw [hk, if_neg (show ¬ (1 : Int32) = 0 by decide)] at ec
    rw [if_pos cl, show en_fu = 99999 + 1 from rfl, tl_out0] at em
    obtain ⟨z1, -, -⟩ := base (tc_rf so) (mf_t (tm_f_rf m12))
    obtain ⟨σ2, τ2, y1, y2, y3, y4⟩ := te_right (k := 0) h0 z1 (PR_mono hP0 (show t ≤ t + 14 by omega) ht) (by omega) ht (by omega) so5 (by rw [n3]; exact m_12) so9
    exact ⟨.inr 0, 0, σ2, τ2, ec.trans y1, em.trans y2, ⟨y3, rfl⟩, y4⟩
  · have hk3 : tx_k B l b ≤ 3 ∧ tx_k B l b ≠ 0 := by
      rw [tx_k, if_neg cl]
      split
      · omega
      · split <;> omega
    have hk : k_tp_atEnd so = 0 := by rw [k_tp_atEnd, o2.2.1, itx_eq (a := tx_k B l b) (b := 0) (y := 0) rfl rfl (by omega) (by decide), if_neg hk3.2]
    rw [hk, if_pos rfl] at ec
    rw [if_neg cl] at em
    obtain ⟨σ1, τ1, g1, g2, g3⟩ := tl_loop 14 0 en_fu en_fu t so m12 A b b (by omega) (by rw [en_fu]; omega) (by rw [en_fu]; omega) hS hP0 (by omega)
    obtain ⟨z1, z2, z3⟩ := base g1 g2
    have ec' : k_cc_acts σ = te_c (tl_c en_fu (nI (0 + 1)) so) := ec
    have em' : k_mm_acts τ = te_m (k_mm_acts_48 en_fu (nI 0) 0 1 m12) := em
    rcases g3 with ⟨k, A1, q1, q2, q3, q4, ⟨b', p', q5⟩, q6, q7⟩ | ⟨k, code, w, q1, q2, q3, q4⟩
    · rw [q1] at ec'
      rw [q2] at em'
      obtain ⟨σ2, τ2, y1, y2, y3, y4⟩ := te_right (k := k) h0 z1 q7 (by omega) ht q4 q5.2.2.2.2.2.2.1 q5.2.2.2.2.2.2.2 (by rw [q6, so9])
      exact ⟨_, _, σ2, τ2, ec'.trans y1, em'.trans y2, ⟨y3, rfl⟩, y4⟩
    · rw [q1] at ec'
      rw [q2] at em'
      have q4' : ta_w σ σ1 code := by
        rcases q4 with ⟨a, b⟩ | a
        · exact Or.inl ⟨a, by rw [b, so9]⟩
        · exact Or.inr a
      obtain ⟨σ2, τ2, x, y1, y2, y3, y4⟩ := te_wrong (k := k) h0 z1 z3 z2 q3.2.2.1 q3.2.2.2.1 q3.2.2.2.2.1 q4'
      exact ⟨_, x, σ2, τ2, ec'.trans y1, em'.trans y2, by show (_, _) ∈ _; rw [y3]; simp, Rel_mono y4 (by omega) ht⟩

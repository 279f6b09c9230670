/-! What one call of the law does to both sides, over one store. -/
theorem fr_hi {W : List (Nat × Nat)} {σ σ1 : en_M} (h : en_fr W σ σ1) (hW : W.all (fun w => Nat.blt w.1 24) = true) : ∀ j, 24 ≤ j → σ1 j = σ j := by
  intro j hj
  funext g
  refine h j g (fun w hw e => ?_)
  have h1 := List.all_eq_true.mp hW w hw
  have h2 : w.1 + 1 ≤ 24 := Nat.le_of_ble_eq_true h1
  have h3 := e.1
  omega
theorem fj_hi {W : List Nat} {σ σ1 : en_M} (h : en_fj W σ σ1) (hW : W.all (fun w => Nat.blt w 24) = true) : ∀ j, 24 ≤ j → σ1 j = σ j := by
  intro j hj
  refine h j (fun w hw e => ?_)
  have h1 := List.all_eq_true.mp hW w hw
  have h2 : w + 1 ≤ 24 := Nat.le_of_ble_eq_true h1
  omega
theorem fr_lo {W : List (Nat × Nat)} {σ σ1 : en_M} (h : en_fr W σ σ1) (hW : W.all (fun w => Nat.ble 24 w.1 && Nat.ble w.1 35) = true) : ∀ j, j < 24 ∨ j = 36 → σ1 j = σ j := by
  intro j hj
  funext g
  refine h j g (fun w hw e => ?_)
  have h1 := List.all_eq_true.mp hW w hw
  simp only [Bool.and_eq_true] at h1
  have h2 := Nat.le_of_ble_eq_true h1.1
  have h4 := Nat.le_of_ble_eq_true h1.2
  have h3 := e.1
  omega
theorem fj_lo {W : List Nat} {σ σ1 : en_M} (h : en_fj W σ σ1) (hW : W.all (fun w => Nat.ble 24 w && Nat.ble w 35) = true) : ∀ j, j < 24 ∨ j = 36 → σ1 j = σ j := by
  intro j hj
  refine h j (fun w hw e => ?_)
  have h1 := List.all_eq_true.mp hW w hw
  simp only [Bool.and_eq_true] at h1
  have h2 := Nat.le_of_ble_eq_true h1.1
  have h4 := Nat.le_of_ble_eq_true h1.2
  omega
theorem Rel_m {σ τ τ' : en_M} {t : Nat} (h : Rel σ τ t) (e : ∀ j, 24 ≤ j → j ≤ 35 → τ' j = τ j) : Rel σ τ' t := by
  obtain ⟨⟨A, hA⟩, b2, b3, b4, b5, b6, b7⟩ := h
  have e24 := e 24 (by decide) (by decide)
  have e25 := e 25 (by decide) (by decide)
  have e27 := e 27 (by decide) (by decide)
  have e28 := e 28 (by decide) (by decide)
  have e29 := e 29 (by decide) (by decide)
  exact ⟨⟨A, by rw [e25]; exact hA⟩, hi_fr b2 rfl (fun _ _ _ _ => rfl) (by rw [e24]) (by rw [e28]) (Nat.le_refl _) b7, im_fr b3 rfl (fun _ _ => rfl) (by rw [e24]) (by rw [e27]) (Nat.le_refl _) b7, by rw [e24]; exact b4, by rw [e24]; exact b5, tx_fr b6 rfl rfl (by rw [e24]) (by rw [e29]), b7⟩
theorem Rel_c {σ σ' τ : en_M} {t : Nat} (h : Rel σ τ t) (e : ∀ j, j < 24 → σ' j = σ j) : Rel σ' τ t := by
  obtain ⟨⟨A, hA⟩, b2, b3, b4, b5, b6, b7⟩ := h
  exact ⟨⟨A, PR_fr hA (fun j hj => by rw [e j (by omega)])⟩, hi_fr b2 (by rw [e 15 (by decide)]) (fun j g hj _ => by rw [e j (by omega)]) rfl rfl (Nat.le_refl _) b7, im_fr b3 (by rw [e 14 (by decide)]) (fun j hj => by rw [e j (by omega)]) rfl rfl (Nat.le_refl _) b7, by rw [e 14 (by decide)]; exact b4, by rw [e 14 (by decide)]; exact b5, tx_fr b6 (by rw [e 20 (by decide)]) (by rw [e 21 (by decide)]) rfl rfl, b7⟩
theorem Rel_t {σ τ : en_M} {t t' : Nat} (h : Rel σ τ t) (h1 : t ≤ t') (h2 : t' ≤ 7168) : Rel σ τ t' := by
  obtain ⟨⟨A, hA⟩, b2, b3, b4, b5, b6, b7⟩ := h
  exact ⟨⟨A, PR_mono hA h1 h2⟩, hi_fr b2 rfl (fun _ _ _ _ => rfl) rfl rfl h1 h2, im_fr b3 rfl (fun _ _ => rfl) rfl rfl h1 h2, b4, b5, b6, h2⟩
theorem lw_two {C : en_M → Option ((Nat ⊕ Int32) × en_M)} {M : en_M → Option (Int32 × en_M)} {E : List (Nat × Int32)} {t t' : Nat} (f : Int32 → Int32) (hE : ∀ q ∈ E, ¬ q.2 = 0)
    (hp : ∀ σ τ, Rel σ τ t → ∃ a x σ1 τ1, C σ = some (a, σ1) ∧ M τ = some (x, τ1) ∧ rl_A E a x (τ1 24 0 0 0) ∧ Rel σ1 τ1 t')
    (hC : ∀ σ r, C σ = some r → ∀ j, 24 ≤ j → r.2 j = σ j) (hM : ∀ σ r, M σ = some r → ∀ j, j < 24 ∨ j = 36 → r.2 j = σ j) {μ : en_M} (h : Rel μ μ t) :
    ∃ a x σ1 τ1, C μ = some (a, σ1) ∧ M (lw_out f a σ1) = some (x, τ1) ∧ rl_A E a x (τ1 24 0 0 0) ∧ Rel τ1 τ1 t' ∧ (τ1 24 0 0 0 = 0 → τ1 36 0 0 0 = f x) := by
  obtain ⟨a, x0, σ1, τ0, h1, -, -, -⟩ := hp μ μ h
  have e1 : ∀ j, 24 ≤ j → σ1 j = μ j := hC μ _ h1
  have e2 : ∀ j, j ≠ 36 → lw_out f a σ1 j = σ1 j := by
    intro j hj
    cases a with
    | inl n => rfl
    | inr y => exact pu_wr_j hj
  obtain ⟨a', x, σ1', τ1, h1', h2, h3, h4⟩ := hp μ (lw_out f a σ1) (Rel_m h (fun j q1 q2 => by rw [e2 j (by omega)]; exact e1 j q1))
  rw [h1] at h1'
  obtain ⟨rfl, rfl⟩ := Prod.mk.inj (Option.some.inj h1')
  have e3 : ∀ j, j < 24 ∨ j = 36 → τ1 j = lw_out f a σ1 j := hM _ _ h2
  refine ⟨a, x, σ1, τ1, h1, h2, h3, Rel_c h4 (fun j hj => ?_), fun h0 => ?_⟩
  · rw [e3 j (Or.inl hj), e2 j (by omega)]
  · cases a with
    | inl n => exact absurd h0 (hE _ h3)
    | inr y =>
      rw [e3 36 (Or.inr rfl), h3.2]
      exact pu_wr_eq
theorem lw_twoQ {C : en_M → Option (Nat ⊕ Int32)} {M : en_M → Option (Int32 × en_M)} {E : List (Nat × Int32)} {t t' : Nat} (f : Int32 → Int32) (hE : ∀ q ∈ E, ¬ q.2 = 0)
    (hp : ∀ σ τ, Rel σ τ t → ∃ a x τ1, C σ = some a ∧ M τ = some (x, τ1) ∧ rl_A E a x (τ1 24 0 0 0) ∧ Rel σ τ1 t')
    (hM : ∀ σ r, M σ = some r → ∀ j, j < 24 ∨ j = 36 → r.2 j = σ j) {μ : en_M} (h : Rel μ μ t) :
    ∃ a x τ1, C μ = some a ∧ M (lw_out f a μ) = some (x, τ1) ∧ rl_A E a x (τ1 24 0 0 0) ∧ Rel τ1 τ1 t' ∧ (τ1 24 0 0 0 = 0 → τ1 36 0 0 0 = f x) := by
  have key : ∀ (σ : en_M) (r : (Nat ⊕ Int32) × en_M), (C σ).map (fun a => (a, σ)) = some r → C σ = some r.1 ∧ r.2 = σ := by
    intro σ r hr
    cases hc : C σ with
    | none => rw [hc] at hr; cases hr
    | some a =>
      rw [hc] at hr
      have := Option.some.inj hr
      rw [← this]
      exact ⟨rfl, rfl⟩
  obtain ⟨a, x, σ1, τ1, h1, h2, h3, h4, h5⟩ := lw_two (C := fun σ => (C σ).map (fun a => (a, σ))) (M := M) (E := E) (t := t) (t' := t') f hE (fun σ τ h => by
    obtain ⟨a, x, τ1, q1, q2, q3, q4⟩ := hp σ τ h
    exact ⟨a, x, σ, τ1, by rw [q1]; rfl, q2, q3, q4⟩) (fun σ r hr j _ => by rw [(key σ r hr).2]) hM h
  obtain ⟨g1, g2⟩ := key μ _ h1
  have g3 : σ1 = μ := g2
  rw [g3] at h2
  exact ⟨a, x, τ1, g1, h2, h3, h4, h5⟩
theorem lw_one {C M : en_M → Option (Int32 × en_M)} {t t' : Nat} (hp : ∀ σ τ, Rel σ τ t → ∃ x σ1 τ1, C σ = some (x, σ1) ∧ M τ = some (x, τ1) ∧ Rel σ1 τ1 t')
    (hC : ∀ σ r, C σ = some r → ∀ j, 24 ≤ j → r.2 j = σ j) (hM : ∀ σ r, M σ = some r → ∀ j, j < 24 ∨ j = 36 → r.2 j = σ j) {μ : en_M} (h : Rel μ μ t) :
    ∃ x σ1 τ1, C μ = some (x, σ1) ∧ M σ1 = some (x, τ1) ∧ Rel τ1 τ1 t' := by
  obtain ⟨x, σ1, τ0, h1, -, -⟩ := hp μ μ h
  have e1 : ∀ j, 24 ≤ j → σ1 j = μ j := hC μ _ h1
  obtain ⟨x', σ1', τ1, h1', h2, h4⟩ := hp μ σ1 (Rel_m h (fun j q1 q2 => e1 j q1))
  rw [h1] at h1'
  obtain ⟨rfl, rfl⟩ := Prod.mk.inj (Option.some.inj h1')
  have e3 : ∀ j, j < 24 ∨ j = 36 → τ1 j = σ1 j := hM _ _ h2
  exact ⟨x, σ1, τ1, h1, h2, Rel_c h4 (fun j hj => e3 j (Or.inl hj))⟩
theorem lw_oneQ {C : en_M → Int32 → Prop} {M : en_M → Option (Int32 × en_M)} {t t' : Nat} (hp : ∀ σ τ, Rel σ τ t → ∃ x τ1, C σ x ∧ M τ = some (x, τ1) ∧ Rel σ τ1 t')
    (hM : ∀ σ r, M σ = some r → ∀ j, j < 24 ∨ j = 36 → r.2 j = σ j) {μ : en_M} (h : Rel μ μ t) :
    ∃ x τ1, C μ x ∧ M μ = some (x, τ1) ∧ Rel τ1 τ1 t' := by
  obtain ⟨x, τ1, h1, h2, h4⟩ := hp μ μ h
  have e3 : ∀ j, j < 24 ∨ j = 36 → τ1 j = μ j := hM _ _ h2
  exact ⟨x, τ1, h1, h2, Rel_c h4 (fun j hj => e3 j (Or.inl hj))⟩
theorem lw_bell {t : Nat} (ht : t + 1 ≤ 7168) {μ : en_M} (h : Rel μ μ t) : ∃ x σ1 τ1, k_cc_bell μ = some (.inr x, σ1) ∧ k_mm_bell σ1 = some (x, τ1) ∧ Rel τ1 τ1 (t + 1) := by
  obtain ⟨a, x0, σ1, τ0, h1, -, h3, -⟩ := pb_bell h ht
  cases a with
  | inl n => simp [rl_A] at h3
  | inr y =>
    have e1 : ∀ j, 24 ≤ j → σ1 j = μ j := fj_hi (f_cc_bell h1) rfl
    obtain ⟨a', x, σ1', τ1, h1', h2, h3', h4⟩ := pb_bell (Rel_m h (τ' := σ1) (fun j q1 q2 => e1 j q1)) ht
    rw [h1] at h1'
    obtain ⟨rfl, rfl⟩ := Prod.mk.inj (Option.some.inj h1')
    have e3 : ∀ j, j < 24 ∨ j = 36 → τ1 j = σ1 j := fr_lo (f_mm_bell h2) rfl
    exact ⟨y, σ1, τ1, h1, by rw [h2, h3'.2], Rel_c h4 (fun j hj => e3 j (Or.inl hj))⟩
theorem lw_image {t : Nat} {μ : en_M} (h : Rel μ μ t) : ∃ σ1 τ1, k_cc_image μ = some σ1 ∧ k_mm_image σ1 = some τ1 ∧ Rel τ1 τ1 t := by
  obtain ⟨σ1, τ0, h1, -, -, -⟩ := pb_image h
  have e1 : ∀ j, 24 ≤ j → σ1 j = μ j := fr_hi (f_cc_image h1) rfl
  obtain ⟨σ1', τ1, h1', h2, -, h4⟩ := pb_image (Rel_m h (τ' := σ1) (fun j q1 q2 => e1 j q1))
  rw [h1] at h1'
  obtain rfl := Option.some.inj h1'
  have e3 : ∀ j, j < 24 ∨ j = 36 → τ1 j = σ1 j := fr_lo (f_mm_image h2) rfl
  exact ⟨σ1, τ1, h1, h2, Rel_c h4 (fun j hj => e3 j (Or.inl hj))⟩

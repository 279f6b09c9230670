/-! Frames: which (kind, card) of the store a method's function may write. -/
def en_fr (W : List (Nat × Nat)) (σ σ1 : en_M) : Prop := ∀ j g, (∀ w ∈ W, ¬ (j = w.1 ∧ g = w.2)) → σ1 j g = σ j g
theorem en_if_h {α : Type} {c : Prop} {d : Decidable c} {a b r : α} (h : @ite α c d a b = r) : (c ∧ a = r) ∨ (¬ c ∧ b = r) := by
  by_cases hc : c
  · rw [if_pos hc] at h
    exact Or.inl ⟨hc, h⟩
  · rw [if_neg hc] at h
    exact Or.inr ⟨hc, h⟩
theorem fr_rf (W : List (Nat × Nat)) (σ : en_M) : en_fr W σ σ := fun _ _ _ => rfl
theorem fr_tr {W : List (Nat × Nat)} {a b c : en_M} (h : en_fr W a b) (k : en_fr W b c) : en_fr W a c := fun j g hw => (k j g hw).trans (h j g hw)
theorem fr_sub {V W : List (Nat × Nat)} {a b : en_M} (h : en_fr V a b) (k : ∀ w ∈ V, w ∈ W) : en_fr W a b := fun j g hw => h j g (fun w hv => hw w (k w hv))
theorem fr_nil {W : List (Nat × Nat)} : ∀ w ∈ ([] : List (Nat × Nat)), w ∈ W := fun _ h => nomatch h
theorem fr_wr {W : List (Nat × Nat)} {σ σ1 : en_M} {j g i k : Nat} {v : Int32} (e : en_wr σ j g i k v = σ1) (h : (j, g) ∈ W) : en_fr W σ σ1 := by
  intro j' g' hw
  subst e
  funext i' k'
  exact pu_wr_ne (fun z => hw _ h ⟨z.1, z.2.1⟩)
theorem fr_wa {W : List (Nat × Nat)} {σ σ1 : en_M} {n j g i : Nat} {x v : Int32} (e : en_wa n σ j g i x v = some σ1) (h : (j, g) ∈ W) : en_fr W σ σ1 := by
  simp only [en_wa] at e
  split at e
  · exact fr_wr (Option.some.inj e) h
  · cases e
def en_fj (J : List Nat) (σ σ1 : en_M) : Prop := ∀ j, (∀ w ∈ J, ¬ j = w) → σ1 j = σ j
theorem fj_rf (J : List Nat) (σ : en_M) : en_fj J σ σ := fun _ _ => rfl
theorem fj_tr {J : List Nat} {a b c : en_M} (h : en_fj J a b) (k : en_fj J b c) : en_fj J a c := fun j hw => (k j hw).trans (h j hw)
theorem fj_sub {V W : List Nat} {a b : en_M} (h : en_fj V a b) (k : ∀ w ∈ V, w ∈ W) : en_fj W a b := fun j hw => h j (fun w hv => hw w (k w hv))
theorem fj_fr {W : List (Nat × Nat)} {a b : en_M} (h : en_fr W a b) : en_fj (W.map Prod.fst) a b := fun j hw => funext fun g => h j g (fun w hv q => hw w.1 (List.mem_map.mpr ⟨w, hv, rfl⟩) q.1)
theorem fj_wr {J : List Nat} {σ σ1 : en_M} {j g i k : Nat} {v : Int32} (e : en_wr σ j g i k v = σ1) (h : j ∈ J) : en_fj J σ σ1 := by
  intro j' hw
  subst e
  exact pu_wr_j (hw j h)
theorem fr_cp {W : List (Nat × Nat)} {σ σ1 : en_M} {j0 g0 i0 j g i n : Nat} (e : en_cp σ j0 g0 i0 j g i n = σ1) (h : (j, g) ∈ W) : en_fr W σ σ1 := by
  intro j' g' hw
  subst e
  funext i' k'
  simp only [en_cp]
  rw [if_neg]
  exact fun z => hw _ h ⟨z.1, z.2.1⟩
theorem f_mm_here_0 : ∀ {f0 : Nat} {σ : en_M} {r : en_M} (h : k_mm_here_0 f0 σ = some r), en_fr [(24, 0)] σ r := by
  intro f0
  induction f0 with
  | zero => intro σ r h; cases h
  | succ f9 ih =>
    intro σ r h
    rw [k_mm_here_0] at h
    rcases en_if_h h with ⟨-, h⟩ | ⟨-, h⟩
    ·
      cases h
      exact (fr_rf [(24, 0)] σ)
    ·
      obtain ⟨t2, e101, h⟩ := en_b1_h h
      rcases en_if_h h with ⟨-, h⟩ | ⟨-, h⟩
      ·
        obtain ⟨s5, e103, h⟩ := en_let_h h
        have f104 : en_fr [(24, 0)] σ s5 := fr_tr (fr_rf [(24, 0)] σ) (fr_wr e103 (List.mem_of_getElem? (i := 0) rfl))
        exact fr_tr f104 (ih h)
      ·
        cases h
        exact (fr_rf [(24, 0)] σ)
theorem f_mm_here {σ : en_M} {r : Int32 × en_M} (h : k_mm_here σ = some r) : en_fr [(24, 0)] σ r.2 := by
  rw [k_mm_here] at h
  obtain ⟨s7, e101, h⟩ := en_b1_h h
  have f102 : en_fr [(24, 0)] σ s7 := fr_tr (fr_rf [(24, 0)] σ) (f_mm_here_0 e101)
  cases h
  exact f102
theorem f_mm_wrong {v1 : Int32} {σ : en_M} {r : en_M} (h : k_mm_wrong v1 σ = some r) : en_fr [(24, 0)] σ r := by
  rw [k_mm_wrong] at h
  rcases en_if_h h with ⟨-, h⟩ | ⟨-, h⟩
  ·
    obtain ⟨s2, e101, h⟩ := en_let_h h
    have f102 : en_fr [(24, 0)] σ s2 := fr_tr (fr_rf [(24, 0)] σ) (fr_wr e101 (List.mem_of_getElem? (i := 0) rfl))
    cases h
    exact f102
  ·
    cases h
    exact (fr_rf [(24, 0)] σ)
theorem f_mm_number_18 : ∀ {f0 : Nat} {v1 : Int32} {v2 : Int32} {v3 : Int32} {v4 : Int32} {σ : en_M} {r : Int32 × en_M} (h : k_mm_number_18 f0 v1 v2 v3 v4 σ = some r), en_fr [(24, 0)] σ r.2 := by
  intro f0
  induction f0 with
  | zero => intro v1 v2 v3 v4 σ r h; cases h
  | succ f9 ih =>
    intro v1 v2 v3 v4 σ r h
    rw [k_mm_number_18] at h
    rcases en_if_h h with ⟨-, h⟩ | ⟨-, h⟩
    ·
      cases h
      exact (fr_rf [(24, 0)] σ)
    ·
      obtain ⟨t6, e101, h⟩ := en_b1_h h
      rcases en_if_h h with ⟨-, h⟩ | ⟨-, h⟩
      ·
        cases h
        exact (fr_rf [(24, 0)] σ)
      ·
        rcases en_if_h h with ⟨-, h⟩ | ⟨-, h⟩
        ·
          cases h
          exact (fr_rf [(24, 0)] σ)
        ·
          obtain ⟨t10, e103, h⟩ := en_b1_h h
          obtain ⟨s12, e105, h⟩ := en_let_h h
          have f106 : en_fr [(24, 0)] σ s12 := fr_tr (fr_rf [(24, 0)] σ) (fr_wr e105 (List.mem_of_getElem? (i := 0) rfl))
          exact fr_tr f106 (ih h)
theorem f_mm_number {v1 : Int32} {v2 : Int32} {σ : en_M} {r : Int32 × en_M} (h : k_mm_number v1 v2 σ = some r) : en_fr [(24, 0)] σ r.2 := by
  rw [k_mm_number] at h
  rcases en_if_h h with ⟨-, h⟩ | ⟨-, h⟩
  ·
    obtain ⟨t2, s3, e101, h⟩ := en_b2_h h
    have f102 : en_fr [(24, 0)] σ s3 := fr_tr (fr_rf [(24, 0)] σ) (f_mm_here e101)
    obtain ⟨x14, s15, e103, h⟩ := en_b2_h h
    have f104 : en_fr [(24, 0)] σ s15 := fr_tr f102 (f_mm_number_18 e103)
    rcases en_if_h h with ⟨-, h⟩ | ⟨-, h⟩
    ·
      obtain ⟨s18, e105, h⟩ := en_b1_h h
      have f106 : en_fr [(24, 0)] σ s18 := fr_tr f104 (f_mm_wrong e105)
      cases h
      exact f106
    ·
      rcases en_if_h h with ⟨-, h⟩ | ⟨-, h⟩
      ·
        obtain ⟨s21, e107, h⟩ := en_b1_h h
        have f108 : en_fr [(24, 0)] σ s21 := fr_tr f104 (f_mm_wrong e107)
        cases h
        exact f108
      ·
        rcases en_if_h h with ⟨-, h⟩ | ⟨-, h⟩
        ·
          obtain ⟨s24, e109, h⟩ := en_b1_h h
          have f110 : en_fr [(24, 0)] σ s24 := fr_tr f104 (f_mm_wrong e109)
          cases h
          exact f110
        ·
          rcases en_if_h h with ⟨-, h⟩ | ⟨-, h⟩
          ·
            cases h
            exact f104
          ·
            obtain ⟨s27, e111, h⟩ := en_b1_h h
            have f112 : en_fr [(24, 0)] σ s27 := fr_tr f104 (f_mm_wrong e111)
            cases h
            exact f112
  ·
    cases h
    exact (fr_rf [(24, 0)] σ)
theorem f_mm_clears_3 : ∀ {f0 : Nat} {v1 : Int32} {v2 : Int32} {v3 : Int32} {v4 : Int32} {σ : en_M} {r : en_M} (h : k_mm_clears_3 f0 v1 v2 v3 v4 σ = some r), en_fr [(25, 0)] σ r := by
  intro f0
  induction f0 with
  | zero => intro v1 v2 v3 v4 σ r h; cases h
  | succ f9 ih =>
    intro v1 v2 v3 v4 σ r h
    rw [k_mm_clears_3] at h
    rcases en_if_h h with ⟨-, h⟩ | ⟨-, h⟩
    ·
      cases h
      exact (fr_rf [(25, 0)] σ)
    ·
      obtain ⟨s2, e101, h⟩ := en_b1_h h
      have f102 : en_fr [(25, 0)] σ s2 := fr_tr (fr_rf [(25, 0)] σ) (fr_wa e101 (List.mem_of_getElem? (i := 0) rfl))
      exact fr_tr f102 (ih h)
theorem f_mm_clears {v1 : Int32} {v2 : Int32} {v3 : Int32} {σ : en_M} {r : en_M} (h : k_mm_clears v1 v2 v3 σ = some r) : en_fr [(25, 0)] σ r := by
  rw [k_mm_clears] at h
  obtain ⟨s5, e101, h⟩ := en_b1_h h
  have f102 : en_fr [(25, 0)] σ s5 := fr_tr (fr_rf [(25, 0)] σ) (f_mm_clears_3 e101)
  obtain ⟨s7, e103, h⟩ := en_let_h h
  have f104 : en_fr [(25, 0)] σ s7 := fr_tr f102 (fr_wr e103 (List.mem_of_getElem? (i := 0) rfl))
  obtain ⟨s9, e105, h⟩ := en_let_h h
  have f106 : en_fr [(25, 0)] σ s9 := fr_tr f104 (fr_wr e105 (List.mem_of_getElem? (i := 0) rfl))
  obtain ⟨s11, e107, h⟩ := en_let_h h
  have f108 : en_fr [(25, 0)] σ s11 := fr_tr f106 (fr_wr e107 (List.mem_of_getElem? (i := 0) rfl))
  cases h
  exact f108
theorem f_mm_cardText {σ : en_M} {r : en_M} (h : k_mm_cardText σ = some r) : en_fr [(24, 0), (25, 0)] σ r := by
  rw [k_mm_cardText] at h
  obtain ⟨t1, s2, e101, h⟩ := en_b2_h h
  have f102 : en_fr [(24, 0), (25, 0)] σ s2 := fr_tr (fr_rf [(24, 0), (25, 0)] σ) (fr_sub (f_mm_number e101) (by simp))
  obtain ⟨t4, s5, e103, h⟩ := en_b2_h h
  have f104 : en_fr [(24, 0), (25, 0)] σ s5 := fr_tr f102 (fr_sub (f_mm_number e103) (by simp))
  obtain ⟨t7, s8, e105, h⟩ := en_b2_h h
  have f106 : en_fr [(24, 0), (25, 0)] σ s8 := fr_tr f104 (fr_sub (f_mm_number e105) (by simp))
  rcases en_if_h h with ⟨-, h⟩ | ⟨-, h⟩
  ·
    obtain ⟨s11, e107, h⟩ := en_b1_h h
    have f108 : en_fr [(24, 0), (25, 0)] σ s11 := fr_tr f106 (fr_sub (f_mm_clears e107) (by simp))
    cases h
    exact f108
  ·
    cases h
    exact f106
theorem f_mm_flow0_29 : ∀ {f0 : Nat} {v1 : Int32} {v2 : Int32} {v3 : Int32} {v4 : Int32} {σ : en_M} {r : en_M} (h : k_mm_flow0_29 f0 v1 v2 v3 v4 σ = some r), en_fr [(25, 0)] σ r := by
  intro f0
  induction f0 with
  | zero => intro v1 v2 v3 v4 σ r h; cases h
  | succ f9 ih =>
    intro v1 v2 v3 v4 σ r h
    rw [k_mm_flow0_29] at h
    rcases en_if_h h with ⟨-, h⟩ | ⟨-, h⟩
    ·
      cases h
      exact (fr_rf [(25, 0)] σ)
    ·
      obtain ⟨s3, e101, h⟩ := en_b1_h h
      have f102 : en_fr [(25, 0)] σ s3 := fr_tr (fr_rf [(25, 0)] σ) (fr_wa e101 (List.mem_of_getElem? (i := 0) rfl))
      exact fr_tr f102 (ih h)
theorem f_mm_flow0 {v1 : Int32} {v2 : Int32} {σ : en_M} {r : Int32 × en_M} (h : k_mm_flow0 v1 v2 σ = some r) : en_fr [(25, 0)] σ r.2 := by
  rw [k_mm_flow0] at h
  rcases en_if_h h with ⟨-, h⟩ | ⟨-, h⟩
  ·
    cases h
    exact (fr_rf [(25, 0)] σ)
  ·
    obtain ⟨s6, e101, h⟩ := en_b1_h h
    have f102 : en_fr [(25, 0)] σ s6 := fr_tr (fr_rf [(25, 0)] σ) (f_mm_flow0_29 e101)
    obtain ⟨s8, e103, h⟩ := en_b1_h h
    have f104 : en_fr [(25, 0)] σ s8 := fr_tr f102 (fr_wa e103 (List.mem_of_getElem? (i := 0) rfl))
    obtain ⟨s10, e105, h⟩ := en_b1_h h
    have f106 : en_fr [(25, 0)] σ s10 := fr_tr f104 (fr_wa e105 (List.mem_of_getElem? (i := 0) rfl))
    obtain ⟨s12, e107, h⟩ := en_let_h h
    have f108 : en_fr [(25, 0)] σ s12 := fr_tr f106 (fr_wr e107 (List.mem_of_getElem? (i := 0) rfl))
    cases h
    exact f108
theorem f_mm_bell0_10 : ∀ {f0 : Nat} {v1 : Int32} {v2 : Int32} {σ : en_M} {r : Int32 × en_M} (h : k_mm_bell0_10 f0 v1 v2 σ = some r), en_fr [(25, 0)] σ r.2 := by
  intro f0
  induction f0 with
  | zero => intro v1 v2 σ r h; cases h
  | succ f9 ih =>
    intro v1 v2 σ r h
    rw [k_mm_bell0_10] at h
    rcases en_if_h h with ⟨-, h⟩ | ⟨-, h⟩
    ·
      cases h
      exact (fr_rf [(25, 0)] σ)
    ·
      obtain ⟨t2, e101, h⟩ := en_b1_h h
      rcases en_if_h h with ⟨-, h⟩ | ⟨-, h⟩
      ·
        obtain ⟨t5, e103, h⟩ := en_b1_h h
        obtain ⟨s7, e105, h⟩ := en_b1_h h
        have f106 : en_fr [(25, 0)] σ s7 := fr_tr (fr_rf [(25, 0)] σ) (fr_wa e105 (List.mem_of_getElem? (i := 0) rfl))
        obtain ⟨s9, e107, h⟩ := en_b1_h h
        have f108 : en_fr [(25, 0)] σ s9 := fr_tr f106 (fr_wa e107 (List.mem_of_getElem? (i := 0) rfl))
        obtain ⟨t11, e109, h⟩ := en_b1_h h
        obtain ⟨t13, e111, h⟩ := en_b1_h h
        obtain ⟨s15, e113, h⟩ := en_b1_h h
        have f114 : en_fr [(25, 0)] σ s15 := fr_tr f108 (fr_wa e113 (List.mem_of_getElem? (i := 0) rfl))
        obtain ⟨t17, e115, h⟩ := en_b1_h h
        obtain ⟨t19, e117, h⟩ := en_b1_h h
        obtain ⟨s21, e119, h⟩ := en_b1_h h
        have f120 : en_fr [(25, 0)] σ s21 := fr_tr f114 (fr_wa e119 (List.mem_of_getElem? (i := 0) rfl))
        exact fr_tr f120 (ih h)
      ·
        exact fr_tr (fr_rf [(25, 0)] σ) (ih h)
theorem f_mm_bell0 {σ : en_M} {r : Int32 × en_M} (h : k_mm_bell0 σ = some r) : en_fr [(25, 0)] σ r.2 := by
  rw [k_mm_bell0] at h
  obtain ⟨x23, s27, e101, h⟩ := en_b2_h h
  have f102 : en_fr [(25, 0)] σ s27 := fr_tr (fr_rf [(25, 0)] σ) (f_mm_bell0_10 e101)
  obtain ⟨s29, e103, h⟩ := en_let_h h
  have f104 : en_fr [(25, 0)] σ s29 := fr_tr f102 (fr_wr e103 (List.mem_of_getElem? (i := 0) rfl))
  obtain ⟨s31, e105, h⟩ := en_let_h h
  have f106 : en_fr [(25, 0)] σ s31 := fr_tr f104 (fr_wr e105 (List.mem_of_getElem? (i := 0) rfl))
  rcases en_if_h h with ⟨-, h⟩ | ⟨-, h⟩
  ·
    obtain ⟨s34, e107, h⟩ := en_let_h h
    have f108 : en_fr [(25, 0)] σ s34 := fr_tr f106 (fr_wr e107 (List.mem_of_getElem? (i := 0) rfl))
    cases h
    exact f108
  ·
    obtain ⟨s36, e109, h⟩ := en_let_h h
    have f110 : en_fr [(25, 0)] σ s36 := fr_tr f106 (fr_wr e109 (List.mem_of_getElem? (i := 0) rfl))
    cases h
    exact f110
theorem f_mm_send0_49 : ∀ {f0 : Nat} {v1 : Int32} {v2 : Int32} {v3 : Int32} {v4 : Int32} {v5 : Int32} {v6 : Int32} {σ : en_M} {r : en_M} (h : k_mm_send0_49 f0 v1 v2 v3 v4 v5 v6 σ = some r), en_fr [(25, 0)] σ r := by
  intro f0
  induction f0 with
  | zero => intro v1 v2 v3 v4 v5 v6 σ r h; cases h
  | succ f9 ih =>
    intro v1 v2 v3 v4 v5 v6 σ r h
    rw [k_mm_send0_49] at h
    rcases en_if_h h with ⟨-, h⟩ | ⟨-, h⟩
    ·
      cases h
      exact (fr_rf [(25, 0)] σ)
    ·
      obtain ⟨s4, e101, h⟩ := en_b1_h h
      have f102 : en_fr [(25, 0)] σ s4 := fr_tr (fr_rf [(25, 0)] σ) (fr_wa e101 (List.mem_of_getElem? (i := 0) rfl))
      exact fr_tr f102 (ih h)
theorem f_mm_send0 {v1 : Int32} {v2 : Int32} {v3 : Int32} {v4 : Int32} {σ : en_M} {r : Int32 × en_M} (h : k_mm_send0 v1 v2 v3 v4 σ = some r) : en_fr [(25, 0)] σ r.2 := by
  rw [k_mm_send0] at h
  rcases en_if_h h with ⟨-, h⟩ | ⟨-, h⟩
  ·
    cases h
    exact (fr_rf [(25, 0)] σ)
  ·
    rcases en_if_h h with ⟨-, h⟩ | ⟨-, h⟩
    ·
      cases h
      exact (fr_rf [(25, 0)] σ)
    ·
      obtain ⟨s7, e101, h⟩ := en_b1_h h
      have f102 : en_fr [(25, 0)] σ s7 := fr_tr (fr_rf [(25, 0)] σ) (f_mm_send0_49 e101)
      obtain ⟨s9, e103, h⟩ := en_b1_h h
      have f104 : en_fr [(25, 0)] σ s9 := fr_tr f102 (fr_wa e103 (List.mem_of_getElem? (i := 0) rfl))
      obtain ⟨s11, e105, h⟩ := en_b1_h h
      have f106 : en_fr [(25, 0)] σ s11 := fr_tr f104 (fr_wa e105 (List.mem_of_getElem? (i := 0) rfl))
      obtain ⟨s13, e107, h⟩ := en_b1_h h
      have f108 : en_fr [(25, 0)] σ s13 := fr_tr f106 (fr_wa e107 (List.mem_of_getElem? (i := 0) rfl))
      obtain ⟨s15, e109, h⟩ := en_b1_h h
      have f110 : en_fr [(25, 0)] σ s15 := fr_tr f108 (fr_wa e109 (List.mem_of_getElem? (i := 0) rfl))
      obtain ⟨s17, e111, h⟩ := en_b1_h h
      have f112 : en_fr [(25, 0)] σ s17 := fr_tr f110 (fr_wa e111 (List.mem_of_getElem? (i := 0) rfl))
      obtain ⟨s19, e113, h⟩ := en_let_h h
      have f114 : en_fr [(25, 0)] σ s19 := fr_tr f112 (fr_wr e113 (List.mem_of_getElem? (i := 0) rfl))
      obtain ⟨t21, e115, h⟩ := en_b1_h h
      rcases en_if_h h with ⟨-, h⟩ | ⟨-, h⟩
      ·
        cases h
        exact f114
      ·
        obtain ⟨t24, s25, e117, h⟩ := en_b2_h h
        have f118 : en_fr [(25, 0)] σ s25 := fr_tr f114 (f_mm_bell0 e117)
        cases h
        exact f118
theorem f_mm_reclaims_0 : ∀ {f0 : Nat} {σ : en_M} {r : en_M} (h : k_mm_reclaims_0 f0 σ = some r), en_fr [(25, 0)] σ r := by
  intro f0
  induction f0 with
  | zero => intro σ r h; cases h
  | succ f9 ih =>
    intro σ r h
    rw [k_mm_reclaims_0] at h
    rcases en_if_h h with ⟨-, h⟩ | ⟨-, h⟩
    ·
      cases h
      exact (fr_rf [(25, 0)] σ)
    ·
      obtain ⟨t2, e101, h⟩ := en_b1_h h
      rcases en_if_h h with ⟨-, h⟩ | ⟨-, h⟩
      ·
        obtain ⟨s5, e103, h⟩ := en_let_h h
        have f104 : en_fr [(25, 0)] σ s5 := fr_tr (fr_rf [(25, 0)] σ) (fr_wr e103 (List.mem_of_getElem? (i := 0) rfl))
        exact fr_tr f104 (ih h)
      ·
        obtain ⟨t7, e105, h⟩ := en_b1_h h
        rcases en_if_h h with ⟨-, h⟩ | ⟨-, h⟩
        ·
          obtain ⟨s10, e107, h⟩ := en_let_h h
          have f108 : en_fr [(25, 0)] σ s10 := fr_tr (fr_rf [(25, 0)] σ) (fr_wr e107 (List.mem_of_getElem? (i := 0) rfl))
          exact fr_tr f108 (ih h)
        ·
          cases h
          exact (fr_rf [(25, 0)] σ)
theorem f_mm_reclaims {σ : en_M} {r : en_M} (h : k_mm_reclaims σ = some r) : en_fr [(25, 0)] σ r := by
  rw [k_mm_reclaims] at h
  obtain ⟨s12, e101, h⟩ := en_b1_h h
  have f102 : en_fr [(25, 0)] σ s12 := fr_tr (fr_rf [(25, 0)] σ) (f_mm_reclaims_0 e101)
  cases h
  exact f102
theorem f_mm_drop0 {v1 : Int32} {σ : en_M} {r : Int32 × en_M} (h : k_mm_drop0 v1 σ = some r) : en_fr [(25, 0)] σ r.2 := by
  rw [k_mm_drop0] at h
  rcases en_if_h h with ⟨-, h⟩ | ⟨-, h⟩
  ·
    cases h
    exact (fr_rf [(25, 0)] σ)
  ·
    obtain ⟨t2, e101, h⟩ := en_b1_h h
    rcases en_if_h h with ⟨-, h⟩ | ⟨-, h⟩
    ·
      obtain ⟨s5, e103, h⟩ := en_b1_h h
      have f104 : en_fr [(25, 0)] σ s5 := fr_tr (fr_rf [(25, 0)] σ) (fr_wa e103 (List.mem_of_getElem? (i := 0) rfl))
      obtain ⟨s7, e105, h⟩ := en_b1_h h
      have f106 : en_fr [(25, 0)] σ s7 := fr_tr f104 (f_mm_reclaims e105)
      cases h
      exact f106
    ·
      rcases en_if_h h with ⟨-, h⟩ | ⟨-, h⟩
      ·
        obtain ⟨t10, e107, h⟩ := en_b1_h h
        rcases en_if_h h with ⟨-, h⟩ | ⟨-, h⟩
        ·
          obtain ⟨s13, e109, h⟩ := en_b1_h h
          have f110 : en_fr [(25, 0)] σ s13 := fr_tr (fr_rf [(25, 0)] σ) (fr_wa e109 (List.mem_of_getElem? (i := 0) rfl))
          obtain ⟨s15, e111, h⟩ := en_b1_h h
          have f112 : en_fr [(25, 0)] σ s15 := fr_tr f110 (f_mm_reclaims e111)
          cases h
          exact f112
        ·
          cases h
          exact (fr_rf [(25, 0)] σ)
      ·
        cases h
        exact (fr_rf [(25, 0)] σ)
theorem f_mm_pause0 {v1 : Int32} {v2 : Int32} {σ : en_M} {r : Int32 × en_M} (h : k_mm_pause0 v1 v2 σ = some r) : en_fr [(25, 0)] σ r.2 := by
  rw [k_mm_pause0] at h
  rcases en_if_h h with ⟨-, h⟩ | ⟨-, h⟩
  ·
    cases h
    exact (fr_rf [(25, 0)] σ)
  ·
    obtain ⟨t2, e101, h⟩ := en_b1_h h
    rcases en_if_h h with ⟨-, h⟩ | ⟨-, h⟩
    ·
      cases h
      exact (fr_rf [(25, 0)] σ)
    ·
      obtain ⟨s5, e103, h⟩ := en_b1_h h
      have f104 : en_fr [(25, 0)] σ s5 := fr_tr (fr_rf [(25, 0)] σ) (fr_wa e103 (List.mem_of_getElem? (i := 0) rfl))
      cases h
      exact f104
theorem f_mm_pauseText {v1 : Int32} {σ : en_M} {r : Int32 × en_M} (h : k_mm_pauseText v1 σ = some r) : en_fr [(24, 0), (25, 0)] σ r.2 := by
  rw [k_mm_pauseText] at h
  obtain ⟨t1, s2, e101, h⟩ := en_b2_h h
  have f102 : en_fr [(24, 0), (25, 0)] σ s2 := fr_tr (fr_rf [(24, 0), (25, 0)] σ) (fr_sub (f_mm_number e101) (by simp))
  rcases en_if_h h with ⟨-, h⟩ | ⟨-, h⟩
  ·
    obtain ⟨t5, s6, e103, h⟩ := en_b2_h h
    have f104 : en_fr [(24, 0), (25, 0)] σ s6 := fr_tr f102 (fr_sub (f_mm_pause0 e103) (by simp))
    cases h
    exact f104
  ·
    cases h
    exact f102
theorem f_mm_rate0 {v1 : Int32} {v2 : Int32} {σ : en_M} {r : Int32 × en_M} (h : k_mm_rate0 v1 v2 σ = some r) : en_fr [(25, 0)] σ r.2 := by
  rw [k_mm_rate0] at h
  rcases en_if_h h with ⟨-, h⟩ | ⟨-, h⟩
  ·
    cases h
    exact (fr_rf [(25, 0)] σ)
  ·
    obtain ⟨s2, e101, h⟩ := en_b1_h h
    have f102 : en_fr [(25, 0)] σ s2 := fr_tr (fr_rf [(25, 0)] σ) (fr_wa e101 (List.mem_of_getElem? (i := 0) rfl))
    cases h
    exact f102
theorem f_mm_rateText {σ : en_M} {r : Int32 × en_M} (h : k_mm_rateText σ = some r) : en_fr [(24, 0), (25, 0)] σ r.2 := by
  rw [k_mm_rateText] at h
  obtain ⟨t1, s2, e101, h⟩ := en_b2_h h
  have f102 : en_fr [(24, 0), (25, 0)] σ s2 := fr_tr (fr_rf [(24, 0), (25, 0)] σ) (fr_sub (f_mm_number e101) (by simp))
  obtain ⟨t4, s5, e103, h⟩ := en_b2_h h
  have f104 : en_fr [(24, 0), (25, 0)] σ s5 := fr_tr f102 (fr_sub (f_mm_number e103) (by simp))
  rcases en_if_h h with ⟨-, h⟩ | ⟨-, h⟩
  ·
    obtain ⟨t8, s9, e105, h⟩ := en_b2_h h
    have f106 : en_fr [(24, 0), (25, 0)] σ s9 := fr_tr f104 (fr_sub (f_mm_rate0 e105) (by simp))
    cases h
    exact f106
  ·
    cases h
    exact f104
theorem f_mm_times_2 : ∀ {f0 : Nat} {v1 : Int32} {σ : en_M} {r : en_M} (h : k_mm_times_2 f0 v1 σ = some r), en_fr [(31, 0)] σ r := by
  intro f0
  induction f0 with
  | zero => intro v1 σ r h; cases h
  | succ f9 ih =>
    intro v1 σ r h
    rw [k_mm_times_2] at h
    rcases en_if_h h with ⟨-, h⟩ | ⟨-, h⟩
    ·
      cases h
      exact (fr_rf [(31, 0)] σ)
    ·
      obtain ⟨t2, e101, h⟩ := en_b1_h h
      rcases en_if_h h with ⟨-, h⟩ | ⟨-, h⟩
      ·
        obtain ⟨t7, e103, h⟩ := en_b1_h h
        obtain ⟨t9, e105, h⟩ := en_b1_h h
        obtain ⟨t11, e107, h⟩ := en_b1_h h
        obtain ⟨t13, e109, h⟩ := en_b1_h h
        obtain ⟨s15, e111, h⟩ := en_b1_h h
        have f112 : en_fr [(31, 0)] σ s15 := fr_tr (fr_rf [(31, 0)] σ) (fr_wa e111 (List.mem_of_getElem? (i := 0) rfl))
        exact fr_tr f112 (ih h)
      ·
        obtain ⟨s5, e113, h⟩ := en_b1_h h
        have f114 : en_fr [(31, 0)] σ s5 := fr_tr (fr_rf [(31, 0)] σ) (fr_wa e113 (List.mem_of_getElem? (i := 0) rfl))
        exact fr_tr f114 (ih h)
theorem f_mm_times_101 : ∀ {f0 : Nat} {v1 : Int32} {v2 : Int32} {v3 : Int32} {σ : en_M} {r : en_M} (h : k_mm_times_101 f0 v1 v2 v3 σ = some r), en_fr [(30, 0), (31, 0)] σ r := by
  intro f0
  induction f0 with
  | zero => intro v1 v2 v3 σ r h; cases h
  | succ f9 ih =>
    intro v1 v2 v3 σ r h
    rw [k_mm_times_101] at h
    obtain ⟨t26, e101, h⟩ := en_b1_h h
    rcases en_if_h h with ⟨-, h⟩ | ⟨-, h⟩
    ·
      cases h
      exact (fr_rf [(30, 0), (31, 0)] σ)
    ·
      obtain ⟨t29, e103, h⟩ := en_b1_h h
      rcases en_if_h h with ⟨-, h⟩ | ⟨-, h⟩
      ·
        obtain ⟨t32, e105, h⟩ := en_b1_h h
        obtain ⟨t34, e107, h⟩ := en_b1_h h
        obtain ⟨t36, e109, h⟩ := en_b1_h h
        obtain ⟨s38, e111, h⟩ := en_b1_h h
        have f112 : en_fr [(30, 0), (31, 0)] σ s38 := fr_tr (fr_rf [(30, 0), (31, 0)] σ) (fr_wa e111 (List.mem_of_getElem? (i := 0) rfl))
        obtain ⟨t40, e113, h⟩ := en_b1_h h
        obtain ⟨t42, e115, h⟩ := en_b1_h h
        obtain ⟨t44, e117, h⟩ := en_b1_h h
        obtain ⟨s46, e119, h⟩ := en_b1_h h
        have f120 : en_fr [(30, 0), (31, 0)] σ s46 := fr_tr f112 (fr_wa e119 (List.mem_of_getElem? (i := 1) rfl))
        exact fr_tr f120 (ih h)
      ·
        exact fr_tr (fr_rf [(30, 0), (31, 0)] σ) (ih h)
theorem f_mm_times_69 : ∀ {f0 : Nat} {v1 : Int32} {σ : en_M} {r : en_M} (h : k_mm_times_69 f0 v1 σ = some r), en_fr [(30, 0), (31, 0)] σ r := by
  intro f0
  induction f0 with
  | zero => intro v1 σ r h; cases h
  | succ f9 ih =>
    intro v1 σ r h
    rw [k_mm_times_69] at h
    rcases en_if_h h with ⟨-, h⟩ | ⟨-, h⟩
    ·
      cases h
      exact (fr_rf [(30, 0), (31, 0)] σ)
    ·
      obtain ⟨t21, e101, h⟩ := en_b1_h h
      rcases en_if_h h with ⟨-, h⟩ | ⟨-, h⟩
      ·
        obtain ⟨t24, e103, h⟩ := en_b1_h h
        obtain ⟨s50, e105, h⟩ := en_b1_h h
        have f106 : en_fr [(30, 0), (31, 0)] σ s50 := fr_tr (fr_rf [(30, 0), (31, 0)] σ) (f_mm_times_101 e105)
        exact fr_tr f106 (ih h)
      ·
        exact fr_tr (fr_rf [(30, 0), (31, 0)] σ) (ih h)
theorem f_mm_times {σ : en_M} {r : en_M} (h : k_mm_times σ = some r) : en_fr [(31, 0), (30, 0)] σ r := by
  rw [k_mm_times] at h
  obtain ⟨s18, e101, h⟩ := en_b1_h h
  have f102 : en_fr [(31, 0), (30, 0)] σ s18 := fr_tr (fr_rf [(31, 0), (30, 0)] σ) (fr_sub (f_mm_times_2 e101) (by simp))
  obtain ⟨s56, e103, h⟩ := en_b1_h h
  have f104 : en_fr [(31, 0), (30, 0)] σ s56 := fr_tr f102 (fr_sub (f_mm_times_69 e103) (by simp))
  cases h
  exact f104
theorem f_mm_finds1_56 : ∀ {f0 : Nat} {v1 : Int32} {v2 : Int32} {v3 : Int32} {v4 : Int32} {σ : en_M} {r : Int32 × en_M} (h : k_mm_finds1_56 f0 v1 v2 v3 v4 σ = some r), en_fr [(24, 0)] σ r.2 := by
  intro f0
  induction f0 with
  | zero => intro v1 v2 v3 v4 σ r h; cases h
  | succ f9 ih =>
    intro v1 v2 v3 v4 σ r h
    rw [k_mm_finds1_56] at h
    obtain ⟨t12, e101, h⟩ := en_b1_h h
    rcases en_if_h h with ⟨-, h⟩ | ⟨-, h⟩
    ·
      cases h
      exact (fr_rf [(24, 0)] σ)
    ·
      obtain ⟨t15, e103, h⟩ := en_b1_h h
      obtain ⟨t17, e105, h⟩ := en_b1_h h
      rcases en_if_h h with ⟨-, h⟩ | ⟨-, h⟩
      ·
        rcases en_if_h h with ⟨-, h⟩ | ⟨-, h⟩
        ·
          exact fr_tr (fr_rf [(24, 0)] σ) (ih h)
        ·
          rcases en_if_h h with ⟨-, h⟩ | ⟨-, h⟩
          ·
            obtain ⟨s22, e107, h⟩ := en_let_h h
            have f108 : en_fr [(24, 0)] σ s22 := fr_tr (fr_rf [(24, 0)] σ) (fr_wr e107 (List.mem_of_getElem? (i := 0) rfl))
            obtain ⟨s24, e109, h⟩ := en_let_h h
            have f110 : en_fr [(24, 0)] σ s24 := fr_tr f108 (fr_wr e109 (List.mem_of_getElem? (i := 0) rfl))
            exact fr_tr f110 (ih h)
          ·
            rcases en_if_h h with ⟨-, h⟩ | ⟨-, h⟩
            ·
              exact fr_tr (fr_rf [(24, 0)] σ) (ih h)
            ·
              obtain ⟨s27, e111, h⟩ := en_let_h h
              have f112 : en_fr [(24, 0)] σ s27 := fr_tr (fr_rf [(24, 0)] σ) (fr_wr e111 (List.mem_of_getElem? (i := 0) rfl))
              obtain ⟨s29, e113, h⟩ := en_let_h h
              have f114 : en_fr [(24, 0)] σ s29 := fr_tr f112 (fr_wr e113 (List.mem_of_getElem? (i := 0) rfl))
              exact fr_tr f114 (ih h)
      ·
        exact fr_tr (fr_rf [(24, 0)] σ) (ih h)
theorem f_mm_finds1_15 : ∀ {f0 : Nat} {v1 : Int32} {v2 : Int32} {v3 : Int32} {σ : en_M} {r : en_M} (h : k_mm_finds1_15 f0 v1 v2 v3 σ = some r), en_fr [(24, 0)] σ r := by
  intro f0
  induction f0 with
  | zero => intro v1 v2 v3 σ r h; cases h
  | succ f9 ih =>
    intro v1 v2 v3 σ r h
    rw [k_mm_finds1_15] at h
    rcases en_if_h h with ⟨-, h⟩ | ⟨-, h⟩
    ·
      cases h
      exact (fr_rf [(24, 0)] σ)
    ·
      obtain ⟨t4, e101, h⟩ := en_b1_h h
      rcases en_if_h h with ⟨-, h⟩ | ⟨-, h⟩
      ·
        obtain ⟨t7, e103, h⟩ := en_b1_h h
        obtain ⟨t9, e105, h⟩ := en_b1_h h
        rcases en_if_h h with ⟨-, h⟩ | ⟨-, h⟩
        ·
          exact fr_tr (fr_rf [(24, 0)] σ) (ih h)
        ·
          obtain ⟨x31, s34, e107, h⟩ := en_b2_h h
          have f108 : en_fr [(24, 0)] σ s34 := fr_tr (fr_rf [(24, 0)] σ) (f_mm_finds1_56 e107)
          exact fr_tr f108 (ih h)
      ·
        exact fr_tr (fr_rf [(24, 0)] σ) (ih h)
theorem f_mm_finds1 {v1 : Int32} {σ : en_M} {r : Int32 × en_M} (h : k_mm_finds1 v1 σ = some r) : en_fr [(24, 0)] σ r.2 := by
  rw [k_mm_finds1] at h
  obtain ⟨s1, e101, h⟩ := en_let_h h
  have f102 : en_fr [(24, 0)] σ s1 := fr_tr (fr_rf [(24, 0)] σ) (fr_wr e101 (List.mem_of_getElem? (i := 0) rfl))
  obtain ⟨s40, e103, h⟩ := en_b1_h h
  have f104 : en_fr [(24, 0)] σ s40 := fr_tr f102 (f_mm_finds1_15 e103)
  rcases en_if_h h with ⟨-, h⟩ | ⟨-, h⟩
  ·
    cases h
    exact f104
  ·
    cases h
    exact f104
theorem f_mm_logs_17 : ∀ {f0 : Nat} {v1 : Int32} {v2 : Int32} {v3 : Int32} {v4 : Int32} {σ : en_M} {r : en_M} (h : k_mm_logs_17 f0 v1 v2 v3 v4 σ = some r), en_fr [(25, 0)] σ r := by
  intro f0
  induction f0 with
  | zero => intro v1 v2 v3 v4 σ r h; cases h
  | succ f9 ih =>
    intro v1 v2 v3 v4 σ r h
    rw [k_mm_logs_17] at h
    rcases en_if_h h with ⟨-, h⟩ | ⟨-, h⟩
    ·
      cases h
      exact (fr_rf [(25, 0)] σ)
    ·
      obtain ⟨t27, e101, h⟩ := en_b1_h h
      obtain ⟨s29, e103, h⟩ := en_b1_h h
      have f104 : en_fr [(25, 0)] σ s29 := fr_tr (fr_rf [(25, 0)] σ) (fr_wa e103 (List.mem_of_getElem? (i := 0) rfl))
      exact fr_tr f104 (ih h)
theorem f_mm_logs {v1 : Int32} {v2 : Int32} {v3 : Int32} {σ : en_M} {r : en_M} (h : k_mm_logs v1 v2 v3 σ = some r) : en_fr [(25, 0)] σ r := by
  rw [k_mm_logs] at h
  rcases en_if_h h with ⟨-, h⟩ | ⟨-, h⟩
  ·
    obtain ⟨s32, e101, h⟩ := en_b1_h h
    have f102 : en_fr [(25, 0)] σ s32 := fr_tr (fr_rf [(25, 0)] σ) (f_mm_logs_17 e101)
    obtain ⟨s34, e103, h⟩ := en_let_h h
    have f104 : en_fr [(25, 0)] σ s34 := fr_tr f102 (fr_wr e103 (List.mem_of_getElem? (i := 0) rfl))
    obtain ⟨s36, e105, h⟩ := en_b1_h h
    have f106 : en_fr [(25, 0)] σ s36 := fr_tr f104 (fr_wa e105 (List.mem_of_getElem? (i := 0) rfl))
    obtain ⟨s38, e107, h⟩ := en_b1_h h
    have f108 : en_fr [(25, 0)] σ s38 := fr_tr f106 (fr_wa e107 (List.mem_of_getElem? (i := 0) rfl))
    obtain ⟨t40, e109, h⟩ := en_b1_h h
    obtain ⟨s42, e111, h⟩ := en_b1_h h
    have f112 : en_fr [(25, 0)] σ s42 := fr_tr f108 (fr_wa e111 (List.mem_of_getElem? (i := 0) rfl))
    obtain ⟨t44, e113, h⟩ := en_b1_h h
    obtain ⟨s46, e115, h⟩ := en_b1_h h
    have f116 : en_fr [(25, 0)] σ s46 := fr_tr f112 (fr_wa e115 (List.mem_of_getElem? (i := 0) rfl))
    obtain ⟨s48, e117, h⟩ := en_b1_h h
    have f118 : en_fr [(25, 0)] σ s48 := fr_tr f116 (fr_wa e117 (List.mem_of_getElem? (i := 0) rfl))
    obtain ⟨s50, e119, h⟩ := en_b1_h h
    have f120 : en_fr [(25, 0)] σ s50 := fr_tr f118 (fr_wa e119 (List.mem_of_getElem? (i := 0) rfl))
    obtain ⟨t52, e121, h⟩ := en_b1_h h
    obtain ⟨t54, e123, h⟩ := en_b1_h h
    obtain ⟨s56, e125, h⟩ := en_b1_h h
    have f126 : en_fr [(25, 0)] σ s56 := fr_tr f120 (fr_wa e125 (List.mem_of_getElem? (i := 0) rfl))
    obtain ⟨s58, e127, h⟩ := en_let_h h
    have f128 : en_fr [(25, 0)] σ s58 := fr_tr f126 (fr_wr e127 (List.mem_of_getElem? (i := 0) rfl))
    cases h
    exact f128
  ·
    obtain ⟨s2, e129, h⟩ := en_b1_h h
    have f130 : en_fr [(25, 0)] σ s2 := fr_tr (fr_rf [(25, 0)] σ) (fr_wa e129 (List.mem_of_getElem? (i := 0) rfl))
    obtain ⟨s4, e131, h⟩ := en_b1_h h
    have f132 : en_fr [(25, 0)] σ s4 := fr_tr f130 (fr_wa e131 (List.mem_of_getElem? (i := 0) rfl))
    obtain ⟨t6, e133, h⟩ := en_b1_h h
    obtain ⟨s8, e135, h⟩ := en_b1_h h
    have f136 : en_fr [(25, 0)] σ s8 := fr_tr f132 (fr_wa e135 (List.mem_of_getElem? (i := 0) rfl))
    obtain ⟨t10, e137, h⟩ := en_b1_h h
    obtain ⟨s12, e139, h⟩ := en_b1_h h
    have f140 : en_fr [(25, 0)] σ s12 := fr_tr f136 (fr_wa e139 (List.mem_of_getElem? (i := 0) rfl))
    obtain ⟨s14, e141, h⟩ := en_b1_h h
    have f142 : en_fr [(25, 0)] σ s14 := fr_tr f140 (fr_wa e141 (List.mem_of_getElem? (i := 0) rfl))
    obtain ⟨s16, e143, h⟩ := en_b1_h h
    have f144 : en_fr [(25, 0)] σ s16 := fr_tr f142 (fr_wa e143 (List.mem_of_getElem? (i := 0) rfl))
    obtain ⟨t18, e145, h⟩ := en_b1_h h
    obtain ⟨t20, e147, h⟩ := en_b1_h h
    obtain ⟨s22, e149, h⟩ := en_b1_h h
    have f150 : en_fr [(25, 0)] σ s22 := fr_tr f144 (fr_wa e149 (List.mem_of_getElem? (i := 0) rfl))
    obtain ⟨s24, e151, h⟩ := en_let_h h
    have f152 : en_fr [(25, 0)] σ s24 := fr_tr f150 (fr_wr e151 (List.mem_of_getElem? (i := 0) rfl))
    cases h
    exact f152
theorem f_mm_leaves {v1 : Int32} {v2 : Int32} {σ : en_M} {r : en_M} (h : k_mm_leaves v1 v2 σ = some r) : en_fr [(25, 0)] σ r := by
  rw [k_mm_leaves] at h
  obtain ⟨t1, e101, h⟩ := en_b1_h h
  obtain ⟨t3, e103, h⟩ := en_b1_h h
  obtain ⟨t5, e105, h⟩ := en_b1_h h
  obtain ⟨s7, e107, h⟩ := en_b1_h h
  have f108 : en_fr [(25, 0)] σ s7 := fr_tr (fr_rf [(25, 0)] σ) (fr_wa e107 (List.mem_of_getElem? (i := 0) rfl))
  obtain ⟨s9, e109, h⟩ := en_b1_h h
  have f110 : en_fr [(25, 0)] σ s9 := fr_tr f108 (fr_wa e109 (List.mem_of_getElem? (i := 0) rfl))
  obtain ⟨s11, e111, h⟩ := en_b1_h h
  have f112 : en_fr [(25, 0)] σ s11 := fr_tr f110 (fr_wa e111 (List.mem_of_getElem? (i := 0) rfl))
  obtain ⟨s13, e113, h⟩ := en_b1_h h
  have f114 : en_fr [(25, 0)] σ s13 := fr_tr f112 (fr_wa e113 (List.mem_of_getElem? (i := 0) rfl))
  obtain ⟨s15, e115, h⟩ := en_b1_h h
  have f116 : en_fr [(25, 0)] σ s15 := fr_tr f114 (fr_wa e115 (List.mem_of_getElem? (i := 0) rfl))
  obtain ⟨s17, e117, h⟩ := en_let_h h
  have f118 : en_fr [(25, 0)] σ s17 := fr_tr f116 (fr_wr e117 (List.mem_of_getElem? (i := 0) rfl))
  obtain ⟨s19, e119, h⟩ := en_let_h h
  have f120 : en_fr [(25, 0)] σ s19 := fr_tr f118 (fr_wr e119 (List.mem_of_getElem? (i := 0) rfl))
  obtain ⟨t21, e121, h⟩ := en_b1_h h
  obtain ⟨s23, e123, h⟩ := en_let_h h
  have f124 : en_fr [(25, 0)] σ s23 := fr_tr f120 (fr_wr e123 (List.mem_of_getElem? (i := 0) rfl))
  obtain ⟨s25, e125, h⟩ := en_b1_h h
  have f126 : en_fr [(25, 0)] σ s25 := fr_tr f124 (f_mm_logs e125)
  cases h
  exact f126
theorem f_mm_isDone_104 : ∀ {f0 : Nat} {v1 : Int32} {v2 : Int32} {σ : en_M} {r : en_M} (h : k_mm_isDone_104 f0 v1 v2 σ = some r), en_fr [(25, 0)] σ r := by
  intro f0
  induction f0 with
  | zero => intro v1 v2 σ r h; cases h
  | succ f9 ih =>
    intro v1 v2 σ r h
    rw [k_mm_isDone_104] at h
    rcases en_if_h h with ⟨-, h⟩ | ⟨-, h⟩
    ·
      cases h
      exact (fr_rf [(25, 0)] σ)
    ·
      obtain ⟨t28, e101, h⟩ := en_b1_h h
      obtain ⟨s30, e103, h⟩ := en_b1_h h
      have f104 : en_fr [(25, 0)] σ s30 := fr_tr (fr_rf [(25, 0)] σ) (fr_wa e103 (List.mem_of_getElem? (i := 0) rfl))
      exact fr_tr f104 (ih h)
theorem f_mm_isDone {v1 : Int32} {σ : en_M} {r : en_M} (h : k_mm_isDone v1 σ = some r) : en_fr [(25, 0)] σ r := by
  rw [k_mm_isDone] at h
  obtain ⟨s1, e101, h⟩ := en_b1_h h
  have f102 : en_fr [(25, 0)] σ s1 := fr_tr (fr_rf [(25, 0)] σ) (fr_wa e101 (List.mem_of_getElem? (i := 0) rfl))
  obtain ⟨s3, e103, h⟩ := en_b1_h h
  have f104 : en_fr [(25, 0)] σ s3 := fr_tr f102 (fr_wa e103 (List.mem_of_getElem? (i := 0) rfl))
  obtain ⟨t5, e105, h⟩ := en_b1_h h
  obtain ⟨t7, e107, h⟩ := en_b1_h h
  obtain ⟨s9, e109, h⟩ := en_b1_h h
  have f110 : en_fr [(25, 0)] σ s9 := fr_tr f104 (fr_wa e109 (List.mem_of_getElem? (i := 0) rfl))
  obtain ⟨s11, e111, h⟩ := en_let_h h
  have f112 : en_fr [(25, 0)] σ s11 := fr_tr f110 (fr_wr e111 (List.mem_of_getElem? (i := 0) rfl))
  obtain ⟨t13, e113, h⟩ := en_b1_h h
  rcases en_if_h h with ⟨-, h⟩ | ⟨-, h⟩
  ·
    obtain ⟨s16, e115, h⟩ := en_let_h h
    have f116 : en_fr [(25, 0)] σ s16 := fr_tr f112 (fr_wr e115 (List.mem_of_getElem? (i := 0) rfl))
    rcases en_if_h h with ⟨-, h⟩ | ⟨-, h⟩
    ·
      obtain ⟨s33, e117, h⟩ := en_b1_h h
      have f118 : en_fr [(25, 0)] σ s33 := fr_tr f116 (f_mm_isDone_104 e117)
      obtain ⟨s35, e119, h⟩ := en_let_h h
      have f120 : en_fr [(25, 0)] σ s35 := fr_tr f118 (fr_wr e119 (List.mem_of_getElem? (i := 0) rfl))
      obtain ⟨s37, e121, h⟩ := en_b1_h h
      have f122 : en_fr [(25, 0)] σ s37 := fr_tr f120 (fr_wa e121 (List.mem_of_getElem? (i := 0) rfl))
      obtain ⟨s39, e123, h⟩ := en_b1_h h
      have f124 : en_fr [(25, 0)] σ s39 := fr_tr f122 (fr_wa e123 (List.mem_of_getElem? (i := 0) rfl))
      obtain ⟨s41, e125, h⟩ := en_let_h h
      have f126 : en_fr [(25, 0)] σ s41 := fr_tr f124 (fr_wr e125 (List.mem_of_getElem? (i := 0) rfl))
      obtain ⟨s43, e127, h⟩ := en_b1_h h
      have f128 : en_fr [(25, 0)] σ s43 := fr_tr f126 (f_mm_reclaims e127)
      cases h
      exact f128
    ·
      obtain ⟨s19, e129, h⟩ := en_b1_h h
      have f130 : en_fr [(25, 0)] σ s19 := fr_tr f116 (fr_wa e129 (List.mem_of_getElem? (i := 0) rfl))
      obtain ⟨s21, e131, h⟩ := en_b1_h h
      have f132 : en_fr [(25, 0)] σ s21 := fr_tr f130 (fr_wa e131 (List.mem_of_getElem? (i := 0) rfl))
      obtain ⟨s23, e133, h⟩ := en_let_h h
      have f134 : en_fr [(25, 0)] σ s23 := fr_tr f132 (fr_wr e133 (List.mem_of_getElem? (i := 0) rfl))
      obtain ⟨s25, e135, h⟩ := en_b1_h h
      have f136 : en_fr [(25, 0)] σ s25 := fr_tr f134 (f_mm_reclaims e135)
      cases h
      exact f136
  ·
    obtain ⟨s45, e137, h⟩ := en_let_h h
    have f138 : en_fr [(25, 0)] σ s45 := fr_tr f112 (fr_wr e137 (List.mem_of_getElem? (i := 0) rfl))
    rcases en_if_h h with ⟨-, h⟩ | ⟨-, h⟩
    ·
      obtain ⟨s57, e139, h⟩ := en_b1_h h
      have f140 : en_fr [(25, 0)] σ s57 := fr_tr f138 (f_mm_isDone_104 e139)
      obtain ⟨s59, e141, h⟩ := en_let_h h
      have f142 : en_fr [(25, 0)] σ s59 := fr_tr f140 (fr_wr e141 (List.mem_of_getElem? (i := 0) rfl))
      obtain ⟨s61, e143, h⟩ := en_b1_h h
      have f144 : en_fr [(25, 0)] σ s61 := fr_tr f142 (fr_wa e143 (List.mem_of_getElem? (i := 0) rfl))
      obtain ⟨s63, e145, h⟩ := en_b1_h h
      have f146 : en_fr [(25, 0)] σ s63 := fr_tr f144 (fr_wa e145 (List.mem_of_getElem? (i := 0) rfl))
      obtain ⟨s65, e147, h⟩ := en_let_h h
      have f148 : en_fr [(25, 0)] σ s65 := fr_tr f146 (fr_wr e147 (List.mem_of_getElem? (i := 0) rfl))
      obtain ⟨s67, e149, h⟩ := en_b1_h h
      have f150 : en_fr [(25, 0)] σ s67 := fr_tr f148 (f_mm_reclaims e149)
      cases h
      exact f150
    ·
      obtain ⟨s48, e151, h⟩ := en_b1_h h
      have f152 : en_fr [(25, 0)] σ s48 := fr_tr f138 (fr_wa e151 (List.mem_of_getElem? (i := 0) rfl))
      obtain ⟨s50, e153, h⟩ := en_b1_h h
      have f154 : en_fr [(25, 0)] σ s50 := fr_tr f152 (fr_wa e153 (List.mem_of_getElem? (i := 0) rfl))
      obtain ⟨s52, e155, h⟩ := en_let_h h
      have f156 : en_fr [(25, 0)] σ s52 := fr_tr f154 (fr_wr e155 (List.mem_of_getElem? (i := 0) rfl))
      obtain ⟨s54, e157, h⟩ := en_b1_h h
      have f158 : en_fr [(25, 0)] σ s54 := fr_tr f156 (f_mm_reclaims e157)
      cases h
      exact f158
theorem f_mm_isGone {σ : en_M} {r : en_M} (h : k_mm_isGone σ = some r) : en_fr [(25, 0)] σ r := by
  rw [k_mm_isGone] at h
  obtain ⟨s1, e101, h⟩ := en_b1_h h
  have f102 : en_fr [(25, 0)] σ s1 := fr_tr (fr_rf [(25, 0)] σ) (fr_wa e101 (List.mem_of_getElem? (i := 0) rfl))
  obtain ⟨t3, e103, h⟩ := en_b1_h h
  obtain ⟨t5, e105, h⟩ := en_b1_h h
  obtain ⟨t7, e107, h⟩ := en_b1_h h
  obtain ⟨s9, e109, h⟩ := en_b1_h h
  have f110 : en_fr [(25, 0)] σ s9 := fr_tr f102 (fr_wa e109 (List.mem_of_getElem? (i := 0) rfl))
  obtain ⟨t11, e111, h⟩ := en_b1_h h
  rcases en_if_h h with ⟨-, h⟩ | ⟨-, h⟩
  ·
    cases h
    exact f110
  ·
    obtain ⟨s14, e113, h⟩ := en_b1_h h
    have f114 : en_fr [(25, 0)] σ s14 := fr_tr f110 (f_mm_isDone e113)
    cases h
    exact f114
theorem f_mm_ticks {σ : en_M} {r : Int32 × en_M} (h : k_mm_ticks σ = some r) : en_fr [(31, 0), (30, 0), (24, 0), (25, 0)] σ r.2 := by
  rw [k_mm_ticks] at h
  rcases en_if_h h with ⟨-, h⟩ | ⟨-, h⟩
  ·
    obtain ⟨s20, e101, h⟩ := en_b1_h h
    have f102 : en_fr [(31, 0), (30, 0), (24, 0), (25, 0)] σ s20 := fr_tr (fr_rf [(31, 0), (30, 0), (24, 0), (25, 0)] σ) (fr_sub (f_mm_times e101) (by simp))
    obtain ⟨t22, s23, e103, h⟩ := en_b2_h h
    have f104 : en_fr [(31, 0), (30, 0), (24, 0), (25, 0)] σ s23 := fr_tr f102 (fr_sub (f_mm_finds1 e103) (by simp))
    rcases en_if_h h with ⟨-, h⟩ | ⟨-, h⟩
    ·
      obtain ⟨t26, e105, h⟩ := en_b1_h h
      rcases en_if_h h with ⟨-, h⟩ | ⟨-, h⟩
      ·
        obtain ⟨s29, e107, h⟩ := en_let_h h
        have f108 : en_fr [(31, 0), (30, 0), (24, 0), (25, 0)] σ s29 := fr_tr f104 (fr_wr e107 (List.mem_of_getElem? (i := 3) rfl))
        rcases en_if_h h with ⟨-, h⟩ | ⟨-, h⟩
        ·
          obtain ⟨s32, e109, h⟩ := en_let_h h
          have f110 : en_fr [(31, 0), (30, 0), (24, 0), (25, 0)] σ s32 := fr_tr f108 (fr_wr e109 (List.mem_of_getElem? (i := 3) rfl))
          obtain ⟨s34, e111, h⟩ := en_let_h h
          have f112 : en_fr [(31, 0), (30, 0), (24, 0), (25, 0)] σ s34 := fr_tr f110 (fr_wr e111 (List.mem_of_getElem? (i := 3) rfl))
          obtain ⟨s36, e113, h⟩ := en_let_h h
          have f114 : en_fr [(31, 0), (30, 0), (24, 0), (25, 0)] σ s36 := fr_tr f112 (fr_wr e113 (List.mem_of_getElem? (i := 3) rfl))
          obtain ⟨t38, e115, h⟩ := en_b1_h h
          cases h
          exact f114
        ·
          obtain ⟨s40, e117, h⟩ := en_let_h h
          have f118 : en_fr [(31, 0), (30, 0), (24, 0), (25, 0)] σ s40 := fr_tr f108 (fr_wr e117 (List.mem_of_getElem? (i := 3) rfl))
          obtain ⟨s42, e119, h⟩ := en_let_h h
          have f120 : en_fr [(31, 0), (30, 0), (24, 0), (25, 0)] σ s42 := fr_tr f118 (fr_wr e119 (List.mem_of_getElem? (i := 3) rfl))
          obtain ⟨s44, e121, h⟩ := en_let_h h
          have f122 : en_fr [(31, 0), (30, 0), (24, 0), (25, 0)] σ s44 := fr_tr f120 (fr_wr e121 (List.mem_of_getElem? (i := 3) rfl))
          obtain ⟨s46, e123, h⟩ := en_let_h h
          have f124 : en_fr [(31, 0), (30, 0), (24, 0), (25, 0)] σ s46 := fr_tr f122 (fr_wr e123 (List.mem_of_getElem? (i := 3) rfl))
          rcases en_if_h h with ⟨-, h⟩ | ⟨-, h⟩
          ·
            obtain ⟨s51, e125, h⟩ := en_b1_h h
            have f126 : en_fr [(31, 0), (30, 0), (24, 0), (25, 0)] σ s51 := fr_tr f124 (fr_sub (f_mm_isGone e125) (by simp))
            obtain ⟨t53, e127, h⟩ := en_b1_h h
            cases h
            exact f126
          ·
            obtain ⟨t49, e129, h⟩ := en_b1_h h
            cases h
            exact f124
      ·
        obtain ⟨s55, e131, h⟩ := en_let_h h
        have f132 : en_fr [(31, 0), (30, 0), (24, 0), (25, 0)] σ s55 := fr_tr f104 (fr_wr e131 (List.mem_of_getElem? (i := 3) rfl))
        rcases en_if_h h with ⟨-, h⟩ | ⟨-, h⟩
        ·
          obtain ⟨s58, e133, h⟩ := en_let_h h
          have f134 : en_fr [(31, 0), (30, 0), (24, 0), (25, 0)] σ s58 := fr_tr f132 (fr_wr e133 (List.mem_of_getElem? (i := 3) rfl))
          obtain ⟨s60, e135, h⟩ := en_let_h h
          have f136 : en_fr [(31, 0), (30, 0), (24, 0), (25, 0)] σ s60 := fr_tr f134 (fr_wr e135 (List.mem_of_getElem? (i := 3) rfl))
          obtain ⟨s62, e137, h⟩ := en_let_h h
          have f138 : en_fr [(31, 0), (30, 0), (24, 0), (25, 0)] σ s62 := fr_tr f136 (fr_wr e137 (List.mem_of_getElem? (i := 3) rfl))
          obtain ⟨t64, e139, h⟩ := en_b1_h h
          cases h
          exact f138
        ·
          obtain ⟨s66, e141, h⟩ := en_let_h h
          have f142 : en_fr [(31, 0), (30, 0), (24, 0), (25, 0)] σ s66 := fr_tr f132 (fr_wr e141 (List.mem_of_getElem? (i := 3) rfl))
          obtain ⟨s68, e143, h⟩ := en_let_h h
          have f144 : en_fr [(31, 0), (30, 0), (24, 0), (25, 0)] σ s68 := fr_tr f142 (fr_wr e143 (List.mem_of_getElem? (i := 3) rfl))
          obtain ⟨s70, e145, h⟩ := en_let_h h
          have f146 : en_fr [(31, 0), (30, 0), (24, 0), (25, 0)] σ s70 := fr_tr f144 (fr_wr e145 (List.mem_of_getElem? (i := 3) rfl))
          obtain ⟨s72, e147, h⟩ := en_let_h h
          have f148 : en_fr [(31, 0), (30, 0), (24, 0), (25, 0)] σ s72 := fr_tr f146 (fr_wr e147 (List.mem_of_getElem? (i := 3) rfl))
          rcases en_if_h h with ⟨-, h⟩ | ⟨-, h⟩
          ·
            obtain ⟨s77, e149, h⟩ := en_b1_h h
            have f150 : en_fr [(31, 0), (30, 0), (24, 0), (25, 0)] σ s77 := fr_tr f148 (fr_sub (f_mm_isGone e149) (by simp))
            obtain ⟨t79, e151, h⟩ := en_b1_h h
            cases h
            exact f150
          ·
            obtain ⟨t75, e153, h⟩ := en_b1_h h
            cases h
            exact f148
    ·
      obtain ⟨s81, e155, h⟩ := en_b1_h h
      have f156 : en_fr [(31, 0), (30, 0), (24, 0), (25, 0)] σ s81 := fr_tr f104 (fr_sub (f_mm_leaves e155) (by simp))
      rcases en_if_h h with ⟨-, h⟩ | ⟨-, h⟩
      ·
        obtain ⟨s84, e157, h⟩ := en_let_h h
        have f158 : en_fr [(31, 0), (30, 0), (24, 0), (25, 0)] σ s84 := fr_tr f156 (fr_wr e157 (List.mem_of_getElem? (i := 3) rfl))
        obtain ⟨s86, e159, h⟩ := en_let_h h
        have f160 : en_fr [(31, 0), (30, 0), (24, 0), (25, 0)] σ s86 := fr_tr f158 (fr_wr e159 (List.mem_of_getElem? (i := 3) rfl))
        obtain ⟨s88, e161, h⟩ := en_let_h h
        have f162 : en_fr [(31, 0), (30, 0), (24, 0), (25, 0)] σ s88 := fr_tr f160 (fr_wr e161 (List.mem_of_getElem? (i := 3) rfl))
        obtain ⟨t90, e163, h⟩ := en_b1_h h
        cases h
        exact f162
      ·
        obtain ⟨s92, e165, h⟩ := en_let_h h
        have f166 : en_fr [(31, 0), (30, 0), (24, 0), (25, 0)] σ s92 := fr_tr f156 (fr_wr e165 (List.mem_of_getElem? (i := 3) rfl))
        obtain ⟨s94, e167, h⟩ := en_let_h h
        have f168 : en_fr [(31, 0), (30, 0), (24, 0), (25, 0)] σ s94 := fr_tr f166 (fr_wr e167 (List.mem_of_getElem? (i := 3) rfl))
        obtain ⟨s96, e169, h⟩ := en_let_h h
        have f170 : en_fr [(31, 0), (30, 0), (24, 0), (25, 0)] σ s96 := fr_tr f168 (fr_wr e169 (List.mem_of_getElem? (i := 3) rfl))
        obtain ⟨s98, e171, h⟩ := en_let_h h
        have f172 : en_fr [(31, 0), (30, 0), (24, 0), (25, 0)] σ s98 := fr_tr f170 (fr_wr e171 (List.mem_of_getElem? (i := 3) rfl))
        rcases en_if_h h with ⟨-, h⟩ | ⟨-, h⟩
        ·
          obtain ⟨s103, e173, h⟩ := en_b1_h h
          have f174 : en_fr [(31, 0), (30, 0), (24, 0), (25, 0)] σ s103 := fr_tr f172 (fr_sub (f_mm_isGone e173) (by simp))
          obtain ⟨t105, e175, h⟩ := en_b1_h h
          cases h
          exact f174
        ·
          obtain ⟨t101, e177, h⟩ := en_b1_h h
          cases h
          exact f172
  ·
    rcases en_if_h h with ⟨-, h⟩ | ⟨-, h⟩
    ·
      obtain ⟨s3, e179, h⟩ := en_let_h h
      have f180 : en_fr [(31, 0), (30, 0), (24, 0), (25, 0)] σ s3 := fr_tr (fr_rf [(31, 0), (30, 0), (24, 0), (25, 0)] σ) (fr_wr e179 (List.mem_of_getElem? (i := 3) rfl))
      obtain ⟨s5, e181, h⟩ := en_let_h h
      have f182 : en_fr [(31, 0), (30, 0), (24, 0), (25, 0)] σ s5 := fr_tr f180 (fr_wr e181 (List.mem_of_getElem? (i := 3) rfl))
      obtain ⟨s7, e183, h⟩ := en_let_h h
      have f184 : en_fr [(31, 0), (30, 0), (24, 0), (25, 0)] σ s7 := fr_tr f182 (fr_wr e183 (List.mem_of_getElem? (i := 3) rfl))
      cases h
      exact f184
    ·
      obtain ⟨s9, e185, h⟩ := en_let_h h
      have f186 : en_fr [(31, 0), (30, 0), (24, 0), (25, 0)] σ s9 := fr_tr (fr_rf [(31, 0), (30, 0), (24, 0), (25, 0)] σ) (fr_wr e185 (List.mem_of_getElem? (i := 3) rfl))
      obtain ⟨s11, e187, h⟩ := en_let_h h
      have f188 : en_fr [(31, 0), (30, 0), (24, 0), (25, 0)] σ s11 := fr_tr f186 (fr_wr e187 (List.mem_of_getElem? (i := 3) rfl))
      obtain ⟨s13, e189, h⟩ := en_let_h h
      have f190 : en_fr [(31, 0), (30, 0), (24, 0), (25, 0)] σ s13 := fr_tr f188 (fr_wr e189 (List.mem_of_getElem? (i := 3) rfl))
      obtain ⟨s15, e191, h⟩ := en_let_h h
      have f192 : en_fr [(31, 0), (30, 0), (24, 0), (25, 0)] σ s15 := fr_tr f190 (fr_wr e191 (List.mem_of_getElem? (i := 3) rfl))
      rcases en_if_h h with ⟨-, h⟩ | ⟨-, h⟩
      ·
        obtain ⟨s18, e193, h⟩ := en_b1_h h
        have f194 : en_fr [(31, 0), (30, 0), (24, 0), (25, 0)] σ s18 := fr_tr f192 (fr_sub (f_mm_isGone e193) (by simp))
        cases h
        exact f194
      ·
        cases h
        exact f192
theorem f_mm_tick0_22 : ∀ {f0 : Nat} {v1 : Int32} {v2 : Int32} {σ : en_M} {r : en_M} (h : k_mm_tick0_22 f0 v1 v2 σ = some r), en_fr [(31, 0), (30, 0), (24, 0), (25, 0)] σ r := by
  intro f0
  induction f0 with
  | zero => intro v1 v2 σ r h; cases h
  | succ f9 ih =>
    intro v1 v2 σ r h
    rw [k_mm_tick0_22] at h
    rcases en_if_h h with ⟨-, h⟩ | ⟨-, h⟩
    ·
      cases h
      exact (fr_rf [(31, 0), (30, 0), (24, 0), (25, 0)] σ)
    ·
      rcases en_if_h h with ⟨-, h⟩ | ⟨-, h⟩
      ·
        cases h
        exact (fr_rf [(31, 0), (30, 0), (24, 0), (25, 0)] σ)
      ·
        obtain ⟨t6, s7, e101, h⟩ := en_b2_h h
        have f102 : en_fr [(31, 0), (30, 0), (24, 0), (25, 0)] σ s7 := fr_tr (fr_rf [(31, 0), (30, 0), (24, 0), (25, 0)] σ) (f_mm_ticks e101)
        rcases en_if_h h with ⟨-, h⟩ | ⟨-, h⟩
        ·
          obtain ⟨s10, e103, h⟩ := en_let_h h
          have f104 : en_fr [(31, 0), (30, 0), (24, 0), (25, 0)] σ s10 := fr_tr f102 (fr_wr e103 (List.mem_of_getElem? (i := 2) rfl))
          exact fr_tr f104 (ih h)
        ·
          obtain ⟨s12, e105, h⟩ := en_let_h h
          have f106 : en_fr [(31, 0), (30, 0), (24, 0), (25, 0)] σ s12 := fr_tr f102 (fr_wr e105 (List.mem_of_getElem? (i := 2) rfl))
          exact fr_tr f106 (ih h)
theorem f_mm_tick0 {v1 : Int32} {σ : en_M} {r : Int32 × en_M} (h : k_mm_tick0 v1 σ = some r) : en_fr [(24, 0), (31, 0), (30, 0), (25, 0)] σ r.2 := by
  rw [k_mm_tick0] at h
  obtain ⟨s1, e101, h⟩ := en_let_h h
  have f102 : en_fr [(24, 0), (31, 0), (30, 0), (25, 0)] σ s1 := fr_tr (fr_rf [(24, 0), (31, 0), (30, 0), (25, 0)] σ) (fr_wr e101 (List.mem_of_getElem? (i := 0) rfl))
  rcases en_if_h h with ⟨-, h⟩ | ⟨-, h⟩
  ·
    cases h
    exact f102
  ·
    obtain ⟨s15, e103, h⟩ := en_b1_h h
    have f104 : en_fr [(24, 0), (31, 0), (30, 0), (25, 0)] σ s15 := fr_tr f102 (fr_sub (f_mm_tick0_22 e103) (by simp))
    cases h
    exact f104
theorem f_mm_putsAside_2 : ∀ {f0 : Nat} {v1 : Int32} {σ : en_M} {r : en_M} (h : k_mm_putsAside_2 f0 v1 σ = some r), en_fr [(26, 0)] σ r := by
  intro f0
  induction f0 with
  | zero => intro v1 σ r h; cases h
  | succ f9 ih =>
    intro v1 σ r h
    rw [k_mm_putsAside_2] at h
    rcases en_if_h h with ⟨-, h⟩ | ⟨-, h⟩
    ·
      cases h
      exact (fr_rf [(26, 0)] σ)
    ·
      obtain ⟨t2, e101, h⟩ := en_b1_h h
      obtain ⟨s4, e103, h⟩ := en_b1_h h
      have f104 : en_fr [(26, 0)] σ s4 := fr_tr (fr_rf [(26, 0)] σ) (fr_wa e103 (List.mem_of_getElem? (i := 0) rfl))
      exact fr_tr f104 (ih h)
theorem f_mm_putsAside {σ : en_M} {r : en_M} (h : k_mm_putsAside σ = some r) : en_fr [(26, 0)] σ r := by
  rw [k_mm_putsAside] at h
  obtain ⟨s7, e101, h⟩ := en_b1_h h
  have f102 : en_fr [(26, 0)] σ s7 := fr_tr (fr_rf [(26, 0)] σ) (f_mm_putsAside_2 e101)
  cases h
  exact f102
theorem f_mm_back_16 : ∀ {f0 : Nat} {v1 : Int32} {σ : en_M} {r : en_M} (h : k_mm_back_16 f0 v1 σ = some r), en_fr [(25, 0)] σ r := by
  intro f0
  induction f0 with
  | zero => intro v1 σ r h; cases h
  | succ f9 ih =>
    intro v1 σ r h
    rw [k_mm_back_16] at h
    rcases en_if_h h with ⟨-, h⟩ | ⟨-, h⟩
    ·
      cases h
      exact (fr_rf [(25, 0)] σ)
    ·
      obtain ⟨t5, e101, h⟩ := en_b1_h h
      obtain ⟨s7, e103, h⟩ := en_b1_h h
      have f104 : en_fr [(25, 0)] σ s7 := fr_tr (fr_rf [(25, 0)] σ) (fr_wa e103 (List.mem_of_getElem? (i := 0) rfl))
      exact fr_tr f104 (ih h)
theorem f_mm_back {σ : en_M} {r : Int32 × en_M} (h : k_mm_back σ = some r) : en_fr [(24, 0), (25, 0)] σ r.2 := by
  rw [k_mm_back] at h
  obtain ⟨s1, e101, h⟩ := en_let_h h
  have f102 : en_fr [(24, 0), (25, 0)] σ s1 := fr_tr (fr_rf [(24, 0), (25, 0)] σ) (fr_wr e101 (List.mem_of_getElem? (i := 0) rfl))
  rcases en_if_h h with ⟨-, h⟩ | ⟨-, h⟩
  ·
    cases h
    exact f102
  ·
    obtain ⟨s10, e103, h⟩ := en_b1_h h
    have f104 : en_fr [(24, 0), (25, 0)] σ s10 := fr_tr f102 (fr_sub (f_mm_back_16 e103) (by simp))
    obtain ⟨s12, e105, h⟩ := en_let_h h
    have f106 : en_fr [(24, 0), (25, 0)] σ s12 := fr_tr f104 (fr_wr e105 (List.mem_of_getElem? (i := 0) rfl))
    cases h
    exact f106
theorem f_mm_remembers_52 : ∀ {f0 : Nat} {v1 : Int32} {σ : en_M} {r : en_M} (h : k_mm_remembers_52 f0 v1 σ = some r), en_fr [(28, 0)] σ r := by
  intro f0
  induction f0 with
  | zero => intro v1 σ r h; cases h
  | succ f9 ih =>
    intro v1 σ r h
    rw [k_mm_remembers_52] at h
    rcases en_if_h h with ⟨-, h⟩ | ⟨-, h⟩
    ·
      cases h
      exact (fr_rf [(28, 0)] σ)
    ·
      obtain ⟨t3, e101, h⟩ := en_b1_h h
      obtain ⟨s5, e103, h⟩ := en_b1_h h
      have f104 : en_fr [(28, 0)] σ s5 := fr_tr (fr_rf [(28, 0)] σ) (fr_wa e103 (List.mem_of_getElem? (i := 0) rfl))
      exact fr_tr f104 (ih h)
theorem f_mm_remembers_11 : ∀ {f0 : Nat} {v1 : Int32} {σ : en_M} {r : en_M} (h : k_mm_remembers_11 f0 v1 σ = some r), en_fr [(28, 0)] σ r := by
  intro f0
  induction f0 with
  | zero => intro v1 σ r h; cases h
  | succ f9 ih =>
    intro v1 σ r h
    rw [k_mm_remembers_11] at h
    rcases en_if_h h with ⟨-, h⟩ | ⟨-, h⟩
    ·
      cases h
      exact (fr_rf [(28, 0)] σ)
    ·
      obtain ⟨t13, e101, h⟩ := en_b1_h h
      obtain ⟨s15, e103, h⟩ := en_b1_h h
      have f104 : en_fr [(28, 0)] σ s15 := fr_tr (fr_rf [(28, 0)] σ) (fr_wa e103 (List.mem_of_getElem? (i := 0) rfl))
      exact fr_tr f104 (ih h)
theorem f_mm_remembers {σ : en_M} {r : en_M} (h : k_mm_remembers σ = some r) : en_fr [(28, 0), (24, 0)] σ r := by
  rw [k_mm_remembers] at h
  rcases en_if_h h with ⟨-, h⟩ | ⟨-, h⟩
  ·
    obtain ⟨s18, e101, h⟩ := en_b1_h h
    have f102 : en_fr [(28, 0), (24, 0)] σ s18 := fr_tr (fr_rf [(28, 0), (24, 0)] σ) (fr_sub (f_mm_remembers_11 e101) (by simp))
    obtain ⟨s20, e103, h⟩ := en_let_h h
    have f104 : en_fr [(28, 0), (24, 0)] σ s20 := fr_tr f102 (fr_wr e103 (List.mem_of_getElem? (i := 1) rfl))
    obtain ⟨s23, e105, h⟩ := en_b1_h h
    have f106 : en_fr [(28, 0), (24, 0)] σ s23 := fr_tr f104 (fr_sub (f_mm_remembers_52 e105) (by simp))
    obtain ⟨s25, e107, h⟩ := en_let_h h
    have f108 : en_fr [(28, 0), (24, 0)] σ s25 := fr_tr f106 (fr_wr e107 (List.mem_of_getElem? (i := 1) rfl))
    cases h
    exact f108
  ·
    obtain ⟨s8, e109, h⟩ := en_b1_h h
    have f110 : en_fr [(28, 0), (24, 0)] σ s8 := fr_tr (fr_rf [(28, 0), (24, 0)] σ) (fr_sub (f_mm_remembers_52 e109) (by simp))
    obtain ⟨s10, e111, h⟩ := en_let_h h
    have f112 : en_fr [(28, 0), (24, 0)] σ s10 := fr_tr f110 (fr_wr e111 (List.mem_of_getElem? (i := 1) rfl))
    cases h
    exact f112
theorem f_mm_isTold {v1 : Int32} {v2 : Int32} {σ : en_M} {r : Int32 × en_M} (h : k_mm_isTold v1 v2 σ = some r) : en_fr [(24, 0), (28, 0)] σ r.2 := by
  rw [k_mm_isTold] at h
  obtain ⟨s1, e101, h⟩ := en_let_h h
  have f102 : en_fr [(24, 0), (28, 0)] σ s1 := fr_tr (fr_rf [(24, 0), (28, 0)] σ) (fr_wr e101 (List.mem_of_getElem? (i := 0) rfl))
  rcases en_if_h h with ⟨-, h⟩ | ⟨-, h⟩
  ·
    obtain ⟨s4, e103, h⟩ := en_let_h h
    have f104 : en_fr [(24, 0), (28, 0)] σ s4 := fr_tr f102 (fr_wr e103 (List.mem_of_getElem? (i := 0) rfl))
    rcases en_if_h h with ⟨-, h⟩ | ⟨-, h⟩
    ·
      obtain ⟨s8, e105, h⟩ := en_b1_h h
      have f106 : en_fr [(24, 0), (28, 0)] σ s8 := fr_tr f104 (fr_sub (f_mm_remembers e105) (by simp))
      rcases en_if_h h with ⟨-, h⟩ | ⟨-, h⟩
      ·
        cases h
        exact f106
      ·
        cases h
        exact f106
    ·
      rcases en_if_h h with ⟨-, h⟩ | ⟨-, h⟩
      ·
        cases h
        exact f104
      ·
        cases h
        exact f104
  ·
    obtain ⟨s11, e107, h⟩ := en_let_h h
    have f108 : en_fr [(24, 0), (28, 0)] σ s11 := fr_tr f102 (fr_wr e107 (List.mem_of_getElem? (i := 0) rfl))
    rcases en_if_h h with ⟨-, h⟩ | ⟨-, h⟩
    ·
      obtain ⟨s15, e109, h⟩ := en_b1_h h
      have f110 : en_fr [(24, 0), (28, 0)] σ s15 := fr_tr f108 (fr_sub (f_mm_remembers e109) (by simp))
      rcases en_if_h h with ⟨-, h⟩ | ⟨-, h⟩
      ·
        cases h
        exact f110
      ·
        cases h
        exact f110
    ·
      rcases en_if_h h with ⟨-, h⟩ | ⟨-, h⟩
      ·
        cases h
        exact f108
      ·
        cases h
        exact f108
theorem f_mm_bell {σ : en_M} {r : Int32 × en_M} (h : k_mm_bell σ = some r) : en_fr [(26, 0), (25, 0), (24, 0), (28, 0)] σ r.2 := by
  rw [k_mm_bell] at h
  obtain ⟨s1, e101, h⟩ := en_b1_h h
  have f102 : en_fr [(26, 0), (25, 0), (24, 0), (28, 0)] σ s1 := fr_tr (fr_rf [(26, 0), (25, 0), (24, 0), (28, 0)] σ) (fr_sub (f_mm_putsAside e101) (by simp))
  obtain ⟨t3, s4, e103, h⟩ := en_b2_h h
  have f104 : en_fr [(26, 0), (25, 0), (24, 0), (28, 0)] σ s4 := fr_tr f102 (fr_sub (f_mm_bell0 e103) (by simp))
  obtain ⟨t6, s7, e105, h⟩ := en_b2_h h
  have f106 : en_fr [(26, 0), (25, 0), (24, 0), (28, 0)] σ s7 := fr_tr f104 (fr_sub (f_mm_isTold e105) (by simp))
  rcases en_if_h h with ⟨-, h⟩ | ⟨-, h⟩
  ·
    cases h
    exact f106
  ·
    cases h
    exact f106
theorem f_mm_blind {v1 : Int32} {v2 : Int32} {σ : en_M} {r : Int32 × en_M} (h : k_mm_blind v1 v2 σ = some r) : en_fr [(24, 0)] σ r.2 := by
  rw [k_mm_blind] at h
  obtain ⟨t1, e101, h⟩ := en_b1_h h
  rcases en_if_h h with ⟨-, h⟩ | ⟨-, h⟩
  ·
    obtain ⟨s4, e103, h⟩ := en_let_h h
    have f104 : en_fr [(24, 0)] σ s4 := fr_tr (fr_rf [(24, 0)] σ) (fr_wr e103 (List.mem_of_getElem? (i := 0) rfl))
    rcases en_if_h h with ⟨-, h⟩ | ⟨-, h⟩
    ·
      obtain ⟨x21, e105, h⟩ := en_b1_h h
      cases h
      exact f104
    ·
      cases h
      exact f104
  ·
    obtain ⟨s25, e107, h⟩ := en_let_h h
    have f108 : en_fr [(24, 0)] σ s25 := fr_tr (fr_rf [(24, 0)] σ) (fr_wr e107 (List.mem_of_getElem? (i := 0) rfl))
    rcases en_if_h h with ⟨-, h⟩ | ⟨-, h⟩
    ·
      obtain ⟨x28, e109, h⟩ := en_b1_h h
      cases h
      exact f108
    ·
      cases h
      exact f108
theorem f_mm_burst {v1 : Int32} {v2 : Int32} {σ : en_M} {r : Int32 × en_M} (h : k_mm_burst v1 v2 σ = some r) : en_fr [(24, 0)] σ r.2 := by
  rw [k_mm_burst] at h
  rcases en_if_h h with ⟨-, h⟩ | ⟨-, h⟩
  ·
    obtain ⟨s20, e101, h⟩ := en_let_h h
    have f102 : en_fr [(24, 0)] σ s20 := fr_tr (fr_rf [(24, 0)] σ) (fr_wr e101 (List.mem_of_getElem? (i := 0) rfl))
    rcases en_if_h h with ⟨-, h⟩ | ⟨-, h⟩
    ·
      obtain ⟨x23, e103, h⟩ := en_b1_h h
      cases h
      exact f102
    ·
      cases h
      exact f102
  ·
    rcases en_if_h h with ⟨-, h⟩ | ⟨-, h⟩
    ·
      obtain ⟨s14, e105, h⟩ := en_let_h h
      have f106 : en_fr [(24, 0)] σ s14 := fr_tr (fr_rf [(24, 0)] σ) (fr_wr e105 (List.mem_of_getElem? (i := 0) rfl))
      rcases en_if_h h with ⟨-, h⟩ | ⟨-, h⟩
      ·
        obtain ⟨x17, e107, h⟩ := en_b1_h h
        cases h
        exact f106
      ·
        cases h
        exact f106
    ·
      obtain ⟨s3, e109, h⟩ := en_let_h h
      have f110 : en_fr [(24, 0)] σ s3 := fr_tr (fr_rf [(24, 0)] σ) (fr_wr e109 (List.mem_of_getElem? (i := 0) rfl))
      rcases en_if_h h with ⟨-, h⟩ | ⟨-, h⟩
      ·
        obtain ⟨x11, e111, h⟩ := en_b1_h h
        cases h
        exact f110
      ·
        cases h
        exact f110
theorem f_mm_calendar {v1 : Int32} {v2 : Int32} {σ : en_M} {r : Int32 × en_M} (h : k_mm_calendar v1 v2 σ = some r) : en_fr [(24, 0), (31, 0), (30, 0)] σ r.2 := by
  rw [k_mm_calendar] at h
  rcases en_if_h h with ⟨-, h⟩ | ⟨-, h⟩
  ·
    obtain ⟨s2, e101, h⟩ := en_let_h h
    have f102 : en_fr [(24, 0), (31, 0), (30, 0)] σ s2 := fr_tr (fr_rf [(24, 0), (31, 0), (30, 0)] σ) (fr_wr e101 (List.mem_of_getElem? (i := 0) rfl))
    rcases en_if_h h with ⟨-, h⟩ | ⟨-, h⟩
    ·
      obtain ⟨s5, e103, h⟩ := en_b1_h h
      have f104 : en_fr [(24, 0), (31, 0), (30, 0)] σ s5 := fr_tr f102 (fr_sub (f_mm_times e103) (by simp))
      obtain ⟨x27, e105, h⟩ := en_b1_h h
      cases h
      exact f104
    ·
      cases h
      exact f102
  ·
    rcases en_if_h h with ⟨-, h⟩ | ⟨-, h⟩
    ·
      obtain ⟨s33, e107, h⟩ := en_let_h h
      have f108 : en_fr [(24, 0), (31, 0), (30, 0)] σ s33 := fr_tr (fr_rf [(24, 0), (31, 0), (30, 0)] σ) (fr_wr e107 (List.mem_of_getElem? (i := 0) rfl))
      rcases en_if_h h with ⟨-, h⟩ | ⟨-, h⟩
      ·
        obtain ⟨s36, e109, h⟩ := en_b1_h h
        have f110 : en_fr [(24, 0), (31, 0), (30, 0)] σ s36 := fr_tr f108 (fr_sub (f_mm_times e109) (by simp))
        obtain ⟨x38, e111, h⟩ := en_b1_h h
        cases h
        exact f110
      ·
        cases h
        exact f108
    ·
      obtain ⟨s43, e113, h⟩ := en_let_h h
      have f114 : en_fr [(24, 0), (31, 0), (30, 0)] σ s43 := fr_tr (fr_rf [(24, 0), (31, 0), (30, 0)] σ) (fr_wr e113 (List.mem_of_getElem? (i := 0) rfl))
      rcases en_if_h h with ⟨-, h⟩ | ⟨-, h⟩
      ·
        obtain ⟨s46, e115, h⟩ := en_b1_h h
        have f116 : en_fr [(24, 0), (31, 0), (30, 0)] σ s46 := fr_tr f114 (fr_sub (f_mm_times e115) (by simp))
        obtain ⟨x48, e117, h⟩ := en_b1_h h
        cases h
        exact f116
      ·
        cases h
        exact f114
theorem f_mm_count {v1 : Int32} {σ : en_M} {r : Int32 × en_M} (h : k_mm_count v1 σ = some r) : en_fr [(24, 0)] σ r.2 := by
  rw [k_mm_count] at h
  obtain ⟨s1, e101, h⟩ := en_let_h h
  have f102 : en_fr [(24, 0)] σ s1 := fr_tr (fr_rf [(24, 0)] σ) (fr_wr e101 (List.mem_of_getElem? (i := 0) rfl))
  rcases en_if_h h with ⟨-, h⟩ | ⟨-, h⟩
  ·
    cases h
    exact f102
  ·
    rcases en_if_h h with ⟨-, h⟩ | ⟨-, h⟩
    ·
      cases h
      exact f102
    ·
      rcases en_if_h h with ⟨-, h⟩ | ⟨-, h⟩
      ·
        cases h
        exact f102
      ·
        rcases en_if_h h with ⟨-, h⟩ | ⟨-, h⟩
        ·
          cases h
          exact f102
        ·
          rcases en_if_h h with ⟨-, h⟩ | ⟨-, h⟩
          ·
            cases h
            exact f102
          ·
            rcases en_if_h h with ⟨-, h⟩ | ⟨-, h⟩
            ·
              cases h
              exact f102
            ·
              rcases en_if_h h with ⟨-, h⟩ | ⟨-, h⟩
              ·
                cases h
                exact f102
              ·
                rcases en_if_h h with ⟨-, h⟩ | ⟨-, h⟩
                ·
                  obtain ⟨t11, e103, h⟩ := en_b1_h h
                  cases h
                  exact f102
                ·
                  rcases en_if_h h with ⟨-, h⟩ | ⟨-, h⟩
                  ·
                    cases h
                    exact f102
                  ·
                    rcases en_if_h h with ⟨-, h⟩ | ⟨-, h⟩
                    ·
                      cases h
                      exact f102
                    ·
                      rcases en_if_h h with ⟨-, h⟩ | ⟨-, h⟩
                      ·
                        cases h
                        exact f102
                      ·
                        rcases en_if_h h with ⟨-, h⟩ | ⟨-, h⟩
                        ·
                          cases h
                          exact f102
                        ·
                          rcases en_if_h h with ⟨-, h⟩ | ⟨-, h⟩
                          ·
                            obtain ⟨t18, e105, h⟩ := en_b1_h h
                            cases h
                            exact f102
                          ·
                            rcases en_if_h h with ⟨-, h⟩ | ⟨-, h⟩
                            ·
                              cases h
                              exact f102
                            ·
                              rcases en_if_h h with ⟨-, h⟩ | ⟨-, h⟩
                              ·
                                cases h
                                exact f102
                              ·
                                rcases en_if_h h with ⟨-, h⟩ | ⟨-, h⟩
                                ·
                                  cases h
                                  exact f102
                                ·
                                  rcases en_if_h h with ⟨-, h⟩ | ⟨-, h⟩
                                  ·
                                    cases h
                                    exact f102
                                  ·
                                    rcases en_if_h h with ⟨-, h⟩ | ⟨-, h⟩
                                    ·
                                      rcases en_if_h h with ⟨-, h⟩ | ⟨-, h⟩
                                      ·
                                        cases h
                                        exact f102
                                      ·
                                        cases h
                                        exact f102
                                    ·
                                      rcases en_if_h h with ⟨-, h⟩ | ⟨-, h⟩
                                      ·
                                        cases h
                                        exact f102
                                      ·
                                        cases h
                                        exact f102
theorem f_mm_delay {v1 : Int32} {σ : en_M} {r : Int32 × en_M} (h : k_mm_delay v1 σ = some r) : en_fr [(24, 0)] σ r.2 := by
  rw [k_mm_delay] at h
  rcases en_if_h h with ⟨-, h⟩ | ⟨-, h⟩
  ·
    obtain ⟨s2, e101, h⟩ := en_let_h h
    have f102 : en_fr [(24, 0)] σ s2 := fr_tr (fr_rf [(24, 0)] σ) (fr_wr e101 (List.mem_of_getElem? (i := 0) rfl))
    rcases en_if_h h with ⟨-, h⟩ | ⟨-, h⟩
    ·
      obtain ⟨x11, x12, e103, h⟩ := en_b2_h h
      rcases en_if_h h with ⟨-, h⟩ | ⟨-, h⟩
      ·
        cases h
        exact f102
      ·
        obtain ⟨t16, e105, h⟩ := en_b1_h h
        cases h
        exact f102
    ·
      cases h
      exact f102
  ·
    obtain ⟨s18, e107, h⟩ := en_let_h h
    have f108 : en_fr [(24, 0)] σ s18 := fr_tr (fr_rf [(24, 0)] σ) (fr_wr e107 (List.mem_of_getElem? (i := 0) rfl))
    rcases en_if_h h with ⟨-, h⟩ | ⟨-, h⟩
    ·
      obtain ⟨x21, x22, e109, h⟩ := en_b2_h h
      rcases en_if_h h with ⟨-, h⟩ | ⟨-, h⟩
      ·
        cases h
        exact f108
      ·
        obtain ⟨t26, e111, h⟩ := en_b1_h h
        cases h
        exact f108
    ·
      cases h
      exact f108
theorem f_mm_done {v1 : Int32} {v2 : Int32} {σ : en_M} {r : Int32 × en_M} (h : k_mm_done v1 v2 σ = some r) : en_fr [(24, 0)] σ r.2 := by
  rw [k_mm_done] at h
  obtain ⟨s1, e101, h⟩ := en_let_h h
  have f102 : en_fr [(24, 0)] σ s1 := fr_tr (fr_rf [(24, 0)] σ) (fr_wr e101 (List.mem_of_getElem? (i := 0) rfl))
  rcases en_if_h h with ⟨-, h⟩ | ⟨-, h⟩
  ·
    cases h
    exact f102
  ·
    rcases en_if_h h with ⟨-, h⟩ | ⟨-, h⟩
    ·
      obtain ⟨t5, e103, h⟩ := en_b1_h h
      cases h
      exact f102
    ·
      obtain ⟨t7, e105, h⟩ := en_b1_h h
      cases h
      exact f102
theorem f_mm_drop {v1 : Int32} {σ : en_M} {r : Int32 × en_M} (h : k_mm_drop v1 σ = some r) : en_fr [(26, 0), (25, 0), (24, 0), (28, 0)] σ r.2 := by
  rw [k_mm_drop] at h
  obtain ⟨s1, e101, h⟩ := en_b1_h h
  have f102 : en_fr [(26, 0), (25, 0), (24, 0), (28, 0)] σ s1 := fr_tr (fr_rf [(26, 0), (25, 0), (24, 0), (28, 0)] σ) (fr_sub (f_mm_putsAside e101) (by simp))
  rcases en_if_h h with ⟨-, h⟩ | ⟨-, h⟩
  ·
    obtain ⟨t4, s5, e103, h⟩ := en_b2_h h
    have f104 : en_fr [(26, 0), (25, 0), (24, 0), (28, 0)] σ s5 := fr_tr f102 (fr_sub (f_mm_drop0 e103) (by simp))
    obtain ⟨t7, s8, e105, h⟩ := en_b2_h h
    have f106 : en_fr [(26, 0), (25, 0), (24, 0), (28, 0)] σ s8 := fr_tr f104 (fr_sub (f_mm_isTold e105) (by simp))
    rcases en_if_h h with ⟨-, h⟩ | ⟨-, h⟩
    ·
      cases h
      exact f106
    ·
      cases h
      exact f106
  ·
    obtain ⟨t11, e107, h⟩ := en_b1_h h
    obtain ⟨t13, s14, e109, h⟩ := en_b2_h h
    have f110 : en_fr [(26, 0), (25, 0), (24, 0), (28, 0)] σ s14 := fr_tr f102 (fr_sub (f_mm_drop0 e109) (by simp))
    obtain ⟨t16, s17, e111, h⟩ := en_b2_h h
    have f112 : en_fr [(26, 0), (25, 0), (24, 0), (28, 0)] σ s17 := fr_tr f110 (fr_sub (f_mm_isTold e111) (by simp))
    rcases en_if_h h with ⟨-, h⟩ | ⟨-, h⟩
    ·
      cases h
      exact f112
    ·
      cases h
      exact f112
theorem f_mm_end {v1 : Int32} {σ : en_M} {r : Int32 × en_M} (h : k_mm_end v1 σ = some r) : en_fr [(24, 0)] σ r.2 := by
  rw [k_mm_end] at h
  obtain ⟨s1, e101, h⟩ := en_let_h h
  have f102 : en_fr [(24, 0)] σ s1 := fr_tr (fr_rf [(24, 0)] σ) (fr_wr e101 (List.mem_of_getElem? (i := 0) rfl))
  rcases en_if_h h with ⟨-, h⟩ | ⟨-, h⟩
  ·
    cases h
    exact f102
  ·
    obtain ⟨s4, e103, h⟩ := en_let_h h
    have f104 : en_fr [(24, 0)] σ s4 := fr_tr f102 (fr_wr e103 (List.mem_of_getElem? (i := 0) rfl))
    cases h
    exact f104
theorem f_mm_sorts_83 : ∀ {f0 : Nat} {v1 : Int32} {v2 : Int32} {v3 : Int32} {σ : en_M} {r : Int32 × en_M} (h : k_mm_sorts_83 f0 v1 v2 v3 σ = some r), en_fr [(32, 0)] σ r.2 := by
  intro f0
  induction f0 with
  | zero => intro v1 v2 v3 σ r h; cases h
  | succ f9 ih =>
    intro v1 v2 v3 σ r h
    rw [k_mm_sorts_83] at h
    rcases en_if_h h with ⟨-, h⟩ | ⟨-, h⟩
    ·
      cases h
      exact (fr_rf [(32, 0)] σ)
    ·
      obtain ⟨t21, e101, h⟩ := en_b1_h h
      obtain ⟨t23, e103, h⟩ := en_b1_h h
      rcases en_if_h h with ⟨-, h⟩ | ⟨-, h⟩
      ·
        cases h
        exact (fr_rf [(32, 0)] σ)
      ·
        obtain ⟨t26, e105, h⟩ := en_b1_h h
        obtain ⟨s28, e107, h⟩ := en_b1_h h
        have f108 : en_fr [(32, 0)] σ s28 := fr_tr (fr_rf [(32, 0)] σ) (fr_wa e107 (List.mem_of_getElem? (i := 0) rfl))
        exact fr_tr f108 (ih h)
theorem f_mm_sorts_57 : ∀ {f0 : Nat} {v1 : Int32} {v2 : Int32} {σ : en_M} {r : en_M} (h : k_mm_sorts_57 f0 v1 v2 σ = some r), en_fr [(32, 0), (24, 0)] σ r := by
  intro f0
  induction f0 with
  | zero => intro v1 v2 σ r h; cases h
  | succ f9 ih =>
    intro v1 v2 σ r h
    rw [k_mm_sorts_57] at h
    obtain ⟨t14, e101, h⟩ := en_b1_h h
    rcases en_if_h h with ⟨-, h⟩ | ⟨-, h⟩
    ·
      cases h
      exact (fr_rf [(32, 0), (24, 0)] σ)
    ·
      obtain ⟨t17, e103, h⟩ := en_b1_h h
      rcases en_if_h h with ⟨-, h⟩ | ⟨-, h⟩
      ·
        obtain ⟨x30, s31, e105, h⟩ := en_b2_h h
        have f106 : en_fr [(32, 0), (24, 0)] σ s31 := fr_tr (fr_rf [(32, 0), (24, 0)] σ) (fr_sub (f_mm_sorts_83 e105) (by simp))
        obtain ⟨s33, e107, h⟩ := en_b1_h h
        have f108 : en_fr [(32, 0), (24, 0)] σ s33 := fr_tr f106 (fr_wa e107 (List.mem_of_getElem? (i := 0) rfl))
        obtain ⟨s35, e109, h⟩ := en_let_h h
        have f110 : en_fr [(32, 0), (24, 0)] σ s35 := fr_tr f108 (fr_wr e109 (List.mem_of_getElem? (i := 1) rfl))
        exact fr_tr f110 (ih h)
      ·
        exact fr_tr (fr_rf [(32, 0), (24, 0)] σ) (ih h)
theorem f_mm_sorts_17 : ∀ {f0 : Nat} {v1 : Int32} {σ : en_M} {r : en_M} (h : k_mm_sorts_17 f0 v1 σ = some r), en_fr [(32, 0), (24, 0)] σ r := by
  intro f0
  induction f0 with
  | zero => intro v1 σ r h; cases h
  | succ f9 ih =>
    intro v1 σ r h
    rw [k_mm_sorts_17] at h
    rcases en_if_h h with ⟨-, h⟩ | ⟨-, h⟩
    ·
      cases h
      exact (fr_rf [(32, 0), (24, 0)] σ)
    ·
      obtain ⟨t6, e101, h⟩ := en_b1_h h
      rcases en_if_h h with ⟨-, h⟩ | ⟨-, h⟩
      ·
        obtain ⟨t9, e103, h⟩ := en_b1_h h
        obtain ⟨t11, e105, h⟩ := en_b1_h h
        rcases en_if_h h with ⟨-, h⟩ | ⟨-, h⟩
        ·
          exact fr_tr (fr_rf [(32, 0), (24, 0)] σ) (ih h)
        ·
          obtain ⟨s39, e107, h⟩ := en_b1_h h
          have f108 : en_fr [(32, 0), (24, 0)] σ s39 := fr_tr (fr_rf [(32, 0), (24, 0)] σ) (f_mm_sorts_57 e107)
          exact fr_tr f108 (ih h)
      ·
        exact fr_tr (fr_rf [(32, 0), (24, 0)] σ) (ih h)
theorem f_mm_sorts {σ : en_M} {r : en_M} (h : k_mm_sorts σ = some r) : en_fr [(31, 0), (30, 0), (24, 0), (32, 0)] σ r := by
  rw [k_mm_sorts] at h
  obtain ⟨s1, e101, h⟩ := en_b1_h h
  have f102 : en_fr [(31, 0), (30, 0), (24, 0), (32, 0)] σ s1 := fr_tr (fr_rf [(31, 0), (30, 0), (24, 0), (32, 0)] σ) (fr_sub (f_mm_times e101) (by simp))
  obtain ⟨s3, e103, h⟩ := en_let_h h
  have f104 : en_fr [(31, 0), (30, 0), (24, 0), (32, 0)] σ s3 := fr_tr f102 (fr_wr e103 (List.mem_of_getElem? (i := 2) rfl))
  obtain ⟨s44, e105, h⟩ := en_b1_h h
  have f106 : en_fr [(31, 0), (30, 0), (24, 0), (32, 0)] σ s44 := fr_tr f104 (fr_sub (f_mm_sorts_17 e105) (by simp))
  cases h
  exact f106
theorem f_mm_plays_24 : ∀ {f0 : Nat} {v1 : Int32} {v2 : Int32} {σ : en_M} {r : en_M} (h : k_mm_plays_24 f0 v1 v2 σ = some r), en_fr [(33, 0)] σ r := by
  intro f0
  induction f0 with
  | zero => intro v1 v2 σ r h; cases h
  | succ f9 ih =>
    intro v1 v2 σ r h
    rw [k_mm_plays_24] at h
    obtain ⟨t4, e101, h⟩ := en_b1_h h
    rcases en_if_h h with ⟨-, h⟩ | ⟨-, h⟩
    ·
      cases h
      exact (fr_rf [(33, 0)] σ)
    ·
      obtain ⟨t7, e103, h⟩ := en_b1_h h
      obtain ⟨s9, e105, h⟩ := en_b1_h h
      have f106 : en_fr [(33, 0)] σ s9 := fr_tr (fr_rf [(33, 0)] σ) (fr_wa e105 (List.mem_of_getElem? (i := 0) rfl))
      exact fr_tr f106 (ih h)
theorem f_mm_plays_12 : ∀ {f0 : Nat} {v1 : Int32} {σ : en_M} {r : en_M} (h : k_mm_plays_12 f0 v1 σ = some r), en_fr [(33, 0)] σ r := by
  intro f0
  induction f0 with
  | zero => intro v1 σ r h; cases h
  | succ f9 ih =>
    intro v1 σ r h
    rw [k_mm_plays_12] at h
    rcases en_if_h h with ⟨-, h⟩ | ⟨-, h⟩
    ·
      cases h
      exact (fr_rf [(33, 0)] σ)
    ·
      obtain ⟨s12, e101, h⟩ := en_b1_h h
      have f102 : en_fr [(33, 0)] σ s12 := fr_tr (fr_rf [(33, 0)] σ) (f_mm_plays_24 e101)
      exact fr_tr f102 (ih h)
theorem f_mm_plays_123 : ∀ {f0 : Nat} {v1 : Int32} {v2 : Int32} {σ : en_M} {r : en_M} (h : k_mm_plays_123 f0 v1 v2 σ = some r), en_fr [(34, 0), (33, 0)] σ r := by
  intro f0
  induction f0 with
  | zero => intro v1 v2 σ r h; cases h
  | succ f9 ih =>
    intro v1 v2 σ r h
    rw [k_mm_plays_123] at h
    rcases en_if_h h with ⟨-, h⟩ | ⟨-, h⟩
    ·
      cases h
      exact (fr_rf [(34, 0), (33, 0)] σ)
    ·
      obtain ⟨t20, e101, h⟩ := en_b1_h h
      obtain ⟨t22, e103, h⟩ := en_b1_h h
      obtain ⟨t24, e105, h⟩ := en_b1_h h
      obtain ⟨s26, e107, h⟩ := en_b1_h h
      have f108 : en_fr [(34, 0), (33, 0)] σ s26 := fr_tr (fr_rf [(34, 0), (33, 0)] σ) (fr_wa e107 (List.mem_of_getElem? (i := 0) rfl))
      obtain ⟨t28, e109, h⟩ := en_b1_h h
      obtain ⟨t30, e111, h⟩ := en_b1_h h
      obtain ⟨t32, e113, h⟩ := en_b1_h h
      rcases en_if_h h with ⟨-, h⟩ | ⟨-, h⟩
      ·
        obtain ⟨s35, e115, h⟩ := en_b1_h h
        have f116 : en_fr [(34, 0), (33, 0)] σ s35 := fr_tr f108 (fr_wa e115 (List.mem_of_getElem? (i := 1) rfl))
        exact fr_tr f116 (ih h)
      ·
        obtain ⟨s37, e117, h⟩ := en_b1_h h
        have f118 : en_fr [(34, 0), (33, 0)] σ s37 := fr_tr f108 (fr_wa e117 (List.mem_of_getElem? (i := 1) rfl))
        exact fr_tr f118 (ih h)
theorem f_mm_plays {σ : en_M} {r : en_M} (h : k_mm_plays σ = some r) : en_fr [(31, 0), (30, 0), (24, 0), (32, 0), (33, 0), (34, 0)] σ r := by
  rw [k_mm_plays] at h
  obtain ⟨s1, e101, h⟩ := en_b1_h h
  have f102 : en_fr [(31, 0), (30, 0), (24, 0), (32, 0), (33, 0), (34, 0)] σ s1 := fr_tr (fr_rf [(31, 0), (30, 0), (24, 0), (32, 0), (33, 0), (34, 0)] σ) (fr_sub (f_mm_sorts e101) (by simp))
  obtain ⟨s16, e103, h⟩ := en_b1_h h
  have f104 : en_fr [(31, 0), (30, 0), (24, 0), (32, 0), (33, 0), (34, 0)] σ s16 := fr_tr f102 (fr_sub (f_mm_plays_12 e103) (by simp))
  rcases en_if_h h with ⟨-, h⟩ | ⟨-, h⟩
  ·
    obtain ⟨s43, e105, h⟩ := en_b1_h h
    have f106 : en_fr [(31, 0), (30, 0), (24, 0), (32, 0), (33, 0), (34, 0)] σ s43 := fr_tr f104 (fr_sub (f_mm_plays_123 e105) (by simp))
    cases h
    exact f106
  ·
    rcases en_if_h h with ⟨-, h⟩ | ⟨-, h⟩
    ·
      obtain ⟨s50, e107, h⟩ := en_b1_h h
      have f108 : en_fr [(31, 0), (30, 0), (24, 0), (32, 0), (33, 0), (34, 0)] σ s50 := fr_tr f104 (fr_sub (f_mm_plays_123 e107) (by simp))
      cases h
      exact f108
    ·
      obtain ⟨s52, e109, h⟩ := en_b1_h h
      have f110 : en_fr [(31, 0), (30, 0), (24, 0), (32, 0), (33, 0), (34, 0)] σ s52 := fr_tr f104 (fr_wa e109 (List.mem_of_getElem? (i := 4) rfl))
      obtain ⟨s58, e111, h⟩ := en_b1_h h
      have f112 : en_fr [(31, 0), (30, 0), (24, 0), (32, 0), (33, 0), (34, 0)] σ s58 := fr_tr f110 (fr_sub (f_mm_plays_123 e111) (by simp))
      cases h
      exact f112
theorem f_mm_ends {v1 : Int32} {σ : en_M} {r : Int32 × en_M} (h : k_mm_ends v1 σ = some r) : en_fr [(24, 0), (31, 0), (30, 0), (32, 0), (33, 0), (34, 0)] σ r.2 := by
  rw [k_mm_ends] at h
  rcases en_if_h h with ⟨-, h⟩ | ⟨-, h⟩
  ·
    obtain ⟨s2, e101, h⟩ := en_let_h h
    have f102 : en_fr [(24, 0), (31, 0), (30, 0), (32, 0), (33, 0), (34, 0)] σ s2 := fr_tr (fr_rf [(24, 0), (31, 0), (30, 0), (32, 0), (33, 0), (34, 0)] σ) (fr_wr e101 (List.mem_of_getElem? (i := 0) rfl))
    rcases en_if_h h with ⟨-, h⟩ | ⟨-, h⟩
    ·
      obtain ⟨t5, e103, h⟩ := en_b1_h h
      rcases en_if_h h with ⟨-, h⟩ | ⟨-, h⟩
      ·
        obtain ⟨t15, e105, h⟩ := en_b1_h h
        cases h
        exact f102
      ·
        obtain ⟨t8, e107, h⟩ := en_b1_h h
        rcases en_if_h h with ⟨-, h⟩ | ⟨-, h⟩
        ·
          obtain ⟨s11, e109, h⟩ := en_b1_h h
          have f110 : en_fr [(24, 0), (31, 0), (30, 0), (32, 0), (33, 0), (34, 0)] σ s11 := fr_tr f102 (fr_sub (f_mm_plays e109) (by simp))
          obtain ⟨t13, e111, h⟩ := en_b1_h h
          cases h
          exact f110
        ·
          cases h
          exact f102
    ·
      cases h
      exact f102
  ·
    obtain ⟨s17, e113, h⟩ := en_let_h h
    have f114 : en_fr [(24, 0), (31, 0), (30, 0), (32, 0), (33, 0), (34, 0)] σ s17 := fr_tr (fr_rf [(24, 0), (31, 0), (30, 0), (32, 0), (33, 0), (34, 0)] σ) (fr_wr e113 (List.mem_of_getElem? (i := 0) rfl))
    rcases en_if_h h with ⟨-, h⟩ | ⟨-, h⟩
    ·
      obtain ⟨t20, e115, h⟩ := en_b1_h h
      rcases en_if_h h with ⟨-, h⟩ | ⟨-, h⟩
      ·
        obtain ⟨t30, e117, h⟩ := en_b1_h h
        cases h
        exact f114
      ·
        obtain ⟨t23, e119, h⟩ := en_b1_h h
        rcases en_if_h h with ⟨-, h⟩ | ⟨-, h⟩
        ·
          obtain ⟨s26, e121, h⟩ := en_b1_h h
          have f122 : en_fr [(24, 0), (31, 0), (30, 0), (32, 0), (33, 0), (34, 0)] σ s26 := fr_tr f114 (fr_sub (f_mm_plays e121) (by simp))
          obtain ⟨t28, e123, h⟩ := en_b1_h h
          cases h
          exact f122
        ·
          cases h
          exact f114
    ·
      cases h
      exact f114
theorem f_mm_fault {σ : en_M} {r : Int32 × en_M} (h : k_mm_fault σ = some r) : en_fr [(24, 0)] σ r.2 := by
  rw [k_mm_fault] at h
  obtain ⟨s1, e101, h⟩ := en_let_h h
  have f102 : en_fr [(24, 0)] σ s1 := fr_tr (fr_rf [(24, 0)] σ) (fr_wr e101 (List.mem_of_getElem? (i := 0) rfl))
  cases h
  exact f102
theorem f_mm_feed_23 : ∀ {f0 : Nat} {v1 : Int32} {v2 : Int32} {v3 : Int32} {v4 : Int32} {v5 : Int32} {v6 : Int32} {σ : en_M} {r : en_M} (h : k_mm_feed_23 f0 v1 v2 v3 v4 v5 v6 σ = some r), en_fr [(29, 0), (24, 0)] σ r := by
  intro f0
  induction f0 with
  | zero => intro v1 v2 v3 v4 v5 v6 σ r h; cases h
  | succ f9 ih =>
    intro v1 v2 v3 v4 v5 v6 σ r h
    rw [k_mm_feed_23] at h
    rcases en_if_h h with ⟨-, h⟩ | ⟨-, h⟩
    ·
      cases h
      exact (fr_rf [(29, 0), (24, 0)] σ)
    ·
      rcases en_if_h h with ⟨-, h⟩ | ⟨-, h⟩
      ·
        rcases en_if_h h with ⟨-, h⟩ | ⟨-, h⟩
        ·
          rcases en_if_h h with ⟨-, h⟩ | ⟨-, h⟩
          ·
            rcases en_if_h h with ⟨-, h⟩ | ⟨-, h⟩
            ·
              obtain ⟨s9, e101, h⟩ := en_b1_h h
              have f102 : en_fr [(29, 0), (24, 0)] σ s9 := fr_tr (fr_rf [(29, 0), (24, 0)] σ) (fr_wa e101 (List.mem_of_getElem? (i := 0) rfl))
              obtain ⟨s11, e103, h⟩ := en_let_h h
              have f104 : en_fr [(29, 0), (24, 0)] σ s11 := fr_tr f102 (fr_wr e103 (List.mem_of_getElem? (i := 1) rfl))
              exact fr_tr f104 (ih h)
            ·
              obtain ⟨s13, e105, h⟩ := en_b1_h h
              have f106 : en_fr [(29, 0), (24, 0)] σ s13 := fr_tr (fr_rf [(29, 0), (24, 0)] σ) (fr_wa e105 (List.mem_of_getElem? (i := 0) rfl))
              obtain ⟨s15, e107, h⟩ := en_let_h h
              have f108 : en_fr [(29, 0), (24, 0)] σ s15 := fr_tr f106 (fr_wr e107 (List.mem_of_getElem? (i := 1) rfl))
              exact fr_tr f108 (ih h)
          ·
            obtain ⟨s17, e109, h⟩ := en_b1_h h
            have f110 : en_fr [(29, 0), (24, 0)] σ s17 := fr_tr (fr_rf [(29, 0), (24, 0)] σ) (fr_wa e109 (List.mem_of_getElem? (i := 0) rfl))
            obtain ⟨s19, e111, h⟩ := en_let_h h
            have f112 : en_fr [(29, 0), (24, 0)] σ s19 := fr_tr f110 (fr_wr e111 (List.mem_of_getElem? (i := 1) rfl))
            exact fr_tr f112 (ih h)
        ·
          obtain ⟨s21, e113, h⟩ := en_b1_h h
          have f114 : en_fr [(29, 0), (24, 0)] σ s21 := fr_tr (fr_rf [(29, 0), (24, 0)] σ) (fr_wa e113 (List.mem_of_getElem? (i := 0) rfl))
          obtain ⟨s23, e115, h⟩ := en_let_h h
          have f116 : en_fr [(29, 0), (24, 0)] σ s23 := fr_tr f114 (fr_wr e115 (List.mem_of_getElem? (i := 1) rfl))
          exact fr_tr f116 (ih h)
      ·
        obtain ⟨s25, e117, h⟩ := en_b1_h h
        have f118 : en_fr [(29, 0), (24, 0)] σ s25 := fr_tr (fr_rf [(29, 0), (24, 0)] σ) (fr_wa e117 (List.mem_of_getElem? (i := 0) rfl))
        obtain ⟨s27, e119, h⟩ := en_let_h h
        have f120 : en_fr [(29, 0), (24, 0)] σ s27 := fr_tr f118 (fr_wr e119 (List.mem_of_getElem? (i := 1) rfl))
        exact fr_tr f120 (ih h)
theorem f_mm_feed {v1 : Int32} {v2 : Int32} {v3 : Int32} {v4 : Int32} {v5 : Int32} {σ : en_M} {r : Int32 × en_M} (h : k_mm_feed v1 v2 v3 v4 v5 σ = some r) : en_fr [(24, 0), (29, 0)] σ r.2 := by
  rw [k_mm_feed] at h
  obtain ⟨s1, e101, h⟩ := en_let_h h
  have f102 : en_fr [(24, 0), (29, 0)] σ s1 := fr_tr (fr_rf [(24, 0), (29, 0)] σ) (fr_wr e101 (List.mem_of_getElem? (i := 0) rfl))
  rcases en_if_h h with ⟨-, h⟩ | ⟨-, h⟩
  ·
    obtain ⟨s31, e103, h⟩ := en_b1_h h
    have f104 : en_fr [(24, 0), (29, 0)] σ s31 := fr_tr f102 (fr_sub (f_mm_feed_23 e103) (by simp))
    cases h
    exact f104
  ·
    cases h
    exact f102
theorem f_mm_finds2 {v1 : Int32} {v2 : Int32} {v3 : Int32} {v4 : Int32} {σ : en_M} {r : Int32 × en_M} (h : k_mm_finds2 v1 v2 v3 v4 σ = some r) : en_fr [(24, 0)] σ r.2 := by
  rw [k_mm_finds2] at h
  obtain ⟨t1, e101, h⟩ := en_b1_h h
  rcases en_if_h h with ⟨-, h⟩ | ⟨-, h⟩
  ·
    obtain ⟨s4, e103, h⟩ := en_let_h h
    have f104 : en_fr [(24, 0)] σ s4 := fr_tr (fr_rf [(24, 0)] σ) (fr_wr e103 (List.mem_of_getElem? (i := 0) rfl))
    rcases en_if_h h with ⟨-, h⟩ | ⟨-, h⟩
    ·
      obtain ⟨x15, e105, h⟩ := en_b1_h h
      obtain ⟨x20, e107, h⟩ := en_b1_h h
      rcases en_if_h h with ⟨-, h⟩ | ⟨-, h⟩
      ·
        cases h
        exact f104
      ·
        cases h
        exact f104
    ·
      cases h
      exact f104
  ·
    obtain ⟨t23, e109, h⟩ := en_b1_h h
    rcases en_if_h h with ⟨-, h⟩ | ⟨-, h⟩
    ·
      obtain ⟨s47, e111, h⟩ := en_let_h h
      have f112 : en_fr [(24, 0)] σ s47 := fr_tr (fr_rf [(24, 0)] σ) (fr_wr e111 (List.mem_of_getElem? (i := 0) rfl))
      rcases en_if_h h with ⟨-, h⟩ | ⟨-, h⟩
      ·
        obtain ⟨x50, e113, h⟩ := en_b1_h h
        obtain ⟨x54, e115, h⟩ := en_b1_h h
        rcases en_if_h h with ⟨-, h⟩ | ⟨-, h⟩
        ·
          cases h
          exact f112
        ·
          cases h
          exact f112
      ·
        cases h
        exact f112
    ·
      rcases en_if_h h with ⟨-, h⟩ | ⟨-, h⟩
      ·
        obtain ⟨s37, e117, h⟩ := en_let_h h
        have f118 : en_fr [(24, 0)] σ s37 := fr_tr (fr_rf [(24, 0)] σ) (fr_wr e117 (List.mem_of_getElem? (i := 0) rfl))
        rcases en_if_h h with ⟨-, h⟩ | ⟨-, h⟩
        ·
          obtain ⟨x40, e119, h⟩ := en_b1_h h
          obtain ⟨x44, e121, h⟩ := en_b1_h h
          rcases en_if_h h with ⟨-, h⟩ | ⟨-, h⟩
          ·
            cases h
            exact f118
          ·
            cases h
            exact f118
        ·
          cases h
          exact f118
      ·
        obtain ⟨s27, e123, h⟩ := en_let_h h
        have f124 : en_fr [(24, 0)] σ s27 := fr_tr (fr_rf [(24, 0)] σ) (fr_wr e123 (List.mem_of_getElem? (i := 0) rfl))
        rcases en_if_h h with ⟨-, h⟩ | ⟨-, h⟩
        ·
          obtain ⟨x30, e125, h⟩ := en_b1_h h
          obtain ⟨x34, e127, h⟩ := en_b1_h h
          rcases en_if_h h with ⟨-, h⟩ | ⟨-, h⟩
          ·
            cases h
            exact f124
          ·
            cases h
            exact f124
        ·
          cases h
          exact f124
theorem f_mm_queueOf {v1 : Int32} {v2 : Int32} {σ : en_M} {r : Int32 × en_M} (h : k_mm_queueOf v1 v2 σ = some r) : en_fr [(31, 0), (30, 0), (24, 0), (32, 0), (33, 0), (34, 0)] σ r.2 := by
  rw [k_mm_queueOf] at h
  obtain ⟨s1, e101, h⟩ := en_b1_h h
  have f102 : en_fr [(31, 0), (30, 0), (24, 0), (32, 0), (33, 0), (34, 0)] σ s1 := fr_tr (fr_rf [(31, 0), (30, 0), (24, 0), (32, 0), (33, 0), (34, 0)] σ) (f_mm_plays e101)
  rcases en_if_h h with ⟨-, h⟩ | ⟨-, h⟩
  ·
    cases h
    exact f102
  ·
    obtain ⟨t4, e103, h⟩ := en_b1_h h
    rcases en_if_h h with ⟨-, h⟩ | ⟨-, h⟩
    ·
      rcases en_if_h h with ⟨-, h⟩ | ⟨-, h⟩
      ·
        obtain ⟨t8, e105, h⟩ := en_b1_h h
        cases h
        exact f102
      ·
        obtain ⟨t10, e107, h⟩ := en_b1_h h
        cases h
        exact f102
    ·
      cases h
      exact f102
theorem f_mm_first {v1 : Int32} {σ : en_M} {r : Int32 × en_M} (h : k_mm_first v1 σ = some r) : en_fr [(24, 0), (31, 0), (30, 0), (32, 0), (33, 0), (34, 0)] σ r.2 := by
  rw [k_mm_first] at h
  obtain ⟨s1, e101, h⟩ := en_let_h h
  have f102 : en_fr [(24, 0), (31, 0), (30, 0), (32, 0), (33, 0), (34, 0)] σ s1 := fr_tr (fr_rf [(24, 0), (31, 0), (30, 0), (32, 0), (33, 0), (34, 0)] σ) (fr_wr e101 (List.mem_of_getElem? (i := 0) rfl))
  obtain ⟨t3, s4, e103, h⟩ := en_b2_h h
  have f104 : en_fr [(24, 0), (31, 0), (30, 0), (32, 0), (33, 0), (34, 0)] σ s4 := fr_tr f102 (fr_sub (f_mm_queueOf e103) (by simp))
  cases h
  exact f104
theorem f_mm_flow {v1 : Int32} {v2 : Int32} {σ : en_M} {r : Int32 × en_M} (h : k_mm_flow v1 v2 σ = some r) : en_fr [(24, 0), (31, 0), (30, 0)] σ r.2 := by
  rw [k_mm_flow] at h
  rcases en_if_h h with ⟨-, h⟩ | ⟨-, h⟩
  ·
    obtain ⟨s59, e101, h⟩ := en_let_h h
    have f102 : en_fr [(24, 0), (31, 0), (30, 0)] σ s59 := fr_tr (fr_rf [(24, 0), (31, 0), (30, 0)] σ) (fr_wr e101 (List.mem_of_getElem? (i := 0) rfl))
    rcases en_if_h h with ⟨-, h⟩ | ⟨-, h⟩
    ·
      obtain ⟨s62, e103, h⟩ := en_b1_h h
      have f104 : en_fr [(24, 0), (31, 0), (30, 0)] σ s62 := fr_tr f102 (fr_sub (f_mm_times e103) (by simp))
      rcases en_if_h h with ⟨-, h⟩ | ⟨-, h⟩
      ·
        obtain ⟨t65, e105, h⟩ := en_b1_h h
        cases h
        exact f104
      ·
        rcases en_if_h h with ⟨-, h⟩ | ⟨-, h⟩
        ·
          obtain ⟨t68, e107, h⟩ := en_b1_h h
          cases h
          exact f104
        ·
          rcases en_if_h h with ⟨-, h⟩ | ⟨-, h⟩
          ·
            obtain ⟨t71, e109, h⟩ := en_b1_h h
            cases h
            exact f104
          ·
            rcases en_if_h h with ⟨-, h⟩ | ⟨-, h⟩
            ·
              obtain ⟨t74, e111, h⟩ := en_b1_h h
              cases h
              exact f104
            ·
              rcases en_if_h h with ⟨-, h⟩ | ⟨-, h⟩
              ·
                obtain ⟨t77, e113, h⟩ := en_b1_h h
                cases h
                exact f104
              ·
                rcases en_if_h h with ⟨-, h⟩ | ⟨-, h⟩
                ·
                  obtain ⟨t80, e115, h⟩ := en_b1_h h
                  cases h
                  exact f104
                ·
                  rcases en_if_h h with ⟨-, h⟩ | ⟨-, h⟩
                  ·
                    obtain ⟨t83, e117, h⟩ := en_b1_h h
                    cases h
                    exact f104
                  ·
                    obtain ⟨t85, e119, h⟩ := en_b1_h h
                    cases h
                    exact f104
    ·
      cases h
      exact f102
  ·
    rcases en_if_h h with ⟨-, h⟩ | ⟨-, h⟩
    ·
      obtain ⟨s31, e121, h⟩ := en_let_h h
      have f122 : en_fr [(24, 0), (31, 0), (30, 0)] σ s31 := fr_tr (fr_rf [(24, 0), (31, 0), (30, 0)] σ) (fr_wr e121 (List.mem_of_getElem? (i := 0) rfl))
      rcases en_if_h h with ⟨-, h⟩ | ⟨-, h⟩
      ·
        obtain ⟨s34, e123, h⟩ := en_b1_h h
        have f124 : en_fr [(24, 0), (31, 0), (30, 0)] σ s34 := fr_tr f122 (fr_sub (f_mm_times e123) (by simp))
        rcases en_if_h h with ⟨-, h⟩ | ⟨-, h⟩
        ·
          obtain ⟨t37, e125, h⟩ := en_b1_h h
          cases h
          exact f124
        ·
          rcases en_if_h h with ⟨-, h⟩ | ⟨-, h⟩
          ·
            obtain ⟨t40, e127, h⟩ := en_b1_h h
            cases h
            exact f124
          ·
            rcases en_if_h h with ⟨-, h⟩ | ⟨-, h⟩
            ·
              obtain ⟨t43, e129, h⟩ := en_b1_h h
              cases h
              exact f124
            ·
              rcases en_if_h h with ⟨-, h⟩ | ⟨-, h⟩
              ·
                obtain ⟨t46, e131, h⟩ := en_b1_h h
                cases h
                exact f124
              ·
                rcases en_if_h h with ⟨-, h⟩ | ⟨-, h⟩
                ·
                  obtain ⟨t49, e133, h⟩ := en_b1_h h
                  cases h
                  exact f124
                ·
                  rcases en_if_h h with ⟨-, h⟩ | ⟨-, h⟩
                  ·
                    obtain ⟨t52, e135, h⟩ := en_b1_h h
                    cases h
                    exact f124
                  ·
                    rcases en_if_h h with ⟨-, h⟩ | ⟨-, h⟩
                    ·
                      obtain ⟨t55, e137, h⟩ := en_b1_h h
                      cases h
                      exact f124
                    ·
                      obtain ⟨t57, e139, h⟩ := en_b1_h h
                      cases h
                      exact f124
      ·
        cases h
        exact f122
    ·
      obtain ⟨s3, e141, h⟩ := en_let_h h
      have f142 : en_fr [(24, 0), (31, 0), (30, 0)] σ s3 := fr_tr (fr_rf [(24, 0), (31, 0), (30, 0)] σ) (fr_wr e141 (List.mem_of_getElem? (i := 0) rfl))
      rcases en_if_h h with ⟨-, h⟩ | ⟨-, h⟩
      ·
        obtain ⟨s6, e143, h⟩ := en_b1_h h
        have f144 : en_fr [(24, 0), (31, 0), (30, 0)] σ s6 := fr_tr f142 (fr_sub (f_mm_times e143) (by simp))
        rcases en_if_h h with ⟨-, h⟩ | ⟨-, h⟩
        ·
          obtain ⟨t9, e145, h⟩ := en_b1_h h
          cases h
          exact f144
        ·
          rcases en_if_h h with ⟨-, h⟩ | ⟨-, h⟩
          ·
            obtain ⟨t12, e147, h⟩ := en_b1_h h
            cases h
            exact f144
          ·
            rcases en_if_h h with ⟨-, h⟩ | ⟨-, h⟩
            ·
              obtain ⟨t15, e149, h⟩ := en_b1_h h
              cases h
              exact f144
            ·
              rcases en_if_h h with ⟨-, h⟩ | ⟨-, h⟩
              ·
                obtain ⟨t18, e151, h⟩ := en_b1_h h
                cases h
                exact f144
              ·
                rcases en_if_h h with ⟨-, h⟩ | ⟨-, h⟩
                ·
                  obtain ⟨t21, e153, h⟩ := en_b1_h h
                  cases h
                  exact f144
                ·
                  rcases en_if_h h with ⟨-, h⟩ | ⟨-, h⟩
                  ·
                    obtain ⟨t24, e155, h⟩ := en_b1_h h
                    cases h
                    exact f144
                  ·
                    rcases en_if_h h with ⟨-, h⟩ | ⟨-, h⟩
                    ·
                      obtain ⟨t27, e157, h⟩ := en_b1_h h
                      cases h
                      exact f144
                    ·
                      obtain ⟨t29, e159, h⟩ := en_b1_h h
                      cases h
                      exact f144
      ·
        cases h
        exact f142
theorem f_mm_holder {v1 : Int32} {v2 : Int32} {σ : en_M} {r : Int32 × en_M} (h : k_mm_holder v1 v2 σ = some r) : en_fr [(24, 0)] σ r.2 := by
  rw [k_mm_holder] at h
  rcases en_if_h h with ⟨-, h⟩ | ⟨-, h⟩
  ·
    obtain ⟨s2, e101, h⟩ := en_let_h h
    have f102 : en_fr [(24, 0)] σ s2 := fr_tr (fr_rf [(24, 0)] σ) (fr_wr e101 (List.mem_of_getElem? (i := 0) rfl))
    rcases en_if_h h with ⟨-, h⟩ | ⟨-, h⟩
    ·
      obtain ⟨t5, e103, h⟩ := en_b1_h h
      obtain ⟨t7, e105, h⟩ := en_b1_h h
      cases h
      exact f102
    ·
      cases h
      exact f102
  ·
    obtain ⟨t9, e107, h⟩ := en_b1_h h
    rcases en_if_h h with ⟨-, h⟩ | ⟨-, h⟩
    ·
      obtain ⟨s12, e109, h⟩ := en_let_h h
      have f110 : en_fr [(24, 0)] σ s12 := fr_tr (fr_rf [(24, 0)] σ) (fr_wr e109 (List.mem_of_getElem? (i := 0) rfl))
      rcases en_if_h h with ⟨-, h⟩ | ⟨-, h⟩
      ·
        obtain ⟨t15, e111, h⟩ := en_b1_h h
        obtain ⟨t17, e113, h⟩ := en_b1_h h
        cases h
        exact f110
      ·
        cases h
        exact f110
    ·
      obtain ⟨t19, e115, h⟩ := en_b1_h h
      rcases en_if_h h with ⟨-, h⟩ | ⟨-, h⟩
      ·
        obtain ⟨s22, e117, h⟩ := en_let_h h
        have f118 : en_fr [(24, 0)] σ s22 := fr_tr (fr_rf [(24, 0)] σ) (fr_wr e117 (List.mem_of_getElem? (i := 0) rfl))
        rcases en_if_h h with ⟨-, h⟩ | ⟨-, h⟩
        ·
          obtain ⟨t25, e119, h⟩ := en_b1_h h
          obtain ⟨t27, e121, h⟩ := en_b1_h h
          cases h
          exact f118
        ·
          cases h
          exact f118
      ·
        obtain ⟨s29, e123, h⟩ := en_let_h h
        have f124 : en_fr [(24, 0)] σ s29 := fr_tr (fr_rf [(24, 0)] σ) (fr_wr e123 (List.mem_of_getElem? (i := 0) rfl))
        rcases en_if_h h with ⟨-, h⟩ | ⟨-, h⟩
        ·
          obtain ⟨t32, e125, h⟩ := en_b1_h h
          obtain ⟨t34, e127, h⟩ := en_b1_h h
          cases h
          exact f124
        ·
          cases h
          exact f124
theorem f_mm_image_7 : ∀ {f0 : Nat} {v1 : Int32} {σ : en_M} {r : en_M} (h : k_mm_image_7 f0 v1 σ = some r), en_fr [(27, 0)] σ r := by
  intro f0
  induction f0 with
  | zero => intro v1 σ r h; cases h
  | succ f9 ih =>
    intro v1 σ r h
    rw [k_mm_image_7] at h
    rcases en_if_h h with ⟨-, h⟩ | ⟨-, h⟩
    ·
      cases h
      exact (fr_rf [(27, 0)] σ)
    ·
      obtain ⟨t4, e101, h⟩ := en_b1_h h
      obtain ⟨s6, e103, h⟩ := en_b1_h h
      have f104 : en_fr [(27, 0)] σ s6 := fr_tr (fr_rf [(27, 0)] σ) (fr_wa e103 (List.mem_of_getElem? (i := 0) rfl))
      exact fr_tr f104 (ih h)
theorem f_mm_image {σ : en_M} {r : en_M} (h : k_mm_image σ = some r) : en_fr [(24, 0), (27, 0)] σ r := by
  rw [k_mm_image] at h
  obtain ⟨s1, e101, h⟩ := en_let_h h
  have f102 : en_fr [(24, 0), (27, 0)] σ s1 := fr_tr (fr_rf [(24, 0), (27, 0)] σ) (fr_wr e101 (List.mem_of_getElem? (i := 0) rfl))
  obtain ⟨s9, e103, h⟩ := en_b1_h h
  have f104 : en_fr [(24, 0), (27, 0)] σ s9 := fr_tr f102 (fr_sub (f_mm_image_7 e103) (by simp))
  obtain ⟨s11, e105, h⟩ := en_let_h h
  have f106 : en_fr [(24, 0), (27, 0)] σ s11 := fr_tr f104 (fr_wr e105 (List.mem_of_getElem? (i := 0) rfl))
  cases h
  exact f106
theorem f_mm_last_19 : ∀ {f0 : Nat} {v1 : Int32} {v2 : Int32} {σ : en_M} {r : (Int32 × en_M) ⊕ (Int32)} (h : k_mm_last_19 f0 v1 v2 σ = some r), match r with | .inl z => en_fr [] σ z.2 | .inr z => True := by
  intro f0
  induction f0 with
  | zero => intro v1 v2 σ r h; cases h
  | succ f9 ih =>
    intro v1 v2 σ r h
    rw [k_mm_last_19] at h
    rcases en_if_h h with ⟨-, h⟩ | ⟨-, h⟩
    ·
      cases h
      trivial
    ·
      obtain ⟨t6, e101, h⟩ := en_b1_h h
      rcases en_if_h h with ⟨-, h⟩ | ⟨-, h⟩
      ·
        obtain ⟨t9, e103, h⟩ := en_b1_h h
        rcases en_if_h h with ⟨-, h⟩ | ⟨-, h⟩
        ·
          cases h
          exact (fr_rf [] σ)
        ·
          obtain ⟨t12, e105, h⟩ := en_b1_h h
          have f9 := ih h
          cases r with
          | inl z => exact fr_tr (fr_rf [] σ) f9
          | inr z => exact trivial
      ·
        have f9 := ih h
        cases r with
        | inl z => exact fr_tr (fr_rf [] σ) f9
        | inr z => exact trivial
theorem f_mm_last {σ : en_M} {r : Int32 × en_M} (h : k_mm_last σ = some r) : en_fr [(24, 0), (31, 0), (30, 0), (32, 0), (33, 0), (34, 0)] σ r.2 := by
  rw [k_mm_last] at h
  obtain ⟨s1, e101, h⟩ := en_let_h h
  have f102 : en_fr [(24, 0), (31, 0), (30, 0), (32, 0), (33, 0), (34, 0)] σ s1 := fr_tr (fr_rf [(24, 0), (31, 0), (30, 0), (32, 0), (33, 0), (34, 0)] σ) (fr_wr e101 (List.mem_of_getElem? (i := 0) rfl))
  obtain ⟨s3, e103, h⟩ := en_b1_h h
  have f104 : en_fr [(24, 0), (31, 0), (30, 0), (32, 0), (33, 0), (34, 0)] σ s3 := fr_tr f102 (fr_sub (f_mm_plays e103) (by simp))
  rcases en_rx_h h with ⟨r17, e105, h⟩ | ⟨x14, e105, h⟩
  ·
    have f106 : en_fr [(24, 0), (31, 0), (30, 0), (32, 0), (33, 0), (34, 0)] σ r17.2 := fr_tr f104 (fr_sub (f_mm_last_19 e105) fr_nil)
    cases h
    exact f106
  ·
    rcases en_if_h h with ⟨-, h⟩ | ⟨-, h⟩
    ·
      cases h
      exact f104
    ·
      cases h
      exact f104
theorem f_mm_latest_20 : ∀ {f0 : Nat} {v1 : Int32} {v2 : Int32} {v3 : Int32} {σ : en_M} {r : Int32 × en_M} (h : k_mm_latest_20 f0 v1 v2 v3 σ = some r), en_fr [(35, 0)] σ r.2 := by
  intro f0
  induction f0 with
  | zero => intro v1 v2 v3 σ r h; cases h
  | succ f9 ih =>
    intro v1 v2 v3 σ r h
    rw [k_mm_latest_20] at h
    rcases en_if_h h with ⟨-, h⟩ | ⟨-, h⟩
    ·
      cases h
      exact (fr_rf [(35, 0)] σ)
    ·
      obtain ⟨t5, e101, h⟩ := en_b1_h h
      obtain ⟨t7, e103, h⟩ := en_b1_h h
      obtain ⟨t9, e105, h⟩ := en_b1_h h
      rcases en_if_h h with ⟨-, h⟩ | ⟨-, h⟩
      ·
        cases h
        exact (fr_rf [(35, 0)] σ)
      ·
        obtain ⟨t12, e107, h⟩ := en_b1_h h
        obtain ⟨s14, e109, h⟩ := en_b1_h h
        have f110 : en_fr [(35, 0)] σ s14 := fr_tr (fr_rf [(35, 0)] σ) (fr_wa e109 (List.mem_of_getElem? (i := 0) rfl))
        exact fr_tr f110 (ih h)
theorem f_mm_latest_7 : ∀ {f0 : Nat} {v1 : Int32} {v2 : Int32} {σ : en_M} {r : en_M} (h : k_mm_latest_7 f0 v1 v2 σ = some r), en_fr [(35, 0)] σ r := by
  intro f0
  induction f0 with
  | zero => intro v1 v2 σ r h; cases h
  | succ f9 ih =>
    intro v1 v2 σ r h
    rw [k_mm_latest_7] at h
    rcases en_if_h h with ⟨-, h⟩ | ⟨-, h⟩
    ·
      cases h
      exact (fr_rf [(35, 0)] σ)
    ·
      obtain ⟨x16, s17, e101, h⟩ := en_b2_h h
      have f102 : en_fr [(35, 0)] σ s17 := fr_tr (fr_rf [(35, 0)] σ) (f_mm_latest_20 e101)
      obtain ⟨s19, e103, h⟩ := en_b1_h h
      have f104 : en_fr [(35, 0)] σ s19 := fr_tr f102 (fr_wa e103 (List.mem_of_getElem? (i := 0) rfl))
      exact fr_tr f104 (ih h)
theorem f_mm_latest {v1 : Int32} {σ : en_M} {r : Int32 × en_M} (h : k_mm_latest v1 σ = some r) : en_fr [(24, 0), (35, 0)] σ r.2 := by
  rw [k_mm_latest] at h
  obtain ⟨s1, e101, h⟩ := en_let_h h
  have f102 : en_fr [(24, 0), (35, 0)] σ s1 := fr_tr (fr_rf [(24, 0), (35, 0)] σ) (fr_wr e101 (List.mem_of_getElem? (i := 0) rfl))
  obtain ⟨s23, e103, h⟩ := en_b1_h h
  have f104 : en_fr [(24, 0), (35, 0)] σ s23 := fr_tr f102 (fr_sub (f_mm_latest_7 e103) (by simp))
  rcases en_if_h h with ⟨-, h⟩ | ⟨-, h⟩
  ·
    cases h
    exact f104
  ·
    obtain ⟨t26, e105, h⟩ := en_b1_h h
    cases h
    exact f104
theorem f_mm_least_82 : ∀ {f0 : Nat} {v1 : Int32} {v2 : Int32} {v3 : Int32} {v4 : Int32} {v5 : Int32} {v6 : Int32} {σ : en_M} {r : Int32 × en_M} (h : k_mm_least_82 f0 v1 v2 v3 v4 v5 v6 σ = some r), en_fr [(25, 0), (31, 0), (30, 0), (24, 0), (32, 0), (33, 0), (34, 0)] σ r.2 := by
  intro f0
  induction f0 with
  | zero => intro v1 v2 v3 v4 v5 v6 σ r h; cases h
  | succ f9 ih =>
    intro v1 v2 v3 v4 v5 v6 σ r h
    rw [k_mm_least_82] at h
    rcases en_if_h h with ⟨-, h⟩ | ⟨-, h⟩
    ·
      cases h
      exact (fr_rf [(25, 0), (31, 0), (30, 0), (24, 0), (32, 0), (33, 0), (34, 0)] σ)
    ·
      rcases en_if_h h with ⟨-, h⟩ | ⟨-, h⟩
      ·
        obtain ⟨s15, e101, h⟩ := en_b1_h h
        have f102 : en_fr [(25, 0), (31, 0), (30, 0), (24, 0), (32, 0), (33, 0), (34, 0)] σ s15 := fr_tr (fr_rf [(25, 0), (31, 0), (30, 0), (24, 0), (32, 0), (33, 0), (34, 0)] σ) (fr_wa e101 (List.mem_of_getElem? (i := 0) rfl))
        obtain ⟨s17, e103, h⟩ := en_b1_h h
        have f104 : en_fr [(25, 0), (31, 0), (30, 0), (24, 0), (32, 0), (33, 0), (34, 0)] σ s17 := fr_tr f102 (fr_sub (f_mm_plays e103) (by simp))
        obtain ⟨t19, e105, h⟩ := en_b1_h h
        rcases en_if_h h with ⟨-, h⟩ | ⟨-, h⟩
        ·
          exact fr_tr f104 (ih h)
        ·
          rcases en_if_h h with ⟨-, h⟩ | ⟨-, h⟩
          ·
            exact fr_tr f104 (ih h)
          ·
            exact fr_tr f104 (ih h)
      ·
        cases h
        exact (fr_rf [(25, 0), (31, 0), (30, 0), (24, 0), (32, 0), (33, 0), (34, 0)] σ)
theorem f_mm_least {v1 : Int32} {v2 : Int32} {σ : en_M} {r : Int32 × en_M} (h : k_mm_least v1 v2 σ = some r) : en_fr [(24, 0), (25, 0), (31, 0), (30, 0), (32, 0), (33, 0), (34, 0)] σ r.2 := by
  rw [k_mm_least] at h
  rcases en_if_h h with ⟨-, h⟩ | ⟨-, h⟩
  ·
    obtain ⟨s47, e101, h⟩ := en_let_h h
    have f102 : en_fr [(24, 0), (25, 0), (31, 0), (30, 0), (32, 0), (33, 0), (34, 0)] σ s47 := fr_tr (fr_rf [(24, 0), (25, 0), (31, 0), (30, 0), (32, 0), (33, 0), (34, 0)] σ) (fr_wr e101 (List.mem_of_getElem? (i := 0) rfl))
    rcases en_if_h h with ⟨-, h⟩ | ⟨-, h⟩
    ·
      obtain ⟨t50, e103, h⟩ := en_b1_h h
      rcases en_if_h h with ⟨-, h⟩ | ⟨-, h⟩
      ·
        obtain ⟨t53, e105, h⟩ := en_b1_h h
        obtain ⟨t55, e107, h⟩ := en_b1_h h
        obtain ⟨x57, s60, e109, h⟩ := en_b2_h h
        have f110 : en_fr [(24, 0), (25, 0), (31, 0), (30, 0), (32, 0), (33, 0), (34, 0)] σ s60 := fr_tr f102 (fr_sub (f_mm_least_82 e109) (by simp))
        obtain ⟨s62, e111, h⟩ := en_b1_h h
        have f112 : en_fr [(24, 0), (25, 0), (31, 0), (30, 0), (32, 0), (33, 0), (34, 0)] σ s62 := fr_tr f110 (fr_wa e111 (List.mem_of_getElem? (i := 1) rfl))
        cases h
        exact f112
      ·
        cases h
        exact f102
    ·
      cases h
      exact f102
  ·
    rcases en_if_h h with ⟨-, h⟩ | ⟨-, h⟩
    ·
      obtain ⟨s30, e113, h⟩ := en_let_h h
      have f114 : en_fr [(24, 0), (25, 0), (31, 0), (30, 0), (32, 0), (33, 0), (34, 0)] σ s30 := fr_tr (fr_rf [(24, 0), (25, 0), (31, 0), (30, 0), (32, 0), (33, 0), (34, 0)] σ) (fr_wr e113 (List.mem_of_getElem? (i := 0) rfl))
      rcases en_if_h h with ⟨-, h⟩ | ⟨-, h⟩
      ·
        obtain ⟨t33, e115, h⟩ := en_b1_h h
        rcases en_if_h h with ⟨-, h⟩ | ⟨-, h⟩
        ·
          obtain ⟨t36, e117, h⟩ := en_b1_h h
          obtain ⟨t38, e119, h⟩ := en_b1_h h
          obtain ⟨x40, s43, e121, h⟩ := en_b2_h h
          have f122 : en_fr [(24, 0), (25, 0), (31, 0), (30, 0), (32, 0), (33, 0), (34, 0)] σ s43 := fr_tr f114 (fr_sub (f_mm_least_82 e121) (by simp))
          obtain ⟨s45, e123, h⟩ := en_b1_h h
          have f124 : en_fr [(24, 0), (25, 0), (31, 0), (30, 0), (32, 0), (33, 0), (34, 0)] σ s45 := fr_tr f122 (fr_wa e123 (List.mem_of_getElem? (i := 1) rfl))
          cases h
          exact f124
        ·
          cases h
          exact f114
      ·
        cases h
        exact f114
    ·
      obtain ⟨s3, e125, h⟩ := en_let_h h
      have f126 : en_fr [(24, 0), (25, 0), (31, 0), (30, 0), (32, 0), (33, 0), (34, 0)] σ s3 := fr_tr (fr_rf [(24, 0), (25, 0), (31, 0), (30, 0), (32, 0), (33, 0), (34, 0)] σ) (fr_wr e125 (List.mem_of_getElem? (i := 0) rfl))
      rcases en_if_h h with ⟨-, h⟩ | ⟨-, h⟩
      ·
        obtain ⟨t6, e127, h⟩ := en_b1_h h
        rcases en_if_h h with ⟨-, h⟩ | ⟨-, h⟩
        ·
          obtain ⟨t9, e129, h⟩ := en_b1_h h
          obtain ⟨t11, e131, h⟩ := en_b1_h h
          obtain ⟨x23, s26, e133, h⟩ := en_b2_h h
          have f134 : en_fr [(24, 0), (25, 0), (31, 0), (30, 0), (32, 0), (33, 0), (34, 0)] σ s26 := fr_tr f126 (fr_sub (f_mm_least_82 e133) (by simp))
          obtain ⟨s28, e135, h⟩ := en_b1_h h
          have f136 : en_fr [(24, 0), (25, 0), (31, 0), (30, 0), (32, 0), (33, 0), (34, 0)] σ s28 := fr_tr f134 (fr_wa e135 (List.mem_of_getElem? (i := 1) rfl))
          cases h
          exact f136
        ·
          cases h
          exact f126
      ·
        cases h
        exact f126
theorem f_mm_log {v1 : Int32} {v2 : Int32} {σ : en_M} {r : Int32 × en_M} (h : k_mm_log v1 v2 σ = some r) : en_fr [(24, 0)] σ r.2 := by
  rw [k_mm_log] at h
  rcases en_if_h h with ⟨-, h⟩ | ⟨-, h⟩
  ·
    obtain ⟨s2, e101, h⟩ := en_let_h h
    have f102 : en_fr [(24, 0)] σ s2 := fr_tr (fr_rf [(24, 0)] σ) (fr_wr e101 (List.mem_of_getElem? (i := 0) rfl))
    rcases en_if_h h with ⟨-, h⟩ | ⟨-, h⟩
    ·
      rcases en_if_h h with ⟨-, h⟩ | ⟨-, h⟩
      ·
        cases h
        exact f102
      ·
        rcases en_if_h h with ⟨-, h⟩ | ⟨-, h⟩
        ·
          obtain ⟨t7, e103, h⟩ := en_b1_h h
          cases h
          exact f102
        ·
          rcases en_if_h h with ⟨-, h⟩ | ⟨-, h⟩
          ·
            obtain ⟨t10, e105, h⟩ := en_b1_h h
            cases h
            exact f102
          ·
            obtain ⟨t12, e107, h⟩ := en_b1_h h
            cases h
            exact f102
    ·
      cases h
      exact f102
  ·
    obtain ⟨s14, e109, h⟩ := en_let_h h
    have f110 : en_fr [(24, 0)] σ s14 := fr_tr (fr_rf [(24, 0)] σ) (fr_wr e109 (List.mem_of_getElem? (i := 0) rfl))
    rcases en_if_h h with ⟨-, h⟩ | ⟨-, h⟩
    ·
      rcases en_if_h h with ⟨-, h⟩ | ⟨-, h⟩
      ·
        cases h
        exact f110
      ·
        rcases en_if_h h with ⟨-, h⟩ | ⟨-, h⟩
        ·
          obtain ⟨t19, e111, h⟩ := en_b1_h h
          cases h
          exact f110
        ·
          rcases en_if_h h with ⟨-, h⟩ | ⟨-, h⟩
          ·
            obtain ⟨t22, e113, h⟩ := en_b1_h h
            cases h
            exact f110
          ·
            obtain ⟨t24, e115, h⟩ := en_b1_h h
            cases h
            exact f110
    ·
      cases h
      exact f110
theorem f_mm_merged {v1 : Int32} {v2 : Int32} {σ : en_M} {r : Int32 × en_M} (h : k_mm_merged v1 v2 σ = some r) : en_fr [(24, 0)] σ r.2 := by
  rw [k_mm_merged] at h
  rcases en_if_h h with ⟨-, h⟩ | ⟨-, h⟩
  ·
    obtain ⟨s2, e101, h⟩ := en_let_h h
    have f102 : en_fr [(24, 0)] σ s2 := fr_tr (fr_rf [(24, 0)] σ) (fr_wr e101 (List.mem_of_getElem? (i := 0) rfl))
    rcases en_if_h h with ⟨-, h⟩ | ⟨-, h⟩
    ·
      obtain ⟨t5, e103, h⟩ := en_b1_h h
      cases h
      exact f102
    ·
      cases h
      exact f102
  ·
    obtain ⟨s7, e105, h⟩ := en_let_h h
    have f106 : en_fr [(24, 0)] σ s7 := fr_tr (fr_rf [(24, 0)] σ) (fr_wr e105 (List.mem_of_getElem? (i := 0) rfl))
    rcases en_if_h h with ⟨-, h⟩ | ⟨-, h⟩
    ·
      obtain ⟨t10, e107, h⟩ := en_b1_h h
      cases h
      exact f106
    ·
      cases h
      exact f106
theorem f_mm_octet {v1 : Int32} {v2 : Int32} {v3 : Int32} {σ : en_M} {r : Int32 × en_M} (h : k_mm_octet v1 v2 v3 σ = some r) : en_fr [(24, 0)] σ r.2 := by
  rw [k_mm_octet] at h
  obtain ⟨t1, e101, h⟩ := en_b1_h h
  rcases en_if_h h with ⟨-, h⟩ | ⟨-, h⟩
  ·
    obtain ⟨s4, e103, h⟩ := en_let_h h
    have f104 : en_fr [(24, 0)] σ s4 := fr_tr (fr_rf [(24, 0)] σ) (fr_wr e103 (List.mem_of_getElem? (i := 0) rfl))
    rcases en_if_h h with ⟨-, h⟩ | ⟨-, h⟩
    ·
      obtain ⟨t7, e105, h⟩ := en_b1_h h
      cases h
      exact f104
    ·
      cases h
      exact f104
  ·
    obtain ⟨t9, e107, h⟩ := en_b1_h h
    rcases en_if_h h with ⟨-, h⟩ | ⟨-, h⟩
    ·
      obtain ⟨s12, e109, h⟩ := en_let_h h
      have f110 : en_fr [(24, 0)] σ s12 := fr_tr (fr_rf [(24, 0)] σ) (fr_wr e109 (List.mem_of_getElem? (i := 0) rfl))
      rcases en_if_h h with ⟨-, h⟩ | ⟨-, h⟩
      ·
        obtain ⟨t15, e111, h⟩ := en_b1_h h
        cases h
        exact f110
      ·
        cases h
        exact f110
    ·
      obtain ⟨s17, e113, h⟩ := en_let_h h
      have f114 : en_fr [(24, 0)] σ s17 := fr_tr (fr_rf [(24, 0)] σ) (fr_wr e113 (List.mem_of_getElem? (i := 0) rfl))
      rcases en_if_h h with ⟨-, h⟩ | ⟨-, h⟩
      ·
        obtain ⟨t20, e115, h⟩ := en_b1_h h
        cases h
        exact f114
      ·
        cases h
        exact f114
theorem f_mm_pause {v1 : Int32} {v2 : Int32} {σ : en_M} {r : Int32 × en_M} (h : k_mm_pause v1 v2 σ = some r) : en_fr [(26, 0), (25, 0), (24, 0), (28, 0)] σ r.2 := by
  rw [k_mm_pause] at h
  obtain ⟨s1, e101, h⟩ := en_b1_h h
  have f102 : en_fr [(26, 0), (25, 0), (24, 0), (28, 0)] σ s1 := fr_tr (fr_rf [(26, 0), (25, 0), (24, 0), (28, 0)] σ) (fr_sub (f_mm_putsAside e101) (by simp))
  rcases en_if_h h with ⟨-, h⟩ | ⟨-, h⟩
  ·
    obtain ⟨t4, s5, e103, h⟩ := en_b2_h h
    have f104 : en_fr [(26, 0), (25, 0), (24, 0), (28, 0)] σ s5 := fr_tr f102 (fr_sub (f_mm_pause0 e103) (by simp))
    obtain ⟨t7, s8, e105, h⟩ := en_b2_h h
    have f106 : en_fr [(26, 0), (25, 0), (24, 0), (28, 0)] σ s8 := fr_tr f104 (fr_sub (f_mm_isTold e105) (by simp))
    rcases en_if_h h with ⟨-, h⟩ | ⟨-, h⟩
    ·
      cases h
      exact f106
    ·
      obtain ⟨t11, e107, h⟩ := en_b1_h h
      cases h
      exact f106
  ·
    obtain ⟨t13, s14, e109, h⟩ := en_b2_h h
    have f110 : en_fr [(26, 0), (25, 0), (24, 0), (28, 0)] σ s14 := fr_tr f102 (fr_sub (f_mm_pause0 e109) (by simp))
    obtain ⟨t16, s17, e111, h⟩ := en_b2_h h
    have f112 : en_fr [(26, 0), (25, 0), (24, 0), (28, 0)] σ s17 := fr_tr f110 (fr_sub (f_mm_isTold e111) (by simp))
    rcases en_if_h h with ⟨-, h⟩ | ⟨-, h⟩
    ·
      cases h
      exact f112
    ·
      obtain ⟨t20, e113, h⟩ := en_b1_h h
      cases h
      exact f112
theorem f_mm_piece {v1 : Int32} {v2 : Int32} {v3 : Int32} {σ : en_M} {r : Int32 × en_M} (h : k_mm_piece v1 v2 v3 σ = some r) : en_fr [(24, 0), (31, 0), (30, 0)] σ r.2 := by
  rw [k_mm_piece] at h
  obtain ⟨t1, e101, h⟩ := en_b1_h h
  rcases en_if_h h with ⟨-, h⟩ | ⟨-, h⟩
  ·
    obtain ⟨s53, e103, h⟩ := en_let_h h
    have f104 : en_fr [(24, 0), (31, 0), (30, 0)] σ s53 := fr_tr (fr_rf [(24, 0), (31, 0), (30, 0)] σ) (fr_wr e103 (List.mem_of_getElem? (i := 0) rfl))
    rcases en_if_h h with ⟨-, h⟩ | ⟨-, h⟩
    ·
      obtain ⟨s56, e105, h⟩ := en_b1_h h
      have f106 : en_fr [(24, 0), (31, 0), (30, 0)] σ s56 := fr_tr f104 (fr_sub (f_mm_times e105) (by simp))
      rcases en_if_h h with ⟨-, h⟩ | ⟨-, h⟩
      ·
        obtain ⟨t59, e107, h⟩ := en_b1_h h
        cases h
        exact f106
      ·
        rcases en_if_h h with ⟨-, h⟩ | ⟨-, h⟩
        ·
          obtain ⟨t62, e109, h⟩ := en_b1_h h
          rcases en_if_h h with ⟨-, h⟩ | ⟨-, h⟩
          ·
            obtain ⟨t65, e111, h⟩ := en_b1_h h
            cases h
            exact f106
          ·
            obtain ⟨t67, e113, h⟩ := en_b1_h h
            cases h
            exact f106
        ·
          rcases en_if_h h with ⟨-, h⟩ | ⟨-, h⟩
          ·
            obtain ⟨t70, e115, h⟩ := en_b1_h h
            cases h
            exact f106
          ·
            rcases en_if_h h with ⟨-, h⟩ | ⟨-, h⟩
            ·
              obtain ⟨t73, e117, h⟩ := en_b1_h h
              cases h
              exact f106
            ·
              obtain ⟨t75, e119, h⟩ := en_b1_h h
              cases h
              exact f106
    ·
      cases h
      exact f104
  ·
    rcases en_if_h h with ⟨-, h⟩ | ⟨-, h⟩
    ·
      obtain ⟨s29, e121, h⟩ := en_let_h h
      have f122 : en_fr [(24, 0), (31, 0), (30, 0)] σ s29 := fr_tr (fr_rf [(24, 0), (31, 0), (30, 0)] σ) (fr_wr e121 (List.mem_of_getElem? (i := 0) rfl))
      rcases en_if_h h with ⟨-, h⟩ | ⟨-, h⟩
      ·
        obtain ⟨s32, e123, h⟩ := en_b1_h h
        have f124 : en_fr [(24, 0), (31, 0), (30, 0)] σ s32 := fr_tr f122 (fr_sub (f_mm_times e123) (by simp))
        rcases en_if_h h with ⟨-, h⟩ | ⟨-, h⟩
        ·
          obtain ⟨t35, e125, h⟩ := en_b1_h h
          cases h
          exact f124
        ·
          rcases en_if_h h with ⟨-, h⟩ | ⟨-, h⟩
          ·
            obtain ⟨t38, e127, h⟩ := en_b1_h h
            rcases en_if_h h with ⟨-, h⟩ | ⟨-, h⟩
            ·
              obtain ⟨t41, e129, h⟩ := en_b1_h h
              cases h
              exact f124
            ·
              obtain ⟨t43, e131, h⟩ := en_b1_h h
              cases h
              exact f124
          ·
            rcases en_if_h h with ⟨-, h⟩ | ⟨-, h⟩
            ·
              obtain ⟨t46, e133, h⟩ := en_b1_h h
              cases h
              exact f124
            ·
              rcases en_if_h h with ⟨-, h⟩ | ⟨-, h⟩
              ·
                obtain ⟨t49, e135, h⟩ := en_b1_h h
                cases h
                exact f124
              ·
                obtain ⟨t51, e137, h⟩ := en_b1_h h
                cases h
                exact f124
      ·
        cases h
        exact f122
    ·
      obtain ⟨s5, e139, h⟩ := en_let_h h
      have f140 : en_fr [(24, 0), (31, 0), (30, 0)] σ s5 := fr_tr (fr_rf [(24, 0), (31, 0), (30, 0)] σ) (fr_wr e139 (List.mem_of_getElem? (i := 0) rfl))
      rcases en_if_h h with ⟨-, h⟩ | ⟨-, h⟩
      ·
        obtain ⟨s8, e141, h⟩ := en_b1_h h
        have f142 : en_fr [(24, 0), (31, 0), (30, 0)] σ s8 := fr_tr f140 (fr_sub (f_mm_times e141) (by simp))
        rcases en_if_h h with ⟨-, h⟩ | ⟨-, h⟩
        ·
          obtain ⟨t11, e143, h⟩ := en_b1_h h
          cases h
          exact f142
        ·
          rcases en_if_h h with ⟨-, h⟩ | ⟨-, h⟩
          ·
            obtain ⟨t14, e145, h⟩ := en_b1_h h
            rcases en_if_h h with ⟨-, h⟩ | ⟨-, h⟩
            ·
              obtain ⟨t17, e147, h⟩ := en_b1_h h
              cases h
              exact f142
            ·
              obtain ⟨t19, e149, h⟩ := en_b1_h h
              cases h
              exact f142
          ·
            rcases en_if_h h with ⟨-, h⟩ | ⟨-, h⟩
            ·
              obtain ⟨t22, e151, h⟩ := en_b1_h h
              cases h
              exact f142
            ·
              rcases en_if_h h with ⟨-, h⟩ | ⟨-, h⟩
              ·
                obtain ⟨t25, e153, h⟩ := en_b1_h h
                cases h
                exact f142
              ·
                obtain ⟨t27, e155, h⟩ := en_b1_h h
                cases h
                exact f142
      ·
        cases h
        exact f140
theorem f_mm_queue {v1 : Int32} {v2 : Int32} {σ : en_M} {r : Int32 × en_M} (h : k_mm_queue v1 v2 σ = some r) : en_fr [(24, 0), (31, 0), (30, 0), (32, 0), (33, 0), (34, 0)] σ r.2 := by
  rw [k_mm_queue] at h
  obtain ⟨s1, e101, h⟩ := en_let_h h
  have f102 : en_fr [(24, 0), (31, 0), (30, 0), (32, 0), (33, 0), (34, 0)] σ s1 := fr_tr (fr_rf [(24, 0), (31, 0), (30, 0), (32, 0), (33, 0), (34, 0)] σ) (fr_wr e101 (List.mem_of_getElem? (i := 0) rfl))
  obtain ⟨t3, s4, e103, h⟩ := en_b2_h h
  have f104 : en_fr [(24, 0), (31, 0), (30, 0), (32, 0), (33, 0), (34, 0)] σ s4 := fr_tr f102 (fr_sub (f_mm_queueOf e103) (by simp))
  cases h
  exact f104
theorem f_mm_quiet {σ : en_M} {r : Int32 × en_M} (h : k_mm_quiet σ = some r) : en_fr [(24, 0), (31, 0), (30, 0), (32, 0), (33, 0), (34, 0)] σ r.2 := by
  rw [k_mm_quiet] at h
  obtain ⟨s1, e101, h⟩ := en_let_h h
  have f102 : en_fr [(24, 0), (31, 0), (30, 0), (32, 0), (33, 0), (34, 0)] σ s1 := fr_tr (fr_rf [(24, 0), (31, 0), (30, 0), (32, 0), (33, 0), (34, 0)] σ) (fr_wr e101 (List.mem_of_getElem? (i := 0) rfl))
  obtain ⟨s3, e103, h⟩ := en_b1_h h
  have f104 : en_fr [(24, 0), (31, 0), (30, 0), (32, 0), (33, 0), (34, 0)] σ s3 := fr_tr f102 (fr_sub (f_mm_plays e103) (by simp))
  obtain ⟨x17, e105, h⟩ := en_b1_h h
  rcases en_if_h h with ⟨-, h⟩ | ⟨-, h⟩
  ·
    cases h
    exact f104
  ·
    cases h
    exact f104
theorem f_mm_rate {v1 : Int32} {v2 : Int32} {σ : en_M} {r : Int32 × en_M} (h : k_mm_rate v1 v2 σ = some r) : en_fr [(24, 0), (26, 0), (25, 0), (28, 0)] σ r.2 := by
  rw [k_mm_rate] at h
  rcases en_if_h h with ⟨-, h⟩ | ⟨-, h⟩
  ·
    obtain ⟨s2, e101, h⟩ := en_let_h h
    have f102 : en_fr [(24, 0), (26, 0), (25, 0), (28, 0)] σ s2 := fr_tr (fr_rf [(24, 0), (26, 0), (25, 0), (28, 0)] σ) (fr_wr e101 (List.mem_of_getElem? (i := 0) rfl))
    rcases en_if_h h with ⟨-, h⟩ | ⟨-, h⟩
    ·
      obtain ⟨s5, e103, h⟩ := en_b1_h h
      have f104 : en_fr [(24, 0), (26, 0), (25, 0), (28, 0)] σ s5 := fr_tr f102 (fr_sub (f_mm_putsAside e103) (by simp))
      rcases en_if_h h with ⟨-, h⟩ | ⟨-, h⟩
      ·
        obtain ⟨t8, s9, e105, h⟩ := en_b2_h h
        have f106 : en_fr [(24, 0), (26, 0), (25, 0), (28, 0)] σ s9 := fr_tr f104 (fr_sub (f_mm_rate0 e105) (by simp))
        obtain ⟨t11, s12, e107, h⟩ := en_b2_h h
        have f108 : en_fr [(24, 0), (26, 0), (25, 0), (28, 0)] σ s12 := fr_tr f106 (fr_sub (f_mm_isTold e107) (by simp))
        rcases en_if_h h with ⟨-, h⟩ | ⟨-, h⟩
        ·
          cases h
          exact f108
        ·
          cases h
          exact f108
      ·
        obtain ⟨t15, e109, h⟩ := en_b1_h h
        obtain ⟨t17, s18, e111, h⟩ := en_b2_h h
        have f112 : en_fr [(24, 0), (26, 0), (25, 0), (28, 0)] σ s18 := fr_tr f104 (fr_sub (f_mm_rate0 e111) (by simp))
        obtain ⟨t20, s21, e113, h⟩ := en_b2_h h
        have f114 : en_fr [(24, 0), (26, 0), (25, 0), (28, 0)] σ s21 := fr_tr f112 (fr_sub (f_mm_isTold e113) (by simp))
        rcases en_if_h h with ⟨-, h⟩ | ⟨-, h⟩
        ·
          cases h
          exact f114
        ·
          cases h
          exact f114
    ·
      cases h
      exact f102
  ·
    obtain ⟨s24, e115, h⟩ := en_let_h h
    have f116 : en_fr [(24, 0), (26, 0), (25, 0), (28, 0)] σ s24 := fr_tr (fr_rf [(24, 0), (26, 0), (25, 0), (28, 0)] σ) (fr_wr e115 (List.mem_of_getElem? (i := 0) rfl))
    rcases en_if_h h with ⟨-, h⟩ | ⟨-, h⟩
    ·
      obtain ⟨s27, e117, h⟩ := en_b1_h h
      have f118 : en_fr [(24, 0), (26, 0), (25, 0), (28, 0)] σ s27 := fr_tr f116 (fr_sub (f_mm_putsAside e117) (by simp))
      rcases en_if_h h with ⟨-, h⟩ | ⟨-, h⟩
      ·
        obtain ⟨t30, s31, e119, h⟩ := en_b2_h h
        have f120 : en_fr [(24, 0), (26, 0), (25, 0), (28, 0)] σ s31 := fr_tr f118 (fr_sub (f_mm_rate0 e119) (by simp))
        obtain ⟨t33, s34, e121, h⟩ := en_b2_h h
        have f122 : en_fr [(24, 0), (26, 0), (25, 0), (28, 0)] σ s34 := fr_tr f120 (fr_sub (f_mm_isTold e121) (by simp))
        rcases en_if_h h with ⟨-, h⟩ | ⟨-, h⟩
        ·
          cases h
          exact f122
        ·
          cases h
          exact f122
      ·
        obtain ⟨t37, e123, h⟩ := en_b1_h h
        obtain ⟨t39, s40, e125, h⟩ := en_b2_h h
        have f126 : en_fr [(24, 0), (26, 0), (25, 0), (28, 0)] σ s40 := fr_tr f118 (fr_sub (f_mm_rate0 e125) (by simp))
        obtain ⟨t42, s43, e127, h⟩ := en_b2_h h
        have f128 : en_fr [(24, 0), (26, 0), (25, 0), (28, 0)] σ s43 := fr_tr f126 (fr_sub (f_mm_isTold e127) (by simp))
        rcases en_if_h h with ⟨-, h⟩ | ⟨-, h⟩
        ·
          cases h
          exact f128
        ·
          cases h
          exact f128
    ·
      cases h
      exact f116
theorem f_mm_rest {σ : en_M} {r : Int32 × en_M} (h : k_mm_rest σ = some r) : en_fr [(24, 0)] σ r.2 := by
  rw [k_mm_rest] at h
  obtain ⟨s1, e101, h⟩ := en_let_h h
  have f102 : en_fr [(24, 0)] σ s1 := fr_tr (fr_rf [(24, 0)] σ) (fr_wr e101 (List.mem_of_getElem? (i := 0) rfl))
  obtain ⟨x12, e103, h⟩ := en_b1_h h
  cases h
  exact f102
theorem f_mm_send {v1 : Int32} {v2 : Int32} {v3 : Int32} {v4 : Int32} {σ : en_M} {r : Int32 × en_M} (h : k_mm_send v1 v2 v3 v4 σ = some r) : en_fr [(24, 0), (26, 0), (25, 0), (28, 0)] σ r.2 := by
  rw [k_mm_send] at h
  rcases en_if_h h with ⟨-, h⟩ | ⟨-, h⟩
  ·
    obtain ⟨s2, e101, h⟩ := en_let_h h
    have f102 : en_fr [(24, 0), (26, 0), (25, 0), (28, 0)] σ s2 := fr_tr (fr_rf [(24, 0), (26, 0), (25, 0), (28, 0)] σ) (fr_wr e101 (List.mem_of_getElem? (i := 0) rfl))
    rcases en_if_h h with ⟨-, h⟩ | ⟨-, h⟩
    ·
      obtain ⟨s5, e103, h⟩ := en_b1_h h
      have f104 : en_fr [(24, 0), (26, 0), (25, 0), (28, 0)] σ s5 := fr_tr f102 (fr_sub (f_mm_putsAside e103) (by simp))
      obtain ⟨t7, s8, e105, h⟩ := en_b2_h h
      have f106 : en_fr [(24, 0), (26, 0), (25, 0), (28, 0)] σ s8 := fr_tr f104 (fr_sub (f_mm_send0 e105) (by simp))
      obtain ⟨t10, s11, e107, h⟩ := en_b2_h h
      have f108 : en_fr [(24, 0), (26, 0), (25, 0), (28, 0)] σ s11 := fr_tr f106 (fr_sub (f_mm_isTold e107) (by simp))
      rcases en_if_h h with ⟨-, h⟩ | ⟨-, h⟩
      ·
        cases h
        exact f108
      ·
        cases h
        exact f108
    ·
      cases h
      exact f102
  ·
    rcases en_if_h h with ⟨-, h⟩ | ⟨-, h⟩
    ·
      obtain ⟨s15, e109, h⟩ := en_let_h h
      have f110 : en_fr [(24, 0), (26, 0), (25, 0), (28, 0)] σ s15 := fr_tr (fr_rf [(24, 0), (26, 0), (25, 0), (28, 0)] σ) (fr_wr e109 (List.mem_of_getElem? (i := 0) rfl))
      rcases en_if_h h with ⟨-, h⟩ | ⟨-, h⟩
      ·
        obtain ⟨s18, e111, h⟩ := en_b1_h h
        have f112 : en_fr [(24, 0), (26, 0), (25, 0), (28, 0)] σ s18 := fr_tr f110 (fr_sub (f_mm_putsAside e111) (by simp))
        obtain ⟨t20, s21, e113, h⟩ := en_b2_h h
        have f114 : en_fr [(24, 0), (26, 0), (25, 0), (28, 0)] σ s21 := fr_tr f112 (fr_sub (f_mm_send0 e113) (by simp))
        obtain ⟨t23, s24, e115, h⟩ := en_b2_h h
        have f116 : en_fr [(24, 0), (26, 0), (25, 0), (28, 0)] σ s24 := fr_tr f114 (fr_sub (f_mm_isTold e115) (by simp))
        rcases en_if_h h with ⟨-, h⟩ | ⟨-, h⟩
        ·
          cases h
          exact f116
        ·
          cases h
          exact f116
      ·
        cases h
        exact f110
    ·
      rcases en_if_h h with ⟨-, h⟩ | ⟨-, h⟩
      ·
        obtain ⟨s28, e117, h⟩ := en_let_h h
        have f118 : en_fr [(24, 0), (26, 0), (25, 0), (28, 0)] σ s28 := fr_tr (fr_rf [(24, 0), (26, 0), (25, 0), (28, 0)] σ) (fr_wr e117 (List.mem_of_getElem? (i := 0) rfl))
        rcases en_if_h h with ⟨-, h⟩ | ⟨-, h⟩
        ·
          obtain ⟨s31, e119, h⟩ := en_b1_h h
          have f120 : en_fr [(24, 0), (26, 0), (25, 0), (28, 0)] σ s31 := fr_tr f118 (fr_sub (f_mm_putsAside e119) (by simp))
          obtain ⟨t33, s34, e121, h⟩ := en_b2_h h
          have f122 : en_fr [(24, 0), (26, 0), (25, 0), (28, 0)] σ s34 := fr_tr f120 (fr_sub (f_mm_send0 e121) (by simp))
          obtain ⟨t36, s37, e123, h⟩ := en_b2_h h
          have f124 : en_fr [(24, 0), (26, 0), (25, 0), (28, 0)] σ s37 := fr_tr f122 (fr_sub (f_mm_isTold e123) (by simp))
          rcases en_if_h h with ⟨-, h⟩ | ⟨-, h⟩
          ·
            cases h
            exact f124
          ·
            cases h
            exact f124
        ·
          cases h
          exact f118
      ·
        obtain ⟨s40, e125, h⟩ := en_let_h h
        have f126 : en_fr [(24, 0), (26, 0), (25, 0), (28, 0)] σ s40 := fr_tr (fr_rf [(24, 0), (26, 0), (25, 0), (28, 0)] σ) (fr_wr e125 (List.mem_of_getElem? (i := 0) rfl))
        rcases en_if_h h with ⟨-, h⟩ | ⟨-, h⟩
        ·
          obtain ⟨s43, e127, h⟩ := en_b1_h h
          have f128 : en_fr [(24, 0), (26, 0), (25, 0), (28, 0)] σ s43 := fr_tr f126 (fr_sub (f_mm_putsAside e127) (by simp))
          obtain ⟨t45, s46, e129, h⟩ := en_b2_h h
          have f130 : en_fr [(24, 0), (26, 0), (25, 0), (28, 0)] σ s46 := fr_tr f128 (fr_sub (f_mm_send0 e129) (by simp))
          obtain ⟨t48, s49, e131, h⟩ := en_b2_h h
          have f132 : en_fr [(24, 0), (26, 0), (25, 0), (28, 0)] σ s49 := fr_tr f130 (fr_sub (f_mm_isTold e131) (by simp))
          rcases en_if_h h with ⟨-, h⟩ | ⟨-, h⟩
          ·
            cases h
            exact f132
          ·
            cases h
            exact f132
        ·
          cases h
          exact f126
theorem f_mm_share {v1 : Int32} {σ : en_M} {r : Int32 × en_M} (h : k_mm_share v1 σ = some r) : en_fr [(24, 0)] σ r.2 := by
  rw [k_mm_share] at h
  rcases en_if_h h with ⟨-, h⟩ | ⟨-, h⟩
  ·
    obtain ⟨s2, e101, h⟩ := en_let_h h
    have f102 : en_fr [(24, 0)] σ s2 := fr_tr (fr_rf [(24, 0)] σ) (fr_wr e101 (List.mem_of_getElem? (i := 0) rfl))
    rcases en_if_h h with ⟨-, h⟩ | ⟨-, h⟩
    ·
      obtain ⟨x13, x14, e103, h⟩ := en_b2_h h
      rcases en_if_h h with ⟨-, h⟩ | ⟨-, h⟩
      ·
        cases h
        exact f102
      ·
        obtain ⟨t18, e105, h⟩ := en_b1_h h
        cases h
        exact f102
    ·
      cases h
      exact f102
  ·
    obtain ⟨s20, e107, h⟩ := en_let_h h
    have f108 : en_fr [(24, 0)] σ s20 := fr_tr (fr_rf [(24, 0)] σ) (fr_wr e107 (List.mem_of_getElem? (i := 0) rfl))
    rcases en_if_h h with ⟨-, h⟩ | ⟨-, h⟩
    ·
      obtain ⟨x23, x24, e109, h⟩ := en_b2_h h
      rcases en_if_h h with ⟨-, h⟩ | ⟨-, h⟩
      ·
        cases h
        exact f108
      ·
        obtain ⟨t28, e111, h⟩ := en_b1_h h
        cases h
        exact f108
    ·
      cases h
      exact f108
theorem f_mm_tick {v1 : Int32} {σ : en_M} {r : Int32 × en_M} (h : k_mm_tick v1 σ = some r) : en_fr [(24, 0), (26, 0), (31, 0), (30, 0), (25, 0), (28, 0)] σ r.2 := by
  rw [k_mm_tick] at h
  rcases en_if_h h with ⟨-, h⟩ | ⟨-, h⟩
  ·
    obtain ⟨s2, e101, h⟩ := en_let_h h
    have f102 : en_fr [(24, 0), (26, 0), (31, 0), (30, 0), (25, 0), (28, 0)] σ s2 := fr_tr (fr_rf [(24, 0), (26, 0), (31, 0), (30, 0), (25, 0), (28, 0)] σ) (fr_wr e101 (List.mem_of_getElem? (i := 0) rfl))
    rcases en_if_h h with ⟨-, h⟩ | ⟨-, h⟩
    ·
      obtain ⟨s5, e103, h⟩ := en_b1_h h
      have f104 : en_fr [(24, 0), (26, 0), (31, 0), (30, 0), (25, 0), (28, 0)] σ s5 := fr_tr f102 (fr_sub (f_mm_putsAside e103) (by simp))
      obtain ⟨t7, s8, e105, h⟩ := en_b2_h h
      have f106 : en_fr [(24, 0), (26, 0), (31, 0), (30, 0), (25, 0), (28, 0)] σ s8 := fr_tr f104 (fr_sub (f_mm_tick0 e105) (by simp))
      obtain ⟨t10, s11, e107, h⟩ := en_b2_h h
      have f108 : en_fr [(24, 0), (26, 0), (31, 0), (30, 0), (25, 0), (28, 0)] σ s11 := fr_tr f106 (fr_sub (f_mm_isTold e107) (by simp))
      rcases en_if_h h with ⟨-, h⟩ | ⟨-, h⟩
      ·
        cases h
        exact f108
      ·
        cases h
        exact f108
    ·
      cases h
      exact f102
  ·
    obtain ⟨s14, e109, h⟩ := en_let_h h
    have f110 : en_fr [(24, 0), (26, 0), (31, 0), (30, 0), (25, 0), (28, 0)] σ s14 := fr_tr (fr_rf [(24, 0), (26, 0), (31, 0), (30, 0), (25, 0), (28, 0)] σ) (fr_wr e109 (List.mem_of_getElem? (i := 0) rfl))
    rcases en_if_h h with ⟨-, h⟩ | ⟨-, h⟩
    ·
      obtain ⟨s17, e111, h⟩ := en_b1_h h
      have f112 : en_fr [(24, 0), (26, 0), (31, 0), (30, 0), (25, 0), (28, 0)] σ s17 := fr_tr f110 (fr_sub (f_mm_putsAside e111) (by simp))
      obtain ⟨t19, s20, e113, h⟩ := en_b2_h h
      have f114 : en_fr [(24, 0), (26, 0), (31, 0), (30, 0), (25, 0), (28, 0)] σ s20 := fr_tr f112 (fr_sub (f_mm_tick0 e113) (by simp))
      obtain ⟨t22, s23, e115, h⟩ := en_b2_h h
      have f116 : en_fr [(24, 0), (26, 0), (31, 0), (30, 0), (25, 0), (28, 0)] σ s23 := fr_tr f114 (fr_sub (f_mm_isTold e115) (by simp))
      rcases en_if_h h with ⟨-, h⟩ | ⟨-, h⟩
      ·
        cases h
        exact f116
      ·
        cases h
        exact f116
    ·
      cases h
      exact f110
theorem f_mm_told {v1 : Int32} {v2 : Int32} {σ : en_M} {r : Int32 × en_M} (h : k_mm_told v1 v2 σ = some r) : en_fr [(24, 0)] σ r.2 := by
  rw [k_mm_told] at h
  rcases en_if_h h with ⟨-, h⟩ | ⟨-, h⟩
  ·
    obtain ⟨s37, e101, h⟩ := en_let_h h
    have f102 : en_fr [(24, 0)] σ s37 := fr_tr (fr_rf [(24, 0)] σ) (fr_wr e101 (List.mem_of_getElem? (i := 0) rfl))
    rcases en_if_h h with ⟨-, h⟩ | ⟨-, h⟩
    ·
      rcases en_if_h h with ⟨-, h⟩ | ⟨-, h⟩
      ·
        obtain ⟨t41, e103, h⟩ := en_b1_h h
        cases h
        exact f102
      ·
        rcases en_if_h h with ⟨-, h⟩ | ⟨-, h⟩
        ·
          obtain ⟨t44, e105, h⟩ := en_b1_h h
          cases h
          exact f102
        ·
          rcases en_if_h h with ⟨-, h⟩ | ⟨-, h⟩
          ·
            obtain ⟨t47, e107, h⟩ := en_b1_h h
            cases h
            exact f102
          ·
            rcases en_if_h h with ⟨-, h⟩ | ⟨-, h⟩
            ·
              obtain ⟨t50, e109, h⟩ := en_b1_h h
              cases h
              exact f102
            ·
              obtain ⟨t52, e111, h⟩ := en_b1_h h
              cases h
              exact f102
    ·
      cases h
      exact f102
  ·
    rcases en_if_h h with ⟨-, h⟩ | ⟨-, h⟩
    ·
      obtain ⟨s20, e113, h⟩ := en_let_h h
      have f114 : en_fr [(24, 0)] σ s20 := fr_tr (fr_rf [(24, 0)] σ) (fr_wr e113 (List.mem_of_getElem? (i := 0) rfl))
      rcases en_if_h h with ⟨-, h⟩ | ⟨-, h⟩
      ·
        rcases en_if_h h with ⟨-, h⟩ | ⟨-, h⟩
        ·
          obtain ⟨t24, e115, h⟩ := en_b1_h h
          cases h
          exact f114
        ·
          rcases en_if_h h with ⟨-, h⟩ | ⟨-, h⟩
          ·
            obtain ⟨t27, e117, h⟩ := en_b1_h h
            cases h
            exact f114
          ·
            rcases en_if_h h with ⟨-, h⟩ | ⟨-, h⟩
            ·
              obtain ⟨t30, e119, h⟩ := en_b1_h h
              cases h
              exact f114
            ·
              rcases en_if_h h with ⟨-, h⟩ | ⟨-, h⟩
              ·
                obtain ⟨t33, e121, h⟩ := en_b1_h h
                cases h
                exact f114
              ·
                obtain ⟨t35, e123, h⟩ := en_b1_h h
                cases h
                exact f114
      ·
        cases h
        exact f114
    ·
      obtain ⟨s3, e125, h⟩ := en_let_h h
      have f126 : en_fr [(24, 0)] σ s3 := fr_tr (fr_rf [(24, 0)] σ) (fr_wr e125 (List.mem_of_getElem? (i := 0) rfl))
      rcases en_if_h h with ⟨-, h⟩ | ⟨-, h⟩
      ·
        rcases en_if_h h with ⟨-, h⟩ | ⟨-, h⟩
        ·
          obtain ⟨t7, e127, h⟩ := en_b1_h h
          cases h
          exact f126
        ·
          rcases en_if_h h with ⟨-, h⟩ | ⟨-, h⟩
          ·
            obtain ⟨t10, e129, h⟩ := en_b1_h h
            cases h
            exact f126
          ·
            rcases en_if_h h with ⟨-, h⟩ | ⟨-, h⟩
            ·
              obtain ⟨t13, e131, h⟩ := en_b1_h h
              cases h
              exact f126
            ·
              rcases en_if_h h with ⟨-, h⟩ | ⟨-, h⟩
              ·
                obtain ⟨t16, e133, h⟩ := en_b1_h h
                cases h
                exact f126
              ·
                obtain ⟨t18, e135, h⟩ := en_b1_h h
                cases h
                exact f126
      ·
        cases h
        exact f126
theorem f_mm_undo_37 : ∀ {f0 : Nat} {v1 : Int32} {σ : en_M} {r : en_M} (h : k_mm_undo_37 f0 v1 σ = some r), en_fr [(25, 0)] σ r := by
  intro f0
  induction f0 with
  | zero => intro v1 σ r h; cases h
  | succ f9 ih =>
    intro v1 σ r h
    rw [k_mm_undo_37] at h
    rcases en_if_h h with ⟨-, h⟩ | ⟨-, h⟩
    ·
      cases h
      exact (fr_rf [(25, 0)] σ)
    ·
      obtain ⟨t8, e101, h⟩ := en_b1_h h
      obtain ⟨s10, e103, h⟩ := en_b1_h h
      have f104 : en_fr [(25, 0)] σ s10 := fr_tr (fr_rf [(25, 0)] σ) (fr_wa e103 (List.mem_of_getElem? (i := 0) rfl))
      exact fr_tr f104 (ih h)
theorem f_mm_undo {σ : en_M} {r : Int32 × en_M} (h : k_mm_undo σ = some r) : en_fr [(24, 0), (25, 0)] σ r.2 := by
  rw [k_mm_undo] at h
  rcases en_if_h h with ⟨-, h⟩ | ⟨-, h⟩
  ·
    obtain ⟨s15, e101, h⟩ := en_let_h h
    have f102 : en_fr [(24, 0), (25, 0)] σ s15 := fr_tr (fr_rf [(24, 0), (25, 0)] σ) (fr_wr e101 (List.mem_of_getElem? (i := 0) rfl))
    rcases en_if_h h with ⟨-, h⟩ | ⟨-, h⟩
    ·
      obtain ⟨s18, e103, h⟩ := en_let_h h
      have f104 : en_fr [(24, 0), (25, 0)] σ s18 := fr_tr f102 (fr_wr e103 (List.mem_of_getElem? (i := 0) rfl))
      obtain ⟨s21, e105, h⟩ := en_b1_h h
      have f106 : en_fr [(24, 0), (25, 0)] σ s21 := fr_tr f104 (fr_sub (f_mm_undo_37 e105) (by simp))
      cases h
      exact f106
    ·
      cases h
      exact f102
  ·
    obtain ⟨s2, e107, h⟩ := en_let_h h
    have f108 : en_fr [(24, 0), (25, 0)] σ s2 := fr_tr (fr_rf [(24, 0), (25, 0)] σ) (fr_wr e107 (List.mem_of_getElem? (i := 0) rfl))
    rcases en_if_h h with ⟨-, h⟩ | ⟨-, h⟩
    ·
      obtain ⟨s5, e109, h⟩ := en_let_h h
      have f110 : en_fr [(24, 0), (25, 0)] σ s5 := fr_tr f108 (fr_wr e109 (List.mem_of_getElem? (i := 0) rfl))
      obtain ⟨s13, e111, h⟩ := en_b1_h h
      have f112 : en_fr [(24, 0), (25, 0)] σ s13 := fr_tr f110 (fr_sub (f_mm_undo_37 e111) (by simp))
      cases h
      exact f112
    ·
      cases h
      exact f108
theorem f_mm_why {σ : en_M} {r : Int32 × en_M} (h : k_mm_why σ = some r) : en_fr [(24, 0)] σ r.2 := by
  rw [k_mm_why] at h
  obtain ⟨s1, e101, h⟩ := en_let_h h
  have f102 : en_fr [(24, 0)] σ s1 := fr_tr (fr_rf [(24, 0)] σ) (fr_wr e101 (List.mem_of_getElem? (i := 0) rfl))
  cases h
  exact f102
theorem f_mm_works {v1 : Int32} {σ : en_M} {r : Int32 × en_M} (h : k_mm_works v1 σ = some r) : en_fr [(24, 0), (31, 0), (30, 0), (32, 0), (33, 0), (34, 0)] σ r.2 := by
  rw [k_mm_works] at h
  rcases en_if_h h with ⟨-, h⟩ | ⟨-, h⟩
  ·
    obtain ⟨s2, e101, h⟩ := en_let_h h
    have f102 : en_fr [(24, 0), (31, 0), (30, 0), (32, 0), (33, 0), (34, 0)] σ s2 := fr_tr (fr_rf [(24, 0), (31, 0), (30, 0), (32, 0), (33, 0), (34, 0)] σ) (fr_wr e101 (List.mem_of_getElem? (i := 0) rfl))
    rcases en_if_h h with ⟨-, h⟩ | ⟨-, h⟩
    ·
      obtain ⟨s5, e103, h⟩ := en_b1_h h
      have f104 : en_fr [(24, 0), (31, 0), (30, 0), (32, 0), (33, 0), (34, 0)] σ s5 := fr_tr f102 (fr_sub (f_mm_plays e103) (by simp))
      obtain ⟨x20, e105, h⟩ := en_b1_h h
      cases h
      exact f104
    ·
      cases h
      exact f102
  ·
    obtain ⟨s23, e107, h⟩ := en_let_h h
    have f108 : en_fr [(24, 0), (31, 0), (30, 0), (32, 0), (33, 0), (34, 0)] σ s23 := fr_tr (fr_rf [(24, 0), (31, 0), (30, 0), (32, 0), (33, 0), (34, 0)] σ) (fr_wr e107 (List.mem_of_getElem? (i := 0) rfl))
    rcases en_if_h h with ⟨-, h⟩ | ⟨-, h⟩
    ·
      obtain ⟨s26, e109, h⟩ := en_b1_h h
      have f110 : en_fr [(24, 0), (31, 0), (30, 0), (32, 0), (33, 0), (34, 0)] σ s26 := fr_tr f108 (fr_sub (f_mm_plays e109) (by simp))
      obtain ⟨x28, e111, h⟩ := en_b1_h h
      cases h
      exact f110
    ·
      cases h
      exact f108
theorem f_mm_has_60 : ∀ {f0 : Nat} {v1 : Nat} {v2 : Int32} {v3 : Int32} {σ : en_M} {r : (Int32 × en_M) ⊕ (Unit)} (h : k_mm_has_60 f0 v1 v2 v3 σ = some r), match r with | .inl z => en_fr [] σ z.2 | .inr z => True := by
  intro f0
  induction f0 with
  | zero => intro v1 v2 v3 σ r h; cases h
  | succ f9 ih =>
    intro v1 v2 v3 σ r h
    rw [k_mm_has_60] at h
    rcases en_if_h h with ⟨-, h⟩ | ⟨-, h⟩
    ·
      cases h
      trivial
    ·
      obtain ⟨t13, e101, h⟩ := en_b1_h h
      obtain ⟨t15, e103, h⟩ := en_b1_h h
      rcases en_if_h h with ⟨-, h⟩ | ⟨-, h⟩
      ·
        have f9 := ih h
        cases r with
        | inl z => exact fr_tr (fr_rf [] σ) f9
        | inr z => exact trivial
      ·
        cases h
        exact (fr_rf [] σ)
theorem f_mm_has {v1 : Nat} {σ : en_M} {r : Int32 × en_M} (h : k_mm_has v1 σ = some r) : en_fr [(24, 0)] σ r.2 := by
  rw [k_mm_has] at h
  obtain ⟨t1, s2, e101, h⟩ := en_b2_h h
  have f102 : en_fr [(24, 0)] σ s2 := fr_tr (fr_rf [(24, 0)] σ) (f_mm_here e101)
  obtain ⟨x8, e103, h⟩ := en_b1_h h
  rcases en_if_h h with ⟨-, h⟩ | ⟨-, h⟩
  ·
    rcases en_if_h h with ⟨-, h⟩ | ⟨-, h⟩
    ·
      rcases en_rx_h h with ⟨r20, e105, h⟩ | ⟨u22, e105, h⟩
      ·
        have f106 : en_fr [(24, 0)] σ r20.2 := fr_tr f102 (fr_sub (f_mm_has_60 e105) fr_nil)
        cases h
        exact f106
      ·
        obtain ⟨s23, e107, h⟩ := en_let_h h
        have f108 : en_fr [(24, 0)] σ s23 := fr_tr f102 (fr_wr e107 (List.mem_of_getElem? (i := 0) rfl))
        cases h
        exact f108
    ·
      cases h
      exact f102
  ·
    cases h
    exact f102
theorem f_mm_flowText {σ : en_M} {r : Int32 × en_M} (h : k_mm_flowText σ = some r) : en_fr [(24, 0), (25, 0)] σ r.2 := by
  rw [k_mm_flowText] at h
  obtain ⟨t1, s2, e101, h⟩ := en_b2_h h
  have f102 : en_fr [(24, 0), (25, 0)] σ s2 := fr_tr (fr_rf [(24, 0), (25, 0)] σ) (fr_sub (f_mm_number e101) (by simp))
  obtain ⟨t4, s5, e103, h⟩ := en_b2_h h
  have f104 : en_fr [(24, 0), (25, 0)] σ s5 := fr_tr f102 (fr_sub (f_mm_has e103) (by simp))
  rcases en_if_h h with ⟨-, h⟩ | ⟨-, h⟩
  ·
    rcases en_if_h h with ⟨-, h⟩ | ⟨-, h⟩
    ·
      obtain ⟨t9, s10, e105, h⟩ := en_b2_h h
      have f106 : en_fr [(24, 0), (25, 0)] σ s10 := fr_tr f104 (fr_sub (f_mm_flow0 e105) (by simp))
      cases h
      exact f106
    ·
      cases h
      exact f104
  ·
    obtain ⟨t12, s13, e107, h⟩ := en_b2_h h
    have f108 : en_fr [(24, 0), (25, 0)] σ s13 := fr_tr f104 (fr_sub (f_mm_number e107) (by simp))
    rcases en_if_h h with ⟨-, h⟩ | ⟨-, h⟩
    ·
      obtain ⟨t16, s17, e109, h⟩ := en_b2_h h
      have f110 : en_fr [(24, 0), (25, 0)] σ s17 := fr_tr f108 (fr_sub (f_mm_flow0 e109) (by simp))
      cases h
      exact f110
    ·
      cases h
      exact f108
theorem f_mm_sendText {σ : en_M} {r : Int32 × en_M} (h : k_mm_sendText σ = some r) : en_fr [(24, 0), (25, 0)] σ r.2 := by
  rw [k_mm_sendText] at h
  obtain ⟨t1, s2, e101, h⟩ := en_b2_h h
  have f102 : en_fr [(24, 0), (25, 0)] σ s2 := fr_tr (fr_rf [(24, 0), (25, 0)] σ) (fr_sub (f_mm_number e101) (by simp))
  obtain ⟨t4, s5, e103, h⟩ := en_b2_h h
  have f104 : en_fr [(24, 0), (25, 0)] σ s5 := fr_tr f102 (fr_sub (f_mm_number e103) (by simp))
  obtain ⟨t7, s8, e105, h⟩ := en_b2_h h
  have f106 : en_fr [(24, 0), (25, 0)] σ s8 := fr_tr f104 (fr_sub (f_mm_number e105) (by simp))
  obtain ⟨t10, s11, e107, h⟩ := en_b2_h h
  have f108 : en_fr [(24, 0), (25, 0)] σ s11 := fr_tr f106 (fr_sub (f_mm_has e107) (by simp))
  rcases en_if_h h with ⟨-, h⟩ | ⟨-, h⟩
  ·
    rcases en_if_h h with ⟨-, h⟩ | ⟨-, h⟩
    ·
      obtain ⟨t15, s16, e109, h⟩ := en_b2_h h
      have f110 : en_fr [(24, 0), (25, 0)] σ s16 := fr_tr f108 (fr_sub (f_mm_send0 e109) (by simp))
      cases h
      exact f110
    ·
      cases h
      exact f108
  ·
    obtain ⟨t18, s19, e111, h⟩ := en_b2_h h
    have f112 : en_fr [(24, 0), (25, 0)] σ s19 := fr_tr f108 (fr_sub (f_mm_number e111) (by simp))
    rcases en_if_h h with ⟨-, h⟩ | ⟨-, h⟩
    ·
      obtain ⟨t22, s23, e113, h⟩ := en_b2_h h
      have f114 : en_fr [(24, 0), (25, 0)] σ s23 := fr_tr f112 (fr_sub (f_mm_send0 e113) (by simp))
      cases h
      exact f114
    ·
      cases h
      exact f112
theorem f_mm_act {σ : en_M} {r : Int32 × en_M} (h : k_mm_act σ = some r) : en_fr [(24, 0), (31, 0), (30, 0), (25, 0)] σ r.2 := by
  rw [k_mm_act] at h
  obtain ⟨t1, s2, e101, h⟩ := en_b2_h h
  have f102 : en_fr [(24, 0), (31, 0), (30, 0), (25, 0)] σ s2 := fr_tr (fr_rf [(24, 0), (31, 0), (30, 0), (25, 0)] σ) (fr_sub (f_mm_here e101) (by simp))
  obtain ⟨t4, s5, e103, h⟩ := en_b2_h h
  have f104 : en_fr [(24, 0), (31, 0), (30, 0), (25, 0)] σ s5 := fr_tr f102 (fr_sub (f_mm_has e103) (by simp))
  rcases en_if_h h with ⟨-, h⟩ | ⟨-, h⟩
  ·
    obtain ⟨t8, s9, e105, h⟩ := en_b2_h h
    have f106 : en_fr [(24, 0), (31, 0), (30, 0), (25, 0)] σ s9 := fr_tr f104 (fr_sub (f_mm_has e105) (by simp))
    rcases en_if_h h with ⟨-, h⟩ | ⟨-, h⟩
    ·
      obtain ⟨t12, s13, e107, h⟩ := en_b2_h h
      have f108 : en_fr [(24, 0), (31, 0), (30, 0), (25, 0)] σ s13 := fr_tr f106 (fr_sub (f_mm_has e107) (by simp))
      rcases en_if_h h with ⟨-, h⟩ | ⟨-, h⟩
      ·
        obtain ⟨t16, s17, e109, h⟩ := en_b2_h h
        have f110 : en_fr [(24, 0), (31, 0), (30, 0), (25, 0)] σ s17 := fr_tr f108 (fr_sub (f_mm_has e109) (by simp))
        rcases en_if_h h with ⟨-, h⟩ | ⟨-, h⟩
        ·
          obtain ⟨t20, s21, e111, h⟩ := en_b2_h h
          have f112 : en_fr [(24, 0), (31, 0), (30, 0), (25, 0)] σ s21 := fr_tr f110 (fr_sub (f_mm_has e111) (by simp))
          rcases en_if_h h with ⟨-, h⟩ | ⟨-, h⟩
          ·
            obtain ⟨t24, s25, e113, h⟩ := en_b2_h h
            have f114 : en_fr [(24, 0), (31, 0), (30, 0), (25, 0)] σ s25 := fr_tr f112 (fr_sub (f_mm_has e113) (by simp))
            rcases en_if_h h with ⟨-, h⟩ | ⟨-, h⟩
            ·
              obtain ⟨t28, s29, e115, h⟩ := en_b2_h h
              have f116 : en_fr [(24, 0), (31, 0), (30, 0), (25, 0)] σ s29 := fr_tr f114 (fr_sub (f_mm_has e115) (by simp))
              rcases en_if_h h with ⟨-, h⟩ | ⟨-, h⟩
              ·
                obtain ⟨t32, s33, e117, h⟩ := en_b2_h h
                have f118 : en_fr [(24, 0), (31, 0), (30, 0), (25, 0)] σ s33 := fr_tr f116 (fr_sub (f_mm_has e117) (by simp))
                rcases en_if_h h with ⟨-, h⟩ | ⟨-, h⟩
                ·
                  obtain ⟨t36, s37, e119, h⟩ := en_b2_h h
                  have f120 : en_fr [(24, 0), (31, 0), (30, 0), (25, 0)] σ s37 := fr_tr f118 (fr_sub (f_mm_has e119) (by simp))
                  rcases en_if_h h with ⟨-, h⟩ | ⟨-, h⟩
                  ·
                    obtain ⟨s40, e121, h⟩ := en_b1_h h
                    have f122 : en_fr [(24, 0), (31, 0), (30, 0), (25, 0)] σ s40 := fr_tr f120 (fr_sub (f_mm_wrong e121) (by simp))
                    cases h
                    exact f122
                  ·
                    obtain ⟨t42, s43, e123, h⟩ := en_b2_h h
                    have f124 : en_fr [(24, 0), (31, 0), (30, 0), (25, 0)] σ s43 := fr_tr f120 (fr_sub (f_mm_number e123) (by simp))
                    rcases en_if_h h with ⟨-, h⟩ | ⟨-, h⟩
                    ·
                      obtain ⟨t46, s47, e125, h⟩ := en_b2_h h
                      have f126 : en_fr [(24, 0), (31, 0), (30, 0), (25, 0)] σ s47 := fr_tr f124 (f_mm_tick0 e125)
                      rcases en_if_h h with ⟨-, h⟩ | ⟨-, h⟩
                      ·
                        cases h
                        exact f126
                      ·
                        obtain ⟨s50, e127, h⟩ := en_b1_h h
                        have f128 : en_fr [(24, 0), (31, 0), (30, 0), (25, 0)] σ s50 := fr_tr f126 (fr_sub (f_mm_wrong e127) (by simp))
                        cases h
                        exact f128
                    ·
                      cases h
                      exact f124
                ·
                  obtain ⟨t52, s53, e129, h⟩ := en_b2_h h
                  have f130 : en_fr [(24, 0), (31, 0), (30, 0), (25, 0)] σ s53 := fr_tr f118 (fr_sub (f_mm_rateText e129) (by simp))
                  rcases en_if_h h with ⟨-, h⟩ | ⟨-, h⟩
                  ·
                    cases h
                    exact f130
                  ·
                    obtain ⟨s56, e131, h⟩ := en_b1_h h
                    have f132 : en_fr [(24, 0), (31, 0), (30, 0), (25, 0)] σ s56 := fr_tr f130 (fr_sub (f_mm_wrong e131) (by simp))
                    cases h
                    exact f132
              ·
                obtain ⟨t58, s59, e133, h⟩ := en_b2_h h
                have f134 : en_fr [(24, 0), (31, 0), (30, 0), (25, 0)] σ s59 := fr_tr f116 (fr_sub (f_mm_pauseText e133) (by simp))
                rcases en_if_h h with ⟨-, h⟩ | ⟨-, h⟩
                ·
                  cases h
                  exact f134
                ·
                  obtain ⟨s62, e135, h⟩ := en_b1_h h
                  have f136 : en_fr [(24, 0), (31, 0), (30, 0), (25, 0)] σ s62 := fr_tr f134 (fr_sub (f_mm_wrong e135) (by simp))
                  cases h
                  exact f136
            ·
              obtain ⟨t64, s65, e137, h⟩ := en_b2_h h
              have f138 : en_fr [(24, 0), (31, 0), (30, 0), (25, 0)] σ s65 := fr_tr f114 (fr_sub (f_mm_pauseText e137) (by simp))
              rcases en_if_h h with ⟨-, h⟩ | ⟨-, h⟩
              ·
                cases h
                exact f138
              ·
                obtain ⟨s68, e139, h⟩ := en_b1_h h
                have f140 : en_fr [(24, 0), (31, 0), (30, 0), (25, 0)] σ s68 := fr_tr f138 (fr_sub (f_mm_wrong e139) (by simp))
                cases h
                exact f140
          ·
            obtain ⟨t70, s71, e141, h⟩ := en_b2_h h
            have f142 : en_fr [(24, 0), (31, 0), (30, 0), (25, 0)] σ s71 := fr_tr f112 (fr_sub (f_mm_number e141) (by simp))
            rcases en_if_h h with ⟨-, h⟩ | ⟨-, h⟩
            ·
              obtain ⟨t74, s75, e143, h⟩ := en_b2_h h
              have f144 : en_fr [(24, 0), (31, 0), (30, 0), (25, 0)] σ s75 := fr_tr f142 (fr_sub (f_mm_drop0 e143) (by simp))
              rcases en_if_h h with ⟨-, h⟩ | ⟨-, h⟩
              ·
                cases h
                exact f144
              ·
                obtain ⟨s78, e145, h⟩ := en_b1_h h
                have f146 : en_fr [(24, 0), (31, 0), (30, 0), (25, 0)] σ s78 := fr_tr f144 (fr_sub (f_mm_wrong e145) (by simp))
                cases h
                exact f146
            ·
              cases h
              exact f142
        ·
          obtain ⟨t80, s81, e147, h⟩ := en_b2_h h
          have f148 : en_fr [(24, 0), (31, 0), (30, 0), (25, 0)] σ s81 := fr_tr f110 (fr_sub (f_mm_bell0 e147) (by simp))
          cases h
          exact f148
      ·
        obtain ⟨t83, s84, e149, h⟩ := en_b2_h h
        have f150 : en_fr [(24, 0), (31, 0), (30, 0), (25, 0)] σ s84 := fr_tr f108 (fr_sub (f_mm_sendText e149) (by simp))
        rcases en_if_h h with ⟨-, h⟩ | ⟨-, h⟩
        ·
          cases h
          exact f150
        ·
          obtain ⟨s87, e151, h⟩ := en_b1_h h
          have f152 : en_fr [(24, 0), (31, 0), (30, 0), (25, 0)] σ s87 := fr_tr f150 (fr_sub (f_mm_wrong e151) (by simp))
          cases h
          exact f152
    ·
      obtain ⟨t89, s90, e153, h⟩ := en_b2_h h
      have f154 : en_fr [(24, 0), (31, 0), (30, 0), (25, 0)] σ s90 := fr_tr f106 (fr_sub (f_mm_flowText e153) (by simp))
      rcases en_if_h h with ⟨-, h⟩ | ⟨-, h⟩
      ·
        cases h
        exact f154
      ·
        obtain ⟨s93, e155, h⟩ := en_b1_h h
        have f156 : en_fr [(24, 0), (31, 0), (30, 0), (25, 0)] σ s93 := fr_tr f154 (fr_sub (f_mm_wrong e155) (by simp))
        cases h
        exact f156
  ·
    obtain ⟨s95, e157, h⟩ := en_b1_h h
    have f158 : en_fr [(24, 0), (31, 0), (30, 0), (25, 0)] σ s95 := fr_tr f104 (fr_sub (f_mm_cardText e157) (by simp))
    cases h
    exact f158
theorem f_mm_acts_48 : ∀ {f0 : Nat} {v1 : Int32} {v2 : Int32} {v3 : Int32} {σ : en_M} {r : Int32 × Int32 × en_M} (h : k_mm_acts_48 f0 v1 v2 v3 σ = some r), en_fr [(24, 0), (31, 0), (30, 0), (25, 0)] σ r.2.2 := by
  intro f0
  induction f0 with
  | zero => intro v1 v2 v3 σ r h; cases h
  | succ f9 ih =>
    intro v1 v2 v3 σ r h
    rw [k_mm_acts_48] at h
    rcases en_if_h h with ⟨-, h⟩ | ⟨-, h⟩
    ·
      cases h
      exact (fr_rf [(24, 0), (31, 0), (30, 0), (25, 0)] σ)
    ·
      rcases en_if_h h with ⟨-, h⟩ | ⟨-, h⟩
      ·
        rcases en_if_h h with ⟨-, h⟩ | ⟨-, h⟩
        ·
          obtain ⟨t50, s51, e101, h⟩ := en_b2_h h
          have f102 : en_fr [(24, 0), (31, 0), (30, 0), (25, 0)] σ s51 := fr_tr (fr_rf [(24, 0), (31, 0), (30, 0), (25, 0)] σ) (fr_sub (f_mm_here e101) (by simp))
          obtain ⟨s53, e103, h⟩ := en_b1_h h
          have f104 : en_fr [(24, 0), (31, 0), (30, 0), (25, 0)] σ s53 := fr_tr f102 (fr_sub (f_mm_wrong e103) (by simp))
          rcases en_if_h h with ⟨-, h⟩ | ⟨-, h⟩
          ·
            obtain ⟨t70, s71, e105, h⟩ := en_b2_h h
            have f106 : en_fr [(24, 0), (31, 0), (30, 0), (25, 0)] σ s71 := fr_tr f104 (f_mm_act e105)
            obtain ⟨t73, s74, e107, h⟩ := en_b2_h h
            have f108 : en_fr [(24, 0), (31, 0), (30, 0), (25, 0)] σ s74 := fr_tr f106 (fr_sub (f_mm_here e107) (by simp))
            rcases en_if_h h with ⟨-, h⟩ | ⟨-, h⟩
            ·
              exact fr_tr f108 (ih h)
            ·
              rcases en_if_h h with ⟨-, h⟩ | ⟨-, h⟩
              ·
                obtain ⟨t78, e109, h⟩ := en_b1_h h
                rcases en_if_h h with ⟨-, h⟩ | ⟨-, h⟩
                ·
                  obtain ⟨s81, e111, h⟩ := en_let_h h
                  have f112 : en_fr [(24, 0), (31, 0), (30, 0), (25, 0)] σ s81 := fr_tr f108 (fr_wr e111 (List.mem_of_getElem? (i := 0) rfl))
                  exact fr_tr f112 (ih h)
                ·
                  obtain ⟨s83, e113, h⟩ := en_b1_h h
                  have f114 : en_fr [(24, 0), (31, 0), (30, 0), (25, 0)] σ s83 := fr_tr f108 (fr_sub (f_mm_wrong e113) (by simp))
                  obtain ⟨s85, e115, h⟩ := en_let_h h
                  have f116 : en_fr [(24, 0), (31, 0), (30, 0), (25, 0)] σ s85 := fr_tr f114 (fr_wr e115 (List.mem_of_getElem? (i := 0) rfl))
                  exact fr_tr f116 (ih h)
              ·
                exact fr_tr f108 (ih h)
          ·
            obtain ⟨t56, s57, e117, h⟩ := en_b2_h h
            have f118 : en_fr [(24, 0), (31, 0), (30, 0), (25, 0)] σ s57 := fr_tr f104 (fr_sub (f_mm_here e117) (by simp))
            rcases en_if_h h with ⟨-, h⟩ | ⟨-, h⟩
            ·
              exact fr_tr f118 (ih h)
            ·
              rcases en_if_h h with ⟨-, h⟩ | ⟨-, h⟩
              ·
                obtain ⟨t61, e119, h⟩ := en_b1_h h
                rcases en_if_h h with ⟨-, h⟩ | ⟨-, h⟩
                ·
                  obtain ⟨s64, e121, h⟩ := en_let_h h
                  have f122 : en_fr [(24, 0), (31, 0), (30, 0), (25, 0)] σ s64 := fr_tr f118 (fr_wr e121 (List.mem_of_getElem? (i := 0) rfl))
                  exact fr_tr f122 (ih h)
                ·
                  obtain ⟨s66, e123, h⟩ := en_b1_h h
                  have f124 : en_fr [(24, 0), (31, 0), (30, 0), (25, 0)] σ s66 := fr_tr f118 (fr_sub (f_mm_wrong e123) (by simp))
                  obtain ⟨s68, e125, h⟩ := en_let_h h
                  have f126 : en_fr [(24, 0), (31, 0), (30, 0), (25, 0)] σ s68 := fr_tr f124 (fr_wr e125 (List.mem_of_getElem? (i := 0) rfl))
                  exact fr_tr f126 (ih h)
              ·
                exact fr_tr f118 (ih h)
        ·
          rcases en_if_h h with ⟨-, h⟩ | ⟨-, h⟩
          ·
            obtain ⟨t33, s34, e127, h⟩ := en_b2_h h
            have f128 : en_fr [(24, 0), (31, 0), (30, 0), (25, 0)] σ s34 := fr_tr (fr_rf [(24, 0), (31, 0), (30, 0), (25, 0)] σ) (f_mm_act e127)
            obtain ⟨t36, s37, e129, h⟩ := en_b2_h h
            have f130 : en_fr [(24, 0), (31, 0), (30, 0), (25, 0)] σ s37 := fr_tr f128 (fr_sub (f_mm_here e129) (by simp))
            rcases en_if_h h with ⟨-, h⟩ | ⟨-, h⟩
            ·
              exact fr_tr f130 (ih h)
            ·
              rcases en_if_h h with ⟨-, h⟩ | ⟨-, h⟩
              ·
                obtain ⟨t41, e131, h⟩ := en_b1_h h
                rcases en_if_h h with ⟨-, h⟩ | ⟨-, h⟩
                ·
                  obtain ⟨s44, e133, h⟩ := en_let_h h
                  have f134 : en_fr [(24, 0), (31, 0), (30, 0), (25, 0)] σ s44 := fr_tr f130 (fr_wr e133 (List.mem_of_getElem? (i := 0) rfl))
                  exact fr_tr f134 (ih h)
                ·
                  obtain ⟨s46, e135, h⟩ := en_b1_h h
                  have f136 : en_fr [(24, 0), (31, 0), (30, 0), (25, 0)] σ s46 := fr_tr f130 (fr_sub (f_mm_wrong e135) (by simp))
                  obtain ⟨s48, e137, h⟩ := en_let_h h
                  have f138 : en_fr [(24, 0), (31, 0), (30, 0), (25, 0)] σ s48 := fr_tr f136 (fr_wr e137 (List.mem_of_getElem? (i := 0) rfl))
                  exact fr_tr f138 (ih h)
              ·
                exact fr_tr f130 (ih h)
          ·
            obtain ⟨t19, s20, e139, h⟩ := en_b2_h h
            have f140 : en_fr [(24, 0), (31, 0), (30, 0), (25, 0)] σ s20 := fr_tr (fr_rf [(24, 0), (31, 0), (30, 0), (25, 0)] σ) (fr_sub (f_mm_here e139) (by simp))
            rcases en_if_h h with ⟨-, h⟩ | ⟨-, h⟩
            ·
              exact fr_tr f140 (ih h)
            ·
              rcases en_if_h h with ⟨-, h⟩ | ⟨-, h⟩
              ·
                obtain ⟨t24, e141, h⟩ := en_b1_h h
                rcases en_if_h h with ⟨-, h⟩ | ⟨-, h⟩
                ·
                  obtain ⟨s27, e143, h⟩ := en_let_h h
                  have f144 : en_fr [(24, 0), (31, 0), (30, 0), (25, 0)] σ s27 := fr_tr f140 (fr_wr e143 (List.mem_of_getElem? (i := 0) rfl))
                  exact fr_tr f144 (ih h)
                ·
                  obtain ⟨s29, e145, h⟩ := en_b1_h h
                  have f146 : en_fr [(24, 0), (31, 0), (30, 0), (25, 0)] σ s29 := fr_tr f140 (fr_sub (f_mm_wrong e145) (by simp))
                  obtain ⟨s31, e147, h⟩ := en_let_h h
                  have f148 : en_fr [(24, 0), (31, 0), (30, 0), (25, 0)] σ s31 := fr_tr f146 (fr_wr e147 (List.mem_of_getElem? (i := 0) rfl))
                  exact fr_tr f148 (ih h)
              ·
                exact fr_tr f140 (ih h)
      ·
        cases h
        exact (fr_rf [(24, 0), (31, 0), (30, 0), (25, 0)] σ)
theorem f_mm_acts_220 : ∀ {f0 : Nat} {v4 : Int32} {σ : en_M} {r : en_M} (h : k_mm_acts_220 f0 v4 σ = some r), en_fr [(25, 0)] σ r := by
  intro f0
  induction f0 with
  | zero => intro v4 σ r h; cases h
  | succ f9 ih =>
    intro v4 σ r h
    rw [k_mm_acts_220] at h
    rcases en_if_h h with ⟨-, h⟩ | ⟨-, h⟩
    ·
      cases h
      exact (fr_rf [(25, 0)] σ)
    ·
      obtain ⟨t100, e101, h⟩ := en_b1_h h
      obtain ⟨s102, e103, h⟩ := en_b1_h h
      have f104 : en_fr [(25, 0)] σ s102 := fr_tr (fr_rf [(25, 0)] σ) (fr_wa e103 (List.mem_of_getElem? (i := 0) rfl))
      exact fr_tr f104 (ih h)
theorem f_mm_acts {σ : en_M} {r : Int32 × en_M} (h : k_mm_acts σ = some r) : en_fr [(24, 0), (26, 0), (31, 0), (30, 0), (25, 0)] σ r.2 := by
  rw [k_mm_acts] at h
  obtain ⟨s1, e101, h⟩ := en_let_h h
  have f102 : en_fr [(24, 0), (26, 0), (31, 0), (30, 0), (25, 0)] σ s1 := fr_tr (fr_rf [(24, 0), (26, 0), (31, 0), (30, 0), (25, 0)] σ) (fr_wr e101 (List.mem_of_getElem? (i := 0) rfl))
  obtain ⟨s3, e103, h⟩ := en_let_h h
  have f104 : en_fr [(24, 0), (26, 0), (31, 0), (30, 0), (25, 0)] σ s3 := fr_tr f102 (fr_wr e103 (List.mem_of_getElem? (i := 0) rfl))
  obtain ⟨s5, e105, h⟩ := en_let_h h
  have f106 : en_fr [(24, 0), (26, 0), (31, 0), (30, 0), (25, 0)] σ s5 := fr_tr f104 (fr_wr e105 (List.mem_of_getElem? (i := 0) rfl))
  obtain ⟨s7, e107, h⟩ := en_let_h h
  have f108 : en_fr [(24, 0), (26, 0), (31, 0), (30, 0), (25, 0)] σ s7 := fr_tr f106 (fr_wr e107 (List.mem_of_getElem? (i := 0) rfl))
  obtain ⟨s9, e109, h⟩ := en_b1_h h
  have f110 : en_fr [(24, 0), (26, 0), (31, 0), (30, 0), (25, 0)] σ s9 := fr_tr f108 (fr_sub (f_mm_putsAside e109) (by simp))
  obtain ⟨t11, s12, e111, h⟩ := en_b2_h h
  have f112 : en_fr [(24, 0), (26, 0), (31, 0), (30, 0), (25, 0)] σ s12 := fr_tr f110 (fr_sub (f_mm_here e111) (by simp))
  rcases en_if_h h with ⟨-, h⟩ | ⟨-, h⟩
  ·
    obtain ⟨x87, x88, s90, e113, h⟩ := en_b3_h h
    have f114 : en_fr [(24, 0), (26, 0), (31, 0), (30, 0), (25, 0)] σ s90 := fr_tr f112 (fr_sub (f_mm_acts_48 e113) (by simp))
    rcases en_if_h h with ⟨-, h⟩ | ⟨-, h⟩
    ·
      obtain ⟨s121, e115, h⟩ := en_let_h h
      have f116 : en_fr [(24, 0), (26, 0), (31, 0), (30, 0), (25, 0)] σ s121 := fr_tr f114 (fr_wr e115 (List.mem_of_getElem? (i := 0) rfl))
      rcases en_if_h h with ⟨-, h⟩ | ⟨-, h⟩
      ·
        rcases en_if_h h with ⟨-, h⟩ | ⟨-, h⟩
        ·
          obtain ⟨s136, e117, h⟩ := en_let_h h
          have f118 : en_fr [(24, 0), (26, 0), (31, 0), (30, 0), (25, 0)] σ s136 := fr_tr f116 (fr_wr e117 (List.mem_of_getElem? (i := 0) rfl))
          obtain ⟨s138, e119, h⟩ := en_let_h h
          have f120 : en_fr [(24, 0), (26, 0), (31, 0), (30, 0), (25, 0)] σ s138 := fr_tr f118 (fr_wr e119 (List.mem_of_getElem? (i := 0) rfl))
          cases h
          exact f120
        ·
          obtain ⟨s140, e121, h⟩ := en_let_h h
          have f122 : en_fr [(24, 0), (26, 0), (31, 0), (30, 0), (25, 0)] σ s140 := fr_tr f116 (fr_wr e121 (List.mem_of_getElem? (i := 0) rfl))
          obtain ⟨s142, e123, h⟩ := en_let_h h
          have f124 : en_fr [(24, 0), (26, 0), (31, 0), (30, 0), (25, 0)] σ s142 := fr_tr f122 (fr_wr e123 (List.mem_of_getElem? (i := 0) rfl))
          cases h
          exact f124
      ·
        rcases en_if_h h with ⟨-, h⟩ | ⟨-, h⟩
        ·
          obtain ⟨s125, e125, h⟩ := en_let_h h
          have f126 : en_fr [(24, 0), (26, 0), (31, 0), (30, 0), (25, 0)] σ s125 := fr_tr f116 (fr_wr e125 (List.mem_of_getElem? (i := 0) rfl))
          obtain ⟨s128, e127, h⟩ := en_b1_h h
          have f128 : en_fr [(24, 0), (26, 0), (31, 0), (30, 0), (25, 0)] σ s128 := fr_tr f126 (fr_sub (f_mm_acts_220 e127) (by simp))
          cases h
          exact f128
        ·
          obtain ⟨s130, e129, h⟩ := en_let_h h
          have f130 : en_fr [(24, 0), (26, 0), (31, 0), (30, 0), (25, 0)] σ s130 := fr_tr f116 (fr_wr e129 (List.mem_of_getElem? (i := 0) rfl))
          obtain ⟨s133, e131, h⟩ := en_b1_h h
          have f132 : en_fr [(24, 0), (26, 0), (31, 0), (30, 0), (25, 0)] σ s133 := fr_tr f130 (fr_sub (f_mm_acts_220 e131) (by simp))
          cases h
          exact f132
    ·
      obtain ⟨s93, e133, h⟩ := en_let_h h
      have f134 : en_fr [(24, 0), (26, 0), (31, 0), (30, 0), (25, 0)] σ s93 := fr_tr f114 (fr_wr e133 (List.mem_of_getElem? (i := 0) rfl))
      rcases en_if_h h with ⟨-, h⟩ | ⟨-, h⟩
      ·
        rcases en_if_h h with ⟨-, h⟩ | ⟨-, h⟩
        ·
          obtain ⟨s113, e135, h⟩ := en_let_h h
          have f136 : en_fr [(24, 0), (26, 0), (31, 0), (30, 0), (25, 0)] σ s113 := fr_tr f134 (fr_wr e135 (List.mem_of_getElem? (i := 0) rfl))
          obtain ⟨s115, e137, h⟩ := en_let_h h
          have f138 : en_fr [(24, 0), (26, 0), (31, 0), (30, 0), (25, 0)] σ s115 := fr_tr f136 (fr_wr e137 (List.mem_of_getElem? (i := 0) rfl))
          cases h
          exact f138
        ·
          obtain ⟨s117, e139, h⟩ := en_let_h h
          have f140 : en_fr [(24, 0), (26, 0), (31, 0), (30, 0), (25, 0)] σ s117 := fr_tr f134 (fr_wr e139 (List.mem_of_getElem? (i := 0) rfl))
          obtain ⟨s119, e141, h⟩ := en_let_h h
          have f142 : en_fr [(24, 0), (26, 0), (31, 0), (30, 0), (25, 0)] σ s119 := fr_tr f140 (fr_wr e141 (List.mem_of_getElem? (i := 0) rfl))
          cases h
          exact f142
      ·
        rcases en_if_h h with ⟨-, h⟩ | ⟨-, h⟩
        ·
          obtain ⟨s97, e143, h⟩ := en_let_h h
          have f144 : en_fr [(24, 0), (26, 0), (31, 0), (30, 0), (25, 0)] σ s97 := fr_tr f134 (fr_wr e143 (List.mem_of_getElem? (i := 0) rfl))
          obtain ⟨s105, e145, h⟩ := en_b1_h h
          have f146 : en_fr [(24, 0), (26, 0), (31, 0), (30, 0), (25, 0)] σ s105 := fr_tr f144 (fr_sub (f_mm_acts_220 e145) (by simp))
          cases h
          exact f146
        ·
          obtain ⟨s107, e147, h⟩ := en_let_h h
          have f148 : en_fr [(24, 0), (26, 0), (31, 0), (30, 0), (25, 0)] σ s107 := fr_tr f134 (fr_wr e147 (List.mem_of_getElem? (i := 0) rfl))
          obtain ⟨s110, e149, h⟩ := en_b1_h h
          have f150 : en_fr [(24, 0), (26, 0), (31, 0), (30, 0), (25, 0)] σ s110 := fr_tr f148 (fr_sub (f_mm_acts_220 e149) (by simp))
          cases h
          exact f150
  ·
    obtain ⟨x144, x145, s147, e151, h⟩ := en_b3_h h
    have f152 : en_fr [(24, 0), (26, 0), (31, 0), (30, 0), (25, 0)] σ s147 := fr_tr f112 (fr_sub (f_mm_acts_48 e151) (by simp))
    rcases en_if_h h with ⟨-, h⟩ | ⟨-, h⟩
    ·
      obtain ⟨s173, e153, h⟩ := en_let_h h
      have f154 : en_fr [(24, 0), (26, 0), (31, 0), (30, 0), (25, 0)] σ s173 := fr_tr f152 (fr_wr e153 (List.mem_of_getElem? (i := 0) rfl))
      rcases en_if_h h with ⟨-, h⟩ | ⟨-, h⟩
      ·
        rcases en_if_h h with ⟨-, h⟩ | ⟨-, h⟩
        ·
          obtain ⟨s188, e155, h⟩ := en_let_h h
          have f156 : en_fr [(24, 0), (26, 0), (31, 0), (30, 0), (25, 0)] σ s188 := fr_tr f154 (fr_wr e155 (List.mem_of_getElem? (i := 0) rfl))
          obtain ⟨s190, e157, h⟩ := en_let_h h
          have f158 : en_fr [(24, 0), (26, 0), (31, 0), (30, 0), (25, 0)] σ s190 := fr_tr f156 (fr_wr e157 (List.mem_of_getElem? (i := 0) rfl))
          cases h
          exact f158
        ·
          obtain ⟨s192, e159, h⟩ := en_let_h h
          have f160 : en_fr [(24, 0), (26, 0), (31, 0), (30, 0), (25, 0)] σ s192 := fr_tr f154 (fr_wr e159 (List.mem_of_getElem? (i := 0) rfl))
          obtain ⟨s194, e161, h⟩ := en_let_h h
          have f162 : en_fr [(24, 0), (26, 0), (31, 0), (30, 0), (25, 0)] σ s194 := fr_tr f160 (fr_wr e161 (List.mem_of_getElem? (i := 0) rfl))
          cases h
          exact f162
      ·
        rcases en_if_h h with ⟨-, h⟩ | ⟨-, h⟩
        ·
          obtain ⟨s177, e163, h⟩ := en_let_h h
          have f164 : en_fr [(24, 0), (26, 0), (31, 0), (30, 0), (25, 0)] σ s177 := fr_tr f154 (fr_wr e163 (List.mem_of_getElem? (i := 0) rfl))
          obtain ⟨s180, e165, h⟩ := en_b1_h h
          have f166 : en_fr [(24, 0), (26, 0), (31, 0), (30, 0), (25, 0)] σ s180 := fr_tr f164 (fr_sub (f_mm_acts_220 e165) (by simp))
          cases h
          exact f166
        ·
          obtain ⟨s182, e167, h⟩ := en_let_h h
          have f168 : en_fr [(24, 0), (26, 0), (31, 0), (30, 0), (25, 0)] σ s182 := fr_tr f154 (fr_wr e167 (List.mem_of_getElem? (i := 0) rfl))
          obtain ⟨s185, e169, h⟩ := en_b1_h h
          have f170 : en_fr [(24, 0), (26, 0), (31, 0), (30, 0), (25, 0)] σ s185 := fr_tr f168 (fr_sub (f_mm_acts_220 e169) (by simp))
          cases h
          exact f170
    ·
      obtain ⟨s150, e171, h⟩ := en_let_h h
      have f172 : en_fr [(24, 0), (26, 0), (31, 0), (30, 0), (25, 0)] σ s150 := fr_tr f152 (fr_wr e171 (List.mem_of_getElem? (i := 0) rfl))
      rcases en_if_h h with ⟨-, h⟩ | ⟨-, h⟩
      ·
        rcases en_if_h h with ⟨-, h⟩ | ⟨-, h⟩
        ·
          obtain ⟨s165, e173, h⟩ := en_let_h h
          have f174 : en_fr [(24, 0), (26, 0), (31, 0), (30, 0), (25, 0)] σ s165 := fr_tr f172 (fr_wr e173 (List.mem_of_getElem? (i := 0) rfl))
          obtain ⟨s167, e175, h⟩ := en_let_h h
          have f176 : en_fr [(24, 0), (26, 0), (31, 0), (30, 0), (25, 0)] σ s167 := fr_tr f174 (fr_wr e175 (List.mem_of_getElem? (i := 0) rfl))
          cases h
          exact f176
        ·
          obtain ⟨s169, e177, h⟩ := en_let_h h
          have f178 : en_fr [(24, 0), (26, 0), (31, 0), (30, 0), (25, 0)] σ s169 := fr_tr f172 (fr_wr e177 (List.mem_of_getElem? (i := 0) rfl))
          obtain ⟨s171, e179, h⟩ := en_let_h h
          have f180 : en_fr [(24, 0), (26, 0), (31, 0), (30, 0), (25, 0)] σ s171 := fr_tr f178 (fr_wr e179 (List.mem_of_getElem? (i := 0) rfl))
          cases h
          exact f180
      ·
        rcases en_if_h h with ⟨-, h⟩ | ⟨-, h⟩
        ·
          obtain ⟨s154, e181, h⟩ := en_let_h h
          have f182 : en_fr [(24, 0), (26, 0), (31, 0), (30, 0), (25, 0)] σ s154 := fr_tr f172 (fr_wr e181 (List.mem_of_getElem? (i := 0) rfl))
          obtain ⟨s157, e183, h⟩ := en_b1_h h
          have f184 : en_fr [(24, 0), (26, 0), (31, 0), (30, 0), (25, 0)] σ s157 := fr_tr f182 (fr_sub (f_mm_acts_220 e183) (by simp))
          cases h
          exact f184
        ·
          obtain ⟨s159, e185, h⟩ := en_let_h h
          have f186 : en_fr [(24, 0), (26, 0), (31, 0), (30, 0), (25, 0)] σ s159 := fr_tr f172 (fr_wr e185 (List.mem_of_getElem? (i := 0) rfl))
          obtain ⟨s162, e187, h⟩ := en_b1_h h
          have f188 : en_fr [(24, 0), (26, 0), (31, 0), (30, 0), (25, 0)] σ s162 := fr_tr f186 (fr_sub (f_mm_acts_220 e187) (by simp))
          cases h
          exact f188

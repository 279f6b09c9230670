/-! Frames of the class. -/
theorem f_fo_begin {g : Nat} {i : Nat} {v1 : Int32} {v2 : Int32} {σ : en_M} {r : en_M} (h : k_fo_begin g i v1 v2 σ = some r) : en_fr [(12, g)] σ r := by
  rw [k_fo_begin] at h
  obtain ⟨s1, e101, h⟩ := en_let_h h
  have f102 : en_fr [(12, g)] σ s1 := fr_tr (fr_rf [(12, g)] σ) (fr_wr e101 (List.mem_of_getElem? (i := 0) rfl))
  obtain ⟨s3, e103, h⟩ := en_let_h h
  have f104 : en_fr [(12, g)] σ s3 := fr_tr f102 (fr_wr e103 (List.mem_of_getElem? (i := 0) rfl))
  obtain ⟨s5, e105, h⟩ := en_let_h h
  have f106 : en_fr [(12, g)] σ s5 := fr_tr f104 (fr_wr e105 (List.mem_of_getElem? (i := 0) rfl))
  obtain ⟨s7, e107, h⟩ := en_let_h h
  have f108 : en_fr [(12, g)] σ s7 := fr_tr f106 (fr_wr e107 (List.mem_of_getElem? (i := 0) rfl))
  obtain ⟨s9, e109, h⟩ := en_let_h h
  have f110 : en_fr [(12, g)] σ s9 := fr_tr f108 (fr_wr e109 (List.mem_of_getElem? (i := 0) rfl))
  obtain ⟨s11, e111, h⟩ := en_let_h h
  have f112 : en_fr [(12, g)] σ s11 := fr_tr f110 (fr_wr e111 (List.mem_of_getElem? (i := 0) rfl))
  obtain ⟨s13, e113, h⟩ := en_let_h h
  have f114 : en_fr [(12, g)] σ s13 := fr_tr f112 (fr_wr e113 (List.mem_of_getElem? (i := 0) rfl))
  obtain ⟨s15, e115, h⟩ := en_let_h h
  have f116 : en_fr [(12, g)] σ s15 := fr_tr f114 (fr_wr e115 (List.mem_of_getElem? (i := 0) rfl))
  obtain ⟨s17, e117, h⟩ := en_let_h h
  have f118 : en_fr [(12, g)] σ s17 := fr_tr f116 (fr_wr e117 (List.mem_of_getElem? (i := 0) rfl))
  cases h
  exact f118
theorem f_fo_copyFrom {g : Nat} {i : Nat} {g1 : Nat} {i1 : Nat} {σ : en_M} {r : en_M} (h : k_fo_copyFrom g i g1 i1 σ = some r) : en_fr [(12, g)] σ r := by
  rw [k_fo_copyFrom] at h
  obtain ⟨s1, e101, h⟩ := en_let_h h
  have f102 : en_fr [(12, g)] σ s1 := fr_tr (fr_rf [(12, g)] σ) (fr_wr e101 (List.mem_of_getElem? (i := 0) rfl))
  obtain ⟨s3, e103, h⟩ := en_let_h h
  have f104 : en_fr [(12, g)] σ s3 := fr_tr f102 (fr_wr e103 (List.mem_of_getElem? (i := 0) rfl))
  obtain ⟨t7, e105, h⟩ := en_b1_h h
  obtain ⟨s5, e107, h⟩ := en_let_h h
  have f108 : en_fr [(12, g)] σ s5 := fr_tr f104 (fr_wr e107 (List.mem_of_getElem? (i := 0) rfl))
  obtain ⟨s9, e109, h⟩ := en_let_h h
  have f110 : en_fr [(12, g)] σ s9 := fr_tr f108 (fr_wr e109 (List.mem_of_getElem? (i := 0) rfl))
  obtain ⟨s11, e111, h⟩ := en_let_h h
  have f112 : en_fr [(12, g)] σ s11 := fr_tr f110 (fr_wr e111 (List.mem_of_getElem? (i := 0) rfl))
  obtain ⟨s13, e113, h⟩ := en_let_h h
  have f114 : en_fr [(12, g)] σ s13 := fr_tr f112 (fr_wr e113 (List.mem_of_getElem? (i := 0) rfl))
  obtain ⟨s15, e115, h⟩ := en_let_h h
  have f116 : en_fr [(12, g)] σ s15 := fr_tr f114 (fr_wr e115 (List.mem_of_getElem? (i := 0) rfl))
  obtain ⟨s17, e117, h⟩ := en_let_h h
  have f118 : en_fr [(12, g)] σ s17 := fr_tr f116 (fr_wr e117 (List.mem_of_getElem? (i := 0) rfl))
  obtain ⟨s19, e119, h⟩ := en_let_h h
  have f120 : en_fr [(12, g)] σ s19 := fr_tr f118 (fr_wr e119 (List.mem_of_getElem? (i := 0) rfl))
  cases h
  exact f120
theorem f_sd_begin {g : Nat} {i : Nat} {v1 : Int32} {v2 : Int32} {v3 : Int32} {v4 : Int32} {v5 : Int32} {σ : en_M} {r : en_M} (h : k_sd_begin g i v1 v2 v3 v4 v5 σ = some r) : en_fr [(13, g)] σ r := by
  rw [k_sd_begin] at h
  obtain ⟨s1, e101, h⟩ := en_let_h h
  have f102 : en_fr [(13, g)] σ s1 := fr_tr (fr_rf [(13, g)] σ) (fr_wr e101 (List.mem_of_getElem? (i := 0) rfl))
  obtain ⟨s3, e103, h⟩ := en_let_h h
  have f104 : en_fr [(13, g)] σ s3 := fr_tr f102 (fr_wr e103 (List.mem_of_getElem? (i := 0) rfl))
  obtain ⟨s5, e105, h⟩ := en_let_h h
  have f106 : en_fr [(13, g)] σ s5 := fr_tr f104 (fr_wr e105 (List.mem_of_getElem? (i := 0) rfl))
  obtain ⟨s7, e107, h⟩ := en_let_h h
  have f108 : en_fr [(13, g)] σ s7 := fr_tr f106 (fr_wr e107 (List.mem_of_getElem? (i := 0) rfl))
  obtain ⟨s9, e109, h⟩ := en_let_h h
  have f110 : en_fr [(13, g)] σ s9 := fr_tr f108 (fr_wr e109 (List.mem_of_getElem? (i := 0) rfl))
  obtain ⟨s11, e111, h⟩ := en_let_h h
  have f112 : en_fr [(13, g)] σ s11 := fr_tr f110 (fr_wr e111 (List.mem_of_getElem? (i := 0) rfl))
  obtain ⟨s13, e113, h⟩ := en_let_h h
  have f114 : en_fr [(13, g)] σ s13 := fr_tr f112 (fr_wr e113 (List.mem_of_getElem? (i := 0) rfl))
  obtain ⟨s15, e115, h⟩ := en_let_h h
  have f116 : en_fr [(13, g)] σ s15 := fr_tr f114 (fr_wr e115 (List.mem_of_getElem? (i := 0) rfl))
  obtain ⟨s17, e117, h⟩ := en_let_h h
  have f118 : en_fr [(13, g)] σ s17 := fr_tr f116 (fr_wr e117 (List.mem_of_getElem? (i := 0) rfl))
  obtain ⟨s19, e119, h⟩ := en_let_h h
  have f120 : en_fr [(13, g)] σ s19 := fr_tr f118 (fr_wr e119 (List.mem_of_getElem? (i := 0) rfl))
  obtain ⟨s21, e121, h⟩ := en_let_h h
  have f122 : en_fr [(13, g)] σ s21 := fr_tr f120 (fr_wr e121 (List.mem_of_getElem? (i := 0) rfl))
  cases h
  exact f122
theorem f_sd_copyFrom {g : Nat} {i : Nat} {g1 : Nat} {i1 : Nat} {σ : en_M} {r : en_M} (h : k_sd_copyFrom g i g1 i1 σ = some r) : en_fr [(13, g)] σ r := by
  rw [k_sd_copyFrom] at h
  obtain ⟨s1, e101, h⟩ := en_let_h h
  have f102 : en_fr [(13, g)] σ s1 := fr_tr (fr_rf [(13, g)] σ) (fr_wr e101 (List.mem_of_getElem? (i := 0) rfl))
  obtain ⟨s3, e103, h⟩ := en_let_h h
  have f104 : en_fr [(13, g)] σ s3 := fr_tr f102 (fr_wr e103 (List.mem_of_getElem? (i := 0) rfl))
  obtain ⟨s5, e105, h⟩ := en_let_h h
  have f106 : en_fr [(13, g)] σ s5 := fr_tr f104 (fr_wr e105 (List.mem_of_getElem? (i := 0) rfl))
  obtain ⟨s7, e107, h⟩ := en_let_h h
  have f108 : en_fr [(13, g)] σ s7 := fr_tr f106 (fr_wr e107 (List.mem_of_getElem? (i := 0) rfl))
  obtain ⟨s9, e109, h⟩ := en_let_h h
  have f110 : en_fr [(13, g)] σ s9 := fr_tr f108 (fr_wr e109 (List.mem_of_getElem? (i := 0) rfl))
  obtain ⟨s11, e111, h⟩ := en_let_h h
  have f112 : en_fr [(13, g)] σ s11 := fr_tr f110 (fr_wr e111 (List.mem_of_getElem? (i := 0) rfl))
  obtain ⟨s13, e113, h⟩ := en_let_h h
  have f114 : en_fr [(13, g)] σ s13 := fr_tr f112 (fr_wr e113 (List.mem_of_getElem? (i := 0) rfl))
  obtain ⟨s15, e115, h⟩ := en_let_h h
  have f116 : en_fr [(13, g)] σ s15 := fr_tr f114 (fr_wr e115 (List.mem_of_getElem? (i := 0) rfl))
  obtain ⟨s17, e117, h⟩ := en_let_h h
  have f118 : en_fr [(13, g)] σ s17 := fr_tr f116 (fr_wr e117 (List.mem_of_getElem? (i := 0) rfl))
  obtain ⟨s19, e119, h⟩ := en_let_h h
  have f120 : en_fr [(13, g)] σ s19 := fr_tr f118 (fr_wr e119 (List.mem_of_getElem? (i := 0) rfl))
  obtain ⟨s21, e121, h⟩ := en_let_h h
  have f122 : en_fr [(13, g)] σ s21 := fr_tr f120 (fr_wr e121 (List.mem_of_getElem? (i := 0) rfl))
  cases h
  exact f122
theorem f_sd_cutUp {g : Nat} {i : Nat} {v1 : Int32} {v2 : Int32} {σ : en_M} {r : en_M} (h : k_sd_cutUp g i v1 v2 σ = some r) : en_fr [(13, g)] σ r := by
  rw [k_sd_cutUp] at h
  obtain ⟨s1, e101, h⟩ := en_let_h h
  have f102 : en_fr [(13, g)] σ s1 := fr_tr (fr_rf [(13, g)] σ) (fr_wr e101 (List.mem_of_getElem? (i := 0) rfl))
  obtain ⟨t3, e103, h⟩ := en_b1_h h
  obtain ⟨s5, e105, h⟩ := en_let_h h
  have f106 : en_fr [(13, g)] σ s5 := fr_tr f102 (fr_wr e105 (List.mem_of_getElem? (i := 0) rfl))
  obtain ⟨s7, e107, h⟩ := en_let_h h
  have f108 : en_fr [(13, g)] σ s7 := fr_tr f106 (fr_wr e107 (List.mem_of_getElem? (i := 0) rfl))
  obtain ⟨s9, e109, h⟩ := en_let_h h
  have f110 : en_fr [(13, g)] σ s9 := fr_tr f108 (fr_wr e109 (List.mem_of_getElem? (i := 0) rfl))
  cases h
  exact f110
theorem f_sd_putWholeWords_5 : ∀ {f0 : Nat} {g : Nat} {i : Nat} {v1 : Int32} {v3 : Int32} {v4 : Int32} {σ : en_M} {r : Int32 × en_M} (h : k_sd_putWholeWords_5 f0 g i v1 v3 v4 σ = some r), en_fr [(23, 0)] σ r.2 := by
  intro f0
  induction f0 with
  | zero => intro g i v1 v3 v4 σ r h; cases h
  | succ f9 ih =>
    intro g i v1 v3 v4 σ r h
    rw [k_sd_putWholeWords_5] at h
    rcases en_if_h h with ⟨-, h⟩ | ⟨-, h⟩
    ·
      cases h
      exact (fr_rf [(23, 0)] σ)
    ·
      rcases en_if_h h with ⟨-, h⟩ | ⟨-, h⟩
      ·
        exact fr_tr (fr_rf [(23, 0)] σ) (ih h)
      ·
        rcases en_if_h h with ⟨-, h⟩ | ⟨-, h⟩
        ·
          exact fr_tr (fr_rf [(23, 0)] σ) (ih h)
        ·
          rcases en_if_h h with ⟨-, h⟩ | ⟨-, h⟩
          ·
            obtain ⟨s5, e101, h⟩ := en_b1_h h
            have f102 : en_fr [(23, 0)] σ s5 := fr_tr (fr_rf [(23, 0)] σ) (fr_wa e101 (List.mem_of_getElem? (i := 0) rfl))
            exact fr_tr f102 (ih h)
          ·
            obtain ⟨s7, e103, h⟩ := en_b1_h h
            have f104 : en_fr [(23, 0)] σ s7 := fr_tr (fr_rf [(23, 0)] σ) (fr_wa e103 (List.mem_of_getElem? (i := 0) rfl))
            exact fr_tr f104 (ih h)
theorem f_sd_putWholeWords {g : Nat} {i : Nat} {v1 : Int32} {σ : en_M} {r : Int32 × en_M} (h : k_sd_putWholeWords g i v1 σ = some r) : en_fr [(23, 0)] σ r.2 := by
  rw [k_sd_putWholeWords] at h
  obtain ⟨x9, s11, e101, h⟩ := en_b2_h h
  have f102 : en_fr [(23, 0)] σ s11 := fr_tr (fr_rf [(23, 0)] σ) (f_sd_putWholeWords_5 e101)
  cases h
  exact f102
theorem f_ta_clear {g : Nat} {σ : en_M} {r : en_M} (h : k_ta_clear g σ = some r) : en_fr [(11, g)] σ r := by
  rw [k_ta_clear] at h
  obtain ⟨s1, e101, h⟩ := en_let_h h
  have f102 : en_fr [(11, g)] σ s1 := fr_tr (fr_rf [(11, g)] σ) (fr_wr e101 (List.mem_of_getElem? (i := 0) rfl))
  obtain ⟨s3, e103, h⟩ := en_let_h h
  have f104 : en_fr [(11, g)] σ s3 := fr_tr f102 (fr_wr e103 (List.mem_of_getElem? (i := 0) rfl))
  obtain ⟨s5, e105, h⟩ := en_let_h h
  have f106 : en_fr [(11, g)] σ s5 := fr_tr f104 (fr_wr e105 (List.mem_of_getElem? (i := 0) rfl))
  obtain ⟨s7, e107, h⟩ := en_let_h h
  have f108 : en_fr [(11, g)] σ s7 := fr_tr f106 (fr_wr e107 (List.mem_of_getElem? (i := 0) rfl))
  obtain ⟨s9, e109, h⟩ := en_let_h h
  have f110 : en_fr [(11, g)] σ s9 := fr_tr f108 (fr_wr e109 (List.mem_of_getElem? (i := 0) rfl))
  obtain ⟨s11, e111, h⟩ := en_let_h h
  have f112 : en_fr [(11, g)] σ s11 := fr_tr f110 (fr_wr e111 (List.mem_of_getElem? (i := 0) rfl))
  cases h
  exact f112
theorem f_ta_copyFrom {g : Nat} {g1 : Nat} {σ : en_M} {r : en_M} (h : k_ta_copyFrom g g1 σ = some r) : en_fr [(11, g)] σ r := by
  rw [k_ta_copyFrom] at h
  obtain ⟨s1, e101, h⟩ := en_let_h h
  have f102 : en_fr [(11, g)] σ s1 := fr_tr (fr_rf [(11, g)] σ) (fr_wr e101 (List.mem_of_getElem? (i := 0) rfl))
  obtain ⟨s3, e103, h⟩ := en_let_h h
  have f104 : en_fr [(11, g)] σ s3 := fr_tr f102 (fr_wr e103 (List.mem_of_getElem? (i := 0) rfl))
  obtain ⟨s5, e105, h⟩ := en_let_h h
  have f106 : en_fr [(11, g)] σ s5 := fr_tr f104 (fr_wr e105 (List.mem_of_getElem? (i := 0) rfl))
  obtain ⟨s7, e107, h⟩ := en_let_h h
  have f108 : en_fr [(11, g)] σ s7 := fr_tr f106 (fr_wr e107 (List.mem_of_getElem? (i := 0) rfl))
  obtain ⟨s9, e109, h⟩ := en_let_h h
  have f110 : en_fr [(11, g)] σ s9 := fr_tr f108 (fr_wr e109 (List.mem_of_getElem? (i := 0) rfl))
  obtain ⟨s11, e111, h⟩ := en_let_h h
  have f112 : en_fr [(11, g)] σ s11 := fr_tr f110 (fr_wr e111 (List.mem_of_getElem? (i := 0) rfl))
  cases h
  exact f112
theorem f_fi_add {g : Nat} {v1 : Int32} {v2 : Int32} {σ : en_M} {r : en_M} (h : k_fi_add g v1 v2 σ = some r) : en_fr [(9, g), (10, g), (8, g)] σ r := by
  rw [k_fi_add] at h
  obtain ⟨s1, e101, h⟩ := en_b1_h h
  have f102 : en_fr [(9, g), (10, g), (8, g)] σ s1 := fr_tr (fr_rf [(9, g), (10, g), (8, g)] σ) (fr_wa e101 (List.mem_of_getElem? (i := 0) rfl))
  obtain ⟨s3, e103, h⟩ := en_b1_h h
  have f104 : en_fr [(9, g), (10, g), (8, g)] σ s3 := fr_tr f102 (fr_wa e103 (List.mem_of_getElem? (i := 1) rfl))
  obtain ⟨s5, e105, h⟩ := en_let_h h
  have f106 : en_fr [(9, g), (10, g), (8, g)] σ s5 := fr_tr f104 (fr_wr e105 (List.mem_of_getElem? (i := 2) rfl))
  cases h
  exact f106
theorem f_fi_clear {g : Nat} {σ : en_M} {r : en_M} (h : k_fi_clear g σ = some r) : en_fr [(8, g)] σ r := by
  rw [k_fi_clear] at h
  obtain ⟨s1, e101, h⟩ := en_let_h h
  have f102 : en_fr [(8, g)] σ s1 := fr_tr (fr_rf [(8, g)] σ) (fr_wr e101 (List.mem_of_getElem? (i := 0) rfl))
  cases h
  exact f102
theorem f_fi_copyFrom {g : Nat} {g1 : Nat} {σ : en_M} {r : en_M} (h : k_fi_copyFrom g g1 σ = some r) : en_fr [(9, g), (10, g), (8, g)] σ r := by
  rw [k_fi_copyFrom] at h
  obtain ⟨s1, e101, h⟩ := en_let_h h
  have f102 : en_fr [(9, g), (10, g), (8, g)] σ s1 := fr_tr (fr_rf [(9, g), (10, g), (8, g)] σ) (fr_cp e101 (List.mem_of_getElem? (i := 0) rfl))
  obtain ⟨s3, e103, h⟩ := en_let_h h
  have f104 : en_fr [(9, g), (10, g), (8, g)] σ s3 := fr_tr f102 (fr_cp e103 (List.mem_of_getElem? (i := 1) rfl))
  obtain ⟨s5, e105, h⟩ := en_let_h h
  have f106 : en_fr [(9, g), (10, g), (8, g)] σ s5 := fr_tr f104 (fr_wr e105 (List.mem_of_getElem? (i := 2) rfl))
  cases h
  exact f106
theorem f_lg_add {g : Nat} {g1 : Nat} {i1 : Nat} {v2 : Int32} {v3 : Int32} {v4 : Int32} {σ : en_M} {r : en_M} (h : k_lg_add g g1 i1 v2 v3 v4 σ = some r) : en_fr [(7, g), (6, g)] σ r := by
  rw [k_lg_add] at h
  obtain ⟨s1, e101, h⟩ := en_b1_h h
  have f102 : en_fr [(7, g), (6, g)] σ s1 := fr_tr (fr_rf [(7, g), (6, g)] σ) (fr_wa e101 (List.mem_of_getElem? (i := 0) rfl))
  obtain ⟨s3, e103, h⟩ := en_b1_h h
  have f104 : en_fr [(7, g), (6, g)] σ s3 := fr_tr f102 (fr_wa e103 (List.mem_of_getElem? (i := 0) rfl))
  obtain ⟨s5, e105, h⟩ := en_b1_h h
  have f106 : en_fr [(7, g), (6, g)] σ s5 := fr_tr f104 (fr_wa e105 (List.mem_of_getElem? (i := 0) rfl))
  obtain ⟨s7, e107, h⟩ := en_b1_h h
  have f108 : en_fr [(7, g), (6, g)] σ s7 := fr_tr f106 (fr_wa e107 (List.mem_of_getElem? (i := 0) rfl))
  obtain ⟨s9, e109, h⟩ := en_b1_h h
  have f110 : en_fr [(7, g), (6, g)] σ s9 := fr_tr f108 (fr_wa e109 (List.mem_of_getElem? (i := 0) rfl))
  obtain ⟨s11, e111, h⟩ := en_b1_h h
  have f112 : en_fr [(7, g), (6, g)] σ s11 := fr_tr f110 (fr_wa e111 (List.mem_of_getElem? (i := 0) rfl))
  obtain ⟨s13, e113, h⟩ := en_b1_h h
  have f114 : en_fr [(7, g), (6, g)] σ s13 := fr_tr f112 (fr_wa e113 (List.mem_of_getElem? (i := 0) rfl))
  rcases en_if_h h with ⟨-, h⟩ | ⟨-, h⟩
  ·
    obtain ⟨s16, e115, h⟩ := en_let_h h
    have f116 : en_fr [(7, g), (6, g)] σ s16 := fr_tr f114 (fr_wr e115 (List.mem_of_getElem? (i := 1) rfl))
    cases h
    exact f116
  ·
    obtain ⟨s18, e117, h⟩ := en_let_h h
    have f118 : en_fr [(7, g), (6, g)] σ s18 := fr_tr f114 (fr_wr e117 (List.mem_of_getElem? (i := 1) rfl))
    cases h
    exact f118
theorem f_lg_clear {g : Nat} {σ : en_M} {r : en_M} (h : k_lg_clear g σ = some r) : en_fr [(6, g)] σ r := by
  rw [k_lg_clear] at h
  obtain ⟨s1, e101, h⟩ := en_let_h h
  have f102 : en_fr [(6, g)] σ s1 := fr_tr (fr_rf [(6, g)] σ) (fr_wr e101 (List.mem_of_getElem? (i := 0) rfl))
  obtain ⟨s3, e103, h⟩ := en_let_h h
  have f104 : en_fr [(6, g)] σ s3 := fr_tr f102 (fr_wr e103 (List.mem_of_getElem? (i := 0) rfl))
  cases h
  exact f104
theorem f_lg_copyFrom {g : Nat} {g1 : Nat} {σ : en_M} {r : en_M} (h : k_lg_copyFrom g g1 σ = some r) : en_fr [(7, g), (6, g)] σ r := by
  rw [k_lg_copyFrom] at h
  obtain ⟨s1, e101, h⟩ := en_let_h h
  have f102 : en_fr [(7, g), (6, g)] σ s1 := fr_tr (fr_rf [(7, g), (6, g)] σ) (fr_cp e101 (List.mem_of_getElem? (i := 0) rfl))
  obtain ⟨s3, e103, h⟩ := en_let_h h
  have f104 : en_fr [(7, g), (6, g)] σ s3 := fr_tr f102 (fr_wr e103 (List.mem_of_getElem? (i := 1) rfl))
  obtain ⟨s5, e105, h⟩ := en_let_h h
  have f106 : en_fr [(7, g), (6, g)] σ s5 := fr_tr f104 (fr_wr e105 (List.mem_of_getElem? (i := 1) rfl))
  cases h
  exact f106
theorem f_cd_addFlow {g : Nat} {v1 : Int32} {v2 : Int32} {σ : en_M} {r : en_M} (h : k_cd_addFlow g v1 v2 σ = some r) : en_fr [(12, g), (0, g)] σ r := by
  rw [k_cd_addFlow] at h
  rcases en_if_h h with ⟨-, h⟩ | ⟨-, h⟩
  ·
    cases h
    exact (fr_rf [(12, g), (0, g)] σ)
  ·
    obtain ⟨q2, e101, h⟩ := en_b1_h h
    obtain ⟨s4, e103, h⟩ := en_b1_h h
    have f104 : en_fr [(12, g), (0, g)] σ s4 := fr_tr (fr_rf [(12, g), (0, g)] σ) (fr_sub (f_fo_begin e103) (by simp))
    obtain ⟨s6, e105, h⟩ := en_let_h h
    have f106 : en_fr [(12, g), (0, g)] σ s6 := fr_tr f104 (fr_wr e105 (List.mem_of_getElem? (i := 1) rfl))
    cases h
    exact f106
theorem f_cd_copyFrom_2 : ∀ {f0 : Nat} {g : Nat} {g1 : Nat} {v2 : Int32} {σ : en_M} {r : en_M} (h : k_cd_copyFrom_2 f0 g g1 v2 σ = some r), en_fr [(12, g)] σ r := by
  intro f0
  induction f0 with
  | zero => intro g g1 v2 σ r h; cases h
  | succ f9 ih =>
    intro g g1 v2 σ r h
    rw [k_cd_copyFrom_2] at h
    rcases en_if_h h with ⟨-, h⟩ | ⟨-, h⟩
    ·
      cases h
      exact (fr_rf [(12, g)] σ)
    ·
      obtain ⟨q2, e101, h⟩ := en_b1_h h
      obtain ⟨q4, e103, h⟩ := en_b1_h h
      obtain ⟨s6, e105, h⟩ := en_b1_h h
      have f106 : en_fr [(12, g)] σ s6 := fr_tr (fr_rf [(12, g)] σ) (f_fo_copyFrom e105)
      exact fr_tr f106 (ih h)
theorem f_cd_copyFrom_31 : ∀ {f0 : Nat} {g : Nat} {g1 : Nat} {v2 : Int32} {σ : en_M} {r : en_M} (h : k_cd_copyFrom_31 f0 g g1 v2 σ = some r), en_fr [(13, g)] σ r := by
  intro f0
  induction f0 with
  | zero => intro g g1 v2 σ r h; cases h
  | succ f9 ih =>
    intro g g1 v2 σ r h
    rw [k_cd_copyFrom_31] at h
    rcases en_if_h h with ⟨-, h⟩ | ⟨-, h⟩
    ·
      cases h
      exact (fr_rf [(13, g)] σ)
    ·
      obtain ⟨q12, e101, h⟩ := en_b1_h h
      obtain ⟨q14, e103, h⟩ := en_b1_h h
      obtain ⟨s16, e105, h⟩ := en_b1_h h
      have f106 : en_fr [(13, g)] σ s16 := fr_tr (fr_rf [(13, g)] σ) (f_sd_copyFrom e105)
      exact fr_tr f106 (ih h)
theorem f_cd_copyFrom {g : Nat} {g1 : Nat} {σ : en_M} {r : en_M} (h : k_cd_copyFrom g g1 σ = some r) : en_fr [(12, g), (13, g), (3, g), (4, g), (5, g), (7, g), (6, g), (9, g), (10, g), (8, g), (11, g), (0, g)] σ r := by
  rw [k_cd_copyFrom] at h
  obtain ⟨s9, e101, h⟩ := en_b1_h h
  have f102 : en_fr [(12, g), (13, g), (3, g), (4, g), (5, g), (7, g), (6, g), (9, g), (10, g), (8, g), (11, g), (0, g)] σ s9 := fr_tr (fr_rf [(12, g), (13, g), (3, g), (4, g), (5, g), (7, g), (6, g), (9, g), (10, g), (8, g), (11, g), (0, g)] σ) (fr_sub (f_cd_copyFrom_2 e101) (by simp))
  obtain ⟨s19, e103, h⟩ := en_b1_h h
  have f104 : en_fr [(12, g), (13, g), (3, g), (4, g), (5, g), (7, g), (6, g), (9, g), (10, g), (8, g), (11, g), (0, g)] σ s19 := fr_tr f102 (fr_sub (f_cd_copyFrom_31 e103) (by simp))
  obtain ⟨s21, e105, h⟩ := en_let_h h
  have f106 : en_fr [(12, g), (13, g), (3, g), (4, g), (5, g), (7, g), (6, g), (9, g), (10, g), (8, g), (11, g), (0, g)] σ s21 := fr_tr f104 (fr_cp e105 (List.mem_of_getElem? (i := 2) rfl))
  obtain ⟨s23, e107, h⟩ := en_let_h h
  have f108 : en_fr [(12, g), (13, g), (3, g), (4, g), (5, g), (7, g), (6, g), (9, g), (10, g), (8, g), (11, g), (0, g)] σ s23 := fr_tr f106 (fr_cp e107 (List.mem_of_getElem? (i := 3) rfl))
  obtain ⟨s25, e109, h⟩ := en_let_h h
  have f110 : en_fr [(12, g), (13, g), (3, g), (4, g), (5, g), (7, g), (6, g), (9, g), (10, g), (8, g), (11, g), (0, g)] σ s25 := fr_tr f108 (fr_cp e109 (List.mem_of_getElem? (i := 4) rfl))
  obtain ⟨s27, e111, h⟩ := en_b1_h h
  have f112 : en_fr [(12, g), (13, g), (3, g), (4, g), (5, g), (7, g), (6, g), (9, g), (10, g), (8, g), (11, g), (0, g)] σ s27 := fr_tr f110 (fr_sub (f_lg_copyFrom e111) (by simp))
  obtain ⟨s29, e113, h⟩ := en_b1_h h
  have f114 : en_fr [(12, g), (13, g), (3, g), (4, g), (5, g), (7, g), (6, g), (9, g), (10, g), (8, g), (11, g), (0, g)] σ s29 := fr_tr f112 (fr_sub (f_fi_copyFrom e113) (by simp))
  obtain ⟨s31, e115, h⟩ := en_b1_h h
  have f116 : en_fr [(12, g), (13, g), (3, g), (4, g), (5, g), (7, g), (6, g), (9, g), (10, g), (8, g), (11, g), (0, g)] σ s31 := fr_tr f114 (fr_sub (f_ta_copyFrom e115) (by simp))
  obtain ⟨s33, e117, h⟩ := en_let_h h
  have f118 : en_fr [(12, g), (13, g), (3, g), (4, g), (5, g), (7, g), (6, g), (9, g), (10, g), (8, g), (11, g), (0, g)] σ s33 := fr_tr f116 (fr_wr e117 (List.mem_of_getElem? (i := 11) rfl))
  obtain ⟨s35, e119, h⟩ := en_let_h h
  have f120 : en_fr [(12, g), (13, g), (3, g), (4, g), (5, g), (7, g), (6, g), (9, g), (10, g), (8, g), (11, g), (0, g)] σ s35 := fr_tr f118 (fr_wr e119 (List.mem_of_getElem? (i := 11) rfl))
  obtain ⟨s37, e121, h⟩ := en_let_h h
  have f122 : en_fr [(12, g), (13, g), (3, g), (4, g), (5, g), (7, g), (6, g), (9, g), (10, g), (8, g), (11, g), (0, g)] σ s37 := fr_tr f120 (fr_wr e121 (List.mem_of_getElem? (i := 11) rfl))
  obtain ⟨s39, e123, h⟩ := en_let_h h
  have f124 : en_fr [(12, g), (13, g), (3, g), (4, g), (5, g), (7, g), (6, g), (9, g), (10, g), (8, g), (11, g), (0, g)] σ s39 := fr_tr f122 (fr_wr e123 (List.mem_of_getElem? (i := 11) rfl))
  obtain ⟨s41, e125, h⟩ := en_let_h h
  have f126 : en_fr [(12, g), (13, g), (3, g), (4, g), (5, g), (7, g), (6, g), (9, g), (10, g), (8, g), (11, g), (0, g)] σ s41 := fr_tr f124 (fr_wr e125 (List.mem_of_getElem? (i := 11) rfl))
  obtain ⟨s43, e127, h⟩ := en_let_h h
  have f128 : en_fr [(12, g), (13, g), (3, g), (4, g), (5, g), (7, g), (6, g), (9, g), (10, g), (8, g), (11, g), (0, g)] σ s43 := fr_tr f126 (fr_wr e127 (List.mem_of_getElem? (i := 11) rfl))
  obtain ⟨s45, e129, h⟩ := en_let_h h
  have f130 : en_fr [(12, g), (13, g), (3, g), (4, g), (5, g), (7, g), (6, g), (9, g), (10, g), (8, g), (11, g), (0, g)] σ s45 := fr_tr f128 (fr_wr e129 (List.mem_of_getElem? (i := 11) rfl))
  obtain ⟨s47, e131, h⟩ := en_let_h h
  have f132 : en_fr [(12, g), (13, g), (3, g), (4, g), (5, g), (7, g), (6, g), (9, g), (10, g), (8, g), (11, g), (0, g)] σ s47 := fr_tr f130 (fr_wr e131 (List.mem_of_getElem? (i := 11) rfl))
  obtain ⟨s49, e133, h⟩ := en_let_h h
  have f134 : en_fr [(12, g), (13, g), (3, g), (4, g), (5, g), (7, g), (6, g), (9, g), (10, g), (8, g), (11, g), (0, g)] σ s49 := fr_tr f132 (fr_wr e133 (List.mem_of_getElem? (i := 11) rfl))
  cases h
  exact f134
theorem f_cd_putDeparts_109 : ∀ {f0 : Nat} {g : Nat} {v1 : Int32} {v2 : Int32} {g3 : Nat} {i3 : Nat} {j3 : Nat} {v5 : Int32} {v6 : Int32} {i7 : Nat} {v8 : Int32} {v9 : Int32} {σ : en_M} {r : Int32 × en_M} (h : k_cd_putDeparts_109 f0 g v1 v2 g3 i3 j3 v5 v6 i7 v8 v9 σ = some r), en_fr [(j3, g3)] σ r.2 := by
  intro f0
  induction f0 with
  | zero => intro g v1 v2 g3 i3 j3 v5 v6 i7 v8 v9 σ r h; cases h
  | succ f9 ih =>
    intro g v1 v2 g3 i3 j3 v5 v6 i7 v8 v9 σ r h
    rw [k_cd_putDeparts_109] at h
    rcases en_if_h h with ⟨-, h⟩ | ⟨-, h⟩
    ·
      cases h
      exact (fr_rf [(j3, g3)] σ)
    ·
      rcases en_if_h h with ⟨-, h⟩ | ⟨-, h⟩
      ·
        obtain ⟨t12, e101, h⟩ := en_b1_h h
        exact fr_tr (fr_rf [(j3, g3)] σ) (ih h)
      ·
        obtain ⟨s14, e103, h⟩ := en_b1_h h
        have f104 : en_fr [(j3, g3)] σ s14 := fr_tr (fr_rf [(j3, g3)] σ) (fr_wa e103 (List.mem_of_getElem? (i := 0) rfl))
        obtain ⟨t16, e105, h⟩ := en_b1_h h
        exact fr_tr f104 (ih h)
theorem f_cd_putDeparts_48 : ∀ {f0 : Nat} {g : Nat} {v1 : Int32} {v2 : Int32} {g3 : Nat} {i3 : Nat} {j3 : Nat} {v5 : Int32} {v6 : Int32} {σ : en_M} {r : Int32 × en_M} (h : k_cd_putDeparts_48 f0 g v1 v2 g3 i3 j3 v5 v6 σ = some r), en_fr [(j3, g3)] σ r.2 := by
  intro f0
  induction f0 with
  | zero => intro g v1 v2 g3 i3 j3 v5 v6 σ r h; cases h
  | succ f9 ih =>
    intro g v1 v2 g3 i3 j3 v5 v6 σ r h
    rw [k_cd_putDeparts_48] at h
    rcases en_if_h h with ⟨-, h⟩ | ⟨-, h⟩
    ·
      cases h
      exact (fr_rf [(j3, g3)] σ)
    ·
      obtain ⟨t5, e101, h⟩ := en_b1_h h
      cases t5 with
      | none =>
        exact fr_tr (fr_rf [(j3, g3)] σ) (ih h)
      | some z7 =>
        rcases en_if_h h with ⟨-, h⟩ | ⟨-, h⟩
        ·
          exact fr_tr (fr_rf [(j3, g3)] σ) (ih h)
        ·
          rcases en_if_h h with ⟨-, h⟩ | ⟨-, h⟩
          ·
            obtain ⟨x18, s22, e103, h⟩ := en_b2_h h
            have f104 : en_fr [(j3, g3)] σ s22 := fr_tr (fr_rf [(j3, g3)] σ) (f_cd_putDeparts_109 e103)
            exact fr_tr f104 (ih h)
          ·
            exact fr_tr (fr_rf [(j3, g3)] σ) (ih h)
theorem f_cd_putDeparts {g : Nat} {v1 : Int32} {v2 : Int32} {j3 : Nat} {g3 : Nat} {i3 : Nat} {σ : en_M} {r : Int32 × en_M} (h : k_cd_putDeparts g v1 v2 j3 g3 i3 σ = some r) : en_fr [(j3, g3)] σ r.2 := by
  rw [k_cd_putDeparts] at h
  obtain ⟨t1, e101, h⟩ := en_b1_h h
  cases t1 with
  | none =>
    obtain ⟨x24, s31, e103, h⟩ := en_b2_h h
    have f104 : en_fr [(j3, g3)] σ s31 := fr_tr (fr_rf [(j3, g3)] σ) (f_cd_putDeparts_48 e103)
    cases h
    exact f104
  | some z3 =>
    rcases en_if_h h with ⟨-, h⟩ | ⟨-, h⟩
    ·
      obtain ⟨x45, s52, e105, h⟩ := en_b2_h h
      have f106 : en_fr [(j3, g3)] σ s52 := fr_tr (fr_rf [(j3, g3)] σ) (f_cd_putDeparts_48 e105)
      cases h
      exact f106
    ·
      obtain ⟨t34, e107, h⟩ := en_b1_h h
      obtain ⟨x36, s43, e109, h⟩ := en_b2_h h
      have f110 : en_fr [(j3, g3)] σ s43 := fr_tr (fr_rf [(j3, g3)] σ) (f_cd_putDeparts_48 e109)
      cases h
      exact f110
theorem f_cd_reclaim_5 : ∀ {f0 : Nat} {g : Nat} {v1 : Int32} {σ : en_M} {r : (en_M) ⊕ (en_M)} (h : k_cd_reclaim_5 f0 g v1 σ = some r), match r with | .inl z => en_fr [(0, g)] σ z | .inr z => en_fr [(0, g)] σ z := by
  intro f0
  induction f0 with
  | zero => intro g v1 σ r h; cases h
  | succ f9 ih =>
    intro g v1 σ r h
    rw [k_cd_reclaim_5] at h
    rcases en_if_h h with ⟨-, h⟩ | ⟨-, h⟩
    ·
      cases h
      exact (fr_rf [(0, g)] σ)
    ·
      obtain ⟨t2, e101, h⟩ := en_b1_h h
      cases t2 with
      | none =>
        obtain ⟨s5, e103, h⟩ := en_let_h h
        have f104 : en_fr [(0, g)] σ s5 := fr_tr (fr_rf [(0, g)] σ) (fr_wr e103 (List.mem_of_getElem? (i := 0) rfl))
        have f9 := ih h
        cases r with
        | inl z => exact fr_tr f104 f9
        | inr z => exact fr_tr f104 f9
      | some z4 =>
        rcases en_if_h h with ⟨-, h⟩ | ⟨-, h⟩
        ·
          cases h
          exact (fr_rf [(0, g)] σ)
        ·
          obtain ⟨s8, e105, h⟩ := en_let_h h
          have f106 : en_fr [(0, g)] σ s8 := fr_tr (fr_rf [(0, g)] σ) (fr_wr e105 (List.mem_of_getElem? (i := 0) rfl))
          have f9 := ih h
          cases r with
          | inl z => exact fr_tr f106 f9
          | inr z => exact fr_tr f106 f9
theorem f_cd_reclaim {g : Nat} {σ : en_M} {r : en_M} (h : k_cd_reclaim g σ = some r) : en_fr [(0, g)] σ r := by
  rw [k_cd_reclaim] at h
  rcases en_rx_h h with ⟨r14, e101, h⟩ | ⟨s12, e101, h⟩
  ·
    have f102 : en_fr [(0, g)] σ r14 := fr_tr (fr_rf [(0, g)] σ) (f_cd_reclaim_5 e101)
    cases h
    exact f102
  ·
    have f103 : en_fr [(0, g)] σ s12 := fr_tr (fr_rf [(0, g)] σ) (f_cd_reclaim_5 e101)
    cases h
    exact f103
theorem f_cd_dropSend {g : Nat} {v1 : Int32} {σ : en_M} {r : Int32 × en_M} (h : k_cd_dropSend g v1 σ = some r) : en_fr [(13, g), (3, g), (12, g), (0, g)] σ r.2 := by
  rw [k_cd_dropSend] at h
  obtain ⟨t1, e101, h⟩ := en_b1_h h
  cases t1 with
  | none =>
    cases h
    exact (fr_rf [(13, g), (3, g), (12, g), (0, g)] σ)
  | some z3 =>
    obtain ⟨t4, e103, h⟩ := en_b1_h h
    cases t4 with
    | none =>
      cases h
      exact (fr_rf [(13, g), (3, g), (12, g), (0, g)] σ)
    | some z6 =>
      obtain ⟨s7, e105, h⟩ := en_let_h h
      have f106 : en_fr [(13, g), (3, g), (12, g), (0, g)] σ s7 := fr_tr (fr_rf [(13, g), (3, g), (12, g), (0, g)] σ) (fr_wr e105 (List.mem_of_getElem? (i := 0) rfl))
      obtain ⟨s9, e107, h⟩ := en_let_h h
      have f108 : en_fr [(13, g), (3, g), (12, g), (0, g)] σ s9 := fr_tr f106 (fr_wr e107 (List.mem_of_getElem? (i := 0) rfl))
      obtain ⟨t11, s12, e109, h⟩ := en_b2_h h
      have f110 : en_fr [(13, g), (3, g), (12, g), (0, g)] σ s12 := fr_tr f108 (fr_sub (f_cd_putDeparts e109) (by simp))
      obtain ⟨s14, e111, h⟩ := en_let_h h
      have f112 : en_fr [(13, g), (3, g), (12, g), (0, g)] σ s14 := fr_tr f110 (fr_wr e111 (List.mem_of_getElem? (i := 2) rfl))
      obtain ⟨s16, e113, h⟩ := en_b1_h h
      have f114 : en_fr [(13, g), (3, g), (12, g), (0, g)] σ s16 := fr_tr f112 (fr_sub (f_cd_reclaim e113) (by simp))
      cases h
      exact f114
theorem f_cd_letGo {g : Nat} {σ : en_M} {r : en_M} (h : k_cd_letGo g σ = some r) : en_fr [(0, g), (5, g), (12, g), (13, g), (9, g), (10, g), (8, g), (11, g)] σ r := by
  rw [k_cd_letGo] at h
  obtain ⟨t1, e101, h⟩ := en_b1_h h
  cases t1 with
  | none =>
    obtain ⟨s4, e103, h⟩ := en_let_h h
    have f104 : en_fr [(0, g), (5, g), (12, g), (13, g), (9, g), (10, g), (8, g), (11, g)] σ s4 := fr_tr (fr_rf [(0, g), (5, g), (12, g), (13, g), (9, g), (10, g), (8, g), (11, g)] σ) (fr_wr e103 (List.mem_of_getElem? (i := 0) rfl))
    cases h
    exact f104
  | some z3 =>
    obtain ⟨t6, e105, h⟩ := en_b1_h h
    obtain ⟨s8, e107, h⟩ := en_let_h h
    have f108 : en_fr [(0, g), (5, g), (12, g), (13, g), (9, g), (10, g), (8, g), (11, g)] σ s8 := fr_tr (fr_rf [(0, g), (5, g), (12, g), (13, g), (9, g), (10, g), (8, g), (11, g)] σ) (fr_wr e107 (List.mem_of_getElem? (i := 0) rfl))
    cases t6 with
    | none =>
      cases h
      exact f108
    | some z10 =>
      obtain ⟨s11, e109, h⟩ := en_b1_h h
      have f110 : en_fr [(0, g), (5, g), (12, g), (13, g), (9, g), (10, g), (8, g), (11, g)] σ s11 := fr_tr f108 (fr_wa e109 (List.mem_of_getElem? (i := 1) rfl))
      obtain ⟨s13, e111, h⟩ := en_let_h h
      have f112 : en_fr [(0, g), (5, g), (12, g), (13, g), (9, g), (10, g), (8, g), (11, g)] σ s13 := fr_tr f110 (fr_wr e111 (List.mem_of_getElem? (i := 2) rfl))
      rcases en_if_h h with ⟨-, h⟩ | ⟨-, h⟩
      ·
        obtain ⟨s16, e113, h⟩ := en_let_h h
        have f114 : en_fr [(0, g), (5, g), (12, g), (13, g), (9, g), (10, g), (8, g), (11, g)] σ s16 := fr_tr f112 (fr_wr e113 (List.mem_of_getElem? (i := 3) rfl))
        obtain ⟨s18, e115, h⟩ := en_let_h h
        have f116 : en_fr [(0, g), (5, g), (12, g), (13, g), (9, g), (10, g), (8, g), (11, g)] σ s18 := fr_tr f114 (fr_wr e115 (List.mem_of_getElem? (i := 3) rfl))
        obtain ⟨s20, e117, h⟩ := en_let_h h
        have f118 : en_fr [(0, g), (5, g), (12, g), (13, g), (9, g), (10, g), (8, g), (11, g)] σ s20 := fr_tr f116 (fr_wr e117 (List.mem_of_getElem? (i := 2) rfl))
        obtain ⟨s22, e119, h⟩ := en_b1_h h
        have f120 : en_fr [(0, g), (5, g), (12, g), (13, g), (9, g), (10, g), (8, g), (11, g)] σ s22 := fr_tr f118 (fr_sub (f_fi_add e119) (by simp))
        rcases en_if_h h with ⟨-, h⟩ | ⟨-, h⟩
        ·
          obtain ⟨s25, e121, h⟩ := en_let_h h
          have f122 : en_fr [(0, g), (5, g), (12, g), (13, g), (9, g), (10, g), (8, g), (11, g)] σ s25 := fr_tr f120 (fr_wr e121 (List.mem_of_getElem? (i := 7) rfl))
          obtain ⟨s27, e123, h⟩ := en_b1_h h
          have f124 : en_fr [(0, g), (5, g), (12, g), (13, g), (9, g), (10, g), (8, g), (11, g)] σ s27 := fr_tr f122 (fr_sub (f_cd_reclaim e123) (by simp))
          cases h
          exact f124
        ·
          obtain ⟨s29, e125, h⟩ := en_let_h h
          have f126 : en_fr [(0, g), (5, g), (12, g), (13, g), (9, g), (10, g), (8, g), (11, g)] σ s29 := fr_tr f120 (fr_wr e125 (List.mem_of_getElem? (i := 7) rfl))
          obtain ⟨s31, e127, h⟩ := en_b1_h h
          have f128 : en_fr [(0, g), (5, g), (12, g), (13, g), (9, g), (10, g), (8, g), (11, g)] σ s31 := fr_tr f126 (fr_sub (f_cd_reclaim e127) (by simp))
          cases h
          exact f128
      ·
        cases h
        exact f112
theorem f_cd_letLeave {g : Nat} {σ : en_M} {r : Int32 × en_M} (h : k_cd_letLeave g σ = some r) : en_fr [(4, g), (7, g), (6, g), (12, g), (0, g), (13, g)] σ r.2 := by
  rw [k_cd_letLeave] at h
  obtain ⟨t1, e101, h⟩ := en_b1_h h
  cases t1 with
  | none =>
    cases h
    exact (fr_rf [(4, g), (7, g), (6, g), (12, g), (0, g), (13, g)] σ)
  | some z3 =>
    obtain ⟨t4, e103, h⟩ := en_b1_h h
    cases t4 with
    | none =>
      cases h
      exact (fr_rf [(4, g), (7, g), (6, g), (12, g), (0, g), (13, g)] σ)
    | some z6 =>
      obtain ⟨s7, e105, h⟩ := en_b1_h h
      have f106 : en_fr [(4, g), (7, g), (6, g), (12, g), (0, g), (13, g)] σ s7 := fr_tr (fr_rf [(4, g), (7, g), (6, g), (12, g), (0, g), (13, g)] σ) (fr_wa e105 (List.mem_of_getElem? (i := 0) rfl))
      obtain ⟨t9, e107, h⟩ := en_b1_h h
      obtain ⟨s11, e109, h⟩ := en_b1_h h
      have f110 : en_fr [(4, g), (7, g), (6, g), (12, g), (0, g), (13, g)] σ s11 := fr_tr f106 (fr_sub (f_lg_add e109) (by simp))
      obtain ⟨t13, e111, h⟩ := en_b1_h h
      obtain ⟨s15, e113, h⟩ := en_let_h h
      have f114 : en_fr [(4, g), (7, g), (6, g), (12, g), (0, g), (13, g)] σ s15 := fr_tr f110 (fr_wr e113 (List.mem_of_getElem? (i := 3) rfl))
      obtain ⟨s17, e115, h⟩ := en_let_h h
      have f116 : en_fr [(4, g), (7, g), (6, g), (12, g), (0, g), (13, g)] σ s17 := fr_tr f114 (fr_wr e115 (List.mem_of_getElem? (i := 3) rfl))
      obtain ⟨s19, e117, h⟩ := en_let_h h
      have f118 : en_fr [(4, g), (7, g), (6, g), (12, g), (0, g), (13, g)] σ s19 := fr_tr f116 (fr_wr e117 (List.mem_of_getElem? (i := 4) rfl))
      obtain ⟨t21, e119, h⟩ := en_b1_h h
      obtain ⟨s23, e121, h⟩ := en_let_h h
      have f122 : en_fr [(4, g), (7, g), (6, g), (12, g), (0, g), (13, g)] σ s23 := fr_tr f118 (fr_wr e121 (List.mem_of_getElem? (i := 4) rfl))
      obtain ⟨s25, e123, h⟩ := en_let_h h
      have f124 : en_fr [(4, g), (7, g), (6, g), (12, g), (0, g), (13, g)] σ s25 := fr_tr f122 (fr_wr e123 (List.mem_of_getElem? (i := 5) rfl))
      cases h
      exact f124
theorem f_cd_ringBell_91 : ∀ {f0 : Nat} {g : Nat} {v1 : Int32} {v2 : Int32} {i3 : Nat} {v5 : Int32} {σ : en_M} {r : en_M} (h : k_cd_ringBell_91 f0 g v1 v2 i3 v5 σ = some r), en_fr [(4, g), (5, g)] σ r := by
  intro f0
  induction f0 with
  | zero => intro g v1 v2 i3 v5 σ r h; cases h
  | succ f9 ih =>
    intro g v1 v2 i3 v5 σ r h
    rw [k_cd_ringBell_91] at h
    rcases en_if_h h with ⟨-, h⟩ | ⟨-, h⟩
    ·
      cases h
      exact (fr_rf [(4, g), (5, g)] σ)
    ·
      obtain ⟨s14, e101, h⟩ := en_b1_h h
      have f102 : en_fr [(4, g), (5, g)] σ s14 := fr_tr (fr_rf [(4, g), (5, g)] σ) (fr_wa e101 (List.mem_of_getElem? (i := 0) rfl))
      obtain ⟨s16, e103, h⟩ := en_b1_h h
      have f104 : en_fr [(4, g), (5, g)] σ s16 := fr_tr f102 (fr_wa e103 (List.mem_of_getElem? (i := 1) rfl))
      exact fr_tr f104 (ih h)
theorem f_cd_ringBell_7 : ∀ {f0 : Nat} {g : Nat} {v1 : Int32} {v2 : Int32} {σ : en_M} {r : Int32 × en_M} (h : k_cd_ringBell_7 f0 g v1 v2 σ = some r), en_fr [(13, g), (12, g), (4, g), (5, g)] σ r.2 := by
  intro f0
  induction f0 with
  | zero => intro g v1 v2 σ r h; cases h
  | succ f9 ih =>
    intro g v1 v2 σ r h
    rw [k_cd_ringBell_7] at h
    rcases en_if_h h with ⟨-, h⟩ | ⟨-, h⟩
    ·
      cases h
      exact (fr_rf [(13, g), (12, g), (4, g), (5, g)] σ)
    ·
      obtain ⟨t2, e101, h⟩ := en_b1_h h
      cases t2 with
      | none =>
        exact fr_tr (fr_rf [(13, g), (12, g), (4, g), (5, g)] σ) (ih h)
      | some z4 =>
        obtain ⟨t5, e103, h⟩ := en_b1_h h
        cases t5 with
        | none =>
          exact fr_tr (fr_rf [(13, g), (12, g), (4, g), (5, g)] σ) (ih h)
        | some z7 =>
          rcases en_if_h h with ⟨-, h⟩ | ⟨-, h⟩
          ·
            obtain ⟨s9, e105, h⟩ := en_b1_h h
            have f106 : en_fr [(13, g), (12, g), (4, g), (5, g)] σ s9 := fr_tr (fr_rf [(13, g), (12, g), (4, g), (5, g)] σ) (fr_sub (f_sd_cutUp e105) (by simp))
            obtain ⟨s11, e107, h⟩ := en_let_h h
            have f108 : en_fr [(13, g), (12, g), (4, g), (5, g)] σ s11 := fr_tr f106 (fr_wr e107 (List.mem_of_getElem? (i := 1) rfl))
            obtain ⟨s19, e109, h⟩ := en_b1_h h
            have f110 : en_fr [(13, g), (12, g), (4, g), (5, g)] σ s19 := fr_tr f108 (fr_sub (f_cd_ringBell_91 e109) (by simp))
            exact fr_tr f110 (ih h)
          ·
            exact fr_tr (fr_rf [(13, g), (12, g), (4, g), (5, g)] σ) (ih h)
theorem f_cd_ringBell_141 : ∀ {f0 : Nat} {g : Nat} {v1 : Int32} {v2 : Int32} {σ : en_M} {r : en_M} (h : k_cd_ringBell_141 f0 g v1 v2 σ = some r), en_fr [(3, g), (12, g)] σ r := by
  intro f0
  induction f0 with
  | zero => intro g v1 v2 σ r h; cases h
  | succ f9 ih =>
    intro g v1 v2 σ r h
    rw [k_cd_ringBell_141] at h
    rcases en_if_h h with ⟨-, h⟩ | ⟨-, h⟩
    ·
      cases h
      exact (fr_rf [(3, g), (12, g)] σ)
    ·
      rcases en_if_h h with ⟨-, h⟩ | ⟨-, h⟩
      ·
        cases h
        exact (fr_rf [(3, g), (12, g)] σ)
      ·
        obtain ⟨q30, e101, h⟩ := en_b1_h h
        obtain ⟨q32, e103, h⟩ := en_b1_h h
        obtain ⟨t34, s35, e105, h⟩ := en_b2_h h
        have f106 : en_fr [(3, g), (12, g)] σ s35 := fr_tr (fr_rf [(3, g), (12, g)] σ) (fr_sub (f_cd_putDeparts e105) (by simp))
        obtain ⟨s37, e107, h⟩ := en_let_h h
        have f108 : en_fr [(3, g), (12, g)] σ s37 := fr_tr f106 (fr_wr e107 (List.mem_of_getElem? (i := 1) rfl))
        exact fr_tr f108 (ih h)
theorem f_cd_ringBell {g : Nat} {σ : en_M} {r : Int32 × en_M} (h : k_cd_ringBell g σ = some r) : en_fr [(13, g), (12, g), (4, g), (5, g), (3, g), (11, g)] σ r.2 := by
  rw [k_cd_ringBell] at h
  obtain ⟨x21, s26, e101, h⟩ := en_b2_h h
  have f102 : en_fr [(13, g), (12, g), (4, g), (5, g), (3, g), (11, g)] σ s26 := fr_tr (fr_rf [(13, g), (12, g), (4, g), (5, g), (3, g), (11, g)] σ) (fr_sub (f_cd_ringBell_7 e101) (by simp))
  obtain ⟨s40, e103, h⟩ := en_b1_h h
  have f104 : en_fr [(13, g), (12, g), (4, g), (5, g), (3, g), (11, g)] σ s40 := fr_tr f102 (fr_sub (f_cd_ringBell_141 e103) (by simp))
  obtain ⟨s42, e105, h⟩ := en_let_h h
  have f106 : en_fr [(13, g), (12, g), (4, g), (5, g), (3, g), (11, g)] σ s42 := fr_tr f104 (fr_wr e105 (List.mem_of_getElem? (i := 5) rfl))
  obtain ⟨s44, e107, h⟩ := en_let_h h
  have f108 : en_fr [(13, g), (12, g), (4, g), (5, g), (3, g), (11, g)] σ s44 := fr_tr f106 (fr_wr e107 (List.mem_of_getElem? (i := 5) rfl))
  cases h
  exact f108
theorem f_cd_post {g : Nat} {v1 : Int32} {v2 : Int32} {v3 : Int32} {v4 : Int32} {σ : en_M} {r : Int32 × en_M} (h : k_cd_post g v1 v2 v3 v4 σ = some r) : en_fr [(13, g), (0, g), (12, g), (4, g), (5, g), (3, g), (11, g)] σ r.2 := by
  rw [k_cd_post] at h
  obtain ⟨q1, e101, h⟩ := en_b1_h h
  obtain ⟨s3, e103, h⟩ := en_b1_h h
  have f104 : en_fr [(13, g), (0, g), (12, g), (4, g), (5, g), (3, g), (11, g)] σ s3 := fr_tr (fr_rf [(13, g), (0, g), (12, g), (4, g), (5, g), (3, g), (11, g)] σ) (fr_sub (f_sd_begin e103) (by simp))
  obtain ⟨s5, e105, h⟩ := en_let_h h
  have f106 : en_fr [(13, g), (0, g), (12, g), (4, g), (5, g), (3, g), (11, g)] σ s5 := fr_tr f104 (fr_wr e105 (List.mem_of_getElem? (i := 1) rfl))
  obtain ⟨t7, e107, h⟩ := en_b1_h h
  rcases en_if_h h with ⟨-, h⟩ | ⟨-, h⟩
  ·
    cases h
    exact f106
  ·
    obtain ⟨t10, s11, e109, h⟩ := en_b2_h h
    have f110 : en_fr [(13, g), (0, g), (12, g), (4, g), (5, g), (3, g), (11, g)] σ s11 := fr_tr f106 (fr_sub (f_cd_ringBell e109) (by simp))
    cases h
    exact f110
theorem f_cd_reset {g : Nat} {v1 : Int32} {v2 : Int32} {v3 : Int32} {σ : en_M} {r : en_M} (h : k_cd_reset g v1 v2 v3 σ = some r) : en_fr [(0, g), (6, g), (8, g), (11, g)] σ r := by
  rw [k_cd_reset] at h
  obtain ⟨s1, e101, h⟩ := en_let_h h
  have f102 : en_fr [(0, g), (6, g), (8, g), (11, g)] σ s1 := fr_tr (fr_rf [(0, g), (6, g), (8, g), (11, g)] σ) (fr_wr e101 (List.mem_of_getElem? (i := 0) rfl))
  obtain ⟨s3, e103, h⟩ := en_let_h h
  have f104 : en_fr [(0, g), (6, g), (8, g), (11, g)] σ s3 := fr_tr f102 (fr_wr e103 (List.mem_of_getElem? (i := 0) rfl))
  obtain ⟨s5, e105, h⟩ := en_let_h h
  have f106 : en_fr [(0, g), (6, g), (8, g), (11, g)] σ s5 := fr_tr f104 (fr_wr e105 (List.mem_of_getElem? (i := 0) rfl))
  obtain ⟨s7, e107, h⟩ := en_let_h h
  have f108 : en_fr [(0, g), (6, g), (8, g), (11, g)] σ s7 := fr_tr f106 (fr_wr e107 (List.mem_of_getElem? (i := 0) rfl))
  obtain ⟨s9, e109, h⟩ := en_let_h h
  have f110 : en_fr [(0, g), (6, g), (8, g), (11, g)] σ s9 := fr_tr f108 (fr_wr e109 (List.mem_of_getElem? (i := 0) rfl))
  obtain ⟨s11, e111, h⟩ := en_let_h h
  have f112 : en_fr [(0, g), (6, g), (8, g), (11, g)] σ s11 := fr_tr f110 (fr_wr e111 (List.mem_of_getElem? (i := 0) rfl))
  obtain ⟨s13, e113, h⟩ := en_let_h h
  have f114 : en_fr [(0, g), (6, g), (8, g), (11, g)] σ s13 := fr_tr f112 (fr_wr e113 (List.mem_of_getElem? (i := 0) rfl))
  obtain ⟨s15, e115, h⟩ := en_let_h h
  have f116 : en_fr [(0, g), (6, g), (8, g), (11, g)] σ s15 := fr_tr f114 (fr_wr e115 (List.mem_of_getElem? (i := 0) rfl))
  obtain ⟨s17, e117, h⟩ := en_let_h h
  have f118 : en_fr [(0, g), (6, g), (8, g), (11, g)] σ s17 := fr_tr f116 (fr_wr e117 (List.mem_of_getElem? (i := 0) rfl))
  obtain ⟨s19, e119, h⟩ := en_b1_h h
  have f120 : en_fr [(0, g), (6, g), (8, g), (11, g)] σ s19 := fr_tr f118 (fr_sub (f_lg_clear e119) (by simp))
  obtain ⟨s21, e121, h⟩ := en_b1_h h
  have f122 : en_fr [(0, g), (6, g), (8, g), (11, g)] σ s21 := fr_tr f120 (fr_sub (f_fi_clear e121) (by simp))
  obtain ⟨s23, e123, h⟩ := en_b1_h h
  have f124 : en_fr [(0, g), (6, g), (8, g), (11, g)] σ s23 := fr_tr f122 (fr_sub (f_ta_clear e123) (by simp))
  cases h
  exact f124
theorem f_cd_runTicks_4 : ∀ {f0 : Nat} {g : Nat} {v1 : Int32} {v2 : Int32} {v3 : Int32} {σ : en_M} {r : Int32 × en_M} (h : k_cd_runTicks_4 f0 g v1 v2 v3 σ = some r), en_fr [(4, g), (7, g), (6, g), (12, g), (0, g), (13, g), (11, g), (5, g), (9, g), (10, g), (8, g)] σ r.2 := by
  intro f0
  induction f0 with
  | zero => intro g v1 v2 v3 σ r h; cases h
  | succ f9 ih =>
    intro g v1 v2 v3 σ r h
    rw [k_cd_runTicks_4] at h
    rcases en_if_h h with ⟨-, h⟩ | ⟨-, h⟩
    ·
      cases h
      exact (fr_rf [(4, g), (7, g), (6, g), (12, g), (0, g), (13, g), (11, g), (5, g), (9, g), (10, g), (8, g)] σ)
    ·
      rcases en_if_h h with ⟨-, h⟩ | ⟨-, h⟩
      ·
        cases h
        exact (fr_rf [(4, g), (7, g), (6, g), (12, g), (0, g), (13, g), (11, g), (5, g), (9, g), (10, g), (8, g)] σ)
      ·
        rcases en_if_h h with ⟨-, h⟩ | ⟨-, h⟩
        ·
          obtain ⟨t34, s35, e101, h⟩ := en_b2_h h
          have f102 : en_fr [(4, g), (7, g), (6, g), (12, g), (0, g), (13, g), (11, g), (5, g), (9, g), (10, g), (8, g)] σ s35 := fr_tr (fr_rf [(4, g), (7, g), (6, g), (12, g), (0, g), (13, g), (11, g), (5, g), (9, g), (10, g), (8, g)] σ) (fr_sub (f_cd_letLeave e101) (by simp))
          rcases en_if_h h with ⟨-, h⟩ | ⟨-, h⟩
          ·
            rcases en_if_h h with ⟨-, h⟩ | ⟨-, h⟩
            ·
              obtain ⟨s39, e103, h⟩ := en_let_h h
              have f104 : en_fr [(4, g), (7, g), (6, g), (12, g), (0, g), (13, g), (11, g), (5, g), (9, g), (10, g), (8, g)] σ s39 := fr_tr f102 (fr_wr e103 (List.mem_of_getElem? (i := 6) rfl))
              obtain ⟨t41, e105, h⟩ := en_b1_h h
              cases t41 with
              | none =>
                obtain ⟨s44, e107, h⟩ := en_let_h h
                have f108 : en_fr [(4, g), (7, g), (6, g), (12, g), (0, g), (13, g), (11, g), (5, g), (9, g), (10, g), (8, g)] σ s44 := fr_tr f104 (fr_wr e107 (List.mem_of_getElem? (i := 6) rfl))
                obtain ⟨s46, e109, h⟩ := en_let_h h
                have f110 : en_fr [(4, g), (7, g), (6, g), (12, g), (0, g), (13, g), (11, g), (5, g), (9, g), (10, g), (8, g)] σ s46 := fr_tr f108 (fr_wr e109 (List.mem_of_getElem? (i := 4) rfl))
                rcases en_if_h h with ⟨-, h⟩ | ⟨-, h⟩
                ·
                  exact fr_tr f110 (ih h)
                ·
                  rcases en_if_h h with ⟨-, h⟩ | ⟨-, h⟩
                  ·
                    exact fr_tr f110 (ih h)
                  ·
                    obtain ⟨s50, e111, h⟩ := en_b1_h h
                    have f112 : en_fr [(4, g), (7, g), (6, g), (12, g), (0, g), (13, g), (11, g), (5, g), (9, g), (10, g), (8, g)] σ s50 := fr_tr f110 (fr_sub (f_cd_letGo e111) (by simp))
                    exact fr_tr f112 (ih h)
              | some z43 =>
                obtain ⟨s52, e113, h⟩ := en_let_h h
                have f114 : en_fr [(4, g), (7, g), (6, g), (12, g), (0, g), (13, g), (11, g), (5, g), (9, g), (10, g), (8, g)] σ s52 := fr_tr f104 (fr_wr e113 (List.mem_of_getElem? (i := 6) rfl))
                obtain ⟨s54, e115, h⟩ := en_let_h h
                have f116 : en_fr [(4, g), (7, g), (6, g), (12, g), (0, g), (13, g), (11, g), (5, g), (9, g), (10, g), (8, g)] σ s54 := fr_tr f114 (fr_wr e115 (List.mem_of_getElem? (i := 4) rfl))
                rcases en_if_h h with ⟨-, h⟩ | ⟨-, h⟩
                ·
                  exact fr_tr f116 (ih h)
                ·
                  rcases en_if_h h with ⟨-, h⟩ | ⟨-, h⟩
                  ·
                    exact fr_tr f116 (ih h)
                  ·
                    obtain ⟨s58, e117, h⟩ := en_b1_h h
                    have f118 : en_fr [(4, g), (7, g), (6, g), (12, g), (0, g), (13, g), (11, g), (5, g), (9, g), (10, g), (8, g)] σ s58 := fr_tr f116 (fr_sub (f_cd_letGo e117) (by simp))
                    exact fr_tr f118 (ih h)
            ·
              obtain ⟨s60, e119, h⟩ := en_let_h h
              have f120 : en_fr [(4, g), (7, g), (6, g), (12, g), (0, g), (13, g), (11, g), (5, g), (9, g), (10, g), (8, g)] σ s60 := fr_tr f102 (fr_wr e119 (List.mem_of_getElem? (i := 6) rfl))
              obtain ⟨s62, e121, h⟩ := en_let_h h
              have f122 : en_fr [(4, g), (7, g), (6, g), (12, g), (0, g), (13, g), (11, g), (5, g), (9, g), (10, g), (8, g)] σ s62 := fr_tr f120 (fr_wr e121 (List.mem_of_getElem? (i := 4) rfl))
              rcases en_if_h h with ⟨-, h⟩ | ⟨-, h⟩
              ·
                exact fr_tr f122 (ih h)
              ·
                rcases en_if_h h with ⟨-, h⟩ | ⟨-, h⟩
                ·
                  exact fr_tr f122 (ih h)
                ·
                  obtain ⟨s66, e123, h⟩ := en_b1_h h
                  have f124 : en_fr [(4, g), (7, g), (6, g), (12, g), (0, g), (13, g), (11, g), (5, g), (9, g), (10, g), (8, g)] σ s66 := fr_tr f122 (fr_sub (f_cd_letGo e123) (by simp))
                  exact fr_tr f124 (ih h)
          ·
            rcases en_if_h h with ⟨-, h⟩ | ⟨-, h⟩
            ·
              obtain ⟨s69, e125, h⟩ := en_let_h h
              have f126 : en_fr [(4, g), (7, g), (6, g), (12, g), (0, g), (13, g), (11, g), (5, g), (9, g), (10, g), (8, g)] σ s69 := fr_tr f102 (fr_wr e125 (List.mem_of_getElem? (i := 6) rfl))
              obtain ⟨t71, e127, h⟩ := en_b1_h h
              cases t71 with
              | none =>
                obtain ⟨s74, e129, h⟩ := en_let_h h
                have f130 : en_fr [(4, g), (7, g), (6, g), (12, g), (0, g), (13, g), (11, g), (5, g), (9, g), (10, g), (8, g)] σ s74 := fr_tr f126 (fr_wr e129 (List.mem_of_getElem? (i := 6) rfl))
                obtain ⟨s76, e131, h⟩ := en_let_h h
                have f132 : en_fr [(4, g), (7, g), (6, g), (12, g), (0, g), (13, g), (11, g), (5, g), (9, g), (10, g), (8, g)] σ s76 := fr_tr f130 (fr_wr e131 (List.mem_of_getElem? (i := 4) rfl))
                rcases en_if_h h with ⟨-, h⟩ | ⟨-, h⟩
                ·
                  exact fr_tr f132 (ih h)
                ·
                  rcases en_if_h h with ⟨-, h⟩ | ⟨-, h⟩
                  ·
                    exact fr_tr f132 (ih h)
                  ·
                    obtain ⟨s80, e133, h⟩ := en_b1_h h
                    have f134 : en_fr [(4, g), (7, g), (6, g), (12, g), (0, g), (13, g), (11, g), (5, g), (9, g), (10, g), (8, g)] σ s80 := fr_tr f132 (fr_sub (f_cd_letGo e133) (by simp))
                    exact fr_tr f134 (ih h)
              | some z73 =>
                obtain ⟨s82, e135, h⟩ := en_let_h h
                have f136 : en_fr [(4, g), (7, g), (6, g), (12, g), (0, g), (13, g), (11, g), (5, g), (9, g), (10, g), (8, g)] σ s82 := fr_tr f126 (fr_wr e135 (List.mem_of_getElem? (i := 6) rfl))
                obtain ⟨s84, e137, h⟩ := en_let_h h
                have f138 : en_fr [(4, g), (7, g), (6, g), (12, g), (0, g), (13, g), (11, g), (5, g), (9, g), (10, g), (8, g)] σ s84 := fr_tr f136 (fr_wr e137 (List.mem_of_getElem? (i := 4) rfl))
                rcases en_if_h h with ⟨-, h⟩ | ⟨-, h⟩
                ·
                  exact fr_tr f138 (ih h)
                ·
                  rcases en_if_h h with ⟨-, h⟩ | ⟨-, h⟩
                  ·
                    exact fr_tr f138 (ih h)
                  ·
                    obtain ⟨s88, e139, h⟩ := en_b1_h h
                    have f140 : en_fr [(4, g), (7, g), (6, g), (12, g), (0, g), (13, g), (11, g), (5, g), (9, g), (10, g), (8, g)] σ s88 := fr_tr f138 (fr_sub (f_cd_letGo e139) (by simp))
                    exact fr_tr f140 (ih h)
            ·
              obtain ⟨s90, e141, h⟩ := en_let_h h
              have f142 : en_fr [(4, g), (7, g), (6, g), (12, g), (0, g), (13, g), (11, g), (5, g), (9, g), (10, g), (8, g)] σ s90 := fr_tr f102 (fr_wr e141 (List.mem_of_getElem? (i := 6) rfl))
              obtain ⟨s92, e143, h⟩ := en_let_h h
              have f144 : en_fr [(4, g), (7, g), (6, g), (12, g), (0, g), (13, g), (11, g), (5, g), (9, g), (10, g), (8, g)] σ s92 := fr_tr f142 (fr_wr e143 (List.mem_of_getElem? (i := 4) rfl))
              rcases en_if_h h with ⟨-, h⟩ | ⟨-, h⟩
              ·
                exact fr_tr f144 (ih h)
              ·
                rcases en_if_h h with ⟨-, h⟩ | ⟨-, h⟩
                ·
                  exact fr_tr f144 (ih h)
                ·
                  obtain ⟨s96, e145, h⟩ := en_b1_h h
                  have f146 : en_fr [(4, g), (7, g), (6, g), (12, g), (0, g), (13, g), (11, g), (5, g), (9, g), (10, g), (8, g)] σ s96 := fr_tr f144 (fr_sub (f_cd_letGo e145) (by simp))
                  exact fr_tr f146 (ih h)
        ·
          rcases en_if_h h with ⟨-, h⟩ | ⟨-, h⟩
          ·
            obtain ⟨s5, e147, h⟩ := en_let_h h
            have f148 : en_fr [(4, g), (7, g), (6, g), (12, g), (0, g), (13, g), (11, g), (5, g), (9, g), (10, g), (8, g)] σ s5 := fr_tr (fr_rf [(4, g), (7, g), (6, g), (12, g), (0, g), (13, g), (11, g), (5, g), (9, g), (10, g), (8, g)] σ) (fr_wr e147 (List.mem_of_getElem? (i := 6) rfl))
            obtain ⟨t7, e149, h⟩ := en_b1_h h
            cases t7 with
            | none =>
              obtain ⟨s10, e151, h⟩ := en_let_h h
              have f152 : en_fr [(4, g), (7, g), (6, g), (12, g), (0, g), (13, g), (11, g), (5, g), (9, g), (10, g), (8, g)] σ s10 := fr_tr f148 (fr_wr e151 (List.mem_of_getElem? (i := 6) rfl))
              obtain ⟨s12, e153, h⟩ := en_let_h h
              have f154 : en_fr [(4, g), (7, g), (6, g), (12, g), (0, g), (13, g), (11, g), (5, g), (9, g), (10, g), (8, g)] σ s12 := fr_tr f152 (fr_wr e153 (List.mem_of_getElem? (i := 4) rfl))
              rcases en_if_h h with ⟨-, h⟩ | ⟨-, h⟩
              ·
                exact fr_tr f154 (ih h)
              ·
                rcases en_if_h h with ⟨-, h⟩ | ⟨-, h⟩
                ·
                  exact fr_tr f154 (ih h)
                ·
                  obtain ⟨s16, e155, h⟩ := en_b1_h h
                  have f156 : en_fr [(4, g), (7, g), (6, g), (12, g), (0, g), (13, g), (11, g), (5, g), (9, g), (10, g), (8, g)] σ s16 := fr_tr f154 (fr_sub (f_cd_letGo e155) (by simp))
                  exact fr_tr f156 (ih h)
            | some z9 =>
              obtain ⟨s18, e157, h⟩ := en_let_h h
              have f158 : en_fr [(4, g), (7, g), (6, g), (12, g), (0, g), (13, g), (11, g), (5, g), (9, g), (10, g), (8, g)] σ s18 := fr_tr f148 (fr_wr e157 (List.mem_of_getElem? (i := 6) rfl))
              obtain ⟨s20, e159, h⟩ := en_let_h h
              have f160 : en_fr [(4, g), (7, g), (6, g), (12, g), (0, g), (13, g), (11, g), (5, g), (9, g), (10, g), (8, g)] σ s20 := fr_tr f158 (fr_wr e159 (List.mem_of_getElem? (i := 4) rfl))
              rcases en_if_h h with ⟨-, h⟩ | ⟨-, h⟩
              ·
                exact fr_tr f160 (ih h)
              ·
                rcases en_if_h h with ⟨-, h⟩ | ⟨-, h⟩
                ·
                  exact fr_tr f160 (ih h)
                ·
                  obtain ⟨s24, e161, h⟩ := en_b1_h h
                  have f162 : en_fr [(4, g), (7, g), (6, g), (12, g), (0, g), (13, g), (11, g), (5, g), (9, g), (10, g), (8, g)] σ s24 := fr_tr f160 (fr_sub (f_cd_letGo e161) (by simp))
                  exact fr_tr f162 (ih h)
          ·
            obtain ⟨s26, e163, h⟩ := en_let_h h
            have f164 : en_fr [(4, g), (7, g), (6, g), (12, g), (0, g), (13, g), (11, g), (5, g), (9, g), (10, g), (8, g)] σ s26 := fr_tr (fr_rf [(4, g), (7, g), (6, g), (12, g), (0, g), (13, g), (11, g), (5, g), (9, g), (10, g), (8, g)] σ) (fr_wr e163 (List.mem_of_getElem? (i := 6) rfl))
            obtain ⟨s28, e165, h⟩ := en_let_h h
            have f166 : en_fr [(4, g), (7, g), (6, g), (12, g), (0, g), (13, g), (11, g), (5, g), (9, g), (10, g), (8, g)] σ s28 := fr_tr f164 (fr_wr e165 (List.mem_of_getElem? (i := 4) rfl))
            rcases en_if_h h with ⟨-, h⟩ | ⟨-, h⟩
            ·
              exact fr_tr f166 (ih h)
            ·
              rcases en_if_h h with ⟨-, h⟩ | ⟨-, h⟩
              ·
                exact fr_tr f166 (ih h)
              ·
                obtain ⟨s32, e167, h⟩ := en_b1_h h
                have f168 : en_fr [(4, g), (7, g), (6, g), (12, g), (0, g), (13, g), (11, g), (5, g), (9, g), (10, g), (8, g)] σ s32 := fr_tr f166 (fr_sub (f_cd_letGo e167) (by simp))
                exact fr_tr f168 (ih h)
theorem f_cd_runTicks {g : Nat} {v1 : Int32} {σ : en_M} {r : Int32 × en_M} (h : k_cd_runTicks g v1 σ = some r) : en_fr [(4, g), (7, g), (6, g), (12, g), (0, g), (13, g), (11, g), (5, g), (9, g), (10, g), (8, g)] σ r.2 := by
  rw [k_cd_runTicks] at h
  obtain ⟨x98, s100, e101, h⟩ := en_b2_h h
  have f102 : en_fr [(4, g), (7, g), (6, g), (12, g), (0, g), (13, g), (11, g), (5, g), (9, g), (10, g), (8, g)] σ s100 := fr_tr (fr_rf [(4, g), (7, g), (6, g), (12, g), (0, g), (13, g), (11, g), (5, g), (9, g), (10, g), (8, g)] σ) (f_cd_runTicks_4 e101)
  cases h
  exact f102
theorem f_cd_setPaused {g : Nat} {v1 : Int32} {v2 : Int32} {σ : en_M} {r : Int32 × en_M} (h : k_cd_setPaused g v1 v2 σ = some r) : en_fr [(12, g)] σ r.2 := by
  rw [k_cd_setPaused] at h
  obtain ⟨t1, e101, h⟩ := en_b1_h h
  cases t1 with
  | none =>
    obtain ⟨t4, e103, h⟩ := en_b1_h h
    cases h
    exact (fr_rf [(12, g)] σ)
  | some z3 =>
    obtain ⟨t8, e105, h⟩ := en_b1_h h
    obtain ⟨s6, e107, h⟩ := en_let_h h
    have f108 : en_fr [(12, g)] σ s6 := fr_tr (fr_rf [(12, g)] σ) (fr_wr e107 (List.mem_of_getElem? (i := 0) rfl))
    obtain ⟨t10, e109, h⟩ := en_b1_h h
    cases h
    exact f108
theorem f_cd_setRate {g : Nat} {v1 : Int32} {v2 : Int32} {σ : en_M} {r : Int32 × en_M} (h : k_cd_setRate g v1 v2 σ = some r) : en_fr [(12, g), (3, g)] σ r.2 := by
  rw [k_cd_setRate] at h
  obtain ⟨t1, e101, h⟩ := en_b1_h h
  cases t1 with
  | none =>
    cases h
    exact (fr_rf [(12, g), (3, g)] σ)
  | some z3 =>
    obtain ⟨s4, e103, h⟩ := en_let_h h
    have f104 : en_fr [(12, g), (3, g)] σ s4 := fr_tr (fr_rf [(12, g), (3, g)] σ) (fr_wr e103 (List.mem_of_getElem? (i := 0) rfl))
    obtain ⟨t6, s7, e105, h⟩ := en_b2_h h
    have f106 : en_fr [(12, g), (3, g)] σ s7 := fr_tr f104 (fr_sub (f_cd_putDeparts e105) (by simp))
    obtain ⟨s9, e107, h⟩ := en_let_h h
    have f108 : en_fr [(12, g), (3, g)] σ s9 := fr_tr f106 (fr_wr e107 (List.mem_of_getElem? (i := 0) rfl))
    cases h
    exact f108
theorem f_hi_forget {σ : en_M} {r : en_M} (h : k_hi_forget σ = some r) : en_fr [(15, 0)] σ r := by
  rw [k_hi_forget] at h
  obtain ⟨s1, e101, h⟩ := en_let_h h
  have f102 : en_fr [(15, 0)] σ s1 := fr_tr (fr_rf [(15, 0)] σ) (fr_wr e101 (List.mem_of_getElem? (i := 0) rfl))
  obtain ⟨s3, e103, h⟩ := en_let_h h
  have f104 : en_fr [(15, 0)] σ s3 := fr_tr f102 (fr_wr e103 (List.mem_of_getElem? (i := 0) rfl))
  cases h
  exact f104
theorem f_hi_remember {g1 : Nat} {σ : en_M} {r : en_M} (h : k_hi_remember g1 σ = some r) : en_fj [12, 13, 3, 4, 5, 7, 6, 9, 10, 8, 11, 0, 15] σ r := by
  rw [k_hi_remember] at h
  obtain ⟨q1, e101, h⟩ := en_b1_h h
  obtain ⟨s3, e103, h⟩ := en_b1_h h
  have f104 : en_fj [12, 13, 3, 4, 5, 7, 6, 9, 10, 8, 11, 0, 15] σ s3 := fj_tr (fj_rf [12, 13, 3, 4, 5, 7, 6, 9, 10, 8, 11, 0, 15] σ) (fj_sub (fj_fr (f_cd_copyFrom e103)) (by simp))
  rcases en_if_h h with ⟨-, h⟩ | ⟨-, h⟩
  ·
    obtain ⟨s6, e105, h⟩ := en_let_h h
    have f106 : en_fj [12, 13, 3, 4, 5, 7, 6, 9, 10, 8, 11, 0, 15] σ s6 := fj_tr f104 (fj_wr e105 (List.mem_of_getElem? (i := 12) rfl))
    cases h
    exact f106
  ·
    obtain ⟨s8, e107, h⟩ := en_let_h h
    have f108 : en_fj [12, 13, 3, 4, 5, 7, 6, 9, 10, 8, 11, 0, 15] σ s8 := fj_tr f104 (fj_wr e107 (List.mem_of_getElem? (i := 12) rfl))
    cases h
    exact f108
theorem f_hi_takeBack {g1 : Nat} {σ : en_M} {r : en_M} (h : k_hi_takeBack g1 σ = some r) : en_fr [(15, 0), (12, g1), (13, g1), (3, g1), (4, g1), (5, g1), (7, g1), (6, g1), (9, g1), (10, g1), (8, g1), (11, g1), (0, g1)] σ r := by
  rw [k_hi_takeBack] at h
  rcases en_if_h h with ⟨-, h⟩ | ⟨-, h⟩
  ·
    cases h
    exact (fr_rf [(15, 0), (12, g1), (13, g1), (3, g1), (4, g1), (5, g1), (7, g1), (6, g1), (9, g1), (10, g1), (8, g1), (11, g1), (0, g1)] σ)
  ·
    obtain ⟨s2, e101, h⟩ := en_let_h h
    have f102 : en_fr [(15, 0), (12, g1), (13, g1), (3, g1), (4, g1), (5, g1), (7, g1), (6, g1), (9, g1), (10, g1), (8, g1), (11, g1), (0, g1)] σ s2 := fr_tr (fr_rf [(15, 0), (12, g1), (13, g1), (3, g1), (4, g1), (5, g1), (7, g1), (6, g1), (9, g1), (10, g1), (8, g1), (11, g1), (0, g1)] σ) (fr_wr e101 (List.mem_of_getElem? (i := 0) rfl))
    obtain ⟨q4, e103, h⟩ := en_b1_h h
    obtain ⟨s6, e105, h⟩ := en_b1_h h
    have f106 : en_fr [(15, 0), (12, g1), (13, g1), (3, g1), (4, g1), (5, g1), (7, g1), (6, g1), (9, g1), (10, g1), (8, g1), (11, g1), (0, g1)] σ s6 := fr_tr f102 (fr_sub (f_cd_copyFrom e105) (by simp))
    cases h
    exact f106
theorem f_pp_begin_2 : ∀ {f0 : Nat} {g1 : Nat} {v2 : Int32} {σ : en_M} {r : en_M} (h : k_pp_begin_2 f0 g1 v2 σ = some r), en_fr [(18, 0)] σ r := by
  intro f0
  induction f0 with
  | zero => intro g1 v2 σ r h; cases h
  | succ f9 ih =>
    intro g1 v2 σ r h
    rw [k_pp_begin_2] at h
    rcases en_if_h h with ⟨-, h⟩ | ⟨-, h⟩
    ·
      cases h
      exact (fr_rf [(18, 0)] σ)
    ·
      obtain ⟨q2, e101, h⟩ := en_b1_h h
      obtain ⟨s4, e103, h⟩ := en_b1_h h
      have f104 : en_fr [(18, 0)] σ s4 := fr_tr (fr_rf [(18, 0)] σ) (fr_wa e103 (List.mem_of_getElem? (i := 0) rfl))
      exact fr_tr f104 (ih h)
theorem f_pp_begin {g1 : Nat} {σ : en_M} {r : en_M} (h : k_pp_begin g1 σ = some r) : en_fr [(18, 0), (17, 0)] σ r := by
  rw [k_pp_begin] at h
  obtain ⟨s7, e101, h⟩ := en_b1_h h
  have f102 : en_fr [(18, 0), (17, 0)] σ s7 := fr_tr (fr_rf [(18, 0), (17, 0)] σ) (fr_sub (f_pp_begin_2 e101) (by simp))
  rcases en_if_h h with ⟨-, h⟩ | ⟨-, h⟩
  ·
    obtain ⟨s12, e103, h⟩ := en_let_h h
    have f104 : en_fr [(18, 0), (17, 0)] σ s12 := fr_tr f102 (fr_wr e103 (List.mem_of_getElem? (i := 1) rfl))
    cases h
    exact f104
  ·
    obtain ⟨s10, e105, h⟩ := en_let_h h
    have f106 : en_fr [(18, 0), (17, 0)] σ s10 := fr_tr f102 (fr_wr e105 (List.mem_of_getElem? (i := 1) rfl))
    cases h
    exact f106
theorem f_pp_beginAsTimed {g1 : Nat} {σ : en_M} {r : en_M} (h : k_pp_beginAsTimed g1 σ = some r) : en_fr [(18, 0), (17, 0), (19, 0)] σ r := by
  rw [k_pp_beginAsTimed] at h
  obtain ⟨s1, e101, h⟩ := en_b1_h h
  have f102 : en_fr [(18, 0), (17, 0), (19, 0)] σ s1 := fr_tr (fr_rf [(18, 0), (17, 0), (19, 0)] σ) (fr_sub (f_pp_begin e101) (by simp))
  obtain ⟨s3, e103, h⟩ := en_let_h h
  have f104 : en_fr [(18, 0), (17, 0), (19, 0)] σ s3 := fr_tr f102 (fr_cp e103 (List.mem_of_getElem? (i := 2) rfl))
  cases h
  exact f104
theorem f_pp_step {g1 : Nat} {σ : en_M} {r : Int32 × en_M} (h : k_pp_step g1 σ = some r) : en_fr [(17, 0), (18, 0)] σ r.2 := by
  rw [k_pp_step] at h
  obtain ⟨x17, x18, e101, h⟩ := en_b2_h h
  cases x17 with
  | none =>
    cases h
    exact (fr_rf [(17, 0), (18, 0)] σ)
  | some z23 =>
    rcases en_if_h h with ⟨-, h⟩ | ⟨-, h⟩
    ·
      obtain ⟨s25, e103, h⟩ := en_let_h h
      have f104 : en_fr [(17, 0), (18, 0)] σ s25 := fr_tr (fr_rf [(17, 0), (18, 0)] σ) (fr_wr e103 (List.mem_of_getElem? (i := 0) rfl))
      obtain ⟨t27, e105, h⟩ := en_b1_h h
      obtain ⟨s29, e107, h⟩ := en_b1_h h
      have f108 : en_fr [(17, 0), (18, 0)] σ s29 := fr_tr f104 (fr_wa e107 (List.mem_of_getElem? (i := 1) rfl))
      obtain ⟨s31, e109, h⟩ := en_let_h h
      have f110 : en_fr [(17, 0), (18, 0)] σ s31 := fr_tr f108 (fr_wr e109 (List.mem_of_getElem? (i := 0) rfl))
      obtain ⟨s33, e111, h⟩ := en_let_h h
      have f112 : en_fr [(17, 0), (18, 0)] σ s33 := fr_tr f110 (fr_wr e111 (List.mem_of_getElem? (i := 0) rfl))
      obtain ⟨t35, e113, h⟩ := en_b1_h h
      obtain ⟨s37, e115, h⟩ := en_let_h h
      have f116 : en_fr [(17, 0), (18, 0)] σ s37 := fr_tr f112 (fr_wr e115 (List.mem_of_getElem? (i := 0) rfl))
      rcases en_if_h h with ⟨-, h⟩ | ⟨-, h⟩
      ·
        obtain ⟨s42, e117, h⟩ := en_let_h h
        have f118 : en_fr [(17, 0), (18, 0)] σ s42 := fr_tr f116 (fr_wr e117 (List.mem_of_getElem? (i := 0) rfl))
        cases h
        exact f118
      ·
        obtain ⟨s40, e119, h⟩ := en_let_h h
        have f120 : en_fr [(17, 0), (18, 0)] σ s40 := fr_tr f116 (fr_wr e119 (List.mem_of_getElem? (i := 0) rfl))
        cases h
        exact f120
    ·
      cases h
      exact (fr_rf [(17, 0), (18, 0)] σ)
theorem f_pp_busyTicks_22 : ∀ {f0 : Nat} {g1 : Nat} {v2 : Int32} {v3 : Int32} {v4 : Int32} {σ : en_M} {r : Int32 × en_M} (h : k_pp_busyTicks_22 f0 g1 v2 v3 v4 σ = some r), en_fr [(17, 0), (18, 0)] σ r.2 := by
  intro f0
  induction f0 with
  | zero => intro g1 v2 v3 v4 σ r h; cases h
  | succ f9 ih =>
    intro g1 v2 v3 v4 σ r h
    rw [k_pp_busyTicks_22] at h
    rcases en_if_h h with ⟨-, h⟩ | ⟨-, h⟩
    ·
      cases h
      exact (fr_rf [(17, 0), (18, 0)] σ)
    ·
      obtain ⟨t4, s5, e101, h⟩ := en_b2_h h
      have f102 : en_fr [(17, 0), (18, 0)] σ s5 := fr_tr (fr_rf [(17, 0), (18, 0)] σ) (f_pp_step e101)
      rcases en_if_h h with ⟨-, h⟩ | ⟨-, h⟩
      ·
        cases h
        exact f102
      ·
        rcases en_if_h h with ⟨-, h⟩ | ⟨-, h⟩
        ·
          cases h
          exact f102
        ·
          exact fr_tr f102 (ih h)
theorem f_pp_busyTicks {g1 : Nat} {v2 : Int32} {σ : en_M} {r : Int32 × en_M} (h : k_pp_busyTicks g1 v2 σ = some r) : en_fr [(18, 0), (17, 0), (19, 0)] σ r.2 := by
  rw [k_pp_busyTicks] at h
  obtain ⟨s1, e101, h⟩ := en_b1_h h
  have f102 : en_fr [(18, 0), (17, 0), (19, 0)] σ s1 := fr_tr (fr_rf [(18, 0), (17, 0), (19, 0)] σ) (f_pp_beginAsTimed e101)
  obtain ⟨x9, s11, e103, h⟩ := en_b2_h h
  have f104 : en_fr [(18, 0), (17, 0), (19, 0)] σ s11 := fr_tr f102 (fr_sub (f_pp_busyTicks_22 e103) (by simp))
  cases h
  exact f104
theorem f_pp_runToEnd_15 : ∀ {f0 : Nat} {g1 : Nat} {g2 : Nat} {i2 : Nat} {v3 : Int32} {v4 : Int32} {σ : en_M} {r : (Int32 × en_M) ⊕ (en_M)} (h : k_pp_runToEnd_15 f0 g1 g2 i2 v3 v4 σ = some r), match r with | .inl z => en_fr [(17, 0), (18, 0)] σ z.2 | .inr z => en_fr [(17, 0), (18, 0)] σ z := by
  intro f0
  induction f0 with
  | zero => intro g1 g2 i2 v3 v4 σ r h; cases h
  | succ f9 ih =>
    intro g1 g2 i2 v3 v4 σ r h
    rw [k_pp_runToEnd_15] at h
    rcases en_if_h h with ⟨-, h⟩ | ⟨-, h⟩
    ·
      cases h
      exact (fr_rf [(17, 0), (18, 0)] σ)
    ·
      rcases en_if_h h with ⟨-, h⟩ | ⟨-, h⟩
      ·
        cases h
        exact (fr_rf [(17, 0), (18, 0)] σ)
      ·
        obtain ⟨t4, s5, e101, h⟩ := en_b2_h h
        have f102 : en_fr [(17, 0), (18, 0)] σ s5 := fr_tr (fr_rf [(17, 0), (18, 0)] σ) (f_pp_step e101)
        rcases en_if_h h with ⟨-, h⟩ | ⟨-, h⟩
        ·
          cases h
          exact f102
        ·
          rcases en_if_h h with ⟨-, h⟩ | ⟨-, h⟩
          ·
            have f9 := ih h
            cases r with
            | inl z => exact fr_tr f102 f9
            | inr z => exact fr_tr f102 f9
          ·
            rcases en_if_h h with ⟨-, h⟩ | ⟨-, h⟩
            ·
              cases h
              exact f102
            ·
              have f9 := ih h
              cases r with
              | inl z => exact fr_tr f102 f9
              | inr z => exact fr_tr f102 f9
theorem f_pp_runToEnd {g1 : Nat} {g2 : Nat} {i2 : Nat} {v3 : Int32} {σ : en_M} {r : Int32 × en_M} (h : k_pp_runToEnd g1 g2 i2 v3 σ = some r) : en_fr [(17, 0), (18, 0)] σ r.2 := by
  rw [k_pp_runToEnd] at h
  rcases en_if_h h with ⟨-, h⟩ | ⟨-, h⟩
  ·
    cases h
    exact (fr_rf [(17, 0), (18, 0)] σ)
  ·
    rcases en_rx_h h with ⟨r13, e101, h⟩ | ⟨s11, e101, h⟩
    ·
      have f102 : en_fr [(17, 0), (18, 0)] σ r13.2 := fr_tr (fr_rf [(17, 0), (18, 0)] σ) (f_pp_runToEnd_15 e101)
      cases h
      exact f102
    ·
      have f103 : en_fr [(17, 0), (18, 0)] σ s11 := fr_tr (fr_rf [(17, 0), (18, 0)] σ) (f_pp_runToEnd_15 e101)
      cases h
      exact f103
theorem f_pp_endOf {g1 : Nat} {g2 : Nat} {i2 : Nat} {σ : en_M} {r : Int32 × en_M} (h : k_pp_endOf g1 g2 i2 σ = some r) : en_fr [(18, 0), (17, 0), (19, 0)] σ r.2 := by
  rw [k_pp_endOf] at h
  obtain ⟨s1, e101, h⟩ := en_b1_h h
  have f102 : en_fr [(18, 0), (17, 0), (19, 0)] σ s1 := fr_tr (fr_rf [(18, 0), (17, 0), (19, 0)] σ) (f_pp_beginAsTimed e101)
  obtain ⟨t3, s4, e103, h⟩ := en_b2_h h
  have f104 : en_fr [(18, 0), (17, 0), (19, 0)] σ s4 := fr_tr f102 (fr_sub (f_pp_runToEnd e103) (by simp))
  rcases en_if_h h with ⟨-, h⟩ | ⟨-, h⟩
  ·
    cases h
    exact f104
  ·
    cases h
    exact f104
theorem f_pp_firstIdle_12 : ∀ {f0 : Nat} {g1 : Nat} {v2 : Int32} {v3 : Int32} {σ : en_M} {r : Int32 × en_M} (h : k_pp_firstIdle_12 f0 g1 v2 v3 σ = some r), en_fr [(17, 0), (18, 0)] σ r.2 := by
  intro f0
  induction f0 with
  | zero => intro g1 v2 v3 σ r h; cases h
  | succ f9 ih =>
    intro g1 v2 v3 σ r h
    rw [k_pp_firstIdle_12] at h
    rcases en_if_h h with ⟨-, h⟩ | ⟨-, h⟩
    ·
      cases h
      exact (fr_rf [(17, 0), (18, 0)] σ)
    ·
      obtain ⟨t4, s5, e101, h⟩ := en_b2_h h
      have f102 : en_fr [(17, 0), (18, 0)] σ s5 := fr_tr (fr_rf [(17, 0), (18, 0)] σ) (f_pp_step e101)
      rcases en_if_h h with ⟨-, h⟩ | ⟨-, h⟩
      ·
        cases h
        exact f102
      ·
        rcases en_if_h h with ⟨-, h⟩ | ⟨-, h⟩
        ·
          exact fr_tr f102 (ih h)
        ·
          cases h
          exact f102
theorem f_pp_firstIdle {g1 : Nat} {σ : en_M} {r : Int32 × en_M} (h : k_pp_firstIdle g1 σ = some r) : en_fr [(18, 0), (17, 0), (19, 0)] σ r.2 := by
  rw [k_pp_firstIdle] at h
  obtain ⟨s1, e101, h⟩ := en_b1_h h
  have f102 : en_fr [(18, 0), (17, 0), (19, 0)] σ s1 := fr_tr (fr_rf [(18, 0), (17, 0), (19, 0)] σ) (f_pp_beginAsTimed e101)
  obtain ⟨x9, s11, e103, h⟩ := en_b2_h h
  have f104 : en_fr [(18, 0), (17, 0), (19, 0)] σ s11 := fr_tr f102 (fr_sub (f_pp_firstIdle_12 e103) (by simp))
  rcases en_if_h h with ⟨-, h⟩ | ⟨-, h⟩
  ·
    cases h
    exact f104
  ·
    cases h
    exact f104
theorem f_pp_isDoneBy {g1 : Nat} {g2 : Nat} {i2 : Nat} {v3 : Int32} {v4 : Int32} {σ : en_M} {r : Int32 × en_M} (h : k_pp_isDoneBy g1 g2 i2 v3 v4 σ = some r) : en_fr [(18, 0), (17, 0), (19, 0)] σ r.2 := by
  rw [k_pp_isDoneBy] at h
  obtain ⟨s1, e101, h⟩ := en_b1_h h
  have f102 : en_fr [(18, 0), (17, 0), (19, 0)] σ s1 := fr_tr (fr_rf [(18, 0), (17, 0), (19, 0)] σ) (fr_sub (f_pp_begin e101) (by simp))
  obtain ⟨t3, s4, e103, h⟩ := en_b2_h h
  have f104 : en_fr [(18, 0), (17, 0), (19, 0)] σ s4 := fr_tr f102 (fr_sub (f_cd_putDeparts e103) (by simp))
  obtain ⟨t6, s7, e105, h⟩ := en_b2_h h
  have f106 : en_fr [(18, 0), (17, 0), (19, 0)] σ s7 := fr_tr f104 (fr_sub (f_pp_runToEnd e105) (by simp))
  rcases en_if_h h with ⟨-, h⟩ | ⟨-, h⟩
  ·
    cases h
    exact f106
  ·
    cases h
    exact f106
theorem f_pp_lastEnd_50 : ∀ {f0 : Nat} {g1 : Nat} {v2 : Int32} {v3 : Int32} {v5 : Int32} {σ : en_M} {r : Int32 × Int32 × en_M} (h : k_pp_lastEnd_50 f0 g1 v2 v3 v5 σ = some r), en_fr [(17, 0), (18, 0)] σ r.2.2 := by
  intro f0
  induction f0 with
  | zero => intro g1 v2 v3 v5 σ r h; cases h
  | succ f9 ih =>
    intro g1 v2 v3 v5 σ r h
    rw [k_pp_lastEnd_50] at h
    rcases en_if_h h with ⟨-, h⟩ | ⟨-, h⟩
    ·
      cases h
      exact (fr_rf [(17, 0), (18, 0)] σ)
    ·
      rcases en_if_h h with ⟨-, h⟩ | ⟨-, h⟩
      ·
        cases h
        exact (fr_rf [(17, 0), (18, 0)] σ)
      ·
        obtain ⟨t10, s11, e101, h⟩ := en_b2_h h
        have f102 : en_fr [(17, 0), (18, 0)] σ s11 := fr_tr (fr_rf [(17, 0), (18, 0)] σ) (f_pp_step e101)
        rcases en_if_h h with ⟨-, h⟩ | ⟨-, h⟩
        ·
          cases h
          exact f102
        ·
          rcases en_if_h h with ⟨-, h⟩ | ⟨-, h⟩
          ·
            exact fr_tr f102 (ih h)
          ·
            exact fr_tr f102 (ih h)
theorem f_pp_lastEnd {g1 : Nat} {σ : en_M} {r : Int32 × en_M} (h : k_pp_lastEnd g1 σ = some r) : en_fr [(18, 0), (17, 0), (19, 0)] σ r.2 := by
  rw [k_pp_lastEnd] at h
  obtain ⟨s1, e101, h⟩ := en_b1_h h
  have f102 : en_fr [(18, 0), (17, 0), (19, 0)] σ s1 := fr_tr (fr_rf [(18, 0), (17, 0), (19, 0)] σ) (f_pp_beginAsTimed e101)
  obtain ⟨t3, e103, h⟩ := en_b1_h h
  obtain ⟨t5, e105, h⟩ := en_b1_h h
  cases t5 with
  | none =>
    obtain ⟨x15, x16, s18, e107, h⟩ := en_b3_h h
    have f108 : en_fr [(18, 0), (17, 0), (19, 0)] σ s18 := fr_tr f102 (fr_sub (f_pp_lastEnd_50 e107) (by simp))
    rcases en_if_h h with ⟨-, h⟩ | ⟨-, h⟩
    ·
      rcases en_if_h h with ⟨-, h⟩ | ⟨-, h⟩
      ·
        cases h
        exact f108
      ·
        cases h
        exact f108
    ·
      cases h
      exact f108
  | some z7 =>
    rcases en_if_h h with ⟨-, h⟩ | ⟨-, h⟩
    ·
      obtain ⟨x30, x31, s33, e109, h⟩ := en_b3_h h
      have f110 : en_fr [(18, 0), (17, 0), (19, 0)] σ s33 := fr_tr f102 (fr_sub (f_pp_lastEnd_50 e109) (by simp))
      rcases en_if_h h with ⟨-, h⟩ | ⟨-, h⟩
      ·
        rcases en_if_h h with ⟨-, h⟩ | ⟨-, h⟩
        ·
          cases h
          exact f110
        ·
          cases h
          exact f110
      ·
        cases h
        exact f110
    ·
      obtain ⟨x23, x24, s26, e111, h⟩ := en_b3_h h
      have f112 : en_fr [(18, 0), (17, 0), (19, 0)] σ s26 := fr_tr f102 (fr_sub (f_pp_lastEnd_50 e111) (by simp))
      rcases en_if_h h with ⟨-, h⟩ | ⟨-, h⟩
      ·
        rcases en_if_h h with ⟨-, h⟩ | ⟨-, h⟩
        ·
          cases h
          exact f112
        ·
          cases h
          exact f112
      ·
        cases h
        exact f112
theorem f_pp_leastRate_31 : ∀ {f0 : Nat} {g1 : Nat} {g2 : Nat} {i2 : Nat} {v3 : Int32} {v4 : Int32} {v5 : Int32} {v6 : Int32} {σ : en_M} {r : Int32 × en_M} (h : k_pp_leastRate_31 f0 g1 g2 i2 v3 v4 v5 v6 σ = some r), en_fr [(18, 0), (17, 0), (19, 0)] σ r.2 := by
  intro f0
  induction f0 with
  | zero => intro g1 g2 i2 v3 v4 v5 v6 σ r h; cases h
  | succ f9 ih =>
    intro g1 g2 i2 v3 v4 v5 v6 σ r h
    rw [k_pp_leastRate_31] at h
    rcases en_if_h h with ⟨-, h⟩ | ⟨-, h⟩
    ·
      cases h
      exact (fr_rf [(18, 0), (17, 0), (19, 0)] σ)
    ·
      rcases en_if_h h with ⟨-, h⟩ | ⟨-, h⟩
      ·
        cases h
        exact (fr_rf [(18, 0), (17, 0), (19, 0)] σ)
      ·
        obtain ⟨t9, s10, e101, h⟩ := en_b2_h h
        have f102 : en_fr [(18, 0), (17, 0), (19, 0)] σ s10 := fr_tr (fr_rf [(18, 0), (17, 0), (19, 0)] σ) (f_pp_isDoneBy e101)
        rcases en_if_h h with ⟨-, h⟩ | ⟨-, h⟩
        ·
          exact fr_tr f102 (ih h)
        ·
          exact fr_tr f102 (ih h)
theorem f_pp_leastRate {g1 : Nat} {g2 : Nat} {i2 : Nat} {v3 : Int32} {σ : en_M} {r : Int32 × en_M} (h : k_pp_leastRate g1 g2 i2 v3 σ = some r) : en_fr [(18, 0), (17, 0), (19, 0)] σ r.2 := by
  rw [k_pp_leastRate] at h
  obtain ⟨s1, e101, h⟩ := en_b1_h h
  have f102 : en_fr [(18, 0), (17, 0), (19, 0)] σ s1 := fr_tr (fr_rf [(18, 0), (17, 0), (19, 0)] σ) (f_pp_beginAsTimed e101)
  obtain ⟨t3, s4, e103, h⟩ := en_b2_h h
  have f104 : en_fr [(18, 0), (17, 0), (19, 0)] σ s4 := fr_tr f102 (f_pp_isDoneBy e103)
  rcases en_if_h h with ⟨-, h⟩ | ⟨-, h⟩
  ·
    cases h
    exact f104
  ·
    obtain ⟨x14, s17, e105, h⟩ := en_b2_h h
    have f106 : en_fr [(18, 0), (17, 0), (19, 0)] σ s17 := fr_tr f104 (f_pp_leastRate_31 e105)
    cases h
    exact f106
theorem f_pp_runTo_20 : ∀ {f0 : Nat} {g1 : Nat} {v2 : Int32} {v3 : Int32} {σ : en_M} {r : (Int32 × en_M) ⊕ (en_M)} (h : k_pp_runTo_20 f0 g1 v2 v3 σ = some r), match r with | .inl z => en_fr [(17, 0), (18, 0)] σ z.2 | .inr z => en_fr [(17, 0), (18, 0)] σ z := by
  intro f0
  induction f0 with
  | zero => intro g1 v2 v3 σ r h; cases h
  | succ f9 ih =>
    intro g1 v2 v3 σ r h
    rw [k_pp_runTo_20] at h
    rcases en_if_h h with ⟨-, h⟩ | ⟨-, h⟩
    ·
      cases h
      exact (fr_rf [(17, 0), (18, 0)] σ)
    ·
      obtain ⟨t6, s7, e101, h⟩ := en_b2_h h
      have f102 : en_fr [(17, 0), (18, 0)] σ s7 := fr_tr (fr_rf [(17, 0), (18, 0)] σ) (f_pp_step e101)
      rcases en_if_h h with ⟨-, h⟩ | ⟨-, h⟩
      ·
        cases h
        exact f102
      ·
        have f9 := ih h
        cases r with
        | inl z => exact fr_tr f102 f9
        | inr z => exact fr_tr f102 f9
theorem f_pp_runTo {g1 : Nat} {v2 : Int32} {σ : en_M} {r : Int32 × en_M} (h : k_pp_runTo g1 v2 σ = some r) : en_fr [(18, 0), (17, 0), (19, 0)] σ r.2 := by
  rw [k_pp_runTo] at h
  rcases en_if_h h with ⟨-, h⟩ | ⟨-, h⟩
  ·
    cases h
    exact (fr_rf [(18, 0), (17, 0), (19, 0)] σ)
  ·
    rcases en_if_h h with ⟨-, h⟩ | ⟨-, h⟩
    ·
      obtain ⟨s3, e101, h⟩ := en_b1_h h
      have f102 : en_fr [(18, 0), (17, 0), (19, 0)] σ s3 := fr_tr (fr_rf [(18, 0), (17, 0), (19, 0)] σ) (f_pp_beginAsTimed e101)
      rcases en_rx_h h with ⟨r13, e103, h⟩ | ⟨s11, e103, h⟩
      ·
        have f104 : en_fr [(18, 0), (17, 0), (19, 0)] σ r13.2 := fr_tr f102 (fr_sub (f_pp_runTo_20 e103) (by simp))
        cases h
        exact f104
      ·
        have f105 : en_fr [(18, 0), (17, 0), (19, 0)] σ s11 := fr_tr f102 (fr_sub (f_pp_runTo_20 e103) (by simp))
        obtain ⟨t15, s16, e106, h⟩ := en_b2_h h
        have f107 : en_fr [(18, 0), (17, 0), (19, 0)] σ s16 := fr_tr f105 (fr_sub (f_pp_step e106) (by simp))
        obtain ⟨t18, e108, h⟩ := en_b1_h h
        cases h
        exact f107
    ·
      cases h
      exact (fr_rf [(18, 0), (17, 0), (19, 0)] σ)
theorem f_tp_advance_8 : ∀ {f0 : Nat} {σ : en_M} {r : en_M} (h : k_tp_advance_8 f0 σ = some r), en_fr [(20, 0)] σ r := by
  intro f0
  induction f0 with
  | zero => intro σ r h; cases h
  | succ f9 ih =>
    intro σ r h
    rw [k_tp_advance_8] at h
    rcases en_if_h h with ⟨-, h⟩ | ⟨-, h⟩
    ·
      cases h
      exact (fr_rf [(20, 0)] σ)
    ·
      obtain ⟨t4, e101, h⟩ := en_b1_h h
      rcases en_if_h h with ⟨-, h⟩ | ⟨-, h⟩
      ·
        obtain ⟨s7, e103, h⟩ := en_let_h h
        have f104 : en_fr [(20, 0)] σ s7 := fr_tr (fr_rf [(20, 0)] σ) (fr_wr e103 (List.mem_of_getElem? (i := 0) rfl))
        exact fr_tr f104 (ih h)
      ·
        cases h
        exact (fr_rf [(20, 0)] σ)
theorem f_tp_advance_148 : ∀ {f0 : Nat} {σ : en_M} {r : en_M} (h : k_tp_advance_148 f0 σ = some r), en_fr [(20, 0)] σ r := by
  intro f0
  induction f0 with
  | zero => intro σ r h; cases h
  | succ f9 ih =>
    intro σ r h
    rw [k_tp_advance_148] at h
    rcases en_if_h h with ⟨-, h⟩ | ⟨-, h⟩
    ·
      cases h
      exact (fr_rf [(20, 0)] σ)
    ·
      obtain ⟨t27, e101, h⟩ := en_b1_h h
      rcases en_if_h h with ⟨-, h⟩ | ⟨-, h⟩
      ·
        cases h
        exact (fr_rf [(20, 0)] σ)
      ·
        obtain ⟨s30, e103, h⟩ := en_let_h h
        have f104 : en_fr [(20, 0)] σ s30 := fr_tr (fr_rf [(20, 0)] σ) (fr_wr e103 (List.mem_of_getElem? (i := 0) rfl))
        exact fr_tr f104 (ih h)
theorem f_tp_advance_91 : ∀ {f0 : Nat} {σ : en_M} {r : en_M} (h : k_tp_advance_91 f0 σ = some r), en_fr [(20, 0)] σ r := by
  intro f0
  induction f0 with
  | zero => intro σ r h; cases h
  | succ f9 ih =>
    intro σ r h
    rw [k_tp_advance_91] at h
    rcases en_if_h h with ⟨-, h⟩ | ⟨-, h⟩
    ·
      cases h
      exact (fr_rf [(20, 0)] σ)
    ·
      obtain ⟨t37, e101, h⟩ := en_b1_h h
      rcases en_if_h h with ⟨-, h⟩ | ⟨-, h⟩
      ·
        cases h
        exact (fr_rf [(20, 0)] σ)
      ·
        obtain ⟨s40, e103, h⟩ := en_let_h h
        have f104 : en_fr [(20, 0)] σ s40 := fr_tr (fr_rf [(20, 0)] σ) (fr_wr e103 (List.mem_of_getElem? (i := 0) rfl))
        exact fr_tr f104 (ih h)
theorem f_tp_advance {σ : en_M} {r : en_M} (h : k_tp_advance σ = some r) : en_fr [(20, 0)] σ r := by
  rw [k_tp_advance] at h
  obtain ⟨s1, e101, h⟩ := en_let_h h
  have f102 : en_fr [(20, 0)] σ s1 := fr_tr (fr_rf [(20, 0)] σ) (fr_wr e101 (List.mem_of_getElem? (i := 0) rfl))
  obtain ⟨s9, e103, h⟩ := en_b1_h h
  have f104 : en_fr [(20, 0)] σ s9 := fr_tr f102 (f_tp_advance_8 e103)
  obtain ⟨s11, e105, h⟩ := en_let_h h
  have f106 : en_fr [(20, 0)] σ s11 := fr_tr f104 (fr_wr e105 (List.mem_of_getElem? (i := 0) rfl))
  rcases en_if_h h with ⟨-, h⟩ | ⟨-, h⟩
  ·
    obtain ⟨t14, e107, h⟩ := en_b1_h h
    rcases en_if_h h with ⟨-, h⟩ | ⟨-, h⟩
    ·
      obtain ⟨t17, e109, h⟩ := en_b1_h h
      rcases en_if_h h with ⟨-, h⟩ | ⟨-, h⟩
      ·
        obtain ⟨s20, e111, h⟩ := en_let_h h
        have f112 : en_fr [(20, 0)] σ s20 := fr_tr f106 (fr_wr e111 (List.mem_of_getElem? (i := 0) rfl))
        obtain ⟨s22, e113, h⟩ := en_let_h h
        have f114 : en_fr [(20, 0)] σ s22 := fr_tr f112 (fr_wr e113 (List.mem_of_getElem? (i := 0) rfl))
        cases h
        exact f114
      ·
        obtain ⟨s24, e115, h⟩ := en_let_h h
        have f116 : en_fr [(20, 0)] σ s24 := fr_tr f106 (fr_wr e115 (List.mem_of_getElem? (i := 0) rfl))
        obtain ⟨s32, e117, h⟩ := en_b1_h h
        have f118 : en_fr [(20, 0)] σ s32 := fr_tr f116 (f_tp_advance_148 e117)
        cases h
        exact f118
    ·
      obtain ⟨s34, e119, h⟩ := en_let_h h
      have f120 : en_fr [(20, 0)] σ s34 := fr_tr f106 (fr_wr e119 (List.mem_of_getElem? (i := 0) rfl))
      obtain ⟨s42, e121, h⟩ := en_b1_h h
      have f122 : en_fr [(20, 0)] σ s42 := fr_tr f120 (f_tp_advance_91 e121)
      cases h
      exact f122
  ·
    obtain ⟨s44, e123, h⟩ := en_let_h h
    have f124 : en_fr [(20, 0)] σ s44 := fr_tr f106 (fr_wr e123 (List.mem_of_getElem? (i := 0) rfl))
    cases h
    exact f124
theorem f_tp_append_3 : ∀ {f0 : Nat} {v1 : Int32} {v2 : Int32} {σ : en_M} {r : en_M} (h : k_tp_append_3 f0 v1 v2 σ = some r), en_fr [(21, 0), (20, 0)] σ r := by
  intro f0
  induction f0 with
  | zero => intro v1 v2 σ r h; cases h
  | succ f9 ih =>
    intro v1 v2 σ r h
    rw [k_tp_append_3] at h
    rcases en_if_h h with ⟨-, h⟩ | ⟨-, h⟩
    ·
      cases h
      exact (fr_rf [(21, 0), (20, 0)] σ)
    ·
      rcases en_if_h h with ⟨-, h⟩ | ⟨-, h⟩
      ·
        exact fr_tr (fr_rf [(21, 0), (20, 0)] σ) (ih h)
      ·
        obtain ⟨s3, e101, h⟩ := en_b1_h h
        have f102 : en_fr [(21, 0), (20, 0)] σ s3 := fr_tr (fr_rf [(21, 0), (20, 0)] σ) (fr_wa e101 (List.mem_of_getElem? (i := 0) rfl))
        obtain ⟨s5, e103, h⟩ := en_let_h h
        have f104 : en_fr [(21, 0), (20, 0)] σ s5 := fr_tr f102 (fr_wr e103 (List.mem_of_getElem? (i := 1) rfl))
        exact fr_tr f104 (ih h)
theorem f_tp_append {v1 : Int32} {σ : en_M} {r : en_M} (h : k_tp_append v1 σ = some r) : en_fr [(21, 0), (20, 0)] σ r := by
  rw [k_tp_append] at h
  obtain ⟨s8, e101, h⟩ := en_b1_h h
  have f102 : en_fr [(21, 0), (20, 0)] σ s8 := fr_tr (fr_rf [(21, 0), (20, 0)] σ) (f_tp_append_3 e101)
  cases h
  exact f102
theorem f_tp_markAt {v1 : Int32} {σ : en_M} {r : en_M} (h : k_tp_markAt v1 σ = some r) : en_fr [(20, 0)] σ r := by
  rw [k_tp_markAt] at h
  rcases en_if_h h with ⟨-, h⟩ | ⟨-, h⟩
  ·
    obtain ⟨s2, e101, h⟩ := en_let_h h
    have f102 : en_fr [(20, 0)] σ s2 := fr_tr (fr_rf [(20, 0)] σ) (fr_wr e101 (List.mem_of_getElem? (i := 0) rfl))
    cases h
    exact f102
  ·
    cases h
    exact (fr_rf [(20, 0)] σ)
theorem f_tp_markHere {σ : en_M} {r : en_M} (h : k_tp_markHere σ = some r) : en_fr [(20, 0)] σ r := by
  rw [k_tp_markHere] at h
  obtain ⟨s1, e101, h⟩ := en_b1_h h
  have f102 : en_fr [(20, 0)] σ s1 := fr_tr (fr_rf [(20, 0)] σ) (f_tp_markAt e101)
  cases h
  exact f102
theorem f_tp_open {σ : en_M} {r : en_M} (h : k_tp_open σ = some r) : en_fr [(20, 0)] σ r := by
  rw [k_tp_open] at h
  obtain ⟨s1, e101, h⟩ := en_let_h h
  have f102 : en_fr [(20, 0)] σ s1 := fr_tr (fr_rf [(20, 0)] σ) (fr_wr e101 (List.mem_of_getElem? (i := 0) rfl))
  obtain ⟨s3, e103, h⟩ := en_let_h h
  have f104 : en_fr [(20, 0)] σ s3 := fr_tr f102 (fr_wr e103 (List.mem_of_getElem? (i := 0) rfl))
  obtain ⟨s5, e105, h⟩ := en_b1_h h
  have f106 : en_fr [(20, 0)] σ s5 := fr_tr f104 (f_tp_advance e105)
  cases h
  exact f106
theorem f_tp_takeAct {σ : en_M} {r : Int32 × en_M} (h : k_tp_takeAct σ = some r) : en_fr [(20, 0)] σ r.2 := by
  rw [k_tp_takeAct] at h
  obtain ⟨t1, e101, h⟩ := en_b1_h h
  rcases en_if_h h with ⟨-, h⟩ | ⟨-, h⟩
  ·
    obtain ⟨s6, e103, h⟩ := en_b1_h h
    have f104 : en_fr [(20, 0)] σ s6 := fr_tr (fr_rf [(20, 0)] σ) (f_tp_markHere e103)
    cases h
    exact f104
  ·
    obtain ⟨s4, e105, h⟩ := en_b1_h h
    have f106 : en_fr [(20, 0)] σ s4 := fr_tr (fr_rf [(20, 0)] σ) (f_tp_advance e105)
    cases h
    exact f106
theorem f_tp_takeNumber {v1 : Int32} {v2 : Int32} {σ : en_M} {r : Int32 × en_M} (h : k_tp_takeNumber v1 v2 σ = some r) : en_fr [(20, 0)] σ r.2 := by
  rw [k_tp_takeNumber] at h
  rcases en_if_h h with ⟨-, h⟩ | ⟨-, h⟩
  ·
    cases h
    exact (fr_rf [(20, 0)] σ)
  ·
    obtain ⟨t2, e101, h⟩ := en_b1_h h
    rcases en_if_h h with ⟨-, h⟩ | ⟨-, h⟩
    ·
      obtain ⟨s7, e103, h⟩ := en_b1_h h
      have f104 : en_fr [(20, 0)] σ s7 := fr_tr (fr_rf [(20, 0)] σ) (f_tp_markHere e103)
      cases h
      exact f104
    ·
      obtain ⟨s5, e105, h⟩ := en_b1_h h
      have f106 : en_fr [(20, 0)] σ s5 := fr_tr (fr_rf [(20, 0)] σ) (f_tp_advance e105)
      cases h
      exact f106
theorem f_tp_takeBehind {v1 : Nat} {v2 : Int32} {σ : en_M} {r : Int32 × en_M} (h : k_tp_takeBehind v1 v2 σ = some r) : en_fr [(20, 0)] σ r.2 := by
  rw [k_tp_takeBehind] at h
  rcases en_if_h h with ⟨-, h⟩ | ⟨-, h⟩
  ·
    cases h
    exact (fr_rf [(20, 0)] σ)
  ·
    obtain ⟨t2, e101, h⟩ := en_b1_h h
    rcases en_if_h h with ⟨-, h⟩ | ⟨-, h⟩
    ·
      cases h
      exact (fr_rf [(20, 0)] σ)
    ·
      obtain ⟨s5, e103, h⟩ := en_b1_h h
      have f104 : en_fr [(20, 0)] σ s5 := fr_tr (fr_rf [(20, 0)] σ) (f_tp_advance e103)
      obtain ⟨t7, s8, e105, h⟩ := en_b2_h h
      have f106 : en_fr [(20, 0)] σ s8 := fr_tr f104 (f_tp_takeNumber e105)
      cases h
      exact f106
theorem f_tp_takeSemicolon {σ : en_M} {r : en_M} (h : k_tp_takeSemicolon σ = some r) : en_fr [(20, 0)] σ r := by
  rw [k_tp_takeSemicolon] at h
  rcases en_if_h h with ⟨-, h⟩ | ⟨-, h⟩
  ·
    cases h
    exact (fr_rf [(20, 0)] σ)
  ·
    rcases en_if_h h with ⟨-, h⟩ | ⟨-, h⟩
    ·
      obtain ⟨t5, e101, h⟩ := en_b1_h h
      rcases en_if_h h with ⟨-, h⟩ | ⟨-, h⟩
      ·
        obtain ⟨s10, e103, h⟩ := en_b1_h h
        have f104 : en_fr [(20, 0)] σ s10 := fr_tr (fr_rf [(20, 0)] σ) (f_tp_advance e103)
        cases h
        exact f104
      ·
        obtain ⟨s8, e105, h⟩ := en_b1_h h
        have f106 : en_fr [(20, 0)] σ s8 := fr_tr (fr_rf [(20, 0)] σ) (f_tp_markHere e105)
        cases h
        exact f106
    ·
      obtain ⟨s3, e107, h⟩ := en_b1_h h
      have f108 : en_fr [(20, 0)] σ s3 := fr_tr (fr_rf [(20, 0)] σ) (f_tp_markHere e107)
      cases h
      exact f108
theorem f_cc_readNumbers {v1 : Int32} {σ : en_M} {r : en_M} (h : k_cc_readNumbers v1 σ = some r) : en_fr [(20, 0), (22, 0)] σ r := by
  rw [k_cc_readNumbers] at h
  rcases en_if_h h with ⟨-, h⟩ | ⟨-, h⟩
  ·
    obtain ⟨t2, s3, e101, h⟩ := en_b2_h h
    have f102 : en_fr [(20, 0), (22, 0)] σ s3 := fr_tr (fr_rf [(20, 0), (22, 0)] σ) (fr_sub (f_tp_takeNumber e101) (by simp))
    obtain ⟨s5, e103, h⟩ := en_let_h h
    have f104 : en_fr [(20, 0), (22, 0)] σ s5 := fr_tr f102 (fr_wr e103 (List.mem_of_getElem? (i := 1) rfl))
    obtain ⟨t7, s8, e105, h⟩ := en_b2_h h
    have f106 : en_fr [(20, 0), (22, 0)] σ s8 := fr_tr f104 (fr_sub (f_tp_takeNumber e105) (by simp))
    obtain ⟨s10, e107, h⟩ := en_let_h h
    have f108 : en_fr [(20, 0), (22, 0)] σ s10 := fr_tr f106 (fr_wr e107 (List.mem_of_getElem? (i := 1) rfl))
    obtain ⟨t12, s13, e109, h⟩ := en_b2_h h
    have f110 : en_fr [(20, 0), (22, 0)] σ s13 := fr_tr f108 (fr_sub (f_tp_takeNumber e109) (by simp))
    obtain ⟨s15, e111, h⟩ := en_let_h h
    have f112 : en_fr [(20, 0), (22, 0)] σ s15 := fr_tr f110 (fr_wr e111 (List.mem_of_getElem? (i := 1) rfl))
    cases h
    exact f112
  ·
    rcases en_if_h h with ⟨-, h⟩ | ⟨-, h⟩
    ·
      obtain ⟨t18, s19, e113, h⟩ := en_b2_h h
      have f114 : en_fr [(20, 0), (22, 0)] σ s19 := fr_tr (fr_rf [(20, 0), (22, 0)] σ) (fr_sub (f_tp_takeNumber e113) (by simp))
      obtain ⟨s21, e115, h⟩ := en_let_h h
      have f116 : en_fr [(20, 0), (22, 0)] σ s21 := fr_tr f114 (fr_wr e115 (List.mem_of_getElem? (i := 1) rfl))
      obtain ⟨t23, s24, e117, h⟩ := en_b2_h h
      have f118 : en_fr [(20, 0), (22, 0)] σ s24 := fr_tr f116 (fr_sub (f_tp_takeBehind e117) (by simp))
      obtain ⟨s26, e119, h⟩ := en_let_h h
      have f120 : en_fr [(20, 0), (22, 0)] σ s26 := fr_tr f118 (fr_wr e119 (List.mem_of_getElem? (i := 1) rfl))
      cases h
      exact f120
    ·
      rcases en_if_h h with ⟨-, h⟩ | ⟨-, h⟩
      ·
        obtain ⟨t29, s30, e121, h⟩ := en_b2_h h
        have f122 : en_fr [(20, 0), (22, 0)] σ s30 := fr_tr (fr_rf [(20, 0), (22, 0)] σ) (fr_sub (f_tp_takeNumber e121) (by simp))
        obtain ⟨s32, e123, h⟩ := en_let_h h
        have f124 : en_fr [(20, 0), (22, 0)] σ s32 := fr_tr f122 (fr_wr e123 (List.mem_of_getElem? (i := 1) rfl))
        obtain ⟨t34, s35, e125, h⟩ := en_b2_h h
        have f126 : en_fr [(20, 0), (22, 0)] σ s35 := fr_tr f124 (fr_sub (f_tp_takeNumber e125) (by simp))
        obtain ⟨s37, e127, h⟩ := en_let_h h
        have f128 : en_fr [(20, 0), (22, 0)] σ s37 := fr_tr f126 (fr_wr e127 (List.mem_of_getElem? (i := 1) rfl))
        obtain ⟨t39, s40, e129, h⟩ := en_b2_h h
        have f130 : en_fr [(20, 0), (22, 0)] σ s40 := fr_tr f128 (fr_sub (f_tp_takeNumber e129) (by simp))
        obtain ⟨s42, e131, h⟩ := en_let_h h
        have f132 : en_fr [(20, 0), (22, 0)] σ s42 := fr_tr f130 (fr_wr e131 (List.mem_of_getElem? (i := 1) rfl))
        obtain ⟨t44, s45, e133, h⟩ := en_b2_h h
        have f134 : en_fr [(20, 0), (22, 0)] σ s45 := fr_tr f132 (fr_sub (f_tp_takeBehind e133) (by simp))
        obtain ⟨s47, e135, h⟩ := en_let_h h
        have f136 : en_fr [(20, 0), (22, 0)] σ s47 := fr_tr f134 (fr_wr e135 (List.mem_of_getElem? (i := 1) rfl))
        cases h
        exact f136
      ·
        rcases en_if_h h with ⟨-, h⟩ | ⟨-, h⟩
        ·
          cases h
          exact (fr_rf [(20, 0), (22, 0)] σ)
        ·
          rcases en_if_h h with ⟨-, h⟩ | ⟨-, h⟩
          ·
            obtain ⟨t51, s52, e137, h⟩ := en_b2_h h
            have f138 : en_fr [(20, 0), (22, 0)] σ s52 := fr_tr (fr_rf [(20, 0), (22, 0)] σ) (fr_sub (f_tp_takeNumber e137) (by simp))
            obtain ⟨s54, e139, h⟩ := en_let_h h
            have f140 : en_fr [(20, 0), (22, 0)] σ s54 := fr_tr f138 (fr_wr e139 (List.mem_of_getElem? (i := 1) rfl))
            cases h
            exact f140
          ·
            rcases en_if_h h with ⟨-, h⟩ | ⟨-, h⟩
            ·
              obtain ⟨t57, s58, e141, h⟩ := en_b2_h h
              have f142 : en_fr [(20, 0), (22, 0)] σ s58 := fr_tr (fr_rf [(20, 0), (22, 0)] σ) (fr_sub (f_tp_takeNumber e141) (by simp))
              obtain ⟨s60, e143, h⟩ := en_let_h h
              have f144 : en_fr [(20, 0), (22, 0)] σ s60 := fr_tr f142 (fr_wr e143 (List.mem_of_getElem? (i := 1) rfl))
              cases h
              exact f144
            ·
              rcases en_if_h h with ⟨-, h⟩ | ⟨-, h⟩
              ·
                obtain ⟨t63, s64, e145, h⟩ := en_b2_h h
                have f146 : en_fr [(20, 0), (22, 0)] σ s64 := fr_tr (fr_rf [(20, 0), (22, 0)] σ) (fr_sub (f_tp_takeNumber e145) (by simp))
                obtain ⟨s66, e147, h⟩ := en_let_h h
                have f148 : en_fr [(20, 0), (22, 0)] σ s66 := fr_tr f146 (fr_wr e147 (List.mem_of_getElem? (i := 1) rfl))
                cases h
                exact f148
              ·
                rcases en_if_h h with ⟨-, h⟩ | ⟨-, h⟩
                ·
                  obtain ⟨t69, s70, e149, h⟩ := en_b2_h h
                  have f150 : en_fr [(20, 0), (22, 0)] σ s70 := fr_tr (fr_rf [(20, 0), (22, 0)] σ) (fr_sub (f_tp_takeNumber e149) (by simp))
                  obtain ⟨s72, e151, h⟩ := en_let_h h
                  have f152 : en_fr [(20, 0), (22, 0)] σ s72 := fr_tr f150 (fr_wr e151 (List.mem_of_getElem? (i := 1) rfl))
                  obtain ⟨t74, s75, e153, h⟩ := en_b2_h h
                  have f154 : en_fr [(20, 0), (22, 0)] σ s75 := fr_tr f152 (fr_sub (f_tp_takeNumber e153) (by simp))
                  obtain ⟨s77, e155, h⟩ := en_let_h h
                  have f156 : en_fr [(20, 0), (22, 0)] σ s77 := fr_tr f154 (fr_wr e155 (List.mem_of_getElem? (i := 1) rfl))
                  cases h
                  exact f156
                ·
                  rcases en_if_h h with ⟨-, h⟩ | ⟨-, h⟩
                  ·
                    obtain ⟨t80, s81, e157, h⟩ := en_b2_h h
                    have f158 : en_fr [(20, 0), (22, 0)] σ s81 := fr_tr (fr_rf [(20, 0), (22, 0)] σ) (fr_sub (f_tp_takeNumber e157) (by simp))
                    obtain ⟨s83, e159, h⟩ := en_let_h h
                    have f160 : en_fr [(20, 0), (22, 0)] σ s83 := fr_tr f158 (fr_wr e159 (List.mem_of_getElem? (i := 1) rfl))
                    cases h
                    exact f160
                  ·
                    cases h
                    exact (fr_rf [(20, 0), (22, 0)] σ)
theorem f_cc_perform {v1 : Int32} {σ : en_M} {r : en_M} (h : k_cc_perform v1 σ = some r) : en_fr [(0, 0), (6, 0), (8, 0), (11, 0), (12, 0), (13, 0), (4, 0), (5, 0), (3, 0), (7, 0), (9, 0), (10, 0)] σ r := by
  rw [k_cc_perform] at h
  rcases en_if_h h with ⟨-, h⟩ | ⟨-, h⟩
  ·
    obtain ⟨s2, e101, h⟩ := en_b1_h h
    have f102 : en_fr [(0, 0), (6, 0), (8, 0), (11, 0), (12, 0), (13, 0), (4, 0), (5, 0), (3, 0), (7, 0), (9, 0), (10, 0)] σ s2 := fr_tr (fr_rf [(0, 0), (6, 0), (8, 0), (11, 0), (12, 0), (13, 0), (4, 0), (5, 0), (3, 0), (7, 0), (9, 0), (10, 0)] σ) (fr_sub (f_cd_reset e101) (by simp))
    cases h
    exact f102
  ·
    rcases en_if_h h with ⟨-, h⟩ | ⟨-, h⟩
    ·
      obtain ⟨s5, e103, h⟩ := en_b1_h h
      have f104 : en_fr [(0, 0), (6, 0), (8, 0), (11, 0), (12, 0), (13, 0), (4, 0), (5, 0), (3, 0), (7, 0), (9, 0), (10, 0)] σ s5 := fr_tr (fr_rf [(0, 0), (6, 0), (8, 0), (11, 0), (12, 0), (13, 0), (4, 0), (5, 0), (3, 0), (7, 0), (9, 0), (10, 0)] σ) (fr_sub (f_cd_addFlow e103) (by simp))
      cases h
      exact f104
    ·
      rcases en_if_h h with ⟨-, h⟩ | ⟨-, h⟩
      ·
        obtain ⟨t8, s9, e105, h⟩ := en_b2_h h
        have f106 : en_fr [(0, 0), (6, 0), (8, 0), (11, 0), (12, 0), (13, 0), (4, 0), (5, 0), (3, 0), (7, 0), (9, 0), (10, 0)] σ s9 := fr_tr (fr_rf [(0, 0), (6, 0), (8, 0), (11, 0), (12, 0), (13, 0), (4, 0), (5, 0), (3, 0), (7, 0), (9, 0), (10, 0)] σ) (fr_sub (f_cd_post e105) (by simp))
        cases h
        exact f106
      ·
        rcases en_if_h h with ⟨-, h⟩ | ⟨-, h⟩
        ·
          obtain ⟨t12, s13, e107, h⟩ := en_b2_h h
          have f108 : en_fr [(0, 0), (6, 0), (8, 0), (11, 0), (12, 0), (13, 0), (4, 0), (5, 0), (3, 0), (7, 0), (9, 0), (10, 0)] σ s13 := fr_tr (fr_rf [(0, 0), (6, 0), (8, 0), (11, 0), (12, 0), (13, 0), (4, 0), (5, 0), (3, 0), (7, 0), (9, 0), (10, 0)] σ) (fr_sub (f_cd_ringBell e107) (by simp))
          cases h
          exact f108
        ·
          rcases en_if_h h with ⟨-, h⟩ | ⟨-, h⟩
          ·
            obtain ⟨t16, s17, e109, h⟩ := en_b2_h h
            have f110 : en_fr [(0, 0), (6, 0), (8, 0), (11, 0), (12, 0), (13, 0), (4, 0), (5, 0), (3, 0), (7, 0), (9, 0), (10, 0)] σ s17 := fr_tr (fr_rf [(0, 0), (6, 0), (8, 0), (11, 0), (12, 0), (13, 0), (4, 0), (5, 0), (3, 0), (7, 0), (9, 0), (10, 0)] σ) (fr_sub (f_cd_dropSend e109) (by simp))
            cases h
            exact f110
          ·
            rcases en_if_h h with ⟨-, h⟩ | ⟨-, h⟩
            ·
              obtain ⟨t20, s21, e111, h⟩ := en_b2_h h
              have f112 : en_fr [(0, 0), (6, 0), (8, 0), (11, 0), (12, 0), (13, 0), (4, 0), (5, 0), (3, 0), (7, 0), (9, 0), (10, 0)] σ s21 := fr_tr (fr_rf [(0, 0), (6, 0), (8, 0), (11, 0), (12, 0), (13, 0), (4, 0), (5, 0), (3, 0), (7, 0), (9, 0), (10, 0)] σ) (fr_sub (f_cd_setPaused e111) (by simp))
              cases h
              exact f112
            ·
              rcases en_if_h h with ⟨-, h⟩ | ⟨-, h⟩
              ·
                obtain ⟨t24, s25, e113, h⟩ := en_b2_h h
                have f114 : en_fr [(0, 0), (6, 0), (8, 0), (11, 0), (12, 0), (13, 0), (4, 0), (5, 0), (3, 0), (7, 0), (9, 0), (10, 0)] σ s25 := fr_tr (fr_rf [(0, 0), (6, 0), (8, 0), (11, 0), (12, 0), (13, 0), (4, 0), (5, 0), (3, 0), (7, 0), (9, 0), (10, 0)] σ) (fr_sub (f_cd_setPaused e113) (by simp))
                cases h
                exact f114
              ·
                rcases en_if_h h with ⟨-, h⟩ | ⟨-, h⟩
                ·
                  obtain ⟨t28, s29, e115, h⟩ := en_b2_h h
                  have f116 : en_fr [(0, 0), (6, 0), (8, 0), (11, 0), (12, 0), (13, 0), (4, 0), (5, 0), (3, 0), (7, 0), (9, 0), (10, 0)] σ s29 := fr_tr (fr_rf [(0, 0), (6, 0), (8, 0), (11, 0), (12, 0), (13, 0), (4, 0), (5, 0), (3, 0), (7, 0), (9, 0), (10, 0)] σ) (fr_sub (f_cd_setRate e115) (by simp))
                  cases h
                  exact f116
                ·
                  rcases en_if_h h with ⟨-, h⟩ | ⟨-, h⟩
                  ·
                    obtain ⟨t32, s33, e117, h⟩ := en_b2_h h
                    have f118 : en_fr [(0, 0), (6, 0), (8, 0), (11, 0), (12, 0), (13, 0), (4, 0), (5, 0), (3, 0), (7, 0), (9, 0), (10, 0)] σ s33 := fr_tr (fr_rf [(0, 0), (6, 0), (8, 0), (11, 0), (12, 0), (13, 0), (4, 0), (5, 0), (3, 0), (7, 0), (9, 0), (10, 0)] σ) (fr_sub (f_cd_runTicks e117) (by simp))
                    cases h
                    exact f118
                  ·
                    cases h
                    exact (fr_rf [(0, 0), (6, 0), (8, 0), (11, 0), (12, 0), (13, 0), (4, 0), (5, 0), (3, 0), (7, 0), (9, 0), (10, 0)] σ)
theorem f_cc_readAct {σ : en_M} {r : en_M} (h : k_cc_readAct σ = some r) : en_fr [(20, 0), (22, 0), (0, 0), (6, 0), (8, 0), (11, 0), (12, 0), (13, 0), (4, 0), (5, 0), (3, 0), (7, 0), (9, 0), (10, 0), (14, 0)] σ r := by
  rw [k_cc_readAct] at h
  obtain ⟨t1, s2, e101, h⟩ := en_b2_h h
  have f102 : en_fr [(20, 0), (22, 0), (0, 0), (6, 0), (8, 0), (11, 0), (12, 0), (13, 0), (4, 0), (5, 0), (3, 0), (7, 0), (9, 0), (10, 0), (14, 0)] σ s2 := fr_tr (fr_rf [(20, 0), (22, 0), (0, 0), (6, 0), (8, 0), (11, 0), (12, 0), (13, 0), (4, 0), (5, 0), (3, 0), (7, 0), (9, 0), (10, 0), (14, 0)] σ) (fr_sub (f_tp_takeAct e101) (by simp))
  obtain ⟨s4, e103, h⟩ := en_b1_h h
  have f104 : en_fr [(20, 0), (22, 0), (0, 0), (6, 0), (8, 0), (11, 0), (12, 0), (13, 0), (4, 0), (5, 0), (3, 0), (7, 0), (9, 0), (10, 0), (14, 0)] σ s4 := fr_tr f102 (fr_sub (f_cc_readNumbers e103) (by simp))
  rcases en_if_h h with ⟨-, h⟩ | ⟨-, h⟩
  ·
    cases h
    exact f104
  ·
    obtain ⟨t7, e105, h⟩ := en_b1_h h
    rcases en_if_h h with ⟨-, h⟩ | ⟨-, h⟩
    ·
      obtain ⟨s10, e107, h⟩ := en_b1_h h
      have f108 : en_fr [(20, 0), (22, 0), (0, 0), (6, 0), (8, 0), (11, 0), (12, 0), (13, 0), (4, 0), (5, 0), (3, 0), (7, 0), (9, 0), (10, 0), (14, 0)] σ s10 := fr_tr f104 (fr_sub (f_cc_perform e107) (by simp))
      cases h
      exact f108
    ·
      obtain ⟨s12, e109, h⟩ := en_let_h h
      have f110 : en_fr [(20, 0), (22, 0), (0, 0), (6, 0), (8, 0), (11, 0), (12, 0), (13, 0), (4, 0), (5, 0), (3, 0), (7, 0), (9, 0), (10, 0), (14, 0)] σ s12 := fr_tr f104 (fr_wr e109 (List.mem_of_getElem? (i := 14) rfl))
      obtain ⟨s14, e111, h⟩ := en_b1_h h
      have f112 : en_fr [(20, 0), (22, 0), (0, 0), (6, 0), (8, 0), (11, 0), (12, 0), (13, 0), (4, 0), (5, 0), (3, 0), (7, 0), (9, 0), (10, 0), (14, 0)] σ s14 := fr_tr f110 (fr_sub (f_tp_markAt e111) (by simp))
      cases h
      exact f112
theorem f_cc_readActs_21 : ∀ {f0 : Nat} {v1 : Int32} {σ : en_M} {r : (Int32 × en_M) ⊕ (en_M)} (h : k_cc_readActs_21 f0 v1 σ = some r), match r with | .inl z => en_fr [(20, 0), (22, 0), (0, 0), (6, 0), (8, 0), (11, 0), (12, 0), (13, 0), (4, 0), (5, 0), (3, 0), (7, 0), (9, 0), (10, 0), (14, 0)] σ z.2 | .inr z => en_fr [(20, 0), (22, 0), (0, 0), (6, 0), (8, 0), (11, 0), (12, 0), (13, 0), (4, 0), (5, 0), (3, 0), (7, 0), (9, 0), (10, 0), (14, 0)] σ z := by
  intro f0
  induction f0 with
  | zero => intro v1 σ r h; cases h
  | succ f9 ih =>
    intro v1 σ r h
    rw [k_cc_readActs_21] at h
    rcases en_if_h h with ⟨-, h⟩ | ⟨-, h⟩
    ·
      cases h
      exact (fr_rf [(20, 0), (22, 0), (0, 0), (6, 0), (8, 0), (11, 0), (12, 0), (13, 0), (4, 0), (5, 0), (3, 0), (7, 0), (9, 0), (10, 0), (14, 0)] σ)
    ·
      obtain ⟨s5, e101, h⟩ := en_b1_h h
      have f102 : en_fr [(20, 0), (22, 0), (0, 0), (6, 0), (8, 0), (11, 0), (12, 0), (13, 0), (4, 0), (5, 0), (3, 0), (7, 0), (9, 0), (10, 0), (14, 0)] σ s5 := fr_tr (fr_rf [(20, 0), (22, 0), (0, 0), (6, 0), (8, 0), (11, 0), (12, 0), (13, 0), (4, 0), (5, 0), (3, 0), (7, 0), (9, 0), (10, 0), (14, 0)] σ) (f_cc_readAct e101)
      rcases en_if_h h with ⟨-, h⟩ | ⟨-, h⟩
      ·
        obtain ⟨s8, e103, h⟩ := en_b1_h h
        have f104 : en_fr [(20, 0), (22, 0), (0, 0), (6, 0), (8, 0), (11, 0), (12, 0), (13, 0), (4, 0), (5, 0), (3, 0), (7, 0), (9, 0), (10, 0), (14, 0)] σ s8 := fr_tr f102 (fr_sub (f_tp_takeSemicolon e103) (by simp))
        rcases en_if_h h with ⟨-, h⟩ | ⟨-, h⟩
        ·
          cases h
          exact f104
        ·
          have f9 := ih h
          cases r with
          | inl z => exact fr_tr f104 f9
          | inr z => exact fr_tr f104 f9
      ·
        rcases en_if_h h with ⟨-, h⟩ | ⟨-, h⟩
        ·
          obtain ⟨s12, e105, h⟩ := en_b1_h h
          have f106 : en_fr [(20, 0), (22, 0), (0, 0), (6, 0), (8, 0), (11, 0), (12, 0), (13, 0), (4, 0), (5, 0), (3, 0), (7, 0), (9, 0), (10, 0), (14, 0)] σ s12 := fr_tr f102 (fr_sub (f_tp_takeSemicolon e105) (by simp))
          rcases en_if_h h with ⟨-, h⟩ | ⟨-, h⟩
          ·
            cases h
            exact f106
          ·
            have f9 := ih h
            cases r with
            | inl z => exact fr_tr f106 f9
            | inr z => exact fr_tr f106 f9
        ·
          cases h
          exact f102
theorem f_cc_readActs {σ : en_M} {r : Int32 × en_M} (h : k_cc_readActs σ = some r) : en_fr [(20, 0), (22, 0), (0, 0), (6, 0), (8, 0), (11, 0), (12, 0), (13, 0), (4, 0), (5, 0), (3, 0), (7, 0), (9, 0), (10, 0), (14, 0)] σ r.2 := by
  rw [k_cc_readActs] at h
  obtain ⟨s1, e101, h⟩ := en_b1_h h
  have f102 : en_fr [(20, 0), (22, 0), (0, 0), (6, 0), (8, 0), (11, 0), (12, 0), (13, 0), (4, 0), (5, 0), (3, 0), (7, 0), (9, 0), (10, 0), (14, 0)] σ s1 := fr_tr (fr_rf [(20, 0), (22, 0), (0, 0), (6, 0), (8, 0), (11, 0), (12, 0), (13, 0), (4, 0), (5, 0), (3, 0), (7, 0), (9, 0), (10, 0), (14, 0)] σ) (fr_sub (f_tp_open e101) (by simp))
  rcases en_if_h h with ⟨-, h⟩ | ⟨-, h⟩
  ·
    rcases en_rx_h h with ⟨r18, e103, h⟩ | ⟨s16, e103, h⟩
    ·
      have f104 : en_fr [(20, 0), (22, 0), (0, 0), (6, 0), (8, 0), (11, 0), (12, 0), (13, 0), (4, 0), (5, 0), (3, 0), (7, 0), (9, 0), (10, 0), (14, 0)] σ r18.2 := fr_tr f102 (f_cc_readActs_21 e103)
      cases h
      exact f104
    ·
      have f105 : en_fr [(20, 0), (22, 0), (0, 0), (6, 0), (8, 0), (11, 0), (12, 0), (13, 0), (4, 0), (5, 0), (3, 0), (7, 0), (9, 0), (10, 0), (14, 0)] σ s16 := fr_tr f102 (f_cc_readActs_21 e103)
      obtain ⟨s20, e106, h⟩ := en_b1_h h
      have f107 : en_fr [(20, 0), (22, 0), (0, 0), (6, 0), (8, 0), (11, 0), (12, 0), (13, 0), (4, 0), (5, 0), (3, 0), (7, 0), (9, 0), (10, 0), (14, 0)] σ s20 := fr_tr f105 (fr_sub (f_tp_markHere e106) (by simp))
      cases h
      exact f107
  ·
    cases h
    exact f102
theorem f_cc_acts {σ : en_M} {r : (Nat ⊕ Int32) × en_M} (h : k_cc_acts σ = some r) : en_fr [(12, 1), (13, 1), (3, 1), (4, 1), (5, 1), (7, 1), (6, 1), (9, 1), (10, 1), (8, 1), (11, 1), (0, 1), (20, 0), (22, 0), (0, 0), (6, 0), (8, 0), (11, 0), (12, 0), (13, 0), (4, 0), (5, 0), (3, 0), (7, 0), (9, 0), (10, 0), (14, 0), (15, 0)] σ r.2 := by
  rw [k_cc_acts] at h
  obtain ⟨s1, e101, h⟩ := en_b1_h h
  have f102 : en_fr [(12, 1), (13, 1), (3, 1), (4, 1), (5, 1), (7, 1), (6, 1), (9, 1), (10, 1), (8, 1), (11, 1), (0, 1), (20, 0), (22, 0), (0, 0), (6, 0), (8, 0), (11, 0), (12, 0), (13, 0), (4, 0), (5, 0), (3, 0), (7, 0), (9, 0), (10, 0), (14, 0), (15, 0)] σ s1 := fr_tr (fr_rf [(12, 1), (13, 1), (3, 1), (4, 1), (5, 1), (7, 1), (6, 1), (9, 1), (10, 1), (8, 1), (11, 1), (0, 1), (20, 0), (22, 0), (0, 0), (6, 0), (8, 0), (11, 0), (12, 0), (13, 0), (4, 0), (5, 0), (3, 0), (7, 0), (9, 0), (10, 0), (14, 0), (15, 0)] σ) (fr_sub (f_cd_copyFrom e101) (by simp))
  obtain ⟨t3, s4, e103, h⟩ := en_b2_h h
  have f104 : en_fr [(12, 1), (13, 1), (3, 1), (4, 1), (5, 1), (7, 1), (6, 1), (9, 1), (10, 1), (8, 1), (11, 1), (0, 1), (20, 0), (22, 0), (0, 0), (6, 0), (8, 0), (11, 0), (12, 0), (13, 0), (4, 0), (5, 0), (3, 0), (7, 0), (9, 0), (10, 0), (14, 0), (15, 0)] σ s4 := fr_tr f102 (fr_sub (f_cc_readActs e103) (by simp))
  obtain ⟨s6, e105, h⟩ := en_let_h h
  have f106 : en_fr [(12, 1), (13, 1), (3, 1), (4, 1), (5, 1), (7, 1), (6, 1), (9, 1), (10, 1), (8, 1), (11, 1), (0, 1), (20, 0), (22, 0), (0, 0), (6, 0), (8, 0), (11, 0), (12, 0), (13, 0), (4, 0), (5, 0), (3, 0), (7, 0), (9, 0), (10, 0), (14, 0), (15, 0)] σ s6 := fr_tr f104 (fr_wr e105 (List.mem_of_getElem? (i := 26) rfl))
  obtain ⟨s8, e107, h⟩ := en_let_h h
  have f108 : en_fr [(12, 1), (13, 1), (3, 1), (4, 1), (5, 1), (7, 1), (6, 1), (9, 1), (10, 1), (8, 1), (11, 1), (0, 1), (20, 0), (22, 0), (0, 0), (6, 0), (8, 0), (11, 0), (12, 0), (13, 0), (4, 0), (5, 0), (3, 0), (7, 0), (9, 0), (10, 0), (14, 0), (15, 0)] σ s8 := fr_tr f106 (fr_wr e107 (List.mem_of_getElem? (i := 12) rfl))
  rcases en_if_h h with ⟨-, h⟩ | ⟨-, h⟩
  ·
    obtain ⟨s16, e109, h⟩ := en_b1_h h
    have f110 : en_fr [(12, 1), (13, 1), (3, 1), (4, 1), (5, 1), (7, 1), (6, 1), (9, 1), (10, 1), (8, 1), (11, 1), (0, 1), (20, 0), (22, 0), (0, 0), (6, 0), (8, 0), (11, 0), (12, 0), (13, 0), (4, 0), (5, 0), (3, 0), (7, 0), (9, 0), (10, 0), (14, 0), (15, 0)] σ s16 := fr_tr f108 (fr_sub (f_cd_copyFrom e109) (by simp))
    cases h
    exact f110
  ·
    obtain ⟨s11, e111, h⟩ := en_b1_h h
    have f112 : en_fr [(12, 1), (13, 1), (3, 1), (4, 1), (5, 1), (7, 1), (6, 1), (9, 1), (10, 1), (8, 1), (11, 1), (0, 1), (20, 0), (22, 0), (0, 0), (6, 0), (8, 0), (11, 0), (12, 0), (13, 0), (4, 0), (5, 0), (3, 0), (7, 0), (9, 0), (10, 0), (14, 0), (15, 0)] σ s11 := fr_tr f108 (fr_sub (f_hi_forget e111) (by simp))
    rcases en_if_h h with ⟨-, h⟩ | ⟨-, h⟩
    ·
      cases h
      exact f112
    ·
      obtain ⟨s14, e113, h⟩ := en_let_h h
      have f114 : en_fr [(12, 1), (13, 1), (3, 1), (4, 1), (5, 1), (7, 1), (6, 1), (9, 1), (10, 1), (8, 1), (11, 1), (0, 1), (20, 0), (22, 0), (0, 0), (6, 0), (8, 0), (11, 0), (12, 0), (13, 0), (4, 0), (5, 0), (3, 0), (7, 0), (9, 0), (10, 0), (14, 0), (15, 0)] σ s14 := fr_tr f112 (fr_wr e113 (List.mem_of_getElem? (i := 26) rfl))
      cases h
      exact f114
theorem f_cc_back {σ : en_M} {r : Int32 × en_M} (h : k_cc_back σ = some r) : en_fr [(12, 0), (13, 0), (3, 0), (4, 0), (5, 0), (7, 0), (6, 0), (9, 0), (10, 0), (8, 0), (11, 0), (0, 0), (15, 0)] σ r.2 := by
  rw [k_cc_back] at h
  rcases en_if_h h with ⟨-, h⟩ | ⟨-, h⟩
  ·
    cases h
    exact (fr_rf [(12, 0), (13, 0), (3, 0), (4, 0), (5, 0), (7, 0), (6, 0), (9, 0), (10, 0), (8, 0), (11, 0), (0, 0), (15, 0)] σ)
  ·
    obtain ⟨s2, e101, h⟩ := en_b1_h h
    have f102 : en_fr [(12, 0), (13, 0), (3, 0), (4, 0), (5, 0), (7, 0), (6, 0), (9, 0), (10, 0), (8, 0), (11, 0), (0, 0), (15, 0)] σ s2 := fr_tr (fr_rf [(12, 0), (13, 0), (3, 0), (4, 0), (5, 0), (7, 0), (6, 0), (9, 0), (10, 0), (8, 0), (11, 0), (0, 0), (15, 0)] σ) (fr_sub (f_cd_copyFrom e101) (by simp))
    obtain ⟨s4, e103, h⟩ := en_b1_h h
    have f104 : en_fr [(12, 0), (13, 0), (3, 0), (4, 0), (5, 0), (7, 0), (6, 0), (9, 0), (10, 0), (8, 0), (11, 0), (0, 0), (15, 0)] σ s4 := fr_tr f102 (fr_sub (f_hi_forget e103) (by simp))
    cases h
    exact f104
theorem f_cc_startAct {v1 : Int32} {σ : en_M} {r : (Nat ⊕ Unit) × en_M} (h : k_cc_startAct v1 σ = some r) : en_fj [14, 12, 13, 3, 4, 5, 7, 6, 9, 10, 8, 11, 0, 15] σ r.2 := by
  rw [k_cc_startAct] at h
  obtain ⟨s1, e101, h⟩ := en_let_h h
  have f102 : en_fj [14, 12, 13, 3, 4, 5, 7, 6, 9, 10, 8, 11, 0, 15] σ s1 := fj_tr (fj_rf [14, 12, 13, 3, 4, 5, 7, 6, 9, 10, 8, 11, 0, 15] σ) (fj_wr e101 (List.mem_of_getElem? (i := 0) rfl))
  rcases en_if_h h with ⟨-, h⟩ | ⟨-, h⟩
  ·
    obtain ⟨s4, e103, h⟩ := en_b1_h h
    have f104 : en_fj [14, 12, 13, 3, 4, 5, 7, 6, 9, 10, 8, 11, 0, 15] σ s4 := fj_tr f102 (fj_sub (f_hi_remember e103) (by simp))
    cases h
    exact f104
  ·
    cases h
    exact f102
theorem f_cc_bell {σ : en_M} {r : (Nat ⊕ Int32) × en_M} (h : k_cc_bell σ = some r) : en_fj [14, 12, 13, 3, 4, 5, 7, 6, 9, 10, 8, 11, 0, 15] σ r.2 := by
  rw [k_cc_bell] at h
  obtain ⟨t1, s2, e101, h⟩ := en_b2_h h
  have f102 : en_fj [14, 12, 13, 3, 4, 5, 7, 6, 9, 10, 8, 11, 0, 15] σ s2 := fj_tr (fj_rf [14, 12, 13, 3, 4, 5, 7, 6, 9, 10, 8, 11, 0, 15] σ) (fj_sub (f_cc_startAct e101) (by simp))
  cases t1 with
  | inl n4 =>
    cases h
    exact f102
  | inr x5 =>
    obtain ⟨t6, s7, e103, h⟩ := en_b2_h h
    have f104 : en_fj [14, 12, 13, 3, 4, 5, 7, 6, 9, 10, 8, 11, 0, 15] σ s7 := fj_tr f102 (fj_sub (fj_fr (f_cd_ringBell e103)) (by simp))
    cases h
    exact f104
theorem f_cc_blind {v1 : Int32} {v2 : Int32} {σ : en_M} {r : (Nat ⊕ Int32) × en_M} (h : k_cc_blind v1 v2 σ = some r) : en_fr [(23, 0)] σ r.2 := by
  rw [k_cc_blind] at h
  obtain ⟨t1, e101, h⟩ := en_b1_h h
  cases t1 with
  | none =>
    cases h
    exact (fr_rf [(23, 0)] σ)
  | some z3 =>
    rcases en_if_h h with ⟨-, h⟩ | ⟨-, h⟩
    ·
      cases h
      exact (fr_rf [(23, 0)] σ)
    ·
      obtain ⟨t5, s6, e103, h⟩ := en_b2_h h
      have f104 : en_fr [(23, 0)] σ s6 := fr_tr (fr_rf [(23, 0)] σ) (f_sd_putWholeWords e103)
      obtain ⟨t8, e105, h⟩ := en_b1_h h
      cases h
      exact f104
theorem f_cc_drop {v1 : Int32} {σ : en_M} {r : (Nat ⊕ Int32) × en_M} (h : k_cc_drop v1 σ = some r) : en_fj [14, 12, 13, 3, 4, 5, 7, 6, 9, 10, 8, 11, 0, 15] σ r.2 := by
  rw [k_cc_drop] at h
  obtain ⟨t1, e101, h⟩ := en_b1_h h
  obtain ⟨t3, s4, e103, h⟩ := en_b2_h h
  have f104 : en_fj [14, 12, 13, 3, 4, 5, 7, 6, 9, 10, 8, 11, 0, 15] σ s4 := fj_tr (fj_rf [14, 12, 13, 3, 4, 5, 7, 6, 9, 10, 8, 11, 0, 15] σ) (fj_sub (f_cc_startAct e103) (by simp))
  cases t3 with
  | inl n6 =>
    cases h
    exact f104
  | inr x7 =>
    obtain ⟨t8, s9, e105, h⟩ := en_b2_h h
    have f106 : en_fj [14, 12, 13, 3, 4, 5, 7, 6, 9, 10, 8, 11, 0, 15] σ s9 := fj_tr f104 (fj_sub (fj_fr (f_cd_dropSend e105)) (by simp))
    cases h
    exact f106
theorem f_cc_end {v1 : Int32} {σ : en_M} {r : Int32 × en_M} (h : k_cc_end v1 σ = some r) : en_fr [(20, 0)] σ r.2 := by
  rw [k_cc_end] at h
  rcases en_if_h h with ⟨-, h⟩ | ⟨-, h⟩
  ·
    cases h
    exact (fr_rf [(20, 0)] σ)
  ·
    rcases en_if_h h with ⟨-, h⟩ | ⟨-, h⟩
    ·
      obtain ⟨s3, e101, h⟩ := en_let_h h
      have f102 : en_fr [(20, 0)] σ s3 := fr_tr (fr_rf [(20, 0)] σ) (fr_wr e101 (List.mem_of_getElem? (i := 0) rfl))
      cases h
      exact f102
    ·
      cases h
      exact (fr_rf [(20, 0)] σ)
theorem f_cc_ends {v1 : Int32} {σ : en_M} {r : (Nat ⊕ Int32) × en_M} (h : k_cc_ends v1 σ = some r) : en_fr [(18, 0), (17, 0), (19, 0)] σ r.2 := by
  rw [k_cc_ends] at h
  obtain ⟨t1, e101, h⟩ := en_b1_h h
  cases t1 with
  | none =>
    cases h
    exact (fr_rf [(18, 0), (17, 0), (19, 0)] σ)
  | some z3 =>
    rcases en_if_h h with ⟨-, h⟩ | ⟨-, h⟩
    ·
      obtain ⟨t5, s6, e103, h⟩ := en_b2_h h
      have f104 : en_fr [(18, 0), (17, 0), (19, 0)] σ s6 := fr_tr (fr_rf [(18, 0), (17, 0), (19, 0)] σ) (f_pp_endOf e103)
      cases h
      exact f104
    ·
      cases h
      exact (fr_rf [(18, 0), (17, 0), (19, 0)] σ)
theorem f_cc_feed {v1 : Int32} {v2 : Int32} {v3 : Int32} {v4 : Int32} {v5 : Int32} {σ : en_M} {r : Int32 × en_M} (h : k_cc_feed v1 v2 v3 v4 v5 σ = some r) : en_fr [(21, 0), (20, 0)] σ r.2 := by
  rw [k_cc_feed] at h
  rcases en_if_h h with ⟨-, h⟩ | ⟨-, h⟩
  ·
    cases h
    exact (fr_rf [(21, 0), (20, 0)] σ)
  ·
    obtain ⟨s2, e101, h⟩ := en_b1_h h
    have f102 : en_fr [(21, 0), (20, 0)] σ s2 := fr_tr (fr_rf [(21, 0), (20, 0)] σ) (f_tp_append e101)
    obtain ⟨s4, e103, h⟩ := en_b1_h h
    have f104 : en_fr [(21, 0), (20, 0)] σ s4 := fr_tr f102 (f_tp_append e103)
    obtain ⟨s6, e105, h⟩ := en_b1_h h
    have f106 : en_fr [(21, 0), (20, 0)] σ s6 := fr_tr f104 (f_tp_append e105)
    obtain ⟨s8, e107, h⟩ := en_b1_h h
    have f108 : en_fr [(21, 0), (20, 0)] σ s8 := fr_tr f106 (f_tp_append e107)
    obtain ⟨s10, e109, h⟩ := en_b1_h h
    have f110 : en_fr [(21, 0), (20, 0)] σ s10 := fr_tr f108 (f_tp_append e109)
    cases h
    exact f110
theorem f_cc_leaver {v1 : Int32} {v2 : Int32} {σ : en_M} {r : Int32 × en_M} (h : k_cc_leaver v1 v2 σ = some r) : en_fr [(18, 0), (17, 0), (19, 0)] σ r.2 := by
  rw [k_cc_leaver] at h
  obtain ⟨t1, s2, e101, h⟩ := en_b2_h h
  have f102 : en_fr [(18, 0), (17, 0), (19, 0)] σ s2 := fr_tr (fr_rf [(18, 0), (17, 0), (19, 0)] σ) (f_pp_runTo e101)
  rcases en_if_h h with ⟨-, h⟩ | ⟨-, h⟩
  ·
    cases h
    exact f102
  ·
    rcases en_if_h h with ⟨-, h⟩ | ⟨-, h⟩
    ·
      cases h
      exact f102
    ·
      cases h
      exact f102
theorem f_cc_first {v1 : Int32} {σ : en_M} {r : Int32 × en_M} (h : k_cc_first v1 σ = some r) : en_fr [(18, 0), (17, 0), (19, 0)] σ r.2 := by
  rw [k_cc_first] at h
  obtain ⟨t1, s2, e101, h⟩ := en_b2_h h
  have f102 : en_fr [(18, 0), (17, 0), (19, 0)] σ s2 := fr_tr (fr_rf [(18, 0), (17, 0), (19, 0)] σ) (f_cc_leaver e101)
  cases h
  exact f102
theorem f_cc_image {σ : en_M} {r : en_M} (h : k_cc_image σ = some r) : en_fr [(12, 2), (13, 2), (3, 2), (4, 2), (5, 2), (7, 2), (6, 2), (9, 2), (10, 2), (8, 2), (11, 2), (0, 2), (14, 0)] σ r := by
  rw [k_cc_image] at h
  obtain ⟨s1, e101, h⟩ := en_b1_h h
  have f102 : en_fr [(12, 2), (13, 2), (3, 2), (4, 2), (5, 2), (7, 2), (6, 2), (9, 2), (10, 2), (8, 2), (11, 2), (0, 2), (14, 0)] σ s1 := fr_tr (fr_rf [(12, 2), (13, 2), (3, 2), (4, 2), (5, 2), (7, 2), (6, 2), (9, 2), (10, 2), (8, 2), (11, 2), (0, 2), (14, 0)] σ) (fr_sub (f_cd_copyFrom e101) (by simp))
  obtain ⟨s3, e103, h⟩ := en_let_h h
  have f104 : en_fr [(12, 2), (13, 2), (3, 2), (4, 2), (5, 2), (7, 2), (6, 2), (9, 2), (10, 2), (8, 2), (11, 2), (0, 2), (14, 0)] σ s3 := fr_tr f102 (fr_wr e103 (List.mem_of_getElem? (i := 12) rfl))
  cases h
  exact f104
theorem f_cc_last {σ : en_M} {r : Int32 × en_M} (h : k_cc_last σ = some r) : en_fr [(18, 0), (17, 0), (19, 0)] σ r.2 := by
  rw [k_cc_last] at h
  obtain ⟨t1, s2, e101, h⟩ := en_b2_h h
  have f102 : en_fr [(18, 0), (17, 0), (19, 0)] σ s2 := fr_tr (fr_rf [(18, 0), (17, 0), (19, 0)] σ) (f_pp_lastEnd e101)
  cases h
  exact f102
theorem f_cc_least {v1 : Int32} {v2 : Int32} {σ : en_M} {r : (Nat ⊕ Int32) × en_M} (h : k_cc_least v1 v2 σ = some r) : en_fr [(18, 0), (17, 0), (19, 0)] σ r.2 := by
  rw [k_cc_least] at h
  obtain ⟨t1, e101, h⟩ := en_b1_h h
  cases t1 with
  | none =>
    cases h
    exact (fr_rf [(18, 0), (17, 0), (19, 0)] σ)
  | some z3 =>
    rcases en_if_h h with ⟨-, h⟩ | ⟨-, h⟩
    ·
      cases h
      exact (fr_rf [(18, 0), (17, 0), (19, 0)] σ)
    ·
      rcases en_if_h h with ⟨-, h⟩ | ⟨-, h⟩
      ·
        obtain ⟨t6, s7, e103, h⟩ := en_b2_h h
        have f104 : en_fr [(18, 0), (17, 0), (19, 0)] σ s7 := fr_tr (fr_rf [(18, 0), (17, 0), (19, 0)] σ) (f_pp_leastRate e103)
        cases h
        exact f104
      ·
        cases h
        exact (fr_rf [(18, 0), (17, 0), (19, 0)] σ)
theorem f_cc_pause {v1 : Int32} {v2 : Int32} {σ : en_M} {r : (Nat ⊕ Int32) × en_M} (h : k_cc_pause v1 v2 σ = some r) : en_fj [14, 12, 13, 3, 4, 5, 7, 6, 9, 10, 8, 11, 0, 15] σ r.2 := by
  rw [k_cc_pause] at h
  rcases en_if_h h with ⟨-, h⟩ | ⟨-, h⟩
  ·
    obtain ⟨t16, e101, h⟩ := en_b1_h h
    obtain ⟨t18, s19, e103, h⟩ := en_b2_h h
    have f104 : en_fj [14, 12, 13, 3, 4, 5, 7, 6, 9, 10, 8, 11, 0, 15] σ s19 := fj_tr (fj_rf [14, 12, 13, 3, 4, 5, 7, 6, 9, 10, 8, 11, 0, 15] σ) (fj_sub (f_cc_startAct e103) (by simp))
    cases t18 with
    | inl n21 =>
      cases h
      exact f104
    | inr x22 =>
      rcases en_if_h h with ⟨-, h⟩ | ⟨-, h⟩
      ·
        obtain ⟨t27, s28, e105, h⟩ := en_b2_h h
        have f106 : en_fj [14, 12, 13, 3, 4, 5, 7, 6, 9, 10, 8, 11, 0, 15] σ s28 := fj_tr f104 (fj_sub (fj_fr (f_cd_setPaused e105)) (by simp))
        cases h
        exact f106
      ·
        obtain ⟨t24, s25, e107, h⟩ := en_b2_h h
        have f108 : en_fj [14, 12, 13, 3, 4, 5, 7, 6, 9, 10, 8, 11, 0, 15] σ s25 := fj_tr f104 (fj_sub (fj_fr (f_cd_setPaused e107)) (by simp))
        cases h
        exact f108
  ·
    obtain ⟨t2, e109, h⟩ := en_b1_h h
    obtain ⟨t4, s5, e111, h⟩ := en_b2_h h
    have f112 : en_fj [14, 12, 13, 3, 4, 5, 7, 6, 9, 10, 8, 11, 0, 15] σ s5 := fj_tr (fj_rf [14, 12, 13, 3, 4, 5, 7, 6, 9, 10, 8, 11, 0, 15] σ) (fj_sub (f_cc_startAct e111) (by simp))
    cases t4 with
    | inl n7 =>
      cases h
      exact f112
    | inr x8 =>
      rcases en_if_h h with ⟨-, h⟩ | ⟨-, h⟩
      ·
        obtain ⟨t13, s14, e113, h⟩ := en_b2_h h
        have f114 : en_fj [14, 12, 13, 3, 4, 5, 7, 6, 9, 10, 8, 11, 0, 15] σ s14 := fj_tr f112 (fj_sub (fj_fr (f_cd_setPaused e113)) (by simp))
        cases h
        exact f114
      ·
        obtain ⟨t10, s11, e115, h⟩ := en_b2_h h
        have f116 : en_fj [14, 12, 13, 3, 4, 5, 7, 6, 9, 10, 8, 11, 0, 15] σ s11 := fj_tr f112 (fj_sub (fj_fr (f_cd_setPaused e115)) (by simp))
        cases h
        exact f116
theorem f_cc_queue {v1 : Int32} {v2 : Int32} {σ : en_M} {r : Int32 × en_M} (h : k_cc_queue v1 v2 σ = some r) : en_fr [(18, 0), (17, 0), (19, 0)] σ r.2 := by
  rw [k_cc_queue] at h
  obtain ⟨t1, s2, e101, h⟩ := en_b2_h h
  have f102 : en_fr [(18, 0), (17, 0), (19, 0)] σ s2 := fr_tr (fr_rf [(18, 0), (17, 0), (19, 0)] σ) (f_cc_leaver e101)
  cases h
  exact f102
theorem f_cc_quiet {σ : en_M} {r : Int32 × en_M} (h : k_cc_quiet σ = some r) : en_fr [(18, 0), (17, 0), (19, 0)] σ r.2 := by
  rw [k_cc_quiet] at h
  obtain ⟨t1, s2, e101, h⟩ := en_b2_h h
  have f102 : en_fr [(18, 0), (17, 0), (19, 0)] σ s2 := fr_tr (fr_rf [(18, 0), (17, 0), (19, 0)] σ) (f_pp_firstIdle e101)
  cases h
  exact f102
theorem f_cc_rate {v1 : Int32} {v2 : Int32} {σ : en_M} {r : (Nat ⊕ Int32) × en_M} (h : k_cc_rate v1 v2 σ = some r) : en_fj [14, 12, 13, 3, 4, 5, 7, 6, 9, 10, 8, 11, 0, 15] σ r.2 := by
  rw [k_cc_rate] at h
  rcases en_if_h h with ⟨-, h⟩ | ⟨-, h⟩
  ·
    cases h
    exact (fj_rf [14, 12, 13, 3, 4, 5, 7, 6, 9, 10, 8, 11, 0, 15] σ)
  ·
    obtain ⟨t2, e101, h⟩ := en_b1_h h
    obtain ⟨t4, s5, e103, h⟩ := en_b2_h h
    have f104 : en_fj [14, 12, 13, 3, 4, 5, 7, 6, 9, 10, 8, 11, 0, 15] σ s5 := fj_tr (fj_rf [14, 12, 13, 3, 4, 5, 7, 6, 9, 10, 8, 11, 0, 15] σ) (fj_sub (f_cc_startAct e103) (by simp))
    cases t4 with
    | inl n7 =>
      cases h
      exact f104
    | inr x8 =>
      obtain ⟨t9, s10, e105, h⟩ := en_b2_h h
      have f106 : en_fj [14, 12, 13, 3, 4, 5, 7, 6, 9, 10, 8, 11, 0, 15] σ s10 := fj_tr f104 (fj_sub (fj_fr (f_cd_setRate e105)) (by simp))
      cases h
      exact f106
theorem f_cc_send {v1 : Int32} {v2 : Int32} {v3 : Int32} {v4 : Int32} {σ : en_M} {r : (Nat ⊕ Int32) × en_M} (h : k_cc_send v1 v2 v3 v4 σ = some r) : en_fj [14, 12, 13, 3, 4, 5, 7, 6, 9, 10, 8, 11, 0, 15] σ r.2 := by
  rw [k_cc_send] at h
  rcases en_if_h h with ⟨-, h⟩ | ⟨-, h⟩
  ·
    cases h
    exact (fj_rf [14, 12, 13, 3, 4, 5, 7, 6, 9, 10, 8, 11, 0, 15] σ)
  ·
    rcases en_if_h h with ⟨-, h⟩ | ⟨-, h⟩
    ·
      cases h
      exact (fj_rf [14, 12, 13, 3, 4, 5, 7, 6, 9, 10, 8, 11, 0, 15] σ)
    ·
      rcases en_if_h h with ⟨-, h⟩ | ⟨-, h⟩
      ·
        cases h
        exact (fj_rf [14, 12, 13, 3, 4, 5, 7, 6, 9, 10, 8, 11, 0, 15] σ)
      ·
        obtain ⟨t4, e101, h⟩ := en_b1_h h
        obtain ⟨t6, s7, e103, h⟩ := en_b2_h h
        have f104 : en_fj [14, 12, 13, 3, 4, 5, 7, 6, 9, 10, 8, 11, 0, 15] σ s7 := fj_tr (fj_rf [14, 12, 13, 3, 4, 5, 7, 6, 9, 10, 8, 11, 0, 15] σ) (fj_sub (f_cc_startAct e103) (by simp))
        cases t6 with
        | inl n9 =>
          cases h
          exact f104
        | inr x10 =>
          obtain ⟨t11, s12, e105, h⟩ := en_b2_h h
          have f106 : en_fj [14, 12, 13, 3, 4, 5, 7, 6, 9, 10, 8, 11, 0, 15] σ s12 := fj_tr f104 (fj_sub (fj_fr (f_cd_post e105)) (by simp))
          cases h
          exact f106
theorem f_cc_tick {v1 : Int32} {σ : en_M} {r : (Nat ⊕ Int32) × en_M} (h : k_cc_tick v1 σ = some r) : en_fj [14, 12, 13, 3, 4, 5, 7, 6, 9, 10, 8, 11, 0, 15] σ r.2 := by
  rw [k_cc_tick] at h
  rcases en_if_h h with ⟨-, h⟩ | ⟨-, h⟩
  ·
    cases h
    exact (fj_rf [14, 12, 13, 3, 4, 5, 7, 6, 9, 10, 8, 11, 0, 15] σ)
  ·
    obtain ⟨t2, s3, e101, h⟩ := en_b2_h h
    have f102 : en_fj [14, 12, 13, 3, 4, 5, 7, 6, 9, 10, 8, 11, 0, 15] σ s3 := fj_tr (fj_rf [14, 12, 13, 3, 4, 5, 7, 6, 9, 10, 8, 11, 0, 15] σ) (fj_sub (f_cc_startAct e101) (by simp))
    cases t2 with
    | inl n5 =>
      cases h
      exact f102
    | inr x6 =>
      obtain ⟨t7, s8, e103, h⟩ := en_b2_h h
      have f104 : en_fj [14, 12, 13, 3, 4, 5, 7, 6, 9, 10, 8, 11, 0, 15] σ s8 := fj_tr f102 (fj_sub (fj_fr (f_cd_runTicks e103)) (by simp))
      cases h
      exact f104
theorem f_cc_undo {σ : en_M} {r : (Nat ⊕ Int32) × en_M} (h : k_cc_undo σ = some r) : en_fr [(15, 0), (12, 0), (13, 0), (3, 0), (4, 0), (5, 0), (7, 0), (6, 0), (9, 0), (10, 0), (8, 0), (11, 0), (0, 0)] σ r.2 := by
  rw [k_cc_undo] at h
  rcases en_if_h h with ⟨-, h⟩ | ⟨-, h⟩
  ·
    cases h
    exact (fr_rf [(15, 0), (12, 0), (13, 0), (3, 0), (4, 0), (5, 0), (7, 0), (6, 0), (9, 0), (10, 0), (8, 0), (11, 0), (0, 0)] σ)
  ·
    obtain ⟨s2, e101, h⟩ := en_b1_h h
    have f102 : en_fr [(15, 0), (12, 0), (13, 0), (3, 0), (4, 0), (5, 0), (7, 0), (6, 0), (9, 0), (10, 0), (8, 0), (11, 0), (0, 0)] σ s2 := fr_tr (fr_rf [(15, 0), (12, 0), (13, 0), (3, 0), (4, 0), (5, 0), (7, 0), (6, 0), (9, 0), (10, 0), (8, 0), (11, 0), (0, 0)] σ) (f_hi_takeBack e101)
    cases h
    exact f102
theorem f_cc_works {v1 : Int32} {σ : en_M} {r : (Nat ⊕ Int32) × en_M} (h : k_cc_works v1 σ = some r) : en_fr [(18, 0), (17, 0), (19, 0)] σ r.2 := by
  rw [k_cc_works] at h
  rcases en_if_h h with ⟨-, h⟩ | ⟨-, h⟩
  ·
    cases h
    exact (fr_rf [(18, 0), (17, 0), (19, 0)] σ)
  ·
    obtain ⟨t2, s3, e101, h⟩ := en_b2_h h
    have f102 : en_fr [(18, 0), (17, 0), (19, 0)] σ s3 := fr_tr (fr_rf [(18, 0), (17, 0), (19, 0)] σ) (f_pp_busyTicks e101)
    cases h
    exact f102

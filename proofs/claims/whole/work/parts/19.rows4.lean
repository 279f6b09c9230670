/-! The engine's rows: Math, copies of rows, rows of references, texts. -/
def en_ix (n : Nat) (x : Int32) : Option Nat := if en_inb x n then some x.toNatClampNeg else none
theorem en_ix_h {n q : Nat} {x : Int32} (h : en_ix n x = some q) : en_inb x n = true ∧ x.toNatClampNeg = q := by
  simp only [en_ix] at h
  split at h
  · exact ⟨by assumption, Option.some.inj h⟩
  · cases h
/-- n ints of one row into another, both from their first place on -/
def en_cp (σ : en_M) (j0 g0 i0 j1 g1 i1 n : Nat) : en_M := fun j g i k => if j = j1 ∧ g = g1 ∧ i = i1 ∧ k < n then σ j0 g0 i0 k else σ j g i k
def en_len (k : Nat) : Int32 := Int32.ofNat (en_sl.getD (k - 1) 0)
def en_chr (k : Nat) (x : Int32) : Option Int32 := if en_inb x (en_sl.getD (k - 1) 0) then some ((en_sb.getD (k - 1) []).getD x.toNatClampNeg 0) else none
theorem mx_st_max : Cond.static Lib.Math.max.name ∈ en_tw := en_tw_of (i := 677) (by decide +kernel) (by decide +kernel)
theorem mx_cd_max : Cond.code Lib.Math.max.name Lib.Math.max.code 2 (some .int) ∈ en_tw := en_tw_of (i := 678) (by decide +kernel) (by decide +kernel)
theorem mx_st_min : Cond.static Lib.Math.min.name ∈ en_tw := en_tw_of (i := 659) (by decide +kernel) (by decide +kernel)
theorem mx_cd_min : Cond.code Lib.Math.min.name Lib.Math.min.code 2 (some .int) ∈ en_tw := en_tw_of (i := 660) (by decide +kernel) (by decide +kernel)
theorem mx_ac : Cond.native arraycopyName ∈ en_tw ∧ Cond.static arraycopyName ∈ en_tw ∧ Cond.initialized "java/lang/System" ∈ en_tw := ⟨en_tw_of (i := 624) (by decide +kernel) (by decide +kernel), en_tw_of (i := 623) (by decide +kernel) (by decide +kernel), en_tw_of (i := 85) (by decide +kernel) (by decide +kernel)⟩
def en_tx {α β : Type} (t : Nat ⊕ α) (f : Nat → β) (g : α → β) : β := match t with | .inl n => f n | .inr x => g x
def en_ri (t : Nat ⊕ Int32) : en_P := match t with | .inl n => .inl n | .inr x => .inr (some (.inl x))
def en_ru (t : Nat ⊕ Unit) : en_P := match t with | .inl n => .inl n | .inr _ => .inr none
section en_r4
variable {G : en_G} {d mc ms : Nat} {μ : en_D} {r : en_P} {cs cs' : List en_A} {ρ ρ' : en_R} {σ σ' σ1 : en_M} {bc bs pc len nx a b : Nat} {v : Int32} {ls ls' : List (Option en_V)} {st : List en_V}
theorem en_p_aald {j g i n t q : Nat} {C0 : String} {x : Int32} {w : Option en_A} (hi : en_ix n x = some q) (hc : μ.2.2.2.2.2.2 pc = some (.aaload, len, nx, a, b, v)) (hk : en_kd j = (t + 4, n)) (ht : ∀ G : en_G, (en_tys G)[t + 3]? = some (G.2.2.1 (t + 4), .object C0)) (hr : ρ j g i q = w) (k : en_W G d mc ms μ r cs' ρ' σ' bc bs nx ls (.inr (.inl w) :: st) cs ρ σ) : en_W G d mc ms μ r cs' ρ' σ' bc bs pc ls (.inl x :: .inr (.inl (some (j, g, i))) :: st) cs ρ σ := by
  obtain ⟨h1, rfl⟩ := en_ix_h hi
  exact en_s_aald hc hk ht h1 hr k
theorem en_s_copy {idx n0 n1 j0 g0 i0 j1 g1 i1 : Nat} {n : Nat} {x : Int32} (hσ : en_cp σ j0 g0 i0 j1 g1 i1 n = σ1) (hc : μ.2.2.2.2.2.2 pc = some (.invokestatic idx, len, nx, a, b, v)) (hlk : Cond.methodLink (en_own μ.2.2.2.2.1) idx arraycopyName ∈ en_tw) (hk0 : en_kd j0 = (1, n0)) (hk1 : en_kd j1 = (1, n1)) (hx : x.toNatClampNeg = n) (hx0 : decide (x < 0) = false) (hn0 : Nat.ble n n0 = true) (hn1 : Nat.ble n n1 = true) (hcat : Nat.ble (st.map en_cat).sum 8 = true)
    (k : en_W G (d + 1) mc ms μ r cs' ρ' σ' bc bs nx ls st cs ρ σ1) : en_W G (d + 1) mc ms μ r cs' ρ' σ' bc bs pc ls (.inl x :: .inl 0 :: .inr (.inl (some (j1, g1, i1))) :: .inl 0 :: .inr (.inl (some (j0, g0, i0))) :: st) cs ρ σ := by
  intro p e s m args below meth c H locs cells slots la C hS hw hbc hbs hl hst
  obtain ⟨h1, h2, h3⟩ := en_dec C hc
  simp only [en_gd, Bool.and_eq_true, beq_iff_eq, decide_eq_true_eq] at h3
  obtain ⟨-, rfl⟩ := h3
  subst h2 hσ
  obtain ⟨q1, hq1⟩ := List.getElem?_of_mem (en_okr (en_oks_t (en_oks_t hst)))
  obtain ⟨q0, hq0⟩ := List.getElem?_of_mem (en_okr (en_oks_t (en_oks_t (en_oks_t (en_oks_t hst)))))
  have he0 := en_wl_at (G := G) (ρ := ρ) (σ := σ) hq0
  have he1 := en_wl_at (G := G) (ρ := ρ) (σ := σ) hq1
  rw [en_ent_i hk0] at he0
  rw [en_ent_i hk1] at he1
  have hcs := en_cat_sum (G := G) hcat
  have m0 := Nat.le_of_ble_eq_true hn0
  have m1 := Nat.le_of_ble_eq_true hn1
  have z0 : (0 : Int32).toNatClampNeg = 0 := by decide
  refine va_copyi (ty := .int) C.1 C.2.1 (by rw [C.2.2.1, en_lsz hl]) C.2.2.2.1 (C.2.2.2.2.1 _ hlk) (C.2.2.2.2.1 _ mx_ac.1) (C.2.2.2.2.1 _ mx_ac.2.1) (C.2.2.2.2.1 _ mx_ac.2.2) C.2.2.2.2.2.2.2.2.2.1.1 hw.1 hw.2.1 hS q0 q1 0 0 he0 he1 rfl rfl rfl (sp := 0) (dp := 0) (n := x) (by decide) (by decide) (by simpa using hx0) (by rw [z0, hx]; omega) (by rw [z0, hx]; omega) (fun i _ => rfl) (by simp only [en_rm]; omega) ?_ h1 (fun H1 locs1 hP1 hD1 hS1 => ?_)
  · have e1 : nativeFrameWords "java/lang/System" "arraycopy" 5 = 7 := by decide
    rw [e1]
    simp only [en_rm]
    omega
  · have hwd : en_wd G cs ρ (en_cp σ j0 g0 i0 j1 g1 i1 n) H1 := by
      refine ⟨?_, en_D_any hw.2.1, hw.2.2⟩
      rw [en_wl_set hw.2.1 hq1 (ρ' := ρ) (σ' := en_cp σ j0 g0 i0 j1 g1 i1 n) (fun c' h => ?_)]
      · rw [en_ent_i hk1]
        have e9 : en_cp σ j0 g0 i0 j1 g1 i1 n j1 g1 i1 = va_cpy (σ j0 g0 i0) (σ j1 g1 i1) (0 : Int32).toNatClampNeg (0 : Int32).toNatClampNeg x.toNatClampNeg := by
          funext k'
          rw [z0, hx]
          simp only [en_cp, va_cpy, true_and, Nat.zero_le, Nat.zero_add, Nat.sub_zero]
        rw [e9]
        exact hP1
      · obtain ⟨j', g', i'⟩ := c'
        have hn : ∀ k', en_cp σ j0 g0 i0 j1 g1 i1 n j' g' i' k' = σ j' g' i' k' := by
          intro k'
          simp only [en_cp]
          rw [if_neg]
          rintro ⟨rfl, rfl, rfl, -⟩
          exact h rfl
        have hf : en_cp σ j0 g0 i0 j1 g1 i1 n j' g' i' = σ j' g' i' := funext hn
        have h2 : ∀ ci, en_fv G ρ (en_cp σ j0 g0 i0 j1 g1 i1 n) (j', g', i') ci = en_fv G ρ σ (j', g', i') ci := fun ci => funext fun k' => by simp only [en_fv, hn]
        simp only [en_ent, hf, h2]
    exact k p e s m args below meth c H1 locs1 cells slots la C hS1 hwd hbc hbs hl (en_oks_t (en_oks_t (en_oks_t (en_oks_t (en_oks_t hst)))))
theorem en_s_fmod {idx : Nat} {x y : Int32} (hg : G.2.2.2.2.2.2.2.2 = none) (hc : μ.2.2.2.2.2.2 pc = some (.invokestatic idx, len, nx, a, b, v)) (hlk : Cond.methodLink (en_own μ.2.2.2.2.1) idx en_yfm ∈ en_tw) (hz : ¬ y = 0) (hcat : Nat.ble (st.map en_cat).sum 8 = true) (k : en_W G (d + 1) mc ms μ r cs' ρ' σ' bc bs nx ls (.inl (en_fm x y) :: st) cs ρ σ) : en_W G (d + 1) mc ms μ r cs' ρ' σ' bc bs pc ls (.inl y :: .inl x :: st) cs ρ σ := by
  exact en_s_fmod2 hc hlk hz hcat k
theorem en_word_at {G : en_G} {s : State} {H : Heap} {own text : String} {idx i : Nat} (hfx : en_fx G s H) (ht : (own, idx, text, i) ∈ en_words) : vk_R own idx text (G.2.2.2.2.1 (i + 1)) s := by
  have h := hfx.2.2.2.2.2.2.1 (own, idx, text, i) ht
  exact h
theorem en_s_ldcS {idx i : Nat} {text : String} (hc : μ.2.2.2.2.2.2 pc = some (.ldc idx, len, nx, a, b, v)) (ht : (en_own μ.2.2.2.2.1, idx, text, i) ∈ en_words) (k : en_W G d mc ms μ r cs' ρ' σ' bc bs nx ls (.inr (.inr (.inr (i + 1))) :: st) cs ρ σ) : en_W G d mc ms μ r cs' ρ' σ' bc bs pc ls st cs ρ σ := by
  intro p e s m args below meth c H locs cells slots la C hS hw hbc hbs hl hst
  have hZ := en_word_at C.2.2.2.2.2.2.2.2.2.1 ht
  clear ht
  obtain ⟨h1, h2, h3⟩ := en_dec C hc
  simp only [en_gd, Bool.and_eq_true, beq_iff_eq, decide_eq_true_eq] at h3
  obtain ⟨-, rfl⟩ := h3
  subst h2
  exact va_ldcS C.1 C.2.1 C.2.2.2.1 hZ h1 (k p e s m args below meth c H locs cells slots la C hS hw hbc hbs hl (en_oks_c en_ok_x hst))
theorem en_s_ldcwS {idx i : Nat} {text : String} (hc : μ.2.2.2.2.2.2 pc = some (.ldc_w idx, len, nx, a, b, v)) (ht : (en_own μ.2.2.2.2.1, idx, text, i) ∈ en_words) (k : en_W G d mc ms μ r cs' ρ' σ' bc bs nx ls (.inr (.inr (.inr (i + 1))) :: st) cs ρ σ) : en_W G d mc ms μ r cs' ρ' σ' bc bs pc ls st cs ρ σ := by
  intro p e s m args below meth c H locs cells slots la C hS hw hbc hbs hl hst
  have hZ := en_word_at C.2.2.2.2.2.2.2.2.2.1 ht
  clear ht
  obtain ⟨h1, h2, h3⟩ := en_dec C hc
  simp only [en_gd, Bool.and_eq_true, beq_iff_eq, decide_eq_true_eq] at h3
  obtain ⟨-, rfl⟩ := h3
  subst h2
  intro T hT X
  obtain ⟨t, a1, b1⟩ := k p e s m args below meth c H locs cells slots la C hS hw hbc hbs hl (en_oks_c en_ok_x hst) T hT X
  exact ⟨t, X.ldcStringW C.1 C.2.2.2.1 (text := text) (a := G.2.2.2.2.1 (i + 1)) hZ.1 hZ.2 (g := F0 m pc la (st.map (en_tr G))) rfl (by rw [C.2.1]; exact h1) t a1, b1⟩
theorem en_s_slen {idx i : Nat} (hg : G.2.2.2.2.2.2.2.2 = none) (hc : μ.2.2.2.2.2.2 pc = some (.invokevirtual idx, len, nx, a, b, v)) (hi : 1 ≤ i ∧ i ≤ 11) (hlk : Cond.methodLink (en_own μ.2.2.2.2.1) idx ⟨"java/lang/String", "length", "()I"⟩ ∈ en_tw) (hcat : Nat.ble (st.map en_cat).sum 8 = true) (k : en_W G (d + 3) mc ms μ r cs' ρ' σ' bc bs nx ls (.inl (en_len i) :: st) cs ρ σ) : en_W G (d + 3) mc ms μ r cs' ρ' σ' bc bs pc ls (.inr (.inr (.inr i)) :: st) cs ρ σ := by
  obtain ⟨i, rfl⟩ : ∃ q, i = q + 1 := ⟨i - 1, by omega⟩
  exact en_callO (as := []) (rest := st) hg hc (sx_length G hg (d + 1) (by omega)) hlk mv_sx_length (by omega) rfl rfl rfl hcat (fun _ h => h) (bc' := bc) (bs' := bs) (by omega) (by omega) k
theorem en_s_char {idx i : Nat} {x w : Int32} (hg : G.2.2.2.2.2.2.2.2 = none) (hx : en_chr i x = some w) (hc : μ.2.2.2.2.2.2 pc = some (.invokevirtual idx, len, nx, a, b, v)) (hi : 1 ≤ i ∧ i ≤ 11) (hlk : Cond.methodLink (en_own μ.2.2.2.2.1) idx ⟨"java/lang/String", "charAt", "(I)C"⟩ ∈ en_tw) (hcat : Nat.ble (st.map en_cat).sum 8 = true) (k : en_W G (d + 4) mc ms μ r cs' ρ' σ' bc bs nx ls (.inl w :: st) cs ρ σ) : en_W G (d + 4) mc ms μ r cs' ρ' σ' bc bs pc ls (.inl x :: .inr (.inr (.inr i)) :: st) cs ρ σ := by
  obtain ⟨i, rfl⟩ : ∃ q, i = q + 1 := ⟨i - 1, by omega⟩
  have hi' : i < 11 := by omega
  have hx2 : en_inb x (en_sl.getD i 0) = true ∧ (en_sb.getD i []).getD x.toNatClampNeg 0 = w := by
    simp only [en_chr, Nat.add_sub_cancel] at hx
    split at hx
    · exact ⟨by assumption, Option.some.inj hx⟩
    · cases hx
  have hb := sx_inb ⟨i, hi'⟩ x hx2.1
  exact en_callO (as := [.inl x]) (rest := st) hg hc (sx_char G hg (d + 1) hi' hx2.1 hx2.2 (sx_check G hg d hb.1 hb.2)) hlk mv_sx_char hi' rfl rfl rfl hcat (fun _ h => h) (bc' := bc) (bs' := bs) (by omega) (by omega) k
end en_r4

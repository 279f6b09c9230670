/-! The engine's rows: locals that are written, fields, arrays, returns. -/
def en_ll (G : en_G) (ls : List (Option en_V)) : List (Nat × Value) := (List.range ls.length).filterMap (fun i => match ls[i]? with | some (some v) => some (i, en_tr G v) | _ => none)
theorem en_ll_mem {G : en_G} {ls : List (Option en_V)} {q : Nat × Value} : q ∈ en_ll G ls ↔ ∃ v, ls[q.1]? = some (some v) ∧ q.2 = en_tr G v := by
  constructor
  · intro h
    obtain ⟨i, -, hi⟩ := List.mem_filterMap.mp h
    cases hv : ls[i]? with
    | none => rw [hv] at hi; cases hi
    | some w =>
      cases w with
      | none => rw [hv] at hi; cases hi
      | some v =>
        rw [hv] at hi
        cases hi
        exact ⟨v, hv, rfl⟩
  · rintro ⟨v, h1, h2⟩
    refine List.mem_filterMap.mpr ⟨q.1, List.mem_range.mpr (List.getElem?_eq_some_iff.mp h1).1, ?_⟩
    rw [h1]
    show some (q.1, en_tr G v) = some q
    rw [← h2]
theorem en_ls_has {G : en_G} {cs : List en_A} {n : Nat} {la : Array Slot} {ls : List (Option en_V)} (h : en_ls G cs n la ls) : lv_has la n (en_ll G ls) := by
  refine ⟨h.2.1.1, h.2.1.2.1, fun q hq => ?_⟩
  obtain ⟨v, h1, h2⟩ := en_ll_mem.mp hq
  rw [h2]
  exact (h.2.2 _ _ h1).1
theorem en_ls_set {G : en_G} {cs : List en_A} {n i : Nat} {la la' : Array Slot} {ls : List (Option en_V)} {w : en_V} (h : en_ls G cs n la ls) (hc : (en_tr G w).category = 1) (hw : en_okv cs w)
    (h' : lv_has la' n ((i, en_tr G w) :: (en_ll G ls).filter (fun q => !(q.1 == i) && !(q.1 + 1 == i && q.2.category == 2)))) : en_ls G cs n la' (ls.set i (some w)) := by
  refine ⟨by rw [List.length_set]; exact h.1, ⟨h'.1, h'.2.1, fun q hq => nomatch hq⟩, fun k u hu => ?_⟩
  by_cases hk : k = i
  · subst hk
    have hl : k < ls.length := by
      have := (List.getElem?_eq_some_iff.mp hu).1
      rwa [List.length_set] at this
    rw [List.getElem?_set_self hl] at hu
    cases hu
    exact ⟨h'.2.2 _ List.mem_cons_self, hc, hw⟩
  · rw [List.getElem?_set_ne (Ne.symm hk)] at hu
    obtain ⟨g1, g2, g3⟩ := h.2.2 _ _ hu
    refine ⟨h'.2.2 (k, en_tr G u) (List.mem_cons_of_mem _ (List.mem_filter.mpr ⟨en_ll_mem.mpr ⟨u, hu, rfl⟩, ?_⟩)), g2, g3⟩
    simp [hk, g2]
theorem en_nf_ok : ∀ (ci : Nat) (q : vw_C), en_cl[ci]? = some q → en_nf ci = q.2.2 := by
  intro ci q h
  match ci, h with
  | 0, h => cases h; rfl
  | 1, h => cases h; rfl
  | 2, h => cases h; rfl
  | 3, h => cases h; rfl
  | 4, h => cases h; rfl
  | 5, h => cases h; rfl
  | 6, h => cases h; rfl
  | 7, h => cases h; rfl
  | 8, h => cases h; rfl
  | 9, h => cases h; rfl
  | 10, h => cases h; rfl
  | n + 11, h => simp at h
theorem en_ent_o {G : en_G} {ρ : en_R} {σ : en_M} {j g i ci : Nat} (h : en_kd j = (0, ci)) : en_ent G ρ σ (j, g, i) = .inr (ci, (List.range (en_nf ci)).map (en_fv G ρ σ (j, g, i) ci)) := by
  simp only [en_ent, h]
theorem en_ent_i {G : en_G} {ρ : en_R} {σ : en_M} {j g i n : Nat} (h : en_kd j = (1, n)) : en_ent G ρ σ (j, g, i) = .inl (G.2.2.1 1, n, .inl (σ j g i)) := by
  simp only [en_ent, h]
theorem en_ent_b {G : en_G} {ρ : en_R} {σ : en_M} {j g i n : Nat} (h : en_kd j = (2, n)) : en_ent G ρ σ (j, g, i) = .inl (G.2.2.1 2, n, .inl (σ j g i)) := by
  simp only [en_ent, h]
theorem en_ent_l {G : en_G} {ρ : en_R} {σ : en_M} {j g i n : Nat} (h : en_kd j = (3, n)) : en_ent G ρ σ (j, g, i) = .inl (G.2.2.1 3, n, .inr (.inl (fun k => (σ j g i k).toInt64))) := by
  simp only [en_ent, h]
theorem en_ent_r {G : en_G} {ρ : en_R} {σ : en_M} {j g i t n : Nat} (h : en_kd j = (t + 4, n)) : en_ent G ρ σ (j, g, i) = .inl (G.2.2.1 (t + 4), n, .inr (.inr (.inr (.inr (fun k => (ρ j g i k).map G.2.2.2.1))))) := by
  simp only [en_ent, h]
theorem en_fw_eq {oc idx ci k : Nat} (h : (idx, ci, k) ∈ en_fl oc) : ∃ q : vw_C, en_cl[ci]? = some q ∧ k < q.2.2 ∧ Cond.fieldLink (en_own oc) idx (q.2.1 k).1 (q.2.1 k).2.1 (q.2.1 k).2.2.1 ∈ en_tw := by
  obtain ⟨h1, h2⟩ := en_fl_ok oc _ h
  cases hq : en_cl[ci]? with
  | none =>
    have h2 : k < ((en_cl[ci]?).map (fun q => q.2.2)).getD 0 := h2
    rw [hq] at h2
    exact absurd h2 (Nat.not_lt_zero _)
  | some q =>
    have h2 : k < ((en_cl[ci]?).map (fun q => q.2.2)).getD 0 := h2
    rw [hq] at h2
    have h1 : (match en_cl[ci]? with | some q => Cond.fieldLink (en_own oc) idx (q.2.1 k).1 (q.2.1 k).2.1 (q.2.1 k).2.2.1 | none => .tt) ∈ en_tw := h1
    rw [hq] at h1
    exact ⟨q, rfl, h2, h1⟩
section en_mem
variable {G : en_G} {d mc ms : Nat} {μ : en_D} {r : en_P} {cs cs' : List en_A} {ρ ρ' : en_R} {σ σ' : en_M} {bc bs pc len nx a b : Nat} {v : Int32} {ls ls' : List (Option en_V)} {st : List en_V}
theorem en_s_istore {i : Nat} {x : Int32} (hc : μ.2.2.2.2.2.2 pc = some (.istore i, len, nx, a, b, v)) (ha : Nat.blt a ls.length = true) (hs : ls.set a (some (.inl x)) = ls') (k : en_W G d mc ms μ r cs' ρ' σ' bc bs nx ls' st cs ρ σ) : en_W G d mc ms μ r cs' ρ' σ' bc bs pc ls (.inl x :: st) cs ρ σ := by
  intro p e s m args below meth c H locs cells slots la C hS hw hbc hbs hl hst
  obtain ⟨h1, h2, h3⟩ := en_dec C hc
  simp only [en_gd, Bool.and_eq_true, beq_iff_eq, decide_eq_true_eq] at h3
  obtain ⟨-, rfl, rfl⟩ := h3
  subst h2 hs
  exact lv_istore C.1 C.2.1 h1 (en_ls_has hl) (by rw [← hl.1]; exact Nat.le_of_ble_eq_true ha) rfl (fun la' h' => k p e s m args below meth c H locs cells slots la' C hS hw hbc hbs (en_ls_set hl rfl en_ok_i h') (en_oks_t hst))
theorem en_s_istore_n {i : Fin 4} {x : Int32} (hc : μ.2.2.2.2.2.2 pc = some (.istore_n i, len, nx, a, b, v)) (ha : Nat.blt a ls.length = true) (hs : ls.set a (some (.inl x)) = ls') (k : en_W G d mc ms μ r cs' ρ' σ' bc bs nx ls' st cs ρ σ) : en_W G d mc ms μ r cs' ρ' σ' bc bs pc ls (.inl x :: st) cs ρ σ := by
  intro p e s m args below meth c H locs cells slots la C hS hw hbc hbs hl hst
  obtain ⟨h1, h2, h3⟩ := en_dec C hc
  simp only [en_gd, Bool.and_eq_true, beq_iff_eq, decide_eq_true_eq] at h3
  obtain ⟨-, rfl, h4⟩ := h3
  subst h2 hs
  exact lv_istore_n C.1 C.2.1 h1 h4 (en_ls_has hl) (by rw [← hl.1]; exact Nat.le_of_ble_eq_true ha) rfl (fun la' h' => k p e s m args below meth c H locs cells slots la' C hS hw hbc hbs (en_ls_set hl rfl en_ok_i h') (en_oks_t hst))
theorem en_s_astore {i : Nat} {c0 : en_A} (hc : μ.2.2.2.2.2.2 pc = some (.astore i, len, nx, a, b, v)) (ha : Nat.blt a ls.length = true) (hs : ls.set a (some (.inr (.inl (some c0)))) = ls') (k : en_W G d mc ms μ r cs' ρ' σ' bc bs nx ls' st cs ρ σ) : en_W G d mc ms μ r cs' ρ' σ' bc bs pc ls (.inr (.inl (some c0)) :: st) cs ρ σ := by
  intro p e s m args below meth c H locs cells slots la C hS hw hbc hbs hl hst
  obtain ⟨h1, h2, h3⟩ := en_dec C hc
  simp only [en_gd, Bool.and_eq_true, beq_iff_eq, decide_eq_true_eq] at h3
  obtain ⟨-, rfl, rfl⟩ := h3
  subst h2 hs
  exact lv_astore C.1 C.2.1 h1 (en_ls_has hl) (by rw [← hl.1]; exact Nat.le_of_ble_eq_true ha) rfl (fun la' h' => k p e s m args below meth c H locs cells slots la' C hS hw hbc hbs (en_ls_set (w := .inr (.inl (some c0))) hl rfl (en_oks_h hst) h') (en_oks_t hst))
theorem en_s_astore_n {i : Fin 4} {c0 : en_A} (hc : μ.2.2.2.2.2.2 pc = some (.astore_n i, len, nx, a, b, v)) (ha : Nat.blt a ls.length = true) (hs : ls.set a (some (.inr (.inl (some c0)))) = ls') (k : en_W G d mc ms μ r cs' ρ' σ' bc bs nx ls' st cs ρ σ) : en_W G d mc ms μ r cs' ρ' σ' bc bs pc ls (.inr (.inl (some c0)) :: st) cs ρ σ := by
  intro p e s m args below meth c H locs cells slots la C hS hw hbc hbs hl hst
  obtain ⟨h1, h2, h3⟩ := en_dec C hc
  simp only [en_gd, Bool.and_eq_true, beq_iff_eq, decide_eq_true_eq] at h3
  obtain ⟨-, rfl, h4⟩ := h3
  subst h2 hs
  exact lv_astore_n C.1 C.2.1 h1 h4 (en_ls_has hl) (by rw [← hl.1]; exact Nat.le_of_ble_eq_true ha) rfl (fun la' h' => k p e s m args below meth c H locs cells slots la' C hS hw hbc hbs (en_ls_set (w := .inr (.inl (some c0))) hl rfl (en_oks_h hst) h') (en_oks_t hst))
theorem en_s_astoreN {i : Nat} (hc : μ.2.2.2.2.2.2 pc = some (.astore i, len, nx, a, b, v)) (ha : Nat.blt a ls.length = true) (hs : ls.set a (some (.inr (.inl none))) = ls') (k : en_W G d mc ms μ r cs' ρ' σ' bc bs nx ls' st cs ρ σ) : en_W G d mc ms μ r cs' ρ' σ' bc bs pc ls (.inr (.inl none) :: st) cs ρ σ := by
  intro p e s m args below meth c H locs cells slots la C hS hw hbc hbs hl hst
  obtain ⟨h1, h2, h3⟩ := en_dec C hc
  simp only [en_gd, Bool.and_eq_true, beq_iff_eq, decide_eq_true_eq] at h3
  obtain ⟨-, rfl, rfl⟩ := h3
  subst h2 hs
  exact lv_astoreN C.1 C.2.1 h1 (en_ls_has hl) (by rw [← hl.1]; exact Nat.le_of_ble_eq_true ha) rfl (fun la' h' => k p e s m args below meth c H locs cells slots la' C hS hw hbc hbs (en_ls_set (w := .inr (.inl none)) hl rfl en_ok_n h') (en_oks_t hst))
theorem en_s_astore_nN {i : Fin 4} (hc : μ.2.2.2.2.2.2 pc = some (.astore_n i, len, nx, a, b, v)) (ha : Nat.blt a ls.length = true) (hs : ls.set a (some (.inr (.inl none))) = ls') (k : en_W G d mc ms μ r cs' ρ' σ' bc bs nx ls' st cs ρ σ) : en_W G d mc ms μ r cs' ρ' σ' bc bs pc ls (.inr (.inl none) :: st) cs ρ σ := by
  intro p e s m args below meth c H locs cells slots la C hS hw hbc hbs hl hst
  obtain ⟨h1, h2, h3⟩ := en_dec C hc
  simp only [en_gd, Bool.and_eq_true, beq_iff_eq, decide_eq_true_eq] at h3
  obtain ⟨-, rfl, h4⟩ := h3
  subst h2 hs
  exact lv_astore_nN C.1 C.2.1 h1 h4 (en_ls_has hl) (by rw [← hl.1]; exact Nat.le_of_ble_eq_true ha) rfl (fun la' h' => k p e s m args below meth c H locs cells slots la' C hS hw hbc hbs (en_ls_set (w := .inr (.inl none)) hl rfl en_ok_n h') (en_oks_t hst))
theorem en_s_iinc {i : Nat} {n : Int} {x : Int32} (hc : μ.2.2.2.2.2.2 pc = some (.iinc i n, len, nx, a, b, v)) (hv : ls[a]? = some (some (.inl x))) (hs : ls.set a (some (.inl (x + v))) = ls') (k : en_W G d mc ms μ r cs' ρ' σ' bc bs nx ls' st cs ρ σ) : en_W G d mc ms μ r cs' ρ' σ' bc bs pc ls st cs ρ σ := by
  intro p e s m args below meth c H locs cells slots la C hS hw hbc hbs hl hst
  obtain ⟨h1, h2, h3⟩ := en_dec C hc
  simp only [en_gd, Bool.and_eq_true, beq_iff_eq, decide_eq_true_eq] at h3
  obtain ⟨-, ⟨rfl, rfl⟩, h4⟩ := h3
  subst h2 hs h4
  obtain ⟨q, hq⟩ := List.getElem?_of_mem (en_ll_mem (G := G) (ls := ls) (q := (i, .int x)) |>.mpr ⟨.inl x, hv, rfl⟩)
  exact lv_iinc C.1 C.2.1 h1 (en_ls_has hl) hq rfl (by rw [← hl.1]; exact (List.getElem?_eq_some_iff.mp hv).1) rfl (fun la' h' => k p e s m args below meth c H locs cells slots la' C hS hw hbc hbs (en_ls_set (w := .inl (x + Int32.ofInt n)) hl rfl en_ok_i h') hst)
theorem en_s_getI {idx j g i : Nat} (hc : μ.2.2.2.2.2.2 pc = some (.getfield idx, len, nx, a, b, v)) (hk : en_kd j = (0, a)) (hf : (en_fk a b == 2) = false) (k : en_W G d mc ms μ r cs' ρ' σ' bc bs nx ls (.inl (σ j g i b) :: st) cs ρ σ) : en_W G d mc ms μ r cs' ρ' σ' bc bs pc ls (.inr (.inl (some (j, g, i))) :: st) cs ρ σ := by
  intro p e s m args below meth c H locs cells slots la C hS hw hbc hbs hl hst
  obtain ⟨h1, h2, h3⟩ := en_dec C hc
  simp only [en_gd, Bool.and_eq_true, beq_iff_eq, decide_eq_true_eq] at h3
  obtain ⟨-, rfl, h4⟩ := h3
  subst h2
  obtain ⟨q, hq1, hq2, hq3⟩ := en_fw_eq h4
  obtain ⟨q0, hq0⟩ := List.getElem?_of_mem (en_okr hst)
  have he := en_wl_at (G := G) (ρ := ρ) (σ := σ) hq0
  rw [en_ent_o hk] at he
  refine va_get (C := q.1) (T := q.2.1) (N := q.2.2) (ci := a) C.1 C.2.1 C.2.2.2.2.1 (en_lay a q hq1) C.2.2.2.1 C.2.2.2.2.2.2.2.2.2.1.1 hw.1 q0 he hq1 b hq2 (C.2.2.2.2.1 _ hq3) (fun _ h => h) (v := .int (σ j g i b)) ?_ h1 (k p e s m args below meth c H locs cells slots la C hS hw hbc hbs hl (en_oks_c en_ok_i (en_oks_t hst)))
  rw [en_nf_ok a q hq1, List.getElem?_map, List.getElem?_range hq2]
  have hf' : ¬ en_fk a b = 2 := by simpa using hf
  simp only [Option.map_some, en_fv, if_neg hf']
theorem en_s_getR {idx j g i : Nat} {w : Option en_A} (hc : μ.2.2.2.2.2.2 pc = some (.getfield idx, len, nx, a, b, v)) (hk : en_kd j = (0, a)) (hf : (en_fk a b == 2) = true) (hr : ρ j g i b = w) (k : en_W G d mc ms μ r cs' ρ' σ' bc bs nx ls (.inr (.inl w) :: st) cs ρ σ) : en_W G d mc ms μ r cs' ρ' σ' bc bs pc ls (.inr (.inl (some (j, g, i))) :: st) cs ρ σ := by
  intro p e s m args below meth c H locs cells slots la C hS hw hbc hbs hl hst
  obtain ⟨h1, h2, h3⟩ := en_dec C hc
  simp only [en_gd, Bool.and_eq_true, beq_iff_eq, decide_eq_true_eq] at h3
  obtain ⟨-, rfl, h4⟩ := h3
  subst h2 hr
  obtain ⟨q, hq1, hq2, hq3⟩ := en_fw_eq h4
  have hin := en_okr hst
  obtain ⟨q0, hq0⟩ := List.getElem?_of_mem hin
  have he := en_wl_at (G := G) (ρ := ρ) (σ := σ) hq0
  rw [en_ent_o hk] at he
  refine va_get (C := q.1) (T := q.2.1) (N := q.2.2) (ci := a) C.1 C.2.1 C.2.2.2.2.1 (en_lay a q hq1) C.2.2.2.1 C.2.2.2.2.2.2.2.2.2.1.1 hw.1 q0 he hq1 b hq2 (C.2.2.2.2.1 _ hq3) (fun _ h => h) (v := en_tr G (.inr (.inl (ρ j g i b)))) ?_ h1 (k p e s m args below meth c H locs cells slots la C hS hw hbc hbs hl (en_oks_c (fun c0 h0 => ?_) (en_oks_t hst)))
  · rw [en_nf_ok a q hq1, List.getElem?_map, List.getElem?_range hq2]
    have hf' : en_fk a b = 2 := by simpa using hf
    simp only [Option.map_some, en_fv, if_pos hf']
  · exact hw.2.2 _ hin b c0 (by simp only [en_bd, hk, if_true]; rw [en_nf_ok a q hq1]; exact hq2) (by simpa using h0)
theorem en_wd_wr {G : en_G} {j g i x : Nat} {v : Int32} {H H1 : Heap} {q0 : Nat} (hw : en_wd G cs ρ σ H) (hq : cs[q0]? = some (j, g, i)) (hP : va_P G.2.1 en_cl ((en_wl G cs ρ σ).set q0 (G.2.2.2.1 (j, g, i), en_ent G ρ (en_wr σ j g i x v) (j, g, i))) H1) : en_wd G cs ρ (en_wr σ j g i x v) H1 := by
  refine ⟨?_, en_D_any hw.2.1, hw.2.2⟩
  rw [en_wl_set hw.2.1 hq (ρ' := ρ) (σ' := en_wr σ j g i x v) (fun c' h => en_ent_wr h)]
  exact hP
theorem en_fs_set {G : en_G} {ρ : en_R} {σ : en_M} {j g i ci k n : Nat} {x : Int32} (hk : k < n) (hf : ¬ en_fk ci k = 2) : (List.range n).map (en_fv G ρ (en_wr σ j g i k x) (j, g, i) ci) = ((List.range n).map (en_fv G ρ σ (j, g, i) ci)).set k (.int x) := by
  apply List.ext_getElem?
  intro q
  by_cases hq : q = k
  · subst hq
    rw [List.getElem?_set_self (by simpa using hk), List.getElem?_map, List.getElem?_range hk]
    simp [en_fv, hf, en_wr]
  · rw [List.getElem?_set_ne (Ne.symm hq), List.getElem?_map, List.getElem?_map]
    by_cases hn : q < n
    · rw [List.getElem?_range hn]
      simp [en_fv, en_wr, hq]
    · rw [List.getElem?_eq_none (by simpa using hn)]
      rfl
theorem en_s_putI {idx j g i : Nat} {x : Int32} (hc : μ.2.2.2.2.2.2 pc = some (.putfield idx, len, nx, a, b, v)) (hk : en_kd j = (0, a)) (hf : (en_cl[a]?).map (fun q => (q.2.1 b).2.2.2) = some false) (ht : en_ty a b = .int) (hf2 : (en_fk a b == 2) = false) (k : en_W G d mc ms μ r cs' ρ' σ' bc bs nx ls st cs ρ (en_wr σ j g i b x)) : en_W G d mc ms μ r cs' ρ' σ' bc bs pc ls (.inl x :: .inr (.inl (some (j, g, i))) :: st) cs ρ σ := by
  intro p e s m args below meth c H locs cells slots la C hS hw hbc hbs hl hst
  obtain ⟨h1, h2, h3⟩ := en_dec C hc
  simp only [en_gd, Bool.and_eq_true, beq_iff_eq, decide_eq_true_eq] at h3
  obtain ⟨-, rfl, h4⟩ := h3
  subst h2
  obtain ⟨q, hq1, hq2, hq3⟩ := en_fw_eq h4
  obtain ⟨q0, hq0⟩ := List.getElem?_of_mem (en_okr (en_oks_t hst))
  have he := en_wl_at (G := G) (ρ := ρ) (σ := σ) hq0
  rw [en_ent_o hk] at he
  rw [hq1] at hf
  have hf' : ¬ en_fk a b = 2 := by simpa using hf2
  refine va_put (C := q.1) (T := q.2.1) (N := q.2.2) (ci := a) (ty := .int) (v := .int x) C.1 C.2.1 C.2.2.2.2.1 (en_lay a q hq1) (en_ty a) (en_ty_ok a q hq1) (en_nm a q hq1) C.2.2.2.1 C.2.2.2.2.2.2.2.2.2.1.1 hw.1 hw.2.1 hS q0 he hq1 b hq2 (C.2.2.2.2.1 _ hq3) (fun _ h => h) (Option.some.inj hf) (by rw [en_ty_ok a q hq1 b hq2, ht]) rfl rfl (by rw [List.length_map, List.length_range, en_nf_ok a q hq1]; exact hq2) h1 (fun H1 locs1 hP1 hD1 hS1 => ?_)
  refine k p e s m args below meth c H1 locs1 cells slots la C hS1 (en_wd_wr hw hq0 ?_) hbc hbs hl (en_oks_t (en_oks_t hst))
  rw [en_ent_o hk, en_fs_set (by rw [en_nf_ok a q hq1]; exact hq2) hf']
  exact hP1
theorem en_s_putZ {idx j g i : Nat} {x : Int32} (hc : μ.2.2.2.2.2.2 pc = some (.putfield idx, len, nx, a, b, v)) (hk : en_kd j = (0, a)) (hf : (en_cl[a]?).map (fun q => (q.2.1 b).2.2.2) = some false) (ht : en_ty a b = .boolean) (hf2 : (en_fk a b == 2) = false) (hx : x = 0 ∨ x = 1) (k : en_W G d mc ms μ r cs' ρ' σ' bc bs nx ls st cs ρ (en_wr σ j g i b x)) : en_W G d mc ms μ r cs' ρ' σ' bc bs pc ls (.inl x :: .inr (.inl (some (j, g, i))) :: st) cs ρ σ := by
  intro p e s m args below meth c H locs cells slots la C hS hw hbc hbs hl hst
  obtain ⟨h1, h2, h3⟩ := en_dec C hc
  simp only [en_gd, Bool.and_eq_true, beq_iff_eq, decide_eq_true_eq] at h3
  obtain ⟨-, rfl, h4⟩ := h3
  subst h2
  obtain ⟨q, hq1, hq2, hq3⟩ := en_fw_eq h4
  obtain ⟨q0, hq0⟩ := List.getElem?_of_mem (en_okr (en_oks_t hst))
  have he := en_wl_at (G := G) (ρ := ρ) (σ := σ) hq0
  rw [en_ent_o hk] at he
  rw [hq1] at hf
  have hf' : ¬ en_fk a b = 2 := by simpa using hf2
  refine va_put (C := q.1) (T := q.2.1) (N := q.2.2) (ci := a) (ty := .boolean) (v := .int x) C.1 C.2.1 C.2.2.2.2.1 (en_lay a q hq1) (en_ty a) (en_ty_ok a q hq1) (en_nm a q hq1) C.2.2.2.1 C.2.2.2.2.2.2.2.2.2.1.1 hw.1 hw.2.1 hS q0 he hq1 b hq2 (C.2.2.2.2.1 _ hq3) (fun _ h => h) (Option.some.inj hf) (by rw [en_ty_ok a q hq1 b hq2, ht]) (by rcases hx with rfl | rfl <;> rfl) (by rcases hx with rfl | rfl <;> rfl) (by rw [List.length_map, List.length_range, en_nf_ok a q hq1]; exact hq2) h1 (fun H1 locs1 hP1 hD1 hS1 => ?_)
  refine k p e s m args below meth c H1 locs1 cells slots la C hS1 (en_wd_wr hw hq0 ?_) hbc hbs hl (en_oks_t (en_oks_t hst))
  rw [en_ent_o hk, en_fs_set (by rw [en_nf_ok a q hq1]; exact hq2) hf']
  exact hP1
theorem en_rd_at {n : Nat} {f : Nat → Int32} {x w : Int32} (h : en_rd n f x = some w) : en_inb x n = true ∧ f x.toNatClampNeg = w := by
  simp only [en_rd] at h
  split at h
  · rename_i hi
    exact ⟨hi, Option.some.inj h⟩
  · cases h
theorem en_wa_at {n : Nat} {σ σ1 : en_M} {j g i : Nat} {x w : Int32} (h : en_wa n σ j g i x w = some σ1) : en_inb x n = true ∧ en_wr σ j g i x.toNatClampNeg w = σ1 := by
  simp only [en_wa] at h
  split at h
  · rename_i hi
    exact ⟨hi, Option.some.inj h⟩
  · cases h
theorem en_s_iald {j g i n : Nat} {x w : Int32} (hc : μ.2.2.2.2.2.2 pc = some (.iaload, len, nx, a, b, v)) (hk : en_kd j = (1, n)) (hx : en_rd n (σ j g i) x = some w) (k : en_W G d mc ms μ r cs' ρ' σ' bc bs nx ls (.inl w :: st) cs ρ σ) : en_W G d mc ms μ r cs' ρ' σ' bc bs pc ls (.inl x :: .inr (.inl (some (j, g, i))) :: st) cs ρ σ := by
  intro p e s m args below meth c H locs cells slots la C hS hw hbc hbs hl hst
  obtain ⟨h1, h2, h3⟩ := en_dec C hc
  simp only [en_gd, Bool.and_eq_true, beq_iff_eq, decide_eq_true_eq] at h3
  obtain ⟨-, rfl⟩ := h3
  subst h2
  obtain ⟨hi, rfl⟩ := en_rd_at hx
  obtain ⟨q0, hq0⟩ := List.getElem?_of_mem (en_okr (en_oks_t hst))
  have he := en_wl_at (G := G) (ρ := ρ) (σ := σ) hq0
  rw [en_ent_i hk] at he
  exact va_iald C.1 C.2.1 C.2.2.2.2.2.2.2.2.2.1.1 hw.1 q0 0 he rfl (en_inb_vp hi) h1 (k p e s m args below meth c H locs cells slots la C hS hw hbc hbs hl (en_oks_c en_ok_i (en_oks_t (en_oks_t hst))))
theorem en_s_bald {j g i n : Nat} {x w : Int32} (hc : μ.2.2.2.2.2.2 pc = some (.baload, len, nx, a, b, v)) (hk : en_kd j = (2, n)) (hx : en_rd n (σ j g i) x = some w) (k : en_W G d mc ms μ r cs' ρ' σ' bc bs nx ls (.inl w :: st) cs ρ σ) : en_W G d mc ms μ r cs' ρ' σ' bc bs pc ls (.inl x :: .inr (.inl (some (j, g, i))) :: st) cs ρ σ := by
  intro p e s m args below meth c H locs cells slots la C hS hw hbc hbs hl hst
  obtain ⟨h1, h2, h3⟩ := en_dec C hc
  simp only [en_gd, Bool.and_eq_true, beq_iff_eq, decide_eq_true_eq] at h3
  obtain ⟨-, rfl⟩ := h3
  subst h2
  obtain ⟨hi, rfl⟩ := en_rd_at hx
  obtain ⟨q0, hq0⟩ := List.getElem?_of_mem (en_okr (en_oks_t hst))
  have he := en_wl_at (G := G) (ρ := ρ) (σ := σ) hq0
  rw [en_ent_b hk] at he
  exact va_bald C.1 C.2.1 C.2.2.2.2.2.2.2.2.2.1.1 hw.1 q0 1 he rfl (en_inb_vp hi) h1 (k p e s m args below meth c H locs cells slots la C hS hw hbc hbs hl (en_oks_c en_ok_i (en_oks_t (en_oks_t hst))))
theorem en_s_iast {j g i n : Nat} {x w : Int32} {σ1 : en_M} (hc : μ.2.2.2.2.2.2 pc = some (.iastore, len, nx, a, b, v)) (hk : en_kd j = (1, n)) (hx : en_wa n σ j g i x w = some σ1) (k : en_W G d mc ms μ r cs' ρ' σ' bc bs nx ls st cs ρ σ1) : en_W G d mc ms μ r cs' ρ' σ' bc bs pc ls (.inl w :: .inl x :: .inr (.inl (some (j, g, i))) :: st) cs ρ σ := by
  intro p e s m args below meth c H locs cells slots la C hS hw hbc hbs hl hst
  obtain ⟨h1, h2, h3⟩ := en_dec C hc
  simp only [en_gd, Bool.and_eq_true, beq_iff_eq, decide_eq_true_eq] at h3
  obtain ⟨-, rfl⟩ := h3
  subst h2
  obtain ⟨hi, rfl⟩ := en_wa_at hx
  obtain ⟨q0, hq0⟩ := List.getElem?_of_mem (en_okr (en_oks_t (en_oks_t hst)))
  have he := en_wl_at (G := G) (ρ := ρ) (σ := σ) hq0
  rw [en_ent_i hk] at he
  refine va_iast C.1 C.2.1 C.2.2.2.2.2.2.2.2.2.1.1 hw.1 hw.2.1 hS q0 0 he rfl (en_inb_vp hi) h1 (fun H1 locs1 hP1 hD1 hS1 => ?_)
  refine k p e s m args below meth c H1 locs1 cells slots la C hS1 (en_wd_wr hw hq0 ?_) hbc hbs hl (en_oks_t (en_oks_t (en_oks_t hst)))
  rw [en_ent_i hk, en_wr_row]
  exact hP1
theorem en_s_bast {j g i n : Nat} {x w : Int32} {σ1 : en_M} (hc : μ.2.2.2.2.2.2 pc = some (.bastore, len, nx, a, b, v)) (hk : en_kd j = (2, n)) (hx : en_wa n σ j g i x w.toInt8.toInt32 = some σ1) (k : en_W G d mc ms μ r cs' ρ' σ' bc bs nx ls st cs ρ σ1) : en_W G d mc ms μ r cs' ρ' σ' bc bs pc ls (.inl w :: .inl x :: .inr (.inl (some (j, g, i))) :: st) cs ρ σ := by
  intro p e s m args below meth c H locs cells slots la C hS hw hbc hbs hl hst
  obtain ⟨h1, h2, h3⟩ := en_dec C hc
  simp only [en_gd, Bool.and_eq_true, beq_iff_eq, decide_eq_true_eq] at h3
  obtain ⟨-, rfl⟩ := h3
  subst h2
  obtain ⟨hi, rfl⟩ := en_wa_at hx
  obtain ⟨q0, hq0⟩ := List.getElem?_of_mem (en_okr (en_oks_t (en_oks_t hst)))
  have he := en_wl_at (G := G) (ρ := ρ) (σ := σ) hq0
  rw [en_ent_b hk] at he
  refine va_bast C.1 C.2.1 C.2.2.2.2.2.2.2.2.2.1.1 hw.1 hw.2.1 hS q0 1 he rfl (en_inb_vp hi) h1 (fun H1 locs1 hP1 hD1 hS1 => ?_)
  refine k p e s m args below meth c H1 locs1 cells slots la C hS1 (en_wd_wr hw hq0 ?_) hbc hbs hl (en_oks_t (en_oks_t (en_oks_t hst)))
  rw [en_ent_b hk, en_wr_row]
  exact hP1
theorem en_s_lald {j g i n : Nat} {x w : Int32} (hc : μ.2.2.2.2.2.2 pc = some (.laload, len, nx, a, b, v)) (hk : en_kd j = (3, n)) (hx : en_rd n (σ j g i) x = some w) (k : en_W G d mc ms μ r cs' ρ' σ' bc bs nx ls (.inr (.inr (.inl w)) :: st) cs ρ σ) : en_W G d mc ms μ r cs' ρ' σ' bc bs pc ls (.inl x :: .inr (.inl (some (j, g, i))) :: st) cs ρ σ := by
  intro p e s m args below meth c H locs cells slots la C hS hw hbc hbs hl hst
  obtain ⟨h1, h2, h3⟩ := en_dec C hc
  simp only [en_gd, Bool.and_eq_true, beq_iff_eq, decide_eq_true_eq] at h3
  obtain ⟨-, rfl⟩ := h3
  subst h2
  obtain ⟨hi, rfl⟩ := en_rd_at hx
  obtain ⟨q0, hq0⟩ := List.getElem?_of_mem (en_okr (en_oks_t hst))
  have he := en_wl_at (G := G) (ρ := ρ) (σ := σ) hq0
  rw [en_ent_l hk] at he
  exact va_lald C.1 C.2.1 C.2.2.2.2.2.2.2.2.2.1.1 hw.1 q0 2 he rfl (en_inb_vp hi) h1 (k p e s m args below meth c H locs cells slots la C hS hw hbc hbs hl (en_oks_c en_ok_j (en_oks_t (en_oks_t hst))))
theorem en_s_last {j g i n : Nat} {x w : Int32} {σ1 : en_M} (hc : μ.2.2.2.2.2.2 pc = some (.lastore, len, nx, a, b, v)) (hk : en_kd j = (3, n)) (hx : en_wa n σ j g i x w = some σ1) (k : en_W G d mc ms μ r cs' ρ' σ' bc bs nx ls st cs ρ σ1) : en_W G d mc ms μ r cs' ρ' σ' bc bs pc ls (.inr (.inr (.inl w)) :: .inl x :: .inr (.inl (some (j, g, i))) :: st) cs ρ σ := by
  intro p e s m args below meth c H locs cells slots la C hS hw hbc hbs hl hst
  obtain ⟨h1, h2, h3⟩ := en_dec C hc
  simp only [en_gd, Bool.and_eq_true, beq_iff_eq, decide_eq_true_eq] at h3
  obtain ⟨-, rfl⟩ := h3
  subst h2
  obtain ⟨hi, rfl⟩ := en_wa_at hx
  obtain ⟨q0, hq0⟩ := List.getElem?_of_mem (en_okr (en_oks_t (en_oks_t hst)))
  have he := en_wl_at (G := G) (ρ := ρ) (σ := σ) hq0
  rw [en_ent_l hk] at he
  refine va_last C.1 C.2.1 C.2.2.2.2.2.2.2.2.2.1.1 hw.1 hw.2.1 hS q0 2 he rfl (en_inb_vp hi) h1 (fun H1 locs1 hP1 hD1 hS1 => ?_)
  refine k p e s m args below meth c H1 locs1 cells slots la C hS1 (en_wd_wr hw hq0 ?_) hbc hbs hl (en_oks_t (en_oks_t (en_oks_t hst)))
  rw [en_ent_l hk, en_wr_row]
  have e1 : (fun k => (upd (σ j g i) x.toNatClampNeg w k).toInt64) = vp_updL (fun k => (σ j g i k).toInt64) x.toNatClampNeg w.toInt64 := by
    funext k'
    simp only [upd, vp_updL]
    split <;> rfl
  rw [e1]
  exact hP1
theorem en_tr_rf {G : en_G} {w : Option en_A} : en_tr G (.inr (.inl w)) = va_rf (w.map G.2.2.2.1) := by
  cases w <;> rfl
def en_rr (n : Nat) (f : Nat → Option en_A) (x : Int32) : Option (Option en_A) := if en_inb x n then some (f x.toNatClampNeg) else none
theorem en_rr_at {n : Nat} {f : Nat → Option en_A} {x : Int32} {w : Option en_A} (h : en_rr n f x = some w) : en_inb x n = true ∧ f x.toNatClampNeg = w := by
  simp only [en_rr] at h
  split at h
  · rename_i hi
    exact ⟨hi, Option.some.inj h⟩
  · cases h
theorem en_s_aald {j g i n t : Nat} {C0 : String} {x : Int32} {w : Option en_A} (hc : μ.2.2.2.2.2.2 pc = some (.aaload, len, nx, a, b, v)) (hk : en_kd j = (t + 4, n)) (ht : ∀ G : en_G, (en_tys G)[t + 3]? = some (G.2.2.1 (t + 4), .object C0)) (hx : en_inb x n = true) (hr : ρ j g i x.toNatClampNeg = w) (k : en_W G d mc ms μ r cs' ρ' σ' bc bs nx ls (.inr (.inl w) :: st) cs ρ σ) : en_W G d mc ms μ r cs' ρ' σ' bc bs pc ls (.inl x :: .inr (.inl (some (j, g, i))) :: st) cs ρ σ := by
  intro p e s m args below meth c H locs cells slots la C hS hw hbc hbs hl hst
  obtain ⟨h1, h2, h3⟩ := en_dec C hc
  simp only [en_gd, Bool.and_eq_true, beq_iff_eq, decide_eq_true_eq] at h3
  obtain ⟨-, rfl⟩ := h3
  subst h2 hr
  have hin := en_okr (en_oks_t hst)
  obtain ⟨q0, hq0⟩ := List.getElem?_of_mem hin
  have he := en_wl_at (G := G) (ρ := ρ) (σ := σ) hq0
  rw [en_ent_r hk] at he
  refine va_aldq C.1 C.2.1 C.2.2.2.2.2.2.2.2.2.1.1 hw.1 q0 (t + 3) he (ht G) (en_inb_vp hx) h1 ?_
  rw [← en_tr_rf]
  exact k p e s m args below meth c H locs cells slots la C hS hw hbc hbs hl (en_oks_c (fun c0 h0 => hw.2.2 _ hin x.toNatClampNeg c0 (by simp only [en_inb, Bool.and_eq_true, decide_eq_true_eq] at hx; simp only [en_bd, hk]; rw [if_neg (by omega)]; exact hx.2) (by simpa using h0)) (en_oks_t (en_oks_t hst)))
theorem en_s_alen {j g i t n : Nat} {x : Int32} (hc : μ.2.2.2.2.2.2 pc = some (.arraylength, len, nx, a, b, v)) (hk : en_kd j = (t, n)) (ht : t = 1) (hx : Int32.ofNat n = x) (k : en_W G d mc ms μ r cs' ρ' σ' bc bs nx ls (.inl x :: st) cs ρ σ) : en_W G d mc ms μ r cs' ρ' σ' bc bs pc ls (.inr (.inl (some (j, g, i))) :: st) cs ρ σ := by
  intro p e s m args below meth c H locs cells slots la C hS hw hbc hbs hl hst
  obtain ⟨h1, h2, h3⟩ := en_dec C hc
  simp only [en_gd, Bool.and_eq_true, beq_iff_eq, decide_eq_true_eq] at h3
  obtain ⟨-, rfl⟩ := h3
  subst h2 ht
  obtain ⟨q0, hq0⟩ := List.getElem?_of_mem (en_okr hst)
  have he := en_wl_at (G := G) (ρ := ρ) (σ := σ) hq0
  rw [en_ent_i hk] at he
  exact va_alen C.1 C.2.1 C.2.2.2.2.2.2.2.2.2.1.1 hw.1 q0 0 he rfl hx h1 (k p e s m args below meth c H locs cells slots la C hS hw hbc hbs hl (en_oks_c en_ok_i (en_oks_t hst)))
end en_mem

/-! The engine's rows: rows of cells, references that are put, constructors that are called. -/
def en_gz (G : en_G) (o : Option Nat) : en_G := (G.1, G.2.1, G.2.2.1, G.2.2.2.1, G.2.2.2.2.1, G.2.2.2.2.2.1, G.2.2.2.2.2.2.1, G.2.2.2.2.2.2.2.1, o)
section en_ct2
variable {G : en_G} {d mc ms : Nat} {μ : en_D} {r : en_P} {cs cs' : List en_A} {ρ ρ' ρ1 : en_R} {σ σ' σ1 : en_M} {bc bs pc len nx a b z : Nat} {v : Int32} {ls ls' : List (Option en_V)} {st : List en_V}
theorem en_dec_newa {p : Program} {s : State} {m : MethodId} {args : Array Value} {meth : Method} {c : Code} {ty : ArrayType} (C : en_cx G μ p s m args meth c) (hc : μ.2.2.2.2.2.2 pc = some (.newarray ty, len, nx, a, b, v)) : decode μ.2.1 pc = .ok (.newarray ty, 2) ∧ nx = pc + 2 := by
  obtain ⟨h1, h2, h3⟩ := en_dec C hc
  simp only [en_gd, Bool.and_eq_true, beq_iff_eq, decide_eq_true_eq] at h3
  obtain ⟨-, rfl⟩ := h3
  exact ⟨h1, h2⟩
theorem en_dec_anew {p : Program} {s : State} {m : MethodId} {args : Array Value} {meth : Method} {c : Code} {idx : Nat} (C : en_cx G μ p s m args meth c) (hc : μ.2.2.2.2.2.2 pc = some (.anewarray idx, len, nx, a, b, v)) : decode μ.2.1 pc = .ok (.anewarray idx, 3) ∧ nx = pc + 3 := by
  obtain ⟨h1, h2, h3⟩ := en_dec C hc
  simp only [en_gd, Bool.and_eq_true, beq_iff_eq, decide_eq_true_eq] at h3
  obtain ⟨-, rfl⟩ := h3
  exact ⟨h1, h2⟩
theorem en_up0 {c0 : en_A} (hn : en_nxt G mc bc z cs c0) (hup : en_up G z) : en_up G (G.2.2.2.1 c0) := by
  have h9 : G.2.2.2.2.2.1 ≤ z := hup
  show G.2.2.2.2.2.1 ≤ _
  rw [hn.2.1]
  exact Nat.le_trans h9 (Nat.le_add_right _ _)
theorem en_k_newa {ty : ArrayType} {n : Nat} {x : Int32} {c0 : en_A} (hn : en_nxt G mc bc z cs c0) (hup : en_up G z) (hc : μ.2.2.2.2.2.2 pc = some (.newarray ty, len, nx, a, b, v)) (ha : Cond.arrayClass (newarray.typeOf ty) ∈ en_tw) (hx : x.toNatClampNeg = n) (hx0 : decide (x < 0) = false) (hby : n * componentBytes (newarray.typeOf ty) ≤ 536870912) (hr : ∀ k, ρ c0.1 c0.2.1 c0.2.2 k = none)
    (hat : ∀ (s : State) (H1 : Heap) (cA : ClassId), va_K G.2.1 en_cl (en_tys G) s → s.vm.findClass ("[" ++ (newarray.typeOf ty).toString) = some cA → H1[G.2.2.2.1 c0]? = some (arrV cA n (fun _ => defaultValue (newarray.typeOf ty))) → va_at G.2.1 en_cl (G.2.2.2.1 c0, en_ent G ρ σ c0) H1)
    (k : en_W G d mc ms μ r cs' ρ' σ' bc bs nx ls (.inr (.inl (some c0)) :: st) (cs ++ [c0]) ρ σ) : en_W G d mc ms μ r cs' ρ' σ' (bc + 1) (bs + n) pc ls (.inl x :: st) cs ρ σ := by
  intro p e s m args below meth c H locs cells slots la C hS hw hbc hbs hl hst
  obtain ⟨h1, h2⟩ := en_dec_newa C hc
  have w1 := C.2.2.2.2.1 _ ha
  have hup0 := en_up0 hn hup
  have hsub : ∀ c ∈ cs, c ∈ cs ++ [c0] := fun c hc => List.mem_append_left _ hc
  have k1 : cells + 1 ≤ mc := by omega
  have k2 : slots + n ≤ ms := by omega
  have k3 : cells + 1 + bc ≤ mc := by omega
  have k4 : slots + n + bs ≤ ms := by omega
  have key : H.size = G.2.2.2.1 c0 → W p G.1 e (en_rm d mc ms) s m args below meth c H locs cells slots (vx_MQ below (en_Q G r cs' ρ' σ') (en_X G r cs' ρ' σ') args s mc ms (en_up G)) (F0 m pc la ((.inl x :: st).map (en_tr G))) := by
    intro hc0
    refine va_newaK C.1 C.2.1 w1 rfl h1 rfl (by simpa using hx0) hx hby k1 k2 hc0 (fun H1 cA e1 z1 o1 hAr hNm => ?_)
    rw [← hc0] at z1 o1
    have hwd : en_wd G (cs ++ [c0]) ρ σ H1 := en_grow hw hc0 hup0 o1 hr (hat s H1 cA C.2.2.2.2.2.2.2.2.2.1.1 hNm e1)
    rw [h2] at k
    have hs1 : s.heap.size ≤ H1.size := Nat.le_trans hS.1 (by rw [z1]; exact Nat.le_succ _)
    exact k p e s m args below meth c H1 locs (cells + 1) (slots + n) la C ⟨hs1, fun x h1 h2 => (o1 x (Nat.lt_of_lt_of_le h1 hS.1)).trans (hS.2.1 x h1 h2), hS.2.2⟩ hwd k3 k4 (en_ls_mono hsub hl) (en_oks_c (en_ok_r (List.mem_append_right _ (List.mem_singleton.mpr rfl))) (en_oks_mono hsub (en_oks_t hst)))
  intro T hT X
  exact key (en_top hn C hS hw hbc hT X) T hT X
theorem en_at_i {j g i n : Nat} {s : State} {H1 : Heap} {cA : ClassId} (hk : en_kd j = (1, n)) (h0 : ∀ k, σ j g i k = 0) (hK : va_K G.2.1 en_cl (en_tys G) s) (hN : s.vm.findClass ("[" ++ FieldType.int.toString) = some cA) (e1 : H1[G.2.2.2.1 (j, g, i)]? = some (arrV cA n (fun _ => .int 0))) : va_at G.2.1 en_cl (G.2.2.2.1 (j, g, i), en_ent G ρ σ (j, g, i)) H1 := by
  rw [en_ent_i hk]
  have h1 : s.vm.findClass ("[" ++ FieldType.int.toString) = some (G.2.2.1 1) := (hK.2 0 _ rfl).2
  cases Option.some.inj (h1.symm.trans hN)
  show H1[_]? = some (vp_cell _ _)
  rw [vp_cell_i, e1]
  simp only [h0]
theorem en_at_b {j g i n : Nat} {s : State} {H1 : Heap} {cA : ClassId} (hk : en_kd j = (2, n)) (h0 : ∀ k, σ j g i k = 0) (hK : va_K G.2.1 en_cl (en_tys G) s) (hN : s.vm.findClass ("[" ++ FieldType.byte.toString) = some cA) (e1 : H1[G.2.2.2.1 (j, g, i)]? = some (arrV cA n (fun _ => .int 0))) : va_at G.2.1 en_cl (G.2.2.2.1 (j, g, i), en_ent G ρ σ (j, g, i)) H1 := by
  rw [en_ent_b hk]
  have h1 : s.vm.findClass ("[" ++ FieldType.byte.toString) = some (G.2.2.1 2) := (hK.2 1 _ rfl).2
  cases Option.some.inj (h1.symm.trans hN)
  show H1[_]? = some (vp_cell _ _)
  rw [vp_cell_i, e1]
  simp only [h0]
theorem en_at_l {j g i n : Nat} {s : State} {H1 : Heap} {cA : ClassId} (hk : en_kd j = (3, n)) (h0 : ∀ k, σ j g i k = 0) (hK : va_K G.2.1 en_cl (en_tys G) s) (hN : s.vm.findClass ("[" ++ FieldType.long.toString) = some cA) (e1 : H1[G.2.2.2.1 (j, g, i)]? = some (arrV cA n (fun _ => .long 0))) : va_at G.2.1 en_cl (G.2.2.2.1 (j, g, i), en_ent G ρ σ (j, g, i)) H1 := by
  rw [en_ent_l hk]
  have h1 : s.vm.findClass ("[" ++ FieldType.long.toString) = some (G.2.2.1 3) := (hK.2 2 _ rfl).2
  cases Option.some.inj (h1.symm.trans hN)
  show H1[_]? = some (vp_cell _ _)
  rw [vp_cell_l, e1]
  simp only [h0]
  rfl
theorem en_k_newI {n : Nat} {x : Int32} {j g i : Nat} (hn : en_nxt G mc bc z cs (j, g, i)) (hup : en_up G z) (hc : μ.2.2.2.2.2.2 pc = some (.newarray .int, len, nx, a, b, v)) (ha : Cond.arrayClass .int ∈ en_tw) (hk : en_kd j = (1, n)) (hx : x.toNatClampNeg = n) (hx0 : decide (x < 0) = false) (hby : Nat.ble (n * 4) 536870912 = true) (h0 : ∀ k, σ j g i k = 0) (hr : ∀ k, ρ j g i k = none)
    (k : en_W G d mc ms μ r cs' ρ' σ' bc bs nx ls (.inr (.inl (some (j, g, i))) :: st) (cs ++ [(j, g, i)]) ρ σ) : en_W G d mc ms μ r cs' ρ' σ' (bc + 1) (bs + n) pc ls (.inl x :: st) cs ρ σ :=
  en_k_newa hn hup hc ha hx hx0 (Nat.le_of_ble_eq_true hby) hr (fun _ _ _ hK hN e1 => en_at_i hk h0 hK hN e1) k
theorem en_k_newB {n : Nat} {x : Int32} {j g i : Nat} (hn : en_nxt G mc bc z cs (j, g, i)) (hup : en_up G z) (hc : μ.2.2.2.2.2.2 pc = some (.newarray .byte, len, nx, a, b, v)) (ha : Cond.arrayClass .byte ∈ en_tw) (hk : en_kd j = (2, n)) (hx : x.toNatClampNeg = n) (hx0 : decide (x < 0) = false) (hby : Nat.ble (n * 1) 536870912 = true) (h0 : ∀ k, σ j g i k = 0) (hr : ∀ k, ρ j g i k = none)
    (k : en_W G d mc ms μ r cs' ρ' σ' bc bs nx ls (.inr (.inl (some (j, g, i))) :: st) (cs ++ [(j, g, i)]) ρ σ) : en_W G d mc ms μ r cs' ρ' σ' (bc + 1) (bs + n) pc ls (.inl x :: st) cs ρ σ :=
  en_k_newa hn hup hc ha hx hx0 (Nat.le_of_ble_eq_true hby) hr (fun _ _ _ hK hN e1 => en_at_b hk h0 hK hN e1) k
theorem en_k_newL {n : Nat} {x : Int32} {j g i : Nat} (hn : en_nxt G mc bc z cs (j, g, i)) (hup : en_up G z) (hc : μ.2.2.2.2.2.2 pc = some (.newarray .long, len, nx, a, b, v)) (ha : Cond.arrayClass .long ∈ en_tw) (hk : en_kd j = (3, n)) (hx : x.toNatClampNeg = n) (hx0 : decide (x < 0) = false) (hby : Nat.ble (n * 8) 536870912 = true) (h0 : ∀ k, σ j g i k = 0) (hr : ∀ k, ρ j g i k = none)
    (k : en_W G d mc ms μ r cs' ρ' σ' bc bs nx ls (.inr (.inl (some (j, g, i))) :: st) (cs ++ [(j, g, i)]) ρ σ) : en_W G d mc ms μ r cs' ρ' σ' (bc + 1) (bs + n) pc ls (.inl x :: st) cs ρ σ :=
  en_k_newa hn hup hc ha hx hx0 (Nat.le_of_ble_eq_true hby) hr (fun _ _ _ hK hN e1 => en_at_l hk h0 hK hN e1) k
theorem en_at_q {j g i n t : Nat} {C0 : String} {s : State} {H1 : Heap} {cA : ClassId} (hk : en_kd j = (t + 4, n)) (hr : ∀ k, ρ j g i k = none) (ht : ∀ G : en_G, (en_tys G)[t + 3]? = some (G.2.2.1 (t + 4), .object C0)) (hK : va_K G.2.1 en_cl (en_tys G) s) (hN : s.vm.findClass ("[" ++ (FieldType.object C0).toString) = some cA) (e1 : H1[G.2.2.2.1 (j, g, i)]? = some (arrV cA n (fun _ => .null))) : va_at G.2.1 en_cl (G.2.2.2.1 (j, g, i), en_ent G ρ σ (j, g, i)) H1 := by
  rw [en_ent_r hk]
  obtain ⟨kA, comp, -, -, -, h1⟩ := (hK.2 (t + 3) _ (ht G)).2
  cases Option.some.inj (h1.symm.trans hN)
  show H1[_]? = some (vp_cell _ _)
  rw [vp_cell_q, e1]
  simp only [hr]
  rfl
theorem en_k_anew {idx n t : Nat} {C0 : String} {x : Int32} {j g i : Nat} (hn : en_nxt G mc bc z cs (j, g, i)) (hup : en_up G z) (hc : μ.2.2.2.2.2.2 pc = some (.anewarray idx, len, nx, a, b, v)) (hcl : Cond.classLink (en_own μ.2.2.2.2.1) idx C0 ∈ en_tw) (hov : ∀ (U : State) (H0 : Heap), en_fx G U H0 → va_AO C0 U) (hk : en_kd j = (t + 4, n)) (ht : ∀ G : en_G, (en_tys G)[t + 3]? = some (G.2.2.1 (t + 4), .object C0)) (hx : x.toNatClampNeg = n) (hx0 : decide (x < 0) = false) (hby : Nat.ble (n * 4) 536870912 = true) (hr : ∀ k, ρ j g i k = none)
    (k : en_W G d mc ms μ r cs' ρ' σ' bc bs nx ls (.inr (.inl (some (j, g, i))) :: st) (cs ++ [(j, g, i)]) ρ σ) : en_W G d mc ms μ r cs' ρ' σ' (bc + 1) (bs + n) pc ls (.inl x :: st) cs ρ σ := by
  intro p e s m args below meth c H locs cells slots la C hS hw hbc hbs hl hst
  obtain ⟨h1, h2⟩ := en_dec_anew C hc
  have w1 := C.2.2.2.2.1 _ hcl
  have w2 := hov s s.heap C.2.2.2.2.2.2.2.2.2.1
  have hup0 := en_up0 hn hup
  have hsub : ∀ c ∈ cs, c ∈ cs ++ [(j, g, i)] := fun c hc => List.mem_append_left _ hc
  subst hx
  have k1 : cells + 1 ≤ mc := by omega
  have k2 : slots + x.toNatClampNeg ≤ ms := by omega
  have k3 : cells + 1 + bc ≤ mc := by omega
  have k4 : slots + x.toNatClampNeg + bs ≤ ms := by omega
  have hat := fun (H1 : Heap) (cA : ClassId) hN e1 => en_at_q (G := G) (ρ := ρ) (σ := σ) (g := g) (i := i) (H1 := H1) (cA := cA) hk hr ht C.2.2.2.2.2.2.2.2.2.1.1 hN e1
  have key : H.size = G.2.2.2.1 (j, g, i) → W p G.1 e (en_rm d mc ms) s m args below meth c H locs cells slots (vx_MQ below (en_Q G r cs' ρ' σ') (en_X G r cs' ρ' σ') args s mc ms (en_up G)) (F0 m pc la ((.inl x :: st).map (en_tr G))) := by
    intro hc0
    refine W.anew C.1 C.2.1 C.2.2.2.1 w1 (va_AO.use w2) rfl h1 rfl (by simpa using hx0) (Nat.le_of_ble_eq_true hby) k1 k2 (fun cA kA comp f1 f2 f3 f4 => ?_)
    generalize hH1 : H.push ({ cls := cA, slots := Array.replicate x.toNatClampNeg .null, vm := .none } : Cell) = H1
    have z1 : H1.size = H.size + 1 := by rw [← hH1, Array.size_push]
    have e1 : H1[H.size]? = some (arrV cA x.toNatClampNeg (fun _ => .null)) := by rw [← hH1, Array.getElem?_push_size, ← arrV_new]
    have o1 : ∀ q : Nat, q < H.size → H1[q]? = H[q]? := fun q hq => by rw [← hH1, Array.getElem?_push, if_neg (Nat.ne_of_lt hq)]
    rw [hc0] at e1
    have hwd : en_wd G (cs ++ [(j, g, i)]) ρ σ H1 := en_grow hw hc0 hup0 o1 hr (hat H1 cA f1 e1)
    rw [h2] at k
    have hs1 : s.heap.size ≤ H1.size := Nat.le_trans hS.1 (by rw [z1]; exact Nat.le_succ _)
    rw [hc0]
    exact k p e s m args below meth c H1 locs (cells + 1) (slots + x.toNatClampNeg) la C ⟨hs1, fun x h1 h2 => (o1 x (Nat.lt_of_lt_of_le h1 hS.1)).trans (hS.2.1 x h1 h2), hS.2.2⟩ hwd k3 k4 (en_ls_mono hsub hl) (en_oks_c (en_ok_r (List.mem_append_right _ (List.mem_singleton.mpr rfl))) (en_oks_mono hsub (en_oks_t hst)))
  intro T hT X
  exact key (en_top hn C hS hw hbc hT X) T hT X
theorem en_entR_off {j g i k : Nat} {w : Option en_A} {c' : en_A} (h : c' ≠ (j, g, i)) : en_ent G (en_wR ρ j g i k w) σ c' = en_ent G ρ σ c' := by
  obtain ⟨j', g', i'⟩ := c'
  have hn : ∀ k', en_wR ρ j g i k w j' g' i' k' = ρ j' g' i' k' := by
    intro k'
    simp only [en_wR]
    rw [if_neg]
    rintro ⟨rfl, rfl, rfl, -⟩
    exact h rfl
  have h2 : ∀ ci, en_fv G (en_wR ρ j g i k w) σ (j', g', i') ci = en_fv G ρ σ (j', g', i') ci := fun ci => funext fun k' => by simp only [en_fv, hn]
  simp only [en_ent, h2, hn]
theorem en_wd_wR {j g i x : Nat} {w : en_A} {H H1 : Heap} {q0 : Nat} (hw : en_wd G cs ρ σ H) (hq : cs[q0]? = some (j, g, i)) (hin : w ∈ cs) (hP : va_P G.2.1 en_cl ((en_wl G cs ρ σ).set q0 (G.2.2.2.1 (j, g, i), en_ent G (en_wR ρ j g i x (some w)) σ (j, g, i))) H1) : en_wd G cs (en_wR ρ j g i x (some w)) σ H1 := by
  refine ⟨?_, en_D_any hw.2.1, ?_⟩
  · rw [en_wl_set hw.2.1 hq (ρ' := en_wR ρ j g i x (some w)) (σ' := σ) (fun c' h => en_entR_off h)]
    exact hP
  · intro c hc k r0 hb0 h0
    simp only [en_wR] at h0
    split at h0
    · cases h0
      exact hin
    · exact hw.2.2 c hc k r0 hb0 h0
theorem en_fs_setR {j g i ci k n : Nat} {w : en_A} (hk : k < n) (hf : en_fk ci k = 2) : (List.range n).map (en_fv G (en_wR ρ j g i k (some w)) σ (j, g, i) ci) = ((List.range n).map (en_fv G ρ σ (j, g, i) ci)).set k (.ref (G.2.2.2.1 w)) := by
  apply List.ext_getElem?
  intro q
  by_cases hq : q = k
  · subst hq
    rw [List.getElem?_set_self (by simpa using hk), List.getElem?_map, List.getElem?_range hk]
    simp [en_fv, hf, en_wR, en_tr]
  · rw [List.getElem?_set_ne (Ne.symm hq), List.getElem?_map, List.getElem?_map]
    by_cases hn : q < n
    · rw [List.getElem?_range hn]
      simp [en_fv, en_wR, hq]
    · rw [List.getElem?_eq_none (by simpa using hn)]
      rfl
theorem en_dec_putf {p : Program} {s : State} {m : MethodId} {args : Array Value} {meth : Method} {c : Code} {idx : Nat} (C : en_cx G μ p s m args meth c) (hc : μ.2.2.2.2.2.2 pc = some (.putfield idx, len, nx, a, b, v)) : decode μ.2.1 pc = .ok (.putfield idx, 3) ∧ nx = pc + 3 ∧ (idx, a, b) ∈ en_fl μ.2.2.2.2.1 := by
  obtain ⟨h1, h2, h3⟩ := en_dec C hc
  simp only [en_gd, Bool.and_eq_true, beq_iff_eq, decide_eq_true_eq] at h3
  obtain ⟨-, rfl, h4⟩ := h3
  exact ⟨h1, h2, h4⟩
theorem en_k_putR {idx j g i : Nat} {w : en_A} (hρ : en_wR ρ j g i b (some w) = ρ1) (hc : μ.2.2.2.2.2.2 pc = some (.putfield idx, len, nx, a, b, v)) (hk : en_kd j = (0, a)) (hf : (en_cl[a]?).map (fun q => ((q.2.1 b).1, (q.2.1 b).2.2.2)) = some (en_own μ.2.2.2.2.1, true)) (hi : μ.1.name = "<init>") (hnr : ∀ x, narrow (en_ty a b) (.ref x) = .ref x) (hft : ∀ x, fits (en_ty a b) (.ref x) = true) (hf2 : (en_fk a b == 2) = true)
    (k : en_W G d mc ms μ r cs' ρ' σ' bc bs nx ls st cs ρ1 σ) : en_W G d mc ms μ r cs' ρ' σ' bc bs pc ls (.inr (.inl (some w)) :: .inr (.inl (some (j, g, i))) :: st) cs ρ σ := by
  intro p e s m args below meth c H locs cells slots la C hS hw hbc hbs hl hst
  obtain ⟨h1, h2, h4⟩ := en_dec_putf C hc
  rw [h2] at k
  rw [← hρ] at k
  obtain ⟨q, hq1, hq2, hq3⟩ := en_fw_eq h4
  obtain ⟨q0, hq0⟩ := List.getElem?_of_mem (en_okr (en_oks_t hst))
  have he := en_wl_at (G := G) (ρ := ρ) (σ := σ) hq0
  rw [en_ent_o hk] at he
  rw [hq1] at hf
  have hf3 := Prod.mk.inj (Option.some.inj hf)
  have hf' : en_fk a b = 2 := by simpa using hf2
  refine va_putF (C := q.1) (T := q.2.1) (N := q.2.2) (ci := a) (ty := en_ty a b) (v := .ref (G.2.2.2.1 w)) C.1 C.2.1 C.2.2.2.2.1 (en_lay a q hq1) (en_ty a) (en_ty_ok a q hq1) (en_nm a q hq1) C.2.2.2.1 C.2.2.2.2.2.2.2.2.2.1.1 hw.1 hw.2.1 hS q0 he hq1 b hq2 (C.2.2.2.2.1 _ hq3) (fun _ h => h) hf3.2 (by rw [C.2.2.2.2.2.2.2.1]; exact hi) hf3.1 (en_ty_ok a q hq1 b hq2) (hnr _) (hft _) (by rw [List.length_map, List.length_range, en_nf_ok a q hq1]; exact hq2) h1 (fun H1 locs1 hP1 hD1 hS1 => ?_)
  refine k p e s m args below meth c H1 locs1 cells slots la C hS1 (en_wd_wR hw hq0 (en_okr hst) ?_) hbc hbs hl (en_oks_t (en_oks_t hst))
  rw [en_ent_o hk, en_fs_setR (by rw [en_nf_ok a q hq1]; exact hq2) hf']
  exact hP1
theorem en_k_aast {j g i n t ci : Nat} {w : en_A} {x : Int32} {q : vw_C} (hρ : en_wR ρ j g i x.toNatClampNeg (some w) = ρ1) (hc : μ.2.2.2.2.2.2 pc = some (.aastore, len, nx, a, b, v)) (hk : en_kd j = (t + 4, n)) (hkw : en_kd w.1 = (0, ci)) (hq : en_cl[ci]? = some q) (ht : ∀ G : en_G, (en_tys G)[t + 3]? = some (G.2.2.1 (t + 4), .object q.1)) (hx : en_inb x n = true)
    (k : en_W G d mc ms μ r cs' ρ' σ' bc bs nx ls st cs ρ1 σ) : en_W G d mc ms μ r cs' ρ' σ' bc bs pc ls (.inr (.inl (some w)) :: .inl x :: .inr (.inl (some (j, g, i))) :: st) cs ρ σ := by
  intro p e s m args below meth c H locs cells slots la C hS hw hbc hbs hl hst
  have hd : decode μ.2.1 pc = .ok (.aastore, 1) ∧ nx = pc + 1 := by
    obtain ⟨h1, h2, h3⟩ := en_dec C hc
    simp only [en_gd, Bool.and_eq_true, beq_iff_eq, decide_eq_true_eq] at h3
    obtain ⟨-, h4⟩ := h3
    rw [h4] at h1 h2
    exact ⟨h1, h2⟩
  rw [hd.2] at k
  rw [← hρ] at k
  obtain ⟨q0, hq0⟩ := List.getElem?_of_mem (en_okr (en_oks_t (en_oks_t hst)))
  have he := en_wl_at (G := G) (ρ := ρ) (σ := σ) hq0
  rw [en_ent_r hk] at he
  obtain ⟨qk, hqk⟩ := List.getElem?_of_mem (en_okr hst)
  have hev := en_wl_at (G := G) (ρ := ρ) (σ := σ) hqk
  obtain ⟨jw, gw, iw⟩ := w
  rw [en_ent_o hkw] at hev
  refine va_astq (r := q) C.1 C.2.1 C.2.2.2.2.2.2.2.2.2.1.1 hw.1 hw.2.1 hS q0 (t + 3) qk ci he (ht G) hev hq (en_inb_vp hx) hd.1 (fun H1 locs1 hP1 hD1 hS1 => ?_)
  refine k p e s m args below meth c H1 locs1 cells slots la C hS1 (en_wd_wR hw hq0 (en_okr hst) ?_) hbc hbs hl (en_oks_t (en_oks_t (en_oks_t hst)))
  rw [en_ent_r hk]
  have e9 : (fun k => (en_wR ρ j g i x.toNatClampNeg (some (jw, gw, iw)) j g i k).map G.2.2.2.1) = va_up (fun k => (ρ j g i k).map G.2.2.2.1) x.toNatClampNeg (some (G.2.2.2.1 (jw, gw, iw))) := by
    funext k'
    simp only [en_wR, va_up, true_and]
    split <;> rfl
  rw [e9]
  exact hP1
/-- how large the heap is: all that this method made, and no more -/
def en_atz (G : en_G) (mc bc z : Nat) (cs : List en_A) : Prop := G.2.2.2.2.2.2.2.2 = some z ∧ (mc = bc ∨ ∃ c' ∈ cs, G.2.2.2.1 c' + 1 = z + (mc - bc))
theorem en_topz {p : Program} {e : Env} {R : Room} {s : State} {m : MethodId} {args : Array Value} {below : List Frame} {meth : Method} {c : Code} {T : State} {H : Heap} {locs : List Loc} {cells slots : Nat} (hn : en_atz G mc bc z cs) (C : en_cx G μ p s m args meth c) (hS : va_S (en_up G) s.heap H locs) (hw : en_wd G cs ρ σ H) (hbc : cells + bc ≤ mc) (hT : T.heap = H) (X : Stand p G.1 e R s m args below meth c T locs cells slots) : H.size = z + (mc - bc) := by
  obtain ⟨h1, h3⟩ := hn
  have hz := C.2.2.2.2.2.2.2.2.2.2.2 z h1
  have hi : H.size ≤ s.heap.size + cells := by
    rw [← hT]
    exact X.same.2.2.1
  rcases h3 with h3 | ⟨c', hm, he⟩
  · have := hS.1
    omega
  · obtain ⟨q0, hq0⟩ := List.getElem?_of_mem hm
    have hl : G.2.2.2.1 c' < H.size := (hw.1 q0 _ (en_wl_at hq0)).lt
    omega
theorem en_prez {s : State} {H : Heap} {locs : List Loc} {as : List en_V} {zz : Nat} (hz : H.size = zz) (hfx : en_fx G s s.heap) (hS : va_S (en_up G) s.heap H locs) (hw : en_wd G cs ρ σ H) : PreS s H (va_Pc (as.map (en_tr G)) (en_st (en_gz G (some zz)) cs ρ σ)) (as.map (en_tr G)) :=
  ⟨fun a U g mk h => ⟨h.1, en_fx_same rfl h.2.1, h.2.2⟩, fun U hU hW => ⟨rfl, by rw [hU]; exact en_fx_warm hW hS hfx, by rw [hU]; exact hw, fun n hn => by rw [hU, hz]; exact Option.some.inj hn⟩⟩
theorem en_dec_isp {p : Program} {s : State} {m : MethodId} {args : Array Value} {meth : Method} {c : Code} {idx : Nat} (C : en_cx G μ p s m args meth c) (hc : μ.2.2.2.2.2.2 pc = some (.invokespecial idx, len, nx, a, b, v)) : decode μ.2.1 pc = .ok (.invokespecial idx, 3) ∧ nx = pc + 3 := by
  obtain ⟨h1, h2, h3⟩ := en_dec C hc
  simp only [en_gd, Bool.and_eq_true, beq_iff_eq, decide_eq_true_eq] at h3
  obtain ⟨-, h4⟩ := h3
  rw [h4] at h1 h2
  exact ⟨h1, h2⟩
/-- a constructor without arguments is called -/
theorem en_k_init {μ' : en_D} {c0 : en_A} {d' mc' ms' bc' bs' idx : Nat} {cs1 : List en_A} (hz : en_atz G mc bc z cs) (hc : μ.2.2.2.2.2.2 pc = some (.invokespecial idx, len, nx, a, b, v)) (hM : en_Mt (en_gz G (some (z + (mc - bc)))) d' mc' ms' μ' [.inr (.inl (some c0))] cs ρ σ (.inr none) cs1 ρ1 σ1) (hlk : Cond.methodLink (en_own μ.2.2.2.2.1) idx μ'.1 ∈ en_tw ∨ ∃ host, Cond.methodLinkNest (en_own μ.2.2.2.2.1) idx μ'.1 host ∈ en_nest) (hmv : en_mi μ' 0) (hcat : Nat.ble (st.map en_cat).sum 8 = true) (hsub : ∀ c ∈ cs, c ∈ cs1) (hbc : mc' + bc' ≤ bc) (hbs : ms' + bs' ≤ bs)
    (k : en_W G (d' + 1) mc ms μ r cs' ρ' σ' bc' bs' nx ls st cs1 ρ1 σ1) : en_W G (d' + 1) mc ms μ r cs' ρ' σ' bc bs pc ls (.inr (.inl (some c0)) :: st) cs ρ σ := by
  intro p e s m args below meth c H locs cells slots la C hS hw hbc0 hbs0 hl hok
  obtain ⟨h1, h2⟩ := en_dec_isp C hc
  rw [h2] at k
  obtain ⟨v1, v2, v4, v5, v6, v7, v8, v9, v10⟩ := hmv
  have hoka : en_oks cs [.inr (.inl (some c0))] := en_oks_c (en_oks_h hok) en_oks_nil
  have w2 := C.2.2.2.2.1 _ v2
  have w4 := C.2.2.2.2.1 _ v4
  have hM0 := en_Met0 hM hoka
  have hg5 := en_gin v5
  rw [en_cw_0 v1, v10] at hM0 hg5
  have k1 : cells + mc' ≤ mc := by omega
  have k2 : slots + ms' ≤ ms := by omega
  have k3 : cells + mc' + bc' ≤ mc := by omega
  have k4 : slots + ms' + bs' ≤ ms := by omega
  have key : H.size = z + (mc - bc) → W p G.1 e (en_rm (d' + 1) mc ms) s m args below meth c H locs cells slots (vx_MQ below (en_Q G r cs' ρ' σ') (en_X G r cs' ρ' σ') args s mc ms (en_up G)) (F0 m pc la ((.inr (.inl (some c0)) :: st).map (en_tr G))) := by
    intro hHz
    have hpre := en_prez (as := [.inr (.inl (some c0))]) hHz C.2.2.2.2.2.2.2.2.2.1 hS hw
    have hrun : va_Run p G.1 e (en_rm (d' + 1) mc ms) s m args below meth c H locs cells slots mc' ms' (F0 m pc la ((.inr (.inl (some c0)) :: st).map (en_tr G))) (st.map (en_tr G)) (en_Q G (.inr none) cs1 ρ1 σ1 (Value.ref (G.2.2.2.1 c0) :: ([] : List Value)).toArray) (en_up G) := by
      rcases hlk with hlk | ⟨host, hlk⟩
      · exact va_runI (bytes := μ'.2.1) (maxL := μ'.2.2.1) (As := []) (n := 0) (Ts := en_tw) (own := en_own μ.2.2.2.2.1) (cc := μ.2.1) (nL := μ.2.2.1) (b := G.2.2.2.1 c0) ⟨C.1, C.2.1, C.2.2.1, C.2.2.2.1, C.2.2.2.2.1⟩ hM0 ⟨callB_of 0 C.2.2.2.2.1 hg5 rfl rfl rfl w4 (C.2.2.2.2.1 _ hlk) ⟨v6.1, v6.2, v7⟩ (en_room v8), v9, w2⟩ hpre rfl rfl (en_lsz hl) rfl (lv_room (en_cat_sum hcat)) h1 ⟨k1, k2⟩
      · exact va_runIN (bytes := μ'.2.1) (maxL := μ'.2.2.1) (As := []) (n := 0) (Ts := en_tw) (own := en_own μ.2.2.2.2.1) (cc := μ.2.1) (nL := μ.2.2.1) (host := host) (b := G.2.2.2.1 c0) ⟨C.1, C.2.1, C.2.2.1, C.2.2.2.1, C.2.2.2.2.1⟩ hM0 ⟨va_cnB 0 C.2.2.2.2.1 hg5 rfl rfl rfl (C.2.2.2.2.2.2.2.2.2.1.2.1 _ _ _ _ hlk) w4 ⟨v6.1, v6.2, v7⟩ (en_room v8), v9, w2⟩ hpre rfl rfl (en_lsz hl) rfl (lv_room (en_cat_sum hcat)) h1 ⟨k1, k2⟩
    refine en_aft0 hrun hS (fun H1 locs1 hS1 hw1 hok1 => ?_)
    exact k p e s m args below meth c H1 locs1 (cells + mc') (slots + ms') la C hS1 hw1 k3 k4 (en_ls_mono hsub hl) (en_oks_mono hsub (en_oks_t hok))
  intro T hT X
  exact key (en_topz hz C hS hw hbc0 hT X) T hT X
end en_ct2

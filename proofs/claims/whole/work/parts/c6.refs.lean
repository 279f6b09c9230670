/-! The finished world: its cells, its references; both sides as they are made. -/
theorem arr_cong {cI : ClassId} {N : Nat} {f g : Nat → Value} (h : ∀ k, k < N → f k = g k) : arrV cI N f = arrV cI N g := by
  have e : (fun j : Fin N => f j.val) = fun j => g j.val := funext fun j => h j.val j.isLt
  simp only [arrV, e]
def en_isr (j k : Nat) : Bool := bif (en_kd j).1 == 0 then en_fk (en_kd j).2 k == 2 else Nat.ble 4 (en_kd j).1
theorem en_refs0 {G : en_G} {cs : List en_A} {ρ ρ2 : en_R} {σ : en_M} {H : Heap} (h : ∀ c ∈ cs, ∀ k, k < en_bd c.1 → en_isr c.1 k = true → ρ c.1 c.2.1 c.2.2 k = ρ2 c.1 c.2.1 c.2.2 k) (hcl : ∀ c ∈ cs, ∀ k r, k < en_bd c.1 → ρ2 c.1 c.2.1 c.2.2 k = some r → r ∈ cs) (hw : en_wd G cs ρ σ H) : en_wd G cs ρ2 σ H := by
  refine ⟨fun q x hx => ?_, en_D_any hw.2.1, hcl⟩
  simp only [en_wl, List.getElem?_map] at hx
  cases hc : cs[q]? with
  | none => rw [hc] at hx; cases hx
  | some c =>
    rw [hc] at hx
    cases hx
    have h0 := hw.1 q _ (en_wl_at hc)
    have hm := List.mem_of_getElem? hc
    obtain ⟨j, g, i⟩ := c
    have h1 : ∀ k, k < en_bd j → en_isr j k = true → ρ j g i k = ρ2 j g i k := h (j, g, i) hm
    show va_at G.2.1 en_cl (G.2.2.2.1 (j, g, i), en_ent G ρ2 σ (j, g, i)) H
    obtain ⟨⟨t, n⟩, hk⟩ : ∃ z, en_kd j = z := ⟨_, rfl⟩
    have hb : en_bd j = if t = 0 then en_nf n else n := by simp only [en_bd, hk]
    have hr : ∀ k, en_isr j k = bif t == 0 then en_fk n k == 2 else Nat.ble 4 t := fun k => by simp only [en_isr, hk]
    match t, hk, hb, hr with
    | 0, hk, hb, hr =>
      rw [en_ent_o hk] at h0 ⊢
      have e : (List.range (en_nf n)).map (en_fv G ρ σ (j, g, i) n) = (List.range (en_nf n)).map (en_fv G ρ2 σ (j, g, i) n) := by
        apply List.map_congr_left
        intro k hk2
        simp only [en_fv]
        split
        · rename_i h2
          rw [h1 k (by rw [hb, if_pos rfl]; exact List.mem_range.mp hk2) (by rw [hr]; simp [h2])]
        · rfl
      rw [← e]
      exact h0
    | 1, hk, _, _ =>
      rw [en_ent_i hk] at h0 ⊢
      exact h0
    | 2, hk, _, _ =>
      rw [en_ent_b hk] at h0 ⊢
      exact h0
    | 3, hk, _, _ =>
      rw [en_ent_l hk] at h0 ⊢
      exact h0
    | t + 4, hk, hb, hr =>
      rw [en_ent_r hk] at h0 ⊢
      have h2 : H[G.2.2.2.1 (j, g, i)]? = some (vp_cell (G.2.2.1 (t + 4)) (n, .inr (.inr (.inr (.inr (fun k => (ρ j g i k).map G.2.2.2.1)))))) := h0
      show H[G.2.2.2.1 (j, g, i)]? = some (vp_cell (G.2.2.1 (t + 4)) (n, .inr (.inr (.inr (.inr (fun k => (ρ2 j g i k).map G.2.2.2.1))))))
      rw [h2, vp_cell_q, vp_cell_q]
      have h4 : Nat.ble 4 (t + 4) = true := Nat.ble_eq_true_of_le (by omega)
      rw [arr_cong (fun k hk2 => by rw [h1 k (by rw [hb, if_neg (by omega)]; exact hk2) (by rw [hr]; simp [h4])])]
theorem en_refs {G : en_G} {d mc ms : Nat} {μ : en_D} {r : en_P} {cs cs' : List en_A} {ρ ρ' ρ2 : en_R} {σ σ' : en_M} {bc bs pc : Nat} {ls : List (Option en_V)} {st : List en_V} (h : ∀ c ∈ cs, ∀ k, k < en_bd c.1 → en_isr c.1 k = true → ρ c.1 c.2.1 c.2.2 k = ρ2 c.1 c.2.1 c.2.2 k) (hcl : ∀ c ∈ cs, ∀ k r, k < en_bd c.1 → ρ2 c.1 c.2.1 c.2.2 k = some r → r ∈ cs) (k : en_W G d mc ms μ r cs' ρ' σ' bc bs pc ls st cs ρ2 σ) : en_W G d mc ms μ r cs' ρ' σ' bc bs pc ls st cs ρ σ := by
  intro p e s m args below meth c H locs cells slots la C hS hw hbc hbs hls hst
  exact k p e s m args below meth c H locs cells slots la C hS (en_refs0 h hcl hw) hbc hbs hls hst
/-- the cells, in the order in which they are made -/
def lw_cs : List en_A := ((([(14, 0, 0)] ++ en_ccells) ++ [(24, 0, 0)]) ++ en_mcells) ++ [(36, 0, 0)]
abbrev en_F4 : Type := Nat × Nat × Nat × Nat
def lw_eq (ρ : en_R) (f : en_F4) : Prop := ρ f.1 f.2.1 f.2.2.1 f.2.2.2 = en_rf f.1 f.2.1 f.2.2.1 f.2.2.2
def lw_Fc (g : Nat) : List en_F4 := [(0, g, 0, 0), (0, g, 0, 1), (0, g, 0, 2), (0, g, 0, 3), (0, g, 0, 4), (6, g, 0, 0), (0, g, 0, 5), (8, g, 0, 0), (8, g, 0, 1), (0, g, 0, 6), (0, g, 0, 7), (1, g, 0, 0), (1, g, 0, 1), (1, g, 0, 2), (1, g, 0, 3), (1, g, 0, 4), (1, g, 0, 5), (2, g, 0, 0), (2, g, 0, 1), (2, g, 0, 2), (2, g, 0, 3), (2, g, 0, 4), (2, g, 0, 5), (2, g, 0, 6), (2, g, 0, 7)]
theorem lw_fa {P : en_F4 → Prop} {f : en_F4} {l : List en_F4} (h : P f) (k : ∀ x ∈ l, P x) : ∀ x ∈ f :: l, P x := List.forall_mem_cons.mpr ⟨h, k⟩
theorem lw_fn {P : en_F4 → Prop} : ∀ x ∈ ([] : List en_F4), P x := fun _ h => nomatch h
theorem lw_ap {P : en_F4 → Prop} {l l' : List en_F4} (h : ∀ x ∈ l, P x) (k : ∀ x ∈ l', P x) : ∀ x ∈ l ++ l', P x := List.forall_mem_append.mpr ⟨h, k⟩
theorem lw_Fc_ok {ρ : en_R} {g : Nat} (h : en_card ρ g) : ∀ f ∈ lw_Fc g, lw_eq ρ f := by
  obtain ⟨h1, h2, h3, h4, h5, h6, h7, h8, h9, h10, h11, h12, h13, h14, h15, h16, h17, h18, h19, h20, h21, h22, h23, h24, h25⟩ := h
  exact lw_fa h1 (lw_fa h2 (lw_fa h3 (lw_fa h4 (lw_fa h5 (lw_fa h6 (lw_fa h7 (lw_fa h8 (lw_fa h9 (lw_fa h10 (lw_fa h11 (lw_fa h12 (lw_fa h13 (lw_fa h14 (lw_fa h15 (lw_fa h16 (lw_fa h17 (lw_fa h18 (lw_fa h19 (lw_fa h20 (lw_fa h21 (lw_fa h22 (lw_fa h23 (lw_fa h24 (lw_fa h25 lw_fn))))))))))))))))))))))))
def lw_Fh : List en_F4 := [(15, 0, 0, 0), (16, 0, 0, 0), (16, 0, 0, 1), (16, 0, 0, 2), (16, 0, 0, 3), (16, 0, 0, 4), (16, 0, 0, 5), (16, 0, 0, 6), (16, 0, 0, 7)] ++ (lw_Fc 3 ++ (lw_Fc 4 ++ (lw_Fc 5 ++ (lw_Fc 6 ++ (lw_Fc 7 ++ (lw_Fc 8 ++ (lw_Fc 9 ++ lw_Fc 10)))))))
theorem lw_Fh_ok {ρ : en_R} (h : en_hist ρ) : ∀ f ∈ lw_Fh, lw_eq ρ f := by
  obtain ⟨h1, h2, h3, h4, h5, h6, h7, h8, h9, c3, c4, c5, c6, c7, c8, c9, c10⟩ := h
  exact lw_ap (lw_fa h1 (lw_fa h2 (lw_fa h3 (lw_fa h4 (lw_fa h5 (lw_fa h6 (lw_fa h7 (lw_fa h8 (lw_fa h9 lw_fn))))))))) (lw_ap (lw_Fc_ok c3) (lw_ap (lw_Fc_ok c4) (lw_ap (lw_Fc_ok c5) (lw_ap (lw_Fc_ok c6) (lw_ap (lw_Fc_ok c7) (lw_ap (lw_Fc_ok c8) (lw_ap (lw_Fc_ok c9) (lw_Fc_ok c10))))))))
def lw_FA : List en_F4 := lw_Fc 0 ++ (lw_Fc 1 ++ (lw_Fc 2 ++ (lw_Fh ++ [(14, 0, 0, 0), (14, 0, 0, 1), (14, 0, 0, 2), (14, 0, 0, 3), (14, 0, 0, 4), (14, 0, 0, 5), (14, 0, 0, 6), (14, 0, 0, 7), (17, 0, 0, 0), (17, 0, 0, 1), (20, 0, 0, 0)])))
theorem lw_FA_ok {ρ : en_R} (h : en_all ρ) : ∀ f ∈ lw_FA, lw_eq ρ f := by
  obtain ⟨c0, c1, c2, ch, h1, h2, h3, h4, h5, h6, h7, h8, h9, h10, h11⟩ := h
  exact lw_ap (lw_Fc_ok c0) (lw_ap (lw_Fc_ok c1) (lw_ap (lw_Fc_ok c2) (lw_ap (lw_Fh_ok ch) (lw_fa h1 (lw_fa h2 (lw_fa h3 (lw_fa h4 (lw_fa h5 (lw_fa h6 (lw_fa h7 (lw_fa h8 (lw_fa h9 (lw_fa h10 (lw_fa h11 lw_fn))))))))))))))
def lw_FM : List en_F4 := [(24, 0, 0, 1), (24, 0, 0, 2), (24, 0, 0, 3), (24, 0, 0, 4), (24, 0, 0, 8), (24, 0, 0, 13), (24, 0, 0, 14), (24, 0, 0, 15), (24, 0, 0, 17), (24, 0, 0, 18), (24, 0, 0, 19)]
theorem lw_FM_ok {ρ : en_R} (h : en_mref ρ) : ∀ f ∈ lw_FM, lw_eq ρ f := by
  obtain ⟨h1, h2, h3, h4, h5, h6, h7, h8, h9, h10, h11⟩ := h
  exact lw_fa h1 (lw_fa h2 (lw_fa h3 (lw_fa h4 (lw_fa h5 (lw_fa h6 (lw_fa h7 (lw_fa h8 (lw_fa h9 (lw_fa h10 (lw_fa h11 lw_fn))))))))))
theorem lw_F_ok {ρ1 ρ3 : en_R} (h : en_all ρ1) (h24 : en_mref ρ3) (hρ : ∀ j g i k, j ≠ 24 → ρ3 j g i k = ρ1 j g i k) : ∀ f ∈ lw_FA ++ lw_FM, lw_eq ρ3 f := by
  have hn : ∀ f ∈ lw_FA, f.1 ≠ 24 := by decide +kernel
  refine lw_ap (fun f hf => ?_) (lw_FM_ok h24)
  have h1 := lw_FA_ok h f hf
  simp only [lw_eq] at h1 ⊢
  rw [hρ _ _ _ _ (hn f hf)]
  exact h1
def lw_b4 (x y : en_F4) : Bool := Nat.beq x.1 y.1 && Nat.beq x.2.1 y.2.1 && Nat.beq x.2.2.1 y.2.2.1 && Nat.beq x.2.2.2 y.2.2.2
theorem lw_b4_eq {x y : en_F4} (h : lw_b4 x y = true) : x = y := by
  simp only [lw_b4, Bool.and_eq_true] at h
  obtain ⟨⟨⟨h1, h2⟩, h3⟩, h4⟩ := h
  obtain ⟨a, b, c, d⟩ := x
  obtain ⟨a', b', c', d'⟩ := y
  have e1 : a = a' := Nat.eq_of_beq_eq_true h1
  have e2 : b = b' := Nat.eq_of_beq_eq_true h2
  have e3 : c = c' := Nat.eq_of_beq_eq_true h3
  have e4 : d = d' := Nat.eq_of_beq_eq_true h4
  rw [e1, e2, e3, e4]
def lw_b3 (x y : en_A) : Bool := Nat.beq x.1 y.1 && Nat.beq x.2.1 y.2.1 && Nat.beq x.2.2 y.2.2
theorem lw_b3_eq {x y : en_A} (h : lw_b3 x y = true) : x = y := by
  simp only [lw_b3, Bool.and_eq_true] at h
  obtain ⟨⟨h1, h2⟩, h3⟩ := h
  obtain ⟨a, b, c⟩ := x
  obtain ⟨a', b', c'⟩ := y
  have e1 : a = a' := Nat.eq_of_beq_eq_true h1
  have e2 : b = b' := Nat.eq_of_beq_eq_true h2
  have e3 : c = c' := Nat.eq_of_beq_eq_true h3
  rw [e1, e2, e3]
/-- no reference lies in a row of ints, bytes or longs -/
def lw_plain (j : Nat) : Bool := Nat.ble 1 (en_kd j).1 && Nat.ble (en_kd j).1 3
def lw_rng (j : Nat) : List Nat := bif lw_plain j then [] else List.range (en_bd j)
def lw_chk1 : Bool := lw_cs.all fun c => (lw_rng c.1).all fun k => !(en_isr c.1 k) || (lw_FA ++ lw_FM).any (lw_b4 (c.1, c.2.1, c.2.2, k))
def lw_chk2 : Bool := lw_cs.all fun c => (lw_rng c.1).all fun k => match en_rf c.1 c.2.1 c.2.2 k with | none => true | some r => lw_cs.any (lw_b3 r)
set_option maxRecDepth 100000 in
theorem lw_chk1_ok : lw_chk1 = true := by decide +kernel
set_option maxRecDepth 100000 in
theorem lw_chk2_ok : lw_chk2 = true := by decide +kernel
theorem lw_isr_plain {j k : Nat} (h : en_isr j k = true) : lw_plain j = false := by
  cases hp : lw_plain j with
  | false => rfl
  | true =>
    simp only [lw_plain, Bool.and_eq_true] at hp
    have h1 := Nat.le_of_ble_eq_true hp.1
    have h2 := Nat.le_of_ble_eq_true hp.2
    have h3 : ((en_kd j).1 == 0) = false := by simp; omega
    simp only [en_isr, h3, cond_false] at h
    have h4 := Nat.le_of_ble_eq_true h
    omega
theorem lw_refs {ρ : en_R} (hF : ∀ f ∈ lw_FA ++ lw_FM, lw_eq ρ f) : ∀ c ∈ lw_cs, ∀ k, k < en_bd c.1 → en_isr c.1 k = true → ρ c.1 c.2.1 c.2.2 k = en_rf c.1 c.2.1 c.2.2 k := by
  intro c hc k hk hi
  have h1 := List.all_eq_true.mp (List.all_eq_true.mp lw_chk1_ok c hc) k (by simp only [lw_rng, lw_isr_plain hi, cond_false]; exact List.mem_range.mpr hk)
  rw [hi] at h1
  simp only [Bool.not_true, Bool.false_or] at h1
  obtain ⟨f, hf, he⟩ := List.any_eq_true.mp h1
  have h2 := hF f hf
  rw [← lw_b4_eq he] at h2
  exact h2
theorem lw_rf_plain : ∀ j, j < 37 → lw_plain j = true → ∀ g i k, en_rf j g i k = none := by
  intro j hj hp g i k
  match j, hj, hp with
  | 3, _, _ => rfl
  | 4, _, _ => rfl
  | 5, _, _ => rfl
  | 7, _, _ => rfl
  | 9, _, _ => rfl
  | 10, _, _ => rfl
  | 18, _, _ => rfl
  | 19, _, _ => rfl
  | 21, _, _ => rfl
  | 22, _, _ => rfl
  | 23, _, _ => rfl
  | 25, _, _ => rfl
  | 26, _, _ => rfl
  | 27, _, _ => rfl
  | 28, _, _ => rfl
  | 29, _, _ => rfl
  | 30, _, _ => rfl
  | 31, _, _ => rfl
  | 32, _, _ => rfl
  | 33, _, _ => rfl
  | 34, _, _ => rfl
  | 35, _, _ => rfl
  | 36, _, _ => rfl
  | 0, _, hp => exact absurd hp (by decide)
  | 1, _, hp => exact absurd hp (by decide)
  | 2, _, hp => exact absurd hp (by decide)
  | 6, _, hp => exact absurd hp (by decide)
  | 8, _, hp => exact absurd hp (by decide)
  | 11, _, hp => exact absurd hp (by decide)
  | 12, _, hp => exact absurd hp (by decide)
  | 13, _, hp => exact absurd hp (by decide)
  | 14, _, hp => exact absurd hp (by decide)
  | 15, _, hp => exact absurd hp (by decide)
  | 16, _, hp => exact absurd hp (by decide)
  | 17, _, hp => exact absurd hp (by decide)
  | 20, _, hp => exact absurd hp (by decide)
  | 24, _, hp => exact absurd hp (by decide)
theorem lw_cs_lt : ∀ c ∈ lw_cs, c.1 < 37 := by decide +kernel
theorem lw_closed : ∀ c ∈ lw_cs, ∀ k r, k < en_bd c.1 → en_rf c.1 c.2.1 c.2.2 k = some r → r ∈ lw_cs := by
  intro c hc k r hk hr
  cases hp : lw_plain c.1 with
  | true =>
    rw [lw_rf_plain c.1 (lw_cs_lt c hc) hp] at hr
    cases hr
  | false =>
    have h1 := List.all_eq_true.mp (List.all_eq_true.mp lw_chk2_ok c hc) k (by simp only [lw_rng, hp, cond_false]; exact List.mem_range.mpr hk)
    rw [hr] at h1
    obtain ⟨r', hm, he⟩ := List.any_eq_true.mp h1
    rw [lw_b3_eq he]
    exact hm

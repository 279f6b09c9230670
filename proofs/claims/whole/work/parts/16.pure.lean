/-! Words in which the methods' functions are written. -/
def en_let {α β : Type} (x : α) (f : α → β) : β := f x
theorem en_let_h {α β : Type} {x : α} {f : α → β} {r : β} (h : en_let x f = r) : ∃ y, x = y ∧ f y = r := ⟨x, rfl, h⟩
def en_b1 {α γ : Type} (x : Option α) (f : α → Option γ) : Option γ := match x with | none => none | some a => f a
def en_b2 {α β γ : Type} (x : Option (α × β)) (f : α → β → Option γ) : Option γ := match x with | none => none | some (a, b) => f a b
def en_b3 {α β δ γ : Type} (x : Option (α × β × δ)) (f : α → β → δ → Option γ) : Option γ := match x with | none => none | some (a, b, c) => f a b c
def en_b4 {α β δ ε γ : Type} (x : Option (α × β × δ × ε)) (f : α → β → δ → ε → Option γ) : Option γ := match x with | none => none | some (a, b, c, e) => f a b c e
def en_b5 {α β δ ε ζ γ : Type} (x : Option (α × β × δ × ε × ζ)) (f : α → β → δ → ε → ζ → Option γ) : Option γ := match x with | none => none | some (a, b, c, e, z) => f a b c e z
theorem en_b1_h {α γ : Type} {x : Option α} {f : α → Option γ} {r : γ} (h : en_b1 x f = some r) : ∃ a, x = some a ∧ f a = some r := by
  cases x with
  | none => cases h
  | some a => exact ⟨a, rfl, h⟩
theorem en_b2_h {α β γ : Type} {x : Option (α × β)} {f : α → β → Option γ} {r : γ} (h : en_b2 x f = some r) : ∃ a b, x = some (a, b) ∧ f a b = some r := by
  cases x with
  | none => cases h
  | some a => exact ⟨a.1, a.2, rfl, h⟩
theorem en_b3_h {α β δ γ : Type} {x : Option (α × β × δ)} {f : α → β → δ → Option γ} {r : γ} (h : en_b3 x f = some r) : ∃ a b c, x = some (a, b, c) ∧ f a b c = some r := by
  cases x with
  | none => cases h
  | some a => exact ⟨a.1, a.2.1, a.2.2, rfl, h⟩
theorem en_b4_h {α β δ ε γ : Type} {x : Option (α × β × δ × ε)} {f : α → β → δ → ε → Option γ} {r : γ} (h : en_b4 x f = some r) : ∃ a b c e, x = some (a, b, c, e) ∧ f a b c e = some r := by
  cases x with
  | none => cases h
  | some a => exact ⟨a.1, a.2.1, a.2.2.1, a.2.2.2, rfl, h⟩
theorem en_b5_h {α β δ ε ζ γ : Type} {x : Option (α × β × δ × ε × ζ)} {f : α → β → δ → ε → ζ → Option γ} {r : γ} (h : en_b5 x f = some r) : ∃ a b c e z, x = some (a, b, c, e, z) ∧ f a b c e z = some r := by
  cases x with
  | none => cases h
  | some a => exact ⟨a.1, a.2.1, a.2.2.1, a.2.2.2.1, a.2.2.2.2, rfl, h⟩
/-- a loop that may return from inside: what it returns, or what it leaves behind -/
def en_rx {α β γ : Type} (x : Option (α ⊕ β)) (f : α → Option γ) (g : β → Option γ) : Option γ := match x with | none => none | some (.inl a) => f a | some (.inr b) => g b
theorem en_rx_h {α β γ : Type} {x : Option (α ⊕ β)} {f : α → Option γ} {g : β → Option γ} {r : γ} (h : en_rx x f g = some r) : (∃ a, x = some (.inl a) ∧ f a = some r) ∨ ∃ b, x = some (.inr b) ∧ g b = some r := by
  cases x with
  | none => cases h
  | some x =>
    cases x with
    | inl a => exact Or.inl ⟨a, rfl, h⟩
    | inr b => exact Or.inr ⟨b, rfl, h⟩
def en_u2 {α β γ : Type} (x : α × β) (f : α → β → Option γ) : Option γ := f x.1 x.2
def en_u3 {α β δ γ : Type} (x : α × β × δ) (f : α → β → δ → Option γ) : Option γ := f x.1 x.2.1 x.2.2
def en_fu : Nat := 100000
def en_dv (x y : Int32) : Option Int32 := if y = 0 then none else some (x / y)
def en_rm' (x y : Int32) : Option Int32 := if y = 0 then none else some (x - x / y * y)
def en_bz (x : Int32) : Option Int32 := if x = 0 ∨ x = 1 then some x else none
theorem en_dv_h {x y z : Int32} (h : en_dv x y = some z) : ¬ y = 0 ∧ x / y = z := by
  simp only [en_dv] at h
  split at h
  · cases h
  · exact ⟨by assumption, Option.some.inj h⟩
theorem en_rm_h {x y z : Int32} (h : en_rm' x y = some z) : ¬ y = 0 ∧ x - x / y * y = z := by
  simp only [en_rm'] at h
  split at h
  · cases h
  · exact ⟨by assumption, Option.some.inj h⟩
theorem en_bz_h {x z : Int32} (h : en_bz x = some z) : (x = 0 ∨ x = 1) ∧ x = z := by
  simp only [en_bz] at h
  split at h
  · exact ⟨by assumption, Option.some.inj h⟩
  · cases h
/-- the references of the finished world -/
def en_rf : en_R := fun j g i k => match j, k with
  | 0, 0 => some (1, g, 0)
  | 0, 1 => some (2, g, 0)
  | 0, 2 => some (3, g, 0)
  | 0, 3 => some (4, g, 0)
  | 0, 4 => some (5, g, 0)
  | 0, 5 => some (6, g, 0)
  | 0, 6 => some (8, g, 0)
  | 0, 7 => some (11, g, 0)
  | 1, k => some (12, g, k)
  | 2, k => some (13, g, k)
  | 6, 0 => some (7, g, 0)
  | 8, 0 => some (9, g, 0)
  | 8, 1 => some (10, g, 0)
  | 14, 0 => some (0, 0, 0)
  | 14, 1 => some (0, 1, 0)
  | 14, 2 => some (0, 2, 0)
  | 14, 3 => some (15, 0, 0)
  | 14, 4 => some (17, 0, 0)
  | 14, 5 => some (20, 0, 0)
  | 14, 6 => some (22, 0, 0)
  | 14, 7 => some (23, 0, 0)
  | 15, 0 => some (16, 0, 0)
  | 16, k => some (0, 3 + k, 0)
  | 17, 0 => some (18, 0, 0)
  | 17, 1 => some (19, 0, 0)
  | 20, 0 => some (21, 0, 0)
  | 24, 1 => some (25, 0, 0)
  | 24, 2 => some (26, 0, 0)
  | 24, 3 => some (27, 0, 0)
  | 24, 4 => some (28, 0, 0)
  | 24, 8 => some (29, 0, 0)
  | 24, 13 => some (30, 0, 0)
  | 24, 14 => some (31, 0, 0)
  | 24, 15 => some (32, 0, 0)
  | 24, 17 => some (33, 0, 0)
  | 24, 18 => some (34, 0, 0)
  | 24, 19 => some (35, 0, 0)
  | _, _ => none
section en_more
variable {G : en_G} {d mc ms : Nat} {μ : en_D} {r : en_P} {cs cs' : List en_A} {ρ ρ' : en_R} {σ σ' σ1 : en_M} {bc bs pc len nx a b : Nat} {v : Int32} {ls ls' : List (Option en_V)} {st : List en_V}
theorem en_p_putI {idx j g i : Nat} {x : Int32} (hσ : en_wr σ j g i b x = σ1) (hc : μ.2.2.2.2.2.2 pc = some (.putfield idx, len, nx, a, b, v)) (hk : en_kd j = (0, a)) (hf : (en_cl[a]?).map (fun q => (q.2.1 b).2.2.2) = some false) (ht : en_ty a b = .int) (hf2 : (en_fk a b == 2) = false) (k : en_W G d mc ms μ r cs' ρ' σ' bc bs nx ls st cs ρ σ1) : en_W G d mc ms μ r cs' ρ' σ' bc bs pc ls (.inl x :: .inr (.inl (some (j, g, i))) :: st) cs ρ σ := by
  subst hσ
  exact en_s_putI hc hk hf ht hf2 k
theorem en_p_putZ {idx j g i : Nat} {x : Int32} (hσ : en_wr σ j g i b x = σ1) (hx : x = 0 ∨ x = 1) (hc : μ.2.2.2.2.2.2 pc = some (.putfield idx, len, nx, a, b, v)) (hk : en_kd j = (0, a)) (hf : (en_cl[a]?).map (fun q => (q.2.1 b).2.2.2) = some false) (ht : en_ty a b = .boolean) (hf2 : (en_fk a b == 2) = false) (k : en_W G d mc ms μ r cs' ρ' σ' bc bs nx ls st cs ρ σ1) : en_W G d mc ms μ r cs' ρ' σ' bc bs pc ls (.inl x :: .inr (.inl (some (j, g, i))) :: st) cs ρ σ := by
  subst hσ
  exact en_s_putZ hc hk hf ht hf2 hx k
/-- a place that is a number: read, written -/
theorem en_c_iald {j g i n q : Nat} {x : Int32} (hc : μ.2.2.2.2.2.2 pc = some (.iaload, len, nx, a, b, v)) (hk : en_kd j = (1, n)) (hx : en_inb x n = true) (hq : x.toNatClampNeg = q) (k : en_W G d mc ms μ r cs' ρ' σ' bc bs nx ls (.inl (σ j g i q) :: st) cs ρ σ) : en_W G d mc ms μ r cs' ρ' σ' bc bs pc ls (.inl x :: .inr (.inl (some (j, g, i))) :: st) cs ρ σ := by
  subst hq
  exact en_s_iald hc hk (by simp only [en_rd, hx]; rfl) k
theorem en_c_iast {j g i n q : Nat} {x w : Int32} (hσ : en_wr σ j g i q w = σ1) (hc : μ.2.2.2.2.2.2 pc = some (.iastore, len, nx, a, b, v)) (hk : en_kd j = (1, n)) (hx : en_inb x n = true) (hq : x.toNatClampNeg = q) (k : en_W G d mc ms μ r cs' ρ' σ' bc bs nx ls st cs ρ σ1) : en_W G d mc ms μ r cs' ρ' σ' bc bs pc ls (.inl w :: .inl x :: .inr (.inl (some (j, g, i))) :: st) cs ρ σ := by
  subst hq hσ
  exact en_s_iast hc hk (by simp only [en_wa, hx]; rfl) k
theorem en_p_idiv {x y z : Int32} (hz : en_dv x y = some z) (hc : μ.2.2.2.2.2.2 pc = some (.idiv, len, nx, a, b, v)) (k : en_W G d mc ms μ r cs' ρ' σ' bc bs nx ls (.inl z :: st) cs ρ σ) : en_W G d mc ms μ r cs' ρ' σ' bc bs pc ls (.inl y :: .inl x :: st) cs ρ σ := by
  obtain ⟨h1, rfl⟩ := en_dv_h hz
  exact en_s_idiv hc h1 k
theorem en_p_irem {x y z : Int32} (hz : en_rm' x y = some z) (hc : μ.2.2.2.2.2.2 pc = some (.irem, len, nx, a, b, v)) (k : en_W G d mc ms μ r cs' ρ' σ' bc bs nx ls (.inl z :: st) cs ρ σ) : en_W G d mc ms μ r cs' ρ' σ' bc bs pc ls (.inl y :: .inl x :: st) cs ρ σ := by
  obtain ⟨h1, rfl⟩ := en_rm_h hz
  exact en_s_irem hc h1 k
theorem en_s_ldcI {idx : Nat} (hc : μ.2.2.2.2.2.2 pc = some (.ldc idx, len, nx, a, b, v)) (hw : Cond.constant (en_own μ.2.2.2.2.1) idx v ∈ en_tw) (k : en_W G d mc ms μ r cs' ρ' σ' bc bs nx ls (.inl v :: st) cs ρ σ) : en_W G d mc ms μ r cs' ρ' σ' bc bs pc ls st cs ρ σ := by
  intro p e s m args below meth c H locs cells slots la C hS hw0 hbc hbs hl hst
  obtain ⟨h1, h2, h3⟩ := en_dec C hc
  simp only [en_gd, Bool.and_eq_true, beq_iff_eq, decide_eq_true_eq] at h3
  obtain ⟨-, rfl⟩ := h3
  subst h2
  exact lv_ldc C.1 C.2.1 C.2.2.2.1 (C.2.2.2.2.1 _ hw) h1 (k p e s m args below meth c H locs cells slots la C hS hw0 hbc hbs hl (en_oks_c en_ok_i hst))
theorem en_s_max {idx : Nat} {x y : Int32} (hc : μ.2.2.2.2.2.2 pc = some (.invokestatic idx, len, nx, a, b, v)) (h0 : Cond.methodLink (en_own μ.2.2.2.2.1) idx Lib.Math.max.name ∈ en_tw) (hs : Cond.static Lib.Math.max.name ∈ en_tw) (hi : Cond.initialized "java/lang/Math" ∈ en_tw) (hcd : Cond.code Lib.Math.max.name Lib.Math.max.code 2 (some .int) ∈ en_tw) (hcat : Nat.ble (st.map en_cat).sum 8 = true) (k : en_W G (d + 1) mc ms μ r cs' ρ' σ' bc bs nx ls (.inl (if x < y then y else x) :: st) cs ρ σ) : en_W G (d + 1) mc ms μ r cs' ρ' σ' bc bs pc ls (.inl y :: .inl x :: st) cs ρ σ := by
  intro p e s m args below meth c H locs cells slots la C hS hw hbc hbs hl hst
  obtain ⟨h1, h2, h3⟩ := en_dec C hc
  simp only [en_gd, Bool.and_eq_true, beq_iff_eq, decide_eq_true_eq] at h3
  obtain ⟨-, rfl⟩ := h3
  subst h2
  have hcs := en_cat_sum (G := G) hcat
  exact va_mmax C.1 C.2.1 (by rw [C.2.2.1, en_lsz hl]) C.2.2.2.1 (C.2.2.2.2.1 _ h0) (C.2.2.2.2.1 _ hs) (C.2.2.2.2.1 _ hi) (C.2.2.2.2.1 _ hcd) (by simp only [en_rm]; omega) (by simp only [en_rm]; omega) (by simp only [en_rm]; omega) (by simp only [en_rm]; omega) h1 (k p e s m args below meth c H locs cells slots la C hS hw hbc hbs hl (en_oks_c en_ok_i (en_oks_t (en_oks_t hst))))
theorem en_s_min {idx : Nat} {x y : Int32} (hc : μ.2.2.2.2.2.2 pc = some (.invokestatic idx, len, nx, a, b, v)) (h0 : Cond.methodLink (en_own μ.2.2.2.2.1) idx Lib.Math.min.name ∈ en_tw) (hs : Cond.static Lib.Math.min.name ∈ en_tw) (hi : Cond.initialized "java/lang/Math" ∈ en_tw) (hcd : Cond.code Lib.Math.min.name Lib.Math.min.code 2 (some .int) ∈ en_tw) (hcat : Nat.ble (st.map en_cat).sum 8 = true) (k : en_W G (d + 1) mc ms μ r cs' ρ' σ' bc bs nx ls (.inl (if y < x then y else x) :: st) cs ρ σ) : en_W G (d + 1) mc ms μ r cs' ρ' σ' bc bs pc ls (.inl y :: .inl x :: st) cs ρ σ := by
  intro p e s m args below meth c H locs cells slots la C hS hw hbc hbs hl hst
  obtain ⟨h1, h2, h3⟩ := en_dec C hc
  simp only [en_gd, Bool.and_eq_true, beq_iff_eq, decide_eq_true_eq] at h3
  obtain ⟨-, rfl⟩ := h3
  subst h2
  have hcs := en_cat_sum (G := G) hcat
  exact va_mmin C.1 C.2.1 (by rw [C.2.2.1, en_lsz hl]) C.2.2.2.1 (C.2.2.2.2.1 _ h0) (C.2.2.2.2.1 _ hs) (C.2.2.2.2.1 _ hi) (C.2.2.2.2.1 _ hcd) (by simp only [en_rm]; omega) (by simp only [en_rm]; omega) (by simp only [en_rm]; omega) (by simp only [en_rm]; omega) h1 (k p e s m args below meth c H locs cells slots la C hS hw hbc hbs hl (en_oks_c en_ok_i (en_oks_t (en_oks_t hst))))
/-- a reference or null -/
theorem en_o_aload_n {i : Fin 4} {w : Option en_A} (hc : μ.2.2.2.2.2.2 pc = some (.aload_n i, len, nx, a, b, v)) (hv : ls[a]? = some (some (.inr (.inl w)))) (k : en_W G d mc ms μ r cs' ρ' σ' bc bs nx ls (.inr (.inl w) :: st) cs ρ σ) : en_W G d mc ms μ r cs' ρ' σ' bc bs pc ls st cs ρ σ := by
  cases w with
  | none => exact en_s_aload_nN hc hv k
  | some w => exact en_s_aload_n hc hv k
theorem en_o_aload {i : Nat} {w : Option en_A} (hc : μ.2.2.2.2.2.2 pc = some (.aload i, len, nx, a, b, v)) (hv : ls[a]? = some (some (.inr (.inl w)))) (k : en_W G d mc ms μ r cs' ρ' σ' bc bs nx ls (.inr (.inl w) :: st) cs ρ σ) : en_W G d mc ms μ r cs' ρ' σ' bc bs pc ls st cs ρ σ := by
  cases w with
  | none => exact en_s_aloadN hc hv k
  | some w => exact en_s_aload hc hv k
theorem en_o_astore_n {i : Fin 4} {w : Option en_A} (hc : μ.2.2.2.2.2.2 pc = some (.astore_n i, len, nx, a, b, v)) (ha : Nat.blt a ls.length = true) (hs : ls.set a (some (.inr (.inl w))) = ls') (k : en_W G d mc ms μ r cs' ρ' σ' bc bs nx ls' st cs ρ σ) : en_W G d mc ms μ r cs' ρ' σ' bc bs pc ls (.inr (.inl w) :: st) cs ρ σ := by
  cases w with
  | none => exact en_s_astore_nN hc ha hs k
  | some w => exact en_s_astore_n hc ha hs k
theorem en_o_astore {i : Nat} {w : Option en_A} (hc : μ.2.2.2.2.2.2 pc = some (.astore i, len, nx, a, b, v)) (ha : Nat.blt a ls.length = true) (hs : ls.set a (some (.inr (.inl w))) = ls') (k : en_W G d mc ms μ r cs' ρ' σ' bc bs nx ls' st cs ρ σ) : en_W G d mc ms μ r cs' ρ' σ' bc bs pc ls (.inr (.inl w) :: st) cs ρ σ := by
  cases w with
  | none => exact en_s_astoreN hc ha hs k
  | some w => exact en_s_astore hc ha hs k
end en_more

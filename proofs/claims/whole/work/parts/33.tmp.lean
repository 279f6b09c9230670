/-! String.length by the engine. -/
theorem en_sx_v : Cond.fieldLink "java/lang/String" 9 "java/lang/String" "value" "[B" ∈ en_tw := en_tw_of (i := 1956) (by decide +kernel) (by decide +kernel)
theorem en_sx_c : Cond.fieldLink "java/lang/String" 15 "java/lang/String" "coder" "B" ∈ en_tw := en_tw_of (i := 1957) (by decide +kernel) (by decide +kernel)
theorem en_sx_z : Cond.fieldLink "java/lang/String" 38 "java/lang/String" "COMPACT_STRINGS" "Z" ∈ en_tw := en_tw_of (i := 865) (by decide +kernel) (by decide +kernel)
section en_r10
variable {G : en_G} {d mc ms : Nat} {μ : en_D} {r : en_P} {cs cs' : List en_A} {ρ ρ' : en_R} {σ σ' σ1 : en_M} {bc bs pc len nx a b : Nat} {v : Int32} {ls ls' : List (Option en_V)} {st : List en_V}
theorem en_x_val {i : Nat} (hd : decode μ.2.1 pc = .ok (.getfield 9, 3)) (ho : en_own μ.2.2.2.2.1 = "java/lang/String") (hi : i < 11) (k : en_W G d mc ms μ r cs' ρ' σ' bc bs (pc + 3) ls (.inr (.inr (.inr (i + 101))) :: st) cs ρ σ) : en_W G d mc ms μ r cs' ρ' σ' bc bs pc ls (.inr (.inr (.inr (i + 1))) :: st) cs ρ σ := by
  intro p e s m args below meth c H locs cells slots la C hS hw hbc hbs hl hst
  have hE := C.2.2.2.2.2.2.2.2.2.1.2.2.2.2.2.1
  exact vk_getf C.1 C.2.1 (hE.1 i hi).2.2.1 hS C.2.2.2.1 (by rw [ho]; exact C.2.2.2.2.1 _ en_sx_v) (fun _ h => h) hd (k p e s m args below meth c H locs cells slots la C hS hw hbc hbs hl (en_oks_c en_ok_x (en_oks_t hst)))
theorem en_x_cod {i : Nat} (hd : decode μ.2.1 pc = .ok (.getfield 15, 3)) (ho : en_own μ.2.2.2.2.1 = "java/lang/String") (hi : i < 11) (k : en_W G d mc ms μ r cs' ρ' σ' bc bs (pc + 3) ls (.inl 0 :: st) cs ρ σ) : en_W G d mc ms μ r cs' ρ' σ' bc bs pc ls (.inr (.inr (.inr (i + 1))) :: st) cs ρ σ := by
  intro p e s m args below meth c H locs cells slots la C hS hw hbc hbs hl hst
  have hE := C.2.2.2.2.2.2.2.2.2.1.2.2.2.2.2.1
  exact vk_getf C.1 C.2.1 (hE.1 i hi).2.1 hS C.2.2.2.1 (by rw [ho]; exact C.2.2.2.2.1 _ en_sx_c) (fun _ h => h) hd (k p e s m args below meth c H locs cells slots la C hS hw hbc hbs hl (en_oks_c en_ok_i (en_oks_t hst)))
theorem en_x_zz (hd : decode μ.2.1 pc = .ok (.getstatic 38, 3)) (ho : en_own μ.2.2.2.2.1 = "java/lang/String") (k : en_W G d mc ms μ r cs' ρ' σ' bc bs (pc + 3) ls (.inl 1 :: st) cs ρ σ) : en_W G d mc ms μ r cs' ρ' σ' bc bs pc ls st cs ρ σ := by
  intro p e s m args below meth c H locs cells slots la C hS hw hbc hbs hl hst
  have hZ := C.2.2.2.2.2.2.2.2.2.1.2.2.2.2.2.2.2.2.1
  exact va_gets C.1 C.2.1 hZ hS C.2.2.2.1 (by rw [ho]; exact C.2.2.2.2.1 _ en_sx_z) (fun _ h => h) hd (k p e s m args below meth c H locs cells slots la C hS hw hbc hbs hl (en_oks_c en_ok_i hst))
theorem en_x_len {i : Nat} {x : Int32} (hc : μ.2.2.2.2.2.2 pc = some (.arraylength, len, nx, a, b, v)) (hi : i < 11) (hx : Int32.ofNat (en_sl.getD i 0) = x) (k : en_W G d mc ms μ r cs' ρ' σ' bc bs nx ls (.inl x :: st) cs ρ σ) : en_W G d mc ms μ r cs' ρ' σ' bc bs pc ls (.inr (.inr (.inr (i + 101))) :: st) cs ρ σ := by
  intro p e s m args below meth c H locs cells slots la C hS hw hbc hbs hl hst
  obtain ⟨h1, h2, h3⟩ := en_dec C hc
  simp only [en_gd, Bool.and_eq_true, beq_iff_eq, decide_eq_true_eq] at h3
  obtain ⟨-, rfl⟩ := h3
  subst h2
  have hE := C.2.2.2.2.2.2.2.2.2.1.2.2.2.2.2.1
  exact va_tlen C.1 C.2.1 (hE.1 i hi).2.2.2 hS hx h1 (k p e s m args below meth c H locs cells slots la C hS hw hbc hbs hl (en_oks_c en_ok_i (en_oks_t hst)))
theorem en_s_bret {x : Int32} (hc : μ.2.2.2.2.2.2 pc = some (.ireturn, len, nx, a, b, v)) (hr : μ.2.2.2.1 = some .byte) (hx : x = 0) : en_W G d mc ms μ (.inr (some (.inl x))) cs ρ σ bc bs pc ls [.inl x] cs ρ σ := by
  intro p e s m args below meth c H locs cells slots la C hS hw hbc hbs hl hst
  obtain ⟨h1, h2, h3⟩ := en_dec C hc
  simp only [en_gd, Bool.and_eq_true, beq_iff_eq, decide_eq_true_eq] at h3
  obtain ⟨-, rfl⟩ := h3
  sorry
end en_r10

/-! floorMod by the library's payer. -/
theorem mx_fm_st : Cond.static Jvm.Free.MCB.FloorMod.yN ∈ en_tw := en_tw_of (i := 609) (by decide +kernel) (by decide +kernel)
theorem mx_fm_cd : Jvm.Free.MCB.FloorMod.tab ∈ en_tw := en_tw_of (i := 610) (by decide +kernel) (by decide +kernel)
section en_r9
variable {G : en_G} {d mc ms : Nat} {μ : en_D} {r : en_P} {cs cs' : List en_A} {ρ ρ' : en_R} {σ σ' σ1 : en_M} {bc bs pc len nx a b : Nat} {v : Int32} {ls ls' : List (Option en_V)} {st : List en_V}
theorem en_s_fmod2 {idx : Nat} {x y : Int32} (hc : μ.2.2.2.2.2.2 pc = some (.invokestatic idx, len, nx, a, b, v)) (hlk : Cond.methodLink (en_own μ.2.2.2.2.1) idx en_yfm ∈ en_tw) (hz : ¬ y = 0) (hcat : Nat.ble (st.map en_cat).sum 8 = true) (k : en_W G (d + 1) mc ms μ r cs' ρ' σ' bc bs nx ls (.inl (en_fm x y) :: st) cs ρ σ) : en_W G (d + 1) mc ms μ r cs' ρ' σ' bc bs pc ls (.inl y :: .inl x :: st) cs ρ σ := by
  intro p e s m args below meth c H locs cells slots la C hS hw hbc hbs hl hst
  obtain ⟨h1, h2, h3⟩ := en_dec C hc
  simp only [en_gd, Bool.and_eq_true, beq_iff_eq, decide_eq_true_eq] at h3
  obtain ⟨-, rfl⟩ := h3
  subst h2
  have hcs := en_cat_sum (G := G) hcat
  have hK := k p e s m args below meth c H locs cells slots la C hS hw hbc hbs hl (en_oks_c en_ok_i (en_oks_t (en_oks_t hst)))
  have hrm1 : 0 + 1 ≤ (en_rm (d + 1) mc ms).frames := by simp only [en_rm]; omega
  have hrm2 : 8 + (3 + 11) + 0 ≤ (en_rm (d + 1) mc ms).locals := by simp only [en_rm]; omega
  intro T hT X
  obtain ⟨v1, vm1, B, -, X', ⟨⟨e1, e2, e3, e4⟩, hv⟩, stp⟩ := Jvm.LawKit.callS X C.1 C.2.2.2.1 (C.2.2.2.2.1 _ hlk) (C.2.2.2.2.1 _ mx_fm_st) (C.2.2.2.2.1 _ mx_in) (C.2.2.2.2.1 _ mx_fm_cd) (by decide)
    (Jvm.Free.MCB.FloorMod.pays (len := 3) (W := 8) hrm1 hrm2 (C.2.2.2.2.1 _ mx_fm_cd) (C.2.2.2.2.1 _ mx_in))
    (g := F0 m pc la (.int y :: .int x :: st.map (en_tr G))) rfl (by rw [C.2.2.1, ← en_lsz hl]) (argsL := [.int x, .int y]) (rest := st.map (en_tr G))
    (fun sig hs => by
      have h : parseMethodDescriptor "(II)I" = some { parameters := [.int, .int], returnType := some .int } := by decide +kernel
      rw [show en_yfm.desc = "(II)I" from rfl, h] at hs
      rw [← Option.some.inj hs]; rfl)
    rfl (by show 2 * 0 + _ ≤ 8; omega) (by rw [C.2.1]; exact h1)
    (fun vm _ => ⟨(by show cells ≤ mc; omega), (by show slots ≤ ms; omega), (x, y), rfl, hz⟩)
  have hv' : v1 = some (.int (en_fm x y)) := hv (x, y) ⟨rfl, hz⟩
  subst hv'
  obtain ⟨U, L, n1, n2⟩ := B
  simp only at e1 e2 e3 e4 X' stp
  subst e2 e3 e4
  obtain ⟨t, a1, b1⟩ := hK U (by rw [e1]; exact hT) X'
  exact ⟨t, stp t a1, b1⟩
end en_r9

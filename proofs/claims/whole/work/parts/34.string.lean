/-! String.charAt's parts: isLatin1; a byte of a text. -/
section en_r12
variable {G : en_G} {d mc ms : Nat} {μ : en_D} {r : en_P} {cs cs' : List en_A} {ρ ρ' : en_R} {σ σ' σ1 : en_M} {bc bs pc len nx a b : Nat} {v : Int32} {ls ls' : List (Option en_V)} {st : List en_V}
theorem en_x_bald {i : Nat} {x w : Int32} (hc : μ.2.2.2.2.2.2 pc = some (.baload, len, nx, a, b, v)) (hi : i < 11) (hx : en_inb x (en_sl.getD i 0) = true) (hw' : (en_sb.getD i []).getD x.toNatClampNeg 0 = w) (k : en_W G d mc ms μ r cs' ρ' σ' bc bs nx ls (.inl w :: st) cs ρ σ) : en_W G d mc ms μ r cs' ρ' σ' bc bs pc ls (.inl x :: .inr (.inr (.inr (i + 101))) :: st) cs ρ σ := by
  intro p e s m args below meth c H locs cells slots la C hS hw hbc hbs hl hst
  obtain ⟨h1, h2, h3⟩ := en_dec C hc
  simp only [en_gd, Bool.and_eq_true, beq_iff_eq, decide_eq_true_eq] at h3
  obtain ⟨-, rfl⟩ := h3
  subst h2 hw'
  have hE := C.2.2.2.2.2.2.2.2.2.1.2.2.2.2.2.1
  exact va_tb C.1 C.2.1 (hE.1 i hi).2.2.2 hS (en_inb_vp hx) rfl h1 (k p e s m args below meth c H locs cells slots la C hS hw hbc hbs hl (en_oks_c en_ok_i (en_oks_t (en_oks_t hst))))
end en_r12
def T_sx_latin : List (List (Nat × en_I)) := [[(3, .ifCond .eq 14, 3, 6, 17, 0, 0), (6, .aload_n 0, 1, 7, 0, 0, 0), (10, .ifCond .ne 7, 3, 13, 17, 0, 0), (13, .iconst 1, 1, 14, 0, 0, 1), (14, .goto 4, 3, 17, 18, 0, 0), (18, .ireturn, 1, 19, 0, 0, 0)]]
def M_sx_latin : en_D := (⟨en_own 13, "isLatin1", "()Z"⟩, prog_22_method_154_code, 1, some .boolean, 13, [], en_code T_sx_latin)
theorem ck_sx_latin : en_chk prog_22_method_154_code 13 T_sx_latin = true := by decide +kernel
theorem md_sx_latin : en_md M_sx_latin := ⟨by decide +kernel, rfl, rfl, en_ok_of ck_sx_latin⟩
theorem mv_sx_latin : en_mv M_sx_latin 0 := ⟨rfl, en_tw_of (i := 872) (by decide +kernel) (by decide +kernel), en_tw_of (i := 873) (by decide +kernel) (by decide +kernel), en_tw_of (i := 86) (by decide +kernel) (by decide +kernel), en_tw_of (i := 874) (by decide +kernel) (by decide +kernel), ⟨by decide +kernel, by decide +kernel⟩, by decide +kernel, rfl⟩
theorem sx_latin (G : en_G) (d : Nat) {cs : List en_A} {ρ : en_R} {σ : en_M} {i : Nat} (hi : i < 11) : en_Mt G d 0 0 M_sx_latin [.inr (.inr (.inr (i + 1)))] cs ρ σ (.inr (some (.inl 1))) cs ρ σ := by
  refine en_meth md_sx_latin rfl rfl rfl ?_
  refine en_x_zz (by decide +kernel) rfl ?_
  refine en_s_if_eq rfl (fun h => absurd h (by decide)) (fun _ => ?_)
  refine en_s_aload_nX rfl rfl ?_
  refine en_x_cod (by decide +kernel) rfl hi ?_
  refine en_s_if_ne rfl (fun h => absurd rfl h) (fun _ => ?_)
  refine en_s_iconst rfl ?_
  refine en_s_goto rfl ?_
  exact en_s_nret rfl rfl (by decide)

/-! String.charAt, given checkIndex. -/
theorem en_s_i2c {G : en_G} {d mc ms : Nat} {μ : en_D} {r : en_P} {cs cs' : List en_A} {ρ ρ' : en_R} {σ σ' : en_M} {bc bs pc len nx a b : Nat} {v : Int32} {ls : List (Option en_V)} {st : List en_V} {x w : Int32} (hc : μ.2.2.2.2.2.2 pc = some (.i2c, len, nx, a, b, v)) (hv : (x.toUInt32 % 65536).toInt32 = w) (k : en_W G d mc ms μ r cs' ρ' σ' bc bs nx ls (.inl w :: st) cs ρ σ) : en_W G d mc ms μ r cs' ρ' σ' bc bs pc ls (.inl x :: st) cs ρ σ := by
  refine en_go (fun p e s m args below meth c H locs cells slots la Q C hl w => ?_) (fun h hl => en_oks_c en_ok_i (en_oks_t h)) k
  obtain ⟨h1, h2, h3⟩ := en_dec C hc
  simp only [en_gd, Bool.and_eq_true, beq_iff_eq, decide_eq_true_eq] at h3
  obtain ⟨-, rfl⟩ := h3
  subst h2
  exact lv_i2c C.1 C.2.1 h1 hv w
def T_sx_check : List (List (Nat × en_I)) := [[(0, .iload_n 0, 1, 1, 0, 0, 0), (1, .iload_n 1, 1, 2, 1, 0, 0), (5, .invokestatic 1059, 3, 8, 0, 0, 0), (8, .pop, 1, 9, 0, 0, 0), (9, .return_, 1, 10, 0, 0, 0)]]
def M_sx_check : en_D := (⟨en_own 13, "checkIndex", "(II)V"⟩, prog_22_method_155_code, 2, none, 13, [], en_code T_sx_check)
theorem mv_sx_check : en_mt M_sx_check 2 := ⟨rfl, en_tw_of (i := 879) (by decide +kernel) (by decide +kernel), en_tw_of (i := 86) (by decide +kernel) (by decide +kernel), en_tw_of (i := 880) (by decide +kernel) (by decide +kernel), ⟨by decide +kernel, by decide +kernel⟩, by decide +kernel, rfl⟩
def T_sx_lchar : List (List (Nat × en_I)) := [[(0, .iload_n 1, 1, 1, 1, 0, 0), (1, .aload_n 0, 1, 2, 0, 0, 0), (2, .arraylength, 1, 3, 0, 0, 0), (3, .invokestatic 9, 3, 6, 0, 0, 0), (6, .aload_n 0, 1, 7, 0, 0, 0), (7, .iload_n 1, 1, 8, 1, 0, 0), (8, .baload, 1, 9, 0, 0, 0), (9, .sipush 255, 3, 12, 0, 0, 255), (12, .iand, 1, 13, 0, 0, 0), (13, .i2c, 1, 14, 0, 0, 0), (14, .ireturn, 1, 15, 0, 0, 0)]]
def M_sx_lchar : en_D := (⟨en_own 14, "charAt", "([BI)C"⟩, prog_23_method_2_code, 2, some .char, 14, [], en_code T_sx_lchar)
theorem ck_sx_lchar : en_chk prog_23_method_2_code 14 T_sx_lchar = true := by decide +kernel
theorem md_sx_lchar : en_md M_sx_lchar := ⟨by decide +kernel, rfl, rfl, en_ok_of ck_sx_lchar⟩
theorem mv_sx_lchar : en_mt M_sx_lchar 2 := ⟨rfl, en_tw_of (i := 876) (by decide +kernel) (by decide +kernel), en_tw_of (i := 87) (by decide +kernel) (by decide +kernel), en_tw_of (i := 877) (by decide +kernel) (by decide +kernel), ⟨by decide +kernel, by decide +kernel⟩, by decide +kernel, rfl⟩
theorem sx_small : ∀ (i : Fin 11) (q : Fin 5), ((((en_sb.getD i.val []).getD q.val 0) &&& 255).toUInt32 % 65536).toInt32 = (en_sb.getD i.val []).getD q.val 0 ∧ narrow .char (.int ((en_sb.getD i.val []).getD q.val 0)) = .int ((en_sb.getD i.val []).getD q.val 0) := by decide +kernel
theorem sx_lt : ∀ i : Fin 11, en_sl.getD i.val 0 ≤ 5 := by decide
theorem sx_lchar (G : en_G) (hz : G.2.2.2.2.2.2.2.2 = none) (d : Nat) {cs : List en_A} {ρ : en_R} {σ : en_M} {i : Nat} {x w : Int32} (hi : i < 11) (hx : en_inb x (en_sl.getD i 0) = true) (hw : (en_sb.getD i []).getD x.toNatClampNeg 0 = w) (hck : en_Mt G d 0 0 M_sx_check [.inl x, .inl (Int32.ofNat (en_sl.getD i 0))] cs ρ σ (.inr none) cs ρ σ) : en_Mt G (d + 1) 0 0 M_sx_lchar [.inr (.inr (.inr (i + 101))), .inl x] cs ρ σ (.inr (some (.inl w))) cs ρ σ := by
  have hq : x.toNatClampNeg < 5 := by
    have h1 := sx_lt ⟨i, hi⟩
    simp only [en_inb, Bool.and_eq_true, decide_eq_true_eq] at hx
    exact Nat.lt_of_lt_of_le hx.2 h1
  have hs := sx_small ⟨i, hi⟩ ⟨_, hq⟩
  simp only [hw] at hs
  refine en_meth md_sx_lchar rfl rfl rfl ?_
  refine en_s_iload_n rfl rfl ?_
  refine en_s_aload_nX rfl rfl ?_
  refine en_x_len rfl hi rfl ?_
  refine en_callS (as := [.inl x, .inl (Int32.ofNat (en_sl.getD i 0))]) (rest := []) (bc' := 0) (bs' := 0) hz rfl hck (en_tw_of (i := 878) (by decide +kernel) (by decide +kernel)) mv_sx_check rfl rfl rfl (fun _ h => h) (Nat.le_refl _) (Nat.le_refl _) ?_
  refine en_s_aload_nX rfl rfl ?_
  refine en_s_iload_n rfl rfl ?_
  refine en_x_bald rfl hi hx hw ?_
  refine en_s_sipush rfl ?_
  refine en_s_iand rfl ?_
  refine en_s_i2c rfl hs.1 ?_
  exact en_s_nret rfl rfl hs.2

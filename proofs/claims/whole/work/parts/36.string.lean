/-! String.charAt, given checkIndex. -/
def T_sx_char : List (List (Nat × en_I)) := [[(0, .aload_n 0, 1, 1, 0, 0, 0), (1, .invokevirtual 492, 3, 4, 0, 0, 0), (4, .ifCond .eq 12, 3, 7, 16, 0, 0), (7, .aload_n 0, 1, 8, 0, 0, 0), (11, .iload_n 1, 1, 12, 1, 0, 0), (12, .invokestatic 495, 3, 15, 0, 0, 0), (15, .ireturn, 1, 16, 0, 0, 0)]]
def M_sx_char : en_D := (⟨en_own 13, "charAt", "(I)C"⟩, prog_22_method_56_code, 2, some .char, 13, [], en_code T_sx_char)
theorem ck_sx_char : en_chk prog_22_method_56_code 13 T_sx_char = true := by decide +kernel
theorem md_sx_char : en_md M_sx_char := ⟨by decide +kernel, rfl, rfl, en_ok_of ck_sx_char⟩
theorem mv_sx_char : en_mv M_sx_char 1 := ⟨rfl, en_tw_of (i := 868) (by decide +kernel) (by decide +kernel), en_tw_of (i := 869) (by decide +kernel) (by decide +kernel), en_tw_of (i := 86) (by decide +kernel) (by decide +kernel), en_tw_of (i := 870) (by decide +kernel) (by decide +kernel), ⟨by decide +kernel, by decide +kernel⟩, by decide +kernel, rfl⟩
theorem sx_char (G : en_G) (hz : G.2.2.2.2.2.2.2.2 = none) (d : Nat) {cs : List en_A} {ρ : en_R} {σ : en_M} {i : Nat} {x w : Int32} (hi : i < 11) (hx : en_inb x (en_sl.getD i 0) = true) (hw : (en_sb.getD i []).getD x.toNatClampNeg 0 = w) (hck : en_Mt G d 0 0 M_sx_check [.inl x, .inl (Int32.ofNat (en_sl.getD i 0))] cs ρ σ (.inr none) cs ρ σ) : en_Mt G (d + 2) 0 0 M_sx_char [.inr (.inr (.inr (i + 1))), .inl x] cs ρ σ (.inr (some (.inl w))) cs ρ σ := by
  have hq : x.toNatClampNeg < 5 := by
    have h1 := sx_lt ⟨i, hi⟩
    simp only [en_inb, Bool.and_eq_true, decide_eq_true_eq] at hx
    exact Nat.lt_of_lt_of_le hx.2 h1
  have hs := sx_small ⟨i, hi⟩ ⟨_, hq⟩
  simp only [hw] at hs
  refine en_meth md_sx_char rfl rfl rfl ?_
  refine en_s_aload_nX rfl rfl ?_
  refine en_callO (as := []) (rest := []) hz rfl (sx_latin G (d + 1) hi) (en_tw_of (i := 871) (by decide +kernel) (by decide +kernel)) mv_sx_latin hi rfl rfl rfl rfl (fun _ h => h) (bc' := 0) (bs' := 0) (Nat.le_refl _) (Nat.le_refl _) ?_
  refine en_s_if_eq rfl (fun h => absurd h (by decide)) (fun _ => ?_)
  refine en_s_aload_nX rfl rfl ?_
  refine en_x_val (by decide +kernel) rfl hi ?_
  refine en_s_iload_n rfl rfl ?_
  refine en_callS (as := [.inr (.inr (.inr (i + 101))), .inl x]) (rest := []) (bc' := 0) (bs' := 0) hz rfl (sx_lchar G hz d hi hx hw hck) (en_tw_of (i := 875) (by decide +kernel) (by decide +kernel)) mv_sx_lchar rfl rfl rfl (fun _ h => h) (Nat.le_refl _) (Nat.le_refl _) ?_
  exact en_s_nret rfl rfl hs.2

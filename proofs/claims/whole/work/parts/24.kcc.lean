/-! By program: the methods as functions, and that they are these. -/
def k_cc_readNumbers (v1 : Int32) (σ : en_M) : Option (en_M) :=
  if v1 = 0 then
    en_b2 (k_tp_takeNumber 1 8 σ) fun t2 s3 =>
    en_let (en_wr s3 22 0 0 0 t2) fun s5 =>
    en_b2 (k_tp_takeNumber 1 40 s5) fun t7 s8 =>
    en_let (en_wr s8 22 0 0 1 t7) fun s10 =>
    en_b2 (k_tp_takeNumber 1 8 s10) fun t12 s13 =>
    en_let (en_wr s13 22 0 0 2 t12) fun s15 =>
    some s15
  else
  if v1 = 1 then
    en_b2 (k_tp_takeNumber 0 999 σ) fun t18 s19 =>
    en_let (en_wr s19 22 0 0 0 t18) fun s21 =>
    en_b2 (k_tp_takeBehind 10 9999 s21) fun t23 s24 =>
    en_let (en_wr s24 22 0 0 1 t23) fun s26 =>
    some s26
  else
  if v1 = 2 then
    en_b2 (k_tp_takeNumber 0 5 σ) fun t29 s30 =>
    en_let (en_wr s30 22 0 0 0 t29) fun s32 =>
    en_b2 (k_tp_takeNumber 1 200 s32) fun t34 s35 =>
    en_let (en_wr s35 22 0 0 1 t34) fun s37 =>
    en_b2 (k_tp_takeNumber 10 100 s37) fun t39 s40 =>
    en_let (en_wr s40 22 0 0 2 t39) fun s42 =>
    en_b2 (k_tp_takeBehind 11 9999 s42) fun t44 s45 =>
    en_let (en_wr s45 22 0 0 3 t44) fun s47 =>
    some s47
  else
  if v1 = 3 then
    some σ
  else
  if v1 = 4 then
    en_b2 (k_tp_takeNumber 0 9999 σ) fun t51 s52 =>
    en_let (en_wr s52 22 0 0 0 t51) fun s54 =>
    some s54
  else
  if v1 = 5 then
    en_b2 (k_tp_takeNumber 0 5 σ) fun t57 s58 =>
    en_let (en_wr s58 22 0 0 0 t57) fun s60 =>
    some s60
  else
  if v1 = 6 then
    en_b2 (k_tp_takeNumber 0 5 σ) fun t63 s64 =>
    en_let (en_wr s64 22 0 0 0 t63) fun s66 =>
    some s66
  else
  if v1 = 7 then
    en_b2 (k_tp_takeNumber 0 5 σ) fun t69 s70 =>
    en_let (en_wr s70 22 0 0 0 t69) fun s72 =>
    en_b2 (k_tp_takeNumber 0 999 s72) fun t74 s75 =>
    en_let (en_wr s75 22 0 0 1 t74) fun s77 =>
    some s77
  else
  if v1 = 8 then
    en_b2 (k_tp_takeNumber 1 99 σ) fun t80 s81 =>
    en_let (en_wr s81 22 0 0 0 t80) fun s83 =>
    some s83
  else
  some σ
set_option maxRecDepth 100000 in
set_option maxHeartbeats 4000000 in
theorem s_cc_readNumbers (G : en_G) (hz : G.2.2.2.2.2.2.2.2 = none) (d : Nat) {cs : List en_A} {σ : en_M} {v1 : Int32} {s0 : en_M}  (h : k_cc_readNumbers v1 σ = some s0) : en_Mt G (d + 6) 0 0 M_cc_readNumbers [.inr (.inl (some (14, 0, 0))), .inl v1] cs en_rf σ (.inr (none)) cs en_rf s0 := by
  refine en_meth (ls := [some (.inr (.inl (some (14, 0, 0)))), some (.inl v1)]) md_cc_readNumbers rfl rfl rfl ?_
  unfold k_cc_readNumbers at h
  refine en_s_iload_n rfl rfl ?_
  by_cases c1 : v1 = 0
  · rw [if_pos c1] at h
    refine en_s_table [(0, 52), (1, 103), (2, 142), (3, 305), (4, 213), (5, 233), (6, 233), (7, 251), (8, 286)] rfl (by decide) (en_sw_hit c1) ?_
    refine en_s_aload_n rfl rfl ?_
    refine en_s_getR (w := some (22, 0, 0)) rfl rfl rfl rfl ?_
    refine en_s_iconst rfl ?_
    refine en_s_aload_n rfl rfl ?_
    refine en_s_getR (w := some (20, 0, 0)) rfl rfl rfl rfl ?_
    refine en_s_iconst rfl ?_
    refine en_s_bipush rfl ?_
    obtain ⟨t2, s3, h4, h⟩ := en_b2_h h
    refine en_callV (as := [.inl 1, .inl 8]) (rest := [.inl 0, .inr (.inl (some (22, 0, 0)))]) (bc' := 0) (bs' := 0) hz rfl (s_tp_takeNumber G hz (d + 3) h4) lk_9_465 mv_tp_takeNumber rfl rfl rfl rfl rfl (fun _ h => h) (Nat.le_refl _) (Nat.le_refl _) ?_
    obtain ⟨s5, e6, h⟩ := en_let_h h
    refine en_c_iast (q := 0) e6 rfl rfl (by decide) (by decide) ?_
    refine en_s_aload_n rfl rfl ?_
    refine en_s_getR (w := some (22, 0, 0)) rfl rfl rfl rfl ?_
    refine en_s_iconst rfl ?_
    refine en_s_aload_n rfl rfl ?_
    refine en_s_getR (w := some (20, 0, 0)) rfl rfl rfl rfl ?_
    refine en_s_iconst rfl ?_
    refine en_s_bipush rfl ?_
    obtain ⟨t7, s8, h9, h⟩ := en_b2_h h
    refine en_callV (as := [.inl 1, .inl 40]) (rest := [.inl 1, .inr (.inl (some (22, 0, 0)))]) (bc' := 0) (bs' := 0) hz rfl (s_tp_takeNumber G hz (d + 3) h9) lk_9_465 mv_tp_takeNumber rfl rfl rfl rfl rfl (fun _ h => h) (Nat.le_refl _) (Nat.le_refl _) ?_
    obtain ⟨s10, e11, h⟩ := en_let_h h
    refine en_c_iast (q := 1) e11 rfl rfl (by decide) (by decide) ?_
    refine en_s_aload_n rfl rfl ?_
    refine en_s_getR (w := some (22, 0, 0)) rfl rfl rfl rfl ?_
    refine en_s_iconst rfl ?_
    refine en_s_aload_n rfl rfl ?_
    refine en_s_getR (w := some (20, 0, 0)) rfl rfl rfl rfl ?_
    refine en_s_iconst rfl ?_
    refine en_s_bipush rfl ?_
    obtain ⟨t12, s13, h14, h⟩ := en_b2_h h
    refine en_callV (as := [.inl 1, .inl 8]) (rest := [.inl 2, .inr (.inl (some (22, 0, 0)))]) (bc' := 0) (bs' := 0) hz rfl (s_tp_takeNumber G hz (d + 3) h14) lk_9_465 mv_tp_takeNumber rfl rfl rfl rfl rfl (fun _ h => h) (Nat.le_refl _) (Nat.le_refl _) ?_
    obtain ⟨s15, e16, h⟩ := en_let_h h
    refine en_c_iast (q := 2) e16 rfl rfl (by decide) (by decide) ?_
    refine en_s_goto rfl ?_
    cases h
    exact en_s_vret rfl rfl
  rw [if_neg c1] at h
  by_cases c17 : v1 = 1
  · rw [if_pos c17] at h
    refine en_s_table [(0, 52), (1, 103), (2, 142), (3, 305), (4, 213), (5, 233), (6, 233), (7, 251), (8, 286)] rfl (by decide) (en_sw_miss c1 (en_sw_hit c17)) ?_
    refine en_s_aload_n rfl rfl ?_
    refine en_s_getR (w := some (22, 0, 0)) rfl rfl rfl rfl ?_
    refine en_s_iconst rfl ?_
    refine en_s_aload_n rfl rfl ?_
    refine en_s_getR (w := some (20, 0, 0)) rfl rfl rfl rfl ?_
    refine en_s_iconst rfl ?_
    refine en_s_sipush rfl ?_
    obtain ⟨t18, s19, h20, h⟩ := en_b2_h h
    refine en_callV (as := [.inl 0, .inl 999]) (rest := [.inl 0, .inr (.inl (some (22, 0, 0)))]) (bc' := 0) (bs' := 0) hz rfl (s_tp_takeNumber G hz (d + 3) h20) lk_9_465 mv_tp_takeNumber rfl rfl rfl rfl rfl (fun _ h => h) (Nat.le_refl _) (Nat.le_refl _) ?_
    obtain ⟨s21, e22, h⟩ := en_let_h h
    refine en_c_iast (q := 0) e22 rfl rfl (by decide) (by decide) ?_
    refine en_s_aload_n rfl rfl ?_
    refine en_s_getR (w := some (22, 0, 0)) rfl rfl rfl rfl ?_
    refine en_s_iconst rfl ?_
    refine en_s_aload_n rfl rfl ?_
    refine en_s_getR (w := some (20, 0, 0)) rfl rfl rfl rfl ?_
    refine en_s_ldcwS (i := 9) (text := "from") rfl (by decide +kernel) ?_
    refine en_s_sipush rfl ?_
    obtain ⟨t23, s24, h25, h⟩ := en_b2_h h
    refine en_callV (as := [.inr (.inr (.inr 10)), .inl 9999]) (rest := [.inl 1, .inr (.inl (some (22, 0, 0)))]) (bc' := 0) (bs' := 0) hz rfl (s_tp_takeBehind G hz (d + 0) (by decide) h25) lk_9_470 mv_tp_takeBehind rfl rfl rfl rfl rfl (fun _ h => h) (Nat.le_refl _) (Nat.le_refl _) ?_
    obtain ⟨s26, e27, h⟩ := en_let_h h
    refine en_c_iast (q := 1) e27 rfl rfl (by decide) (by decide) ?_
    refine en_s_goto rfl ?_
    cases h
    exact en_s_vret rfl rfl
  rw [if_neg c17] at h
  by_cases c28 : v1 = 2
  · rw [if_pos c28] at h
    refine en_s_table [(0, 52), (1, 103), (2, 142), (3, 305), (4, 213), (5, 233), (6, 233), (7, 251), (8, 286)] rfl (by decide) (en_sw_miss c1 (en_sw_miss c17 (en_sw_hit c28))) ?_
    refine en_s_aload_n rfl rfl ?_
    refine en_s_getR (w := some (22, 0, 0)) rfl rfl rfl rfl ?_
    refine en_s_iconst rfl ?_
    refine en_s_aload_n rfl rfl ?_
    refine en_s_getR (w := some (20, 0, 0)) rfl rfl rfl rfl ?_
    refine en_s_iconst rfl ?_
    refine en_s_iconst rfl ?_
    obtain ⟨t29, s30, h31, h⟩ := en_b2_h h
    refine en_callV (as := [.inl 0, .inl 5]) (rest := [.inl 0, .inr (.inl (some (22, 0, 0)))]) (bc' := 0) (bs' := 0) hz rfl (s_tp_takeNumber G hz (d + 3) h31) lk_9_465 mv_tp_takeNumber rfl rfl rfl rfl rfl (fun _ h => h) (Nat.le_refl _) (Nat.le_refl _) ?_
    obtain ⟨s32, e33, h⟩ := en_let_h h
    refine en_c_iast (q := 0) e33 rfl rfl (by decide) (by decide) ?_
    refine en_s_aload_n rfl rfl ?_
    refine en_s_getR (w := some (22, 0, 0)) rfl rfl rfl rfl ?_
    refine en_s_iconst rfl ?_
    refine en_s_aload_n rfl rfl ?_
    refine en_s_getR (w := some (20, 0, 0)) rfl rfl rfl rfl ?_
    refine en_s_iconst rfl ?_
    refine en_s_sipush rfl ?_
    obtain ⟨t34, s35, h36, h⟩ := en_b2_h h
    refine en_callV (as := [.inl 1, .inl 200]) (rest := [.inl 1, .inr (.inl (some (22, 0, 0)))]) (bc' := 0) (bs' := 0) hz rfl (s_tp_takeNumber G hz (d + 3) h36) lk_9_465 mv_tp_takeNumber rfl rfl rfl rfl rfl (fun _ h => h) (Nat.le_refl _) (Nat.le_refl _) ?_
    obtain ⟨s37, e38, h⟩ := en_let_h h
    refine en_c_iast (q := 1) e38 rfl rfl (by decide) (by decide) ?_
    refine en_s_aload_n rfl rfl ?_
    refine en_s_getR (w := some (22, 0, 0)) rfl rfl rfl rfl ?_
    refine en_s_iconst rfl ?_
    refine en_s_aload_n rfl rfl ?_
    refine en_s_getR (w := some (20, 0, 0)) rfl rfl rfl rfl ?_
    refine en_s_bipush rfl ?_
    refine en_s_bipush rfl ?_
    obtain ⟨t39, s40, h41, h⟩ := en_b2_h h
    refine en_callV (as := [.inl 10, .inl 100]) (rest := [.inl 2, .inr (.inl (some (22, 0, 0)))]) (bc' := 0) (bs' := 0) hz rfl (s_tp_takeNumber G hz (d + 3) h41) lk_9_465 mv_tp_takeNumber rfl rfl rfl rfl rfl (fun _ h => h) (Nat.le_refl _) (Nat.le_refl _) ?_
    obtain ⟨s42, e43, h⟩ := en_let_h h
    refine en_c_iast (q := 2) e43 rfl rfl (by decide) (by decide) ?_
    refine en_s_aload_n rfl rfl ?_
    refine en_s_getR (w := some (22, 0, 0)) rfl rfl rfl rfl ?_
    refine en_s_iconst rfl ?_
    refine en_s_aload_n rfl rfl ?_
    refine en_s_getR (w := some (20, 0, 0)) rfl rfl rfl rfl ?_
    refine en_s_ldcwS (i := 10) (text := "at") rfl (by decide +kernel) ?_
    refine en_s_sipush rfl ?_
    obtain ⟨t44, s45, h46, h⟩ := en_b2_h h
    refine en_callV (as := [.inr (.inr (.inr 11)), .inl 9999]) (rest := [.inl 3, .inr (.inl (some (22, 0, 0)))]) (bc' := 0) (bs' := 0) hz rfl (s_tp_takeBehind G hz (d + 0) (by decide) h46) lk_9_470 mv_tp_takeBehind rfl rfl rfl rfl rfl (fun _ h => h) (Nat.le_refl _) (Nat.le_refl _) ?_
    obtain ⟨s47, e48, h⟩ := en_let_h h
    refine en_c_iast (q := 3) e48 rfl rfl (by decide) (by decide) ?_
    refine en_s_goto rfl ?_
    cases h
    exact en_s_vret rfl rfl
  rw [if_neg c28] at h
  by_cases c49 : v1 = 3
  · rw [if_pos c49] at h
    refine en_s_table [(0, 52), (1, 103), (2, 142), (3, 305), (4, 213), (5, 233), (6, 233), (7, 251), (8, 286)] rfl (by decide) (en_sw_miss c1 (en_sw_miss c17 (en_sw_miss c28 (en_sw_hit c49)))) ?_
    cases h
    exact en_s_vret rfl rfl
  rw [if_neg c49] at h
  by_cases c50 : v1 = 4
  · rw [if_pos c50] at h
    refine en_s_table [(0, 52), (1, 103), (2, 142), (3, 305), (4, 213), (5, 233), (6, 233), (7, 251), (8, 286)] rfl (by decide) (en_sw_miss c1 (en_sw_miss c17 (en_sw_miss c28 (en_sw_miss c49 (en_sw_hit c50))))) ?_
    refine en_s_aload_n rfl rfl ?_
    refine en_s_getR (w := some (22, 0, 0)) rfl rfl rfl rfl ?_
    refine en_s_iconst rfl ?_
    refine en_s_aload_n rfl rfl ?_
    refine en_s_getR (w := some (20, 0, 0)) rfl rfl rfl rfl ?_
    refine en_s_iconst rfl ?_
    refine en_s_sipush rfl ?_
    obtain ⟨t51, s52, h53, h⟩ := en_b2_h h
    refine en_callV (as := [.inl 0, .inl 9999]) (rest := [.inl 0, .inr (.inl (some (22, 0, 0)))]) (bc' := 0) (bs' := 0) hz rfl (s_tp_takeNumber G hz (d + 3) h53) lk_9_465 mv_tp_takeNumber rfl rfl rfl rfl rfl (fun _ h => h) (Nat.le_refl _) (Nat.le_refl _) ?_
    obtain ⟨s54, e55, h⟩ := en_let_h h
    refine en_c_iast (q := 0) e55 rfl rfl (by decide) (by decide) ?_
    refine en_s_goto rfl ?_
    cases h
    exact en_s_vret rfl rfl
  rw [if_neg c50] at h
  by_cases c56 : v1 = 5
  · rw [if_pos c56] at h
    refine en_s_table [(0, 52), (1, 103), (2, 142), (3, 305), (4, 213), (5, 233), (6, 233), (7, 251), (8, 286)] rfl (by decide) (en_sw_miss c1 (en_sw_miss c17 (en_sw_miss c28 (en_sw_miss c49 (en_sw_miss c50 (en_sw_hit c56)))))) ?_
    refine en_s_aload_n rfl rfl ?_
    refine en_s_getR (w := some (22, 0, 0)) rfl rfl rfl rfl ?_
    refine en_s_iconst rfl ?_
    refine en_s_aload_n rfl rfl ?_
    refine en_s_getR (w := some (20, 0, 0)) rfl rfl rfl rfl ?_
    refine en_s_iconst rfl ?_
    refine en_s_iconst rfl ?_
    obtain ⟨t57, s58, h59, h⟩ := en_b2_h h
    refine en_callV (as := [.inl 0, .inl 5]) (rest := [.inl 0, .inr (.inl (some (22, 0, 0)))]) (bc' := 0) (bs' := 0) hz rfl (s_tp_takeNumber G hz (d + 3) h59) lk_9_465 mv_tp_takeNumber rfl rfl rfl rfl rfl (fun _ h => h) (Nat.le_refl _) (Nat.le_refl _) ?_
    obtain ⟨s60, e61, h⟩ := en_let_h h
    refine en_c_iast (q := 0) e61 rfl rfl (by decide) (by decide) ?_
    refine en_s_goto rfl ?_
    cases h
    exact en_s_vret rfl rfl
  rw [if_neg c56] at h
  by_cases c62 : v1 = 6
  · rw [if_pos c62] at h
    refine en_s_table [(0, 52), (1, 103), (2, 142), (3, 305), (4, 213), (5, 233), (6, 233), (7, 251), (8, 286)] rfl (by decide) (en_sw_miss c1 (en_sw_miss c17 (en_sw_miss c28 (en_sw_miss c49 (en_sw_miss c50 (en_sw_miss c56 (en_sw_hit c62))))))) ?_
    refine en_s_aload_n rfl rfl ?_
    refine en_s_getR (w := some (22, 0, 0)) rfl rfl rfl rfl ?_
    refine en_s_iconst rfl ?_
    refine en_s_aload_n rfl rfl ?_
    refine en_s_getR (w := some (20, 0, 0)) rfl rfl rfl rfl ?_
    refine en_s_iconst rfl ?_
    refine en_s_iconst rfl ?_
    obtain ⟨t63, s64, h65, h⟩ := en_b2_h h
    refine en_callV (as := [.inl 0, .inl 5]) (rest := [.inl 0, .inr (.inl (some (22, 0, 0)))]) (bc' := 0) (bs' := 0) hz rfl (s_tp_takeNumber G hz (d + 3) h65) lk_9_465 mv_tp_takeNumber rfl rfl rfl rfl rfl (fun _ h => h) (Nat.le_refl _) (Nat.le_refl _) ?_
    obtain ⟨s66, e67, h⟩ := en_let_h h
    refine en_c_iast (q := 0) e67 rfl rfl (by decide) (by decide) ?_
    refine en_s_goto rfl ?_
    cases h
    exact en_s_vret rfl rfl
  rw [if_neg c62] at h
  by_cases c68 : v1 = 7
  · rw [if_pos c68] at h
    refine en_s_table [(0, 52), (1, 103), (2, 142), (3, 305), (4, 213), (5, 233), (6, 233), (7, 251), (8, 286)] rfl (by decide) (en_sw_miss c1 (en_sw_miss c17 (en_sw_miss c28 (en_sw_miss c49 (en_sw_miss c50 (en_sw_miss c56 (en_sw_miss c62 (en_sw_hit c68)))))))) ?_
    refine en_s_aload_n rfl rfl ?_
    refine en_s_getR (w := some (22, 0, 0)) rfl rfl rfl rfl ?_
    refine en_s_iconst rfl ?_
    refine en_s_aload_n rfl rfl ?_
    refine en_s_getR (w := some (20, 0, 0)) rfl rfl rfl rfl ?_
    refine en_s_iconst rfl ?_
    refine en_s_iconst rfl ?_
    obtain ⟨t69, s70, h71, h⟩ := en_b2_h h
    refine en_callV (as := [.inl 0, .inl 5]) (rest := [.inl 0, .inr (.inl (some (22, 0, 0)))]) (bc' := 0) (bs' := 0) hz rfl (s_tp_takeNumber G hz (d + 3) h71) lk_9_465 mv_tp_takeNumber rfl rfl rfl rfl rfl (fun _ h => h) (Nat.le_refl _) (Nat.le_refl _) ?_
    obtain ⟨s72, e73, h⟩ := en_let_h h
    refine en_c_iast (q := 0) e73 rfl rfl (by decide) (by decide) ?_
    refine en_s_aload_n rfl rfl ?_
    refine en_s_getR (w := some (22, 0, 0)) rfl rfl rfl rfl ?_
    refine en_s_iconst rfl ?_
    refine en_s_aload_n rfl rfl ?_
    refine en_s_getR (w := some (20, 0, 0)) rfl rfl rfl rfl ?_
    refine en_s_iconst rfl ?_
    refine en_s_sipush rfl ?_
    obtain ⟨t74, s75, h76, h⟩ := en_b2_h h
    refine en_callV (as := [.inl 0, .inl 999]) (rest := [.inl 1, .inr (.inl (some (22, 0, 0)))]) (bc' := 0) (bs' := 0) hz rfl (s_tp_takeNumber G hz (d + 3) h76) lk_9_465 mv_tp_takeNumber rfl rfl rfl rfl rfl (fun _ h => h) (Nat.le_refl _) (Nat.le_refl _) ?_
    obtain ⟨s77, e78, h⟩ := en_let_h h
    refine en_c_iast (q := 1) e78 rfl rfl (by decide) (by decide) ?_
    refine en_s_goto rfl ?_
    cases h
    exact en_s_vret rfl rfl
  rw [if_neg c68] at h
  by_cases c79 : v1 = 8
  · rw [if_pos c79] at h
    refine en_s_table [(0, 52), (1, 103), (2, 142), (3, 305), (4, 213), (5, 233), (6, 233), (7, 251), (8, 286)] rfl (by decide) (en_sw_miss c1 (en_sw_miss c17 (en_sw_miss c28 (en_sw_miss c49 (en_sw_miss c50 (en_sw_miss c56 (en_sw_miss c62 (en_sw_miss c68 (en_sw_hit c79))))))))) ?_
    refine en_s_aload_n rfl rfl ?_
    refine en_s_getR (w := some (22, 0, 0)) rfl rfl rfl rfl ?_
    refine en_s_iconst rfl ?_
    refine en_s_aload_n rfl rfl ?_
    refine en_s_getR (w := some (20, 0, 0)) rfl rfl rfl rfl ?_
    refine en_s_iconst rfl ?_
    refine en_s_bipush rfl ?_
    obtain ⟨t80, s81, h82, h⟩ := en_b2_h h
    refine en_callV (as := [.inl 1, .inl 99]) (rest := [.inl 0, .inr (.inl (some (22, 0, 0)))]) (bc' := 0) (bs' := 0) hz rfl (s_tp_takeNumber G hz (d + 3) h82) lk_9_465 mv_tp_takeNumber rfl rfl rfl rfl rfl (fun _ h => h) (Nat.le_refl _) (Nat.le_refl _) ?_
    obtain ⟨s83, e84, h⟩ := en_let_h h
    refine en_c_iast (q := 0) e84 rfl rfl (by decide) (by decide) ?_
    refine en_s_goto rfl ?_
    cases h
    exact en_s_vret rfl rfl
  rw [if_neg c79] at h
  refine en_s_table [(0, 52), (1, 103), (2, 142), (3, 305), (4, 213), (5, 233), (6, 233), (7, 251), (8, 286)] rfl (by decide) (en_sw_miss c1 (en_sw_miss c17 (en_sw_miss c28 (en_sw_miss c49 (en_sw_miss c50 (en_sw_miss c56 (en_sw_miss c62 (en_sw_miss c68 (en_sw_miss c79 en_sw_nil))))))))) ?_
  cases h
  exact en_s_vret rfl rfl
def k_cc_refusalOf (v1 : Int32) (σ : en_M) : Option (Int32) :=
  if v1 = 1 then
    some (k_cd_whyNoFlow 0 σ)
  else
  if v1 = 2 then
    en_b1 (k_cd_whyNoSend 0 (σ 22 0 0 0) σ) fun t3 =>
    some t3
  else
  if v1 = 3 then
    some 0
  else
  if v1 = 4 then
    en_b1 (k_cd_whyNoDrop 0 (σ 22 0 0 0) σ) fun t7 =>
    some t7
  else
  if v1 = 5 then
    en_b1 (k_cd_whyNoPause 0 (σ 22 0 0 0) 1 σ) fun t10 =>
    some t10
  else
  if v1 = 6 then
    en_b1 (k_cd_whyNoPause 0 (σ 22 0 0 0) 0 σ) fun t13 =>
    some t13
  else
  if v1 = 7 then
    en_b1 (k_cd_whyNoRate 0 (σ 22 0 0 0) σ) fun t16 =>
    some t16
  else
  if v1 = 8 then
    some (k_cd_whyNoTick 0 σ)
  else
  some 0
set_option maxRecDepth 100000 in
set_option maxHeartbeats 4000000 in
theorem s_cc_refusalOf (G : en_G) (hz : G.2.2.2.2.2.2.2.2 = none) (d : Nat) {cs : List en_A} {σ : en_M} {v1 : Int32} {x0 : Int32}  (h : k_cc_refusalOf v1 σ = some x0) : en_Mt G (d + 3) 0 0 M_cc_refusalOf [.inr (.inl (some (14, 0, 0))), .inl v1] cs en_rf σ (.inr (some (.inl x0))) cs en_rf σ := by
  refine en_meth (ls := [some (.inr (.inl (some (14, 0, 0)))), some (.inl v1)]) md_cc_refusalOf rfl rfl rfl ?_
  unfold k_cc_refusalOf at h
  refine en_s_iload_n rfl rfl ?_
  by_cases c1 : v1 = 1
  · rw [if_pos c1] at h
    refine en_s_table [(1, 48), (2, 56), (3, 136), (4, 70), (5, 84), (6, 99), (7, 114), (8, 128)] rfl (by decide) (en_sw_hit c1) ?_
    refine en_s_aload_n rfl rfl ?_
    refine en_s_getR (w := some (0, 0, 0)) rfl rfl rfl rfl ?_
    refine en_callV (as := []) (rest := []) (bc' := 0) (bs' := 0) hz rfl (s_cd_whyNoFlow G hz (d + 2) rfl) lk_9_475 mv_cd_whyNoFlow rfl rfl rfl rfl rfl (fun _ h => h) (Nat.le_refl _) (Nat.le_refl _) ?_
    cases h
    exact en_s_iret rfl rfl
  rw [if_neg c1] at h
  by_cases c2 : v1 = 2
  · rw [if_pos c2] at h
    refine en_s_table [(1, 48), (2, 56), (3, 136), (4, 70), (5, 84), (6, 99), (7, 114), (8, 128)] rfl (by decide) (en_sw_miss c1 (en_sw_hit c2)) ?_
    refine en_s_aload_n rfl rfl ?_
    refine en_s_getR (w := some (0, 0, 0)) rfl rfl rfl rfl ?_
    refine en_s_aload_n rfl rfl ?_
    refine en_s_getR (w := some (22, 0, 0)) rfl rfl rfl rfl ?_
    refine en_s_iconst rfl ?_
    refine en_c_iald (q := 0) rfl rfl (by decide) (by decide) ?_
    obtain ⟨t3, h4, h⟩ := en_b1_h h
    refine en_callV (as := [.inl (σ 22 0 0 0)]) (rest := []) (bc' := 0) (bs' := 0) hz rfl (s_cd_whyNoSend G hz (d + 1) h4) lk_9_99 mv_cd_whyNoSend rfl rfl rfl rfl rfl (fun _ h => h) (Nat.le_refl _) (Nat.le_refl _) ?_
    cases h
    exact en_s_iret rfl rfl
  rw [if_neg c2] at h
  by_cases c5 : v1 = 3
  · rw [if_pos c5] at h
    refine en_s_table [(1, 48), (2, 56), (3, 136), (4, 70), (5, 84), (6, 99), (7, 114), (8, 128)] rfl (by decide) (en_sw_miss c1 (en_sw_miss c2 (en_sw_hit c5))) ?_
    refine en_s_iconst rfl ?_
    cases h
    exact en_s_iret rfl rfl
  rw [if_neg c5] at h
  by_cases c6 : v1 = 4
  · rw [if_pos c6] at h
    refine en_s_table [(1, 48), (2, 56), (3, 136), (4, 70), (5, 84), (6, 99), (7, 114), (8, 128)] rfl (by decide) (en_sw_miss c1 (en_sw_miss c2 (en_sw_miss c5 (en_sw_hit c6)))) ?_
    refine en_s_aload_n rfl rfl ?_
    refine en_s_getR (w := some (0, 0, 0)) rfl rfl rfl rfl ?_
    refine en_s_aload_n rfl rfl ?_
    refine en_s_getR (w := some (22, 0, 0)) rfl rfl rfl rfl ?_
    refine en_s_iconst rfl ?_
    refine en_c_iald (q := 0) rfl rfl (by decide) (by decide) ?_
    obtain ⟨t7, h8, h⟩ := en_b1_h h
    refine en_callV (as := [.inl (σ 22 0 0 0)]) (rest := []) (bc' := 0) (bs' := 0) hz rfl (s_cd_whyNoDrop G hz (d + 0) h8) lk_9_113 mv_cd_whyNoDrop rfl rfl rfl rfl rfl (fun _ h => h) (Nat.le_refl _) (Nat.le_refl _) ?_
    cases h
    exact en_s_iret rfl rfl
  rw [if_neg c6] at h
  by_cases c9 : v1 = 5
  · rw [if_pos c9] at h
    refine en_s_table [(1, 48), (2, 56), (3, 136), (4, 70), (5, 84), (6, 99), (7, 114), (8, 128)] rfl (by decide) (en_sw_miss c1 (en_sw_miss c2 (en_sw_miss c5 (en_sw_miss c6 (en_sw_hit c9))))) ?_
    refine en_s_aload_n rfl rfl ?_
    refine en_s_getR (w := some (0, 0, 0)) rfl rfl rfl rfl ?_
    refine en_s_aload_n rfl rfl ?_
    refine en_s_getR (w := some (22, 0, 0)) rfl rfl rfl rfl ?_
    refine en_s_iconst rfl ?_
    refine en_c_iald (q := 0) rfl rfl (by decide) (by decide) ?_
    refine en_s_iconst rfl ?_
    obtain ⟨t10, h11, h⟩ := en_b1_h h
    refine en_callV (as := [.inl (σ 22 0 0 0), .inl 1]) (rest := []) (bc' := 0) (bs' := 0) hz rfl (s_cd_whyNoPause G hz (d + 1) h11) lk_9_119 mv_cd_whyNoPause rfl rfl rfl rfl rfl (fun _ h => h) (Nat.le_refl _) (Nat.le_refl _) ?_
    cases h
    exact en_s_iret rfl rfl
  rw [if_neg c9] at h
  by_cases c12 : v1 = 6
  · rw [if_pos c12] at h
    refine en_s_table [(1, 48), (2, 56), (3, 136), (4, 70), (5, 84), (6, 99), (7, 114), (8, 128)] rfl (by decide) (en_sw_miss c1 (en_sw_miss c2 (en_sw_miss c5 (en_sw_miss c6 (en_sw_miss c9 (en_sw_hit c12)))))) ?_
    refine en_s_aload_n rfl rfl ?_
    refine en_s_getR (w := some (0, 0, 0)) rfl rfl rfl rfl ?_
    refine en_s_aload_n rfl rfl ?_
    refine en_s_getR (w := some (22, 0, 0)) rfl rfl rfl rfl ?_
    refine en_s_iconst rfl ?_
    refine en_c_iald (q := 0) rfl rfl (by decide) (by decide) ?_
    refine en_s_iconst rfl ?_
    obtain ⟨t13, h14, h⟩ := en_b1_h h
    refine en_callV (as := [.inl (σ 22 0 0 0), .inl 0]) (rest := []) (bc' := 0) (bs' := 0) hz rfl (s_cd_whyNoPause G hz (d + 1) h14) lk_9_119 mv_cd_whyNoPause rfl rfl rfl rfl rfl (fun _ h => h) (Nat.le_refl _) (Nat.le_refl _) ?_
    cases h
    exact en_s_iret rfl rfl
  rw [if_neg c12] at h
  by_cases c15 : v1 = 7
  · rw [if_pos c15] at h
    refine en_s_table [(1, 48), (2, 56), (3, 136), (4, 70), (5, 84), (6, 99), (7, 114), (8, 128)] rfl (by decide) (en_sw_miss c1 (en_sw_miss c2 (en_sw_miss c5 (en_sw_miss c6 (en_sw_miss c9 (en_sw_miss c12 (en_sw_hit c15))))))) ?_
    refine en_s_aload_n rfl rfl ?_
    refine en_s_getR (w := some (0, 0, 0)) rfl rfl rfl rfl ?_
    refine en_s_aload_n rfl rfl ?_
    refine en_s_getR (w := some (22, 0, 0)) rfl rfl rfl rfl ?_
    refine en_s_iconst rfl ?_
    refine en_c_iald (q := 0) rfl rfl (by decide) (by decide) ?_
    obtain ⟨t16, h17, h⟩ := en_b1_h h
    refine en_callV (as := [.inl (σ 22 0 0 0)]) (rest := []) (bc' := 0) (bs' := 0) hz rfl (s_cd_whyNoRate G hz (d + 1) h17) lk_9_128 mv_cd_whyNoRate rfl rfl rfl rfl rfl (fun _ h => h) (Nat.le_refl _) (Nat.le_refl _) ?_
    cases h
    exact en_s_iret rfl rfl
  rw [if_neg c15] at h
  by_cases c18 : v1 = 8
  · rw [if_pos c18] at h
    refine en_s_table [(1, 48), (2, 56), (3, 136), (4, 70), (5, 84), (6, 99), (7, 114), (8, 128)] rfl (by decide) (en_sw_miss c1 (en_sw_miss c2 (en_sw_miss c5 (en_sw_miss c6 (en_sw_miss c9 (en_sw_miss c12 (en_sw_miss c15 (en_sw_hit c18)))))))) ?_
    refine en_s_aload_n rfl rfl ?_
    refine en_s_getR (w := some (0, 0, 0)) rfl rfl rfl rfl ?_
    refine en_callV (as := []) (rest := []) (bc' := 0) (bs' := 0) hz rfl (s_cd_whyNoTick G hz (d + 2) rfl) lk_9_137 mv_cd_whyNoTick rfl rfl rfl rfl rfl (fun _ h => h) (Nat.le_refl _) (Nat.le_refl _) ?_
    cases h
    exact en_s_iret rfl rfl
  rw [if_neg c18] at h
  refine en_s_table [(1, 48), (2, 56), (3, 136), (4, 70), (5, 84), (6, 99), (7, 114), (8, 128)] rfl (by decide) (en_sw_miss c1 (en_sw_miss c2 (en_sw_miss c5 (en_sw_miss c6 (en_sw_miss c9 (en_sw_miss c12 (en_sw_miss c15 (en_sw_miss c18 en_sw_nil)))))))) ?_
  refine en_s_iconst rfl ?_
  cases h
  exact en_s_iret rfl rfl
def k_cc_perform (v1 : Int32) (σ : en_M) : Option (en_M) :=
  if v1 = 0 then
    en_b1 (k_cd_reset 0 (σ 22 0 0 0) (σ 22 0 0 1) (σ 22 0 0 2) σ) fun s2 =>
    some s2
  else
  if v1 = 1 then
    en_b1 (k_cd_addFlow 0 (σ 22 0 0 0) (σ 22 0 0 1) σ) fun s5 =>
    some s5
  else
  if v1 = 2 then
    en_b2 (k_cd_post 0 (σ 22 0 0 0) (σ 22 0 0 1) (σ 22 0 0 2) (σ 22 0 0 3) σ) fun t8 s9 =>
    some s9
  else
  if v1 = 3 then
    en_b2 (k_cd_ringBell 0 σ) fun t12 s13 =>
    some s13
  else
  if v1 = 4 then
    en_b2 (k_cd_dropSend 0 (σ 22 0 0 0) σ) fun t16 s17 =>
    some s17
  else
  if v1 = 5 then
    en_b2 (k_cd_setPaused 0 (σ 22 0 0 0) 1 σ) fun t20 s21 =>
    some s21
  else
  if v1 = 6 then
    en_b2 (k_cd_setPaused 0 (σ 22 0 0 0) 0 σ) fun t24 s25 =>
    some s25
  else
  if v1 = 7 then
    en_b2 (k_cd_setRate 0 (σ 22 0 0 0) (σ 22 0 0 1) σ) fun t28 s29 =>
    some s29
  else
  if v1 = 8 then
    en_b2 (k_cd_runTicks 0 (σ 22 0 0 0) σ) fun t32 s33 =>
    some s33
  else
  some σ
set_option maxRecDepth 100000 in
set_option maxHeartbeats 4000000 in
theorem s_cc_perform (G : en_G) (hz : G.2.2.2.2.2.2.2.2 = none) (d : Nat) {cs : List en_A} {σ : en_M} {v1 : Int32} {s0 : en_M}  (h : k_cc_perform v1 σ = some s0) : en_Mt G (d + 4) 0 0 M_cc_perform [.inr (.inl (some (14, 0, 0))), .inl v1] cs en_rf σ (.inr (none)) cs en_rf s0 := by
  refine en_meth (ls := [some (.inr (.inl (some (14, 0, 0)))), some (.inl v1)]) md_cc_perform rfl rfl rfl ?_
  unfold k_cc_perform at h
  refine en_s_iload_n rfl rfl ?_
  by_cases c1 : v1 = 0
  · rw [if_pos c1] at h
    refine en_s_table [(0, 52), (1, 80), (2, 102), (3, 137), (4, 148), (5, 165), (6, 183), (7, 201), (8, 224)] rfl (by decide) (en_sw_hit c1) ?_
    refine en_s_aload_n rfl rfl ?_
    refine en_s_getR (w := some (0, 0, 0)) rfl rfl rfl rfl ?_
    refine en_s_aload_n rfl rfl ?_
    refine en_s_getR (w := some (22, 0, 0)) rfl rfl rfl rfl ?_
    refine en_s_iconst rfl ?_
    refine en_c_iald (q := 0) rfl rfl (by decide) (by decide) ?_
    refine en_s_aload_n rfl rfl ?_
    refine en_s_getR (w := some (22, 0, 0)) rfl rfl rfl rfl ?_
    refine en_s_iconst rfl ?_
    refine en_c_iald (q := 1) rfl rfl (by decide) (by decide) ?_
    refine en_s_aload_n rfl rfl ?_
    refine en_s_getR (w := some (22, 0, 0)) rfl rfl rfl rfl ?_
    refine en_s_iconst rfl ?_
    refine en_c_iald (q := 2) rfl rfl (by decide) (by decide) ?_
    obtain ⟨s2, h3, h⟩ := en_b1_h h
    refine en_callV (as := [.inl (σ 22 0 0 0), .inl (σ 22 0 0 1), .inl (σ 22 0 0 2)]) (rest := []) (bc' := 0) (bs' := 0) hz rfl (s_cd_reset G hz (d + 2) h3) lk_9_478 mv_cd_reset rfl rfl rfl rfl rfl (fun _ h => h) (Nat.le_refl _) (Nat.le_refl _) ?_
    refine en_s_goto rfl ?_
    cases h
    exact en_s_vret rfl rfl
  rw [if_neg c1] at h
  by_cases c4 : v1 = 1
  · rw [if_pos c4] at h
    refine en_s_table [(0, 52), (1, 80), (2, 102), (3, 137), (4, 148), (5, 165), (6, 183), (7, 201), (8, 224)] rfl (by decide) (en_sw_miss c1 (en_sw_hit c4)) ?_
    refine en_s_aload_n rfl rfl ?_
    refine en_s_getR (w := some (0, 0, 0)) rfl rfl rfl rfl ?_
    refine en_s_aload_n rfl rfl ?_
    refine en_s_getR (w := some (22, 0, 0)) rfl rfl rfl rfl ?_
    refine en_s_iconst rfl ?_
    refine en_c_iald (q := 0) rfl rfl (by decide) (by decide) ?_
    refine en_s_aload_n rfl rfl ?_
    refine en_s_getR (w := some (22, 0, 0)) rfl rfl rfl rfl ?_
    refine en_s_iconst rfl ?_
    refine en_c_iald (q := 1) rfl rfl (by decide) (by decide) ?_
    obtain ⟨s5, h6, h⟩ := en_b1_h h
    refine en_callV (as := [.inl (σ 22 0 0 0), .inl (σ 22 0 0 1)]) (rest := []) (bc' := 0) (bs' := 0) hz rfl (s_cd_addFlow G hz (d + 2) h6) lk_9_482 mv_cd_addFlow rfl rfl rfl rfl rfl (fun _ h => h) (Nat.le_refl _) (Nat.le_refl _) ?_
    refine en_s_goto rfl ?_
    cases h
    exact en_s_vret rfl rfl
  rw [if_neg c4] at h
  by_cases c7 : v1 = 2
  · rw [if_pos c7] at h
    refine en_s_table [(0, 52), (1, 80), (2, 102), (3, 137), (4, 148), (5, 165), (6, 183), (7, 201), (8, 224)] rfl (by decide) (en_sw_miss c1 (en_sw_miss c4 (en_sw_hit c7))) ?_
    refine en_s_aload_n rfl rfl ?_
    refine en_s_getR (w := some (0, 0, 0)) rfl rfl rfl rfl ?_
    refine en_s_aload_n rfl rfl ?_
    refine en_s_getR (w := some (22, 0, 0)) rfl rfl rfl rfl ?_
    refine en_s_iconst rfl ?_
    refine en_c_iald (q := 0) rfl rfl (by decide) (by decide) ?_
    refine en_s_aload_n rfl rfl ?_
    refine en_s_getR (w := some (22, 0, 0)) rfl rfl rfl rfl ?_
    refine en_s_iconst rfl ?_
    refine en_c_iald (q := 1) rfl rfl (by decide) (by decide) ?_
    refine en_s_aload_n rfl rfl ?_
    refine en_s_getR (w := some (22, 0, 0)) rfl rfl rfl rfl ?_
    refine en_s_iconst rfl ?_
    refine en_c_iald (q := 2) rfl rfl (by decide) (by decide) ?_
    refine en_s_aload_n rfl rfl ?_
    refine en_s_getR (w := some (22, 0, 0)) rfl rfl rfl rfl ?_
    refine en_s_iconst rfl ?_
    refine en_c_iald (q := 3) rfl rfl (by decide) (by decide) ?_
    obtain ⟨t8, s9, h10, h⟩ := en_b2_h h
    refine en_callV (as := [.inl (σ 22 0 0 0), .inl (σ 22 0 0 1), .inl (σ 22 0 0 2), .inl (σ 22 0 0 3)]) (rest := []) (bc' := 0) (bs' := 0) hz rfl (s_cd_post G hz (d + 0) h10) lk_9_106 mv_cd_post rfl rfl rfl rfl rfl (fun _ h => h) (Nat.le_refl _) (Nat.le_refl _) ?_
    refine en_s_pop rfl rfl ?_
    refine en_s_goto rfl ?_
    cases h
    exact en_s_vret rfl rfl
  rw [if_neg c7] at h
  by_cases c11 : v1 = 3
  · rw [if_pos c11] at h
    refine en_s_table [(0, 52), (1, 80), (2, 102), (3, 137), (4, 148), (5, 165), (6, 183), (7, 201), (8, 224)] rfl (by decide) (en_sw_miss c1 (en_sw_miss c4 (en_sw_miss c7 (en_sw_hit c11)))) ?_
    refine en_s_aload_n rfl rfl ?_
    refine en_s_getR (w := some (0, 0, 0)) rfl rfl rfl rfl ?_
    obtain ⟨t12, s13, h14, h⟩ := en_b2_h h
    refine en_callV (as := []) (rest := []) (bc' := 0) (bs' := 0) hz rfl (s_cd_ringBell G hz (d + 1) h14) lk_9_110 mv_cd_ringBell rfl rfl rfl rfl rfl (fun _ h => h) (Nat.le_refl _) (Nat.le_refl _) ?_
    refine en_s_pop rfl rfl ?_
    refine en_s_goto rfl ?_
    cases h
    exact en_s_vret rfl rfl
  rw [if_neg c11] at h
  by_cases c15 : v1 = 4
  · rw [if_pos c15] at h
    refine en_s_table [(0, 52), (1, 80), (2, 102), (3, 137), (4, 148), (5, 165), (6, 183), (7, 201), (8, 224)] rfl (by decide) (en_sw_miss c1 (en_sw_miss c4 (en_sw_miss c7 (en_sw_miss c11 (en_sw_hit c15))))) ?_
    refine en_s_aload_n rfl rfl ?_
    refine en_s_getR (w := some (0, 0, 0)) rfl rfl rfl rfl ?_
    refine en_s_aload_n rfl rfl ?_
    refine en_s_getR (w := some (22, 0, 0)) rfl rfl rfl rfl ?_
    refine en_s_iconst rfl ?_
    refine en_c_iald (q := 0) rfl rfl (by decide) (by decide) ?_
    obtain ⟨t16, s17, h18, h⟩ := en_b2_h h
    refine en_callV (as := [.inl (σ 22 0 0 0)]) (rest := []) (bc' := 0) (bs' := 0) hz rfl (s_cd_dropSend G hz (d + 1) h18) lk_9_116 mv_cd_dropSend rfl rfl rfl rfl rfl (fun _ h => h) (Nat.le_refl _) (Nat.le_refl _) ?_
    refine en_s_pop rfl rfl ?_
    refine en_s_goto rfl ?_
    cases h
    exact en_s_vret rfl rfl
  rw [if_neg c15] at h
  by_cases c19 : v1 = 5
  · rw [if_pos c19] at h
    refine en_s_table [(0, 52), (1, 80), (2, 102), (3, 137), (4, 148), (5, 165), (6, 183), (7, 201), (8, 224)] rfl (by decide) (en_sw_miss c1 (en_sw_miss c4 (en_sw_miss c7 (en_sw_miss c11 (en_sw_miss c15 (en_sw_hit c19)))))) ?_
    refine en_s_aload_n rfl rfl ?_
    refine en_s_getR (w := some (0, 0, 0)) rfl rfl rfl rfl ?_
    refine en_s_aload_n rfl rfl ?_
    refine en_s_getR (w := some (22, 0, 0)) rfl rfl rfl rfl ?_
    refine en_s_iconst rfl ?_
    refine en_c_iald (q := 0) rfl rfl (by decide) (by decide) ?_
    refine en_s_iconst rfl ?_
    obtain ⟨t20, s21, h22, h⟩ := en_b2_h h
    refine en_callV (as := [.inl (σ 22 0 0 0), .inl 1]) (rest := []) (bc' := 0) (bs' := 0) hz rfl (s_cd_setPaused G hz (d + 1) h22) lk_9_123 mv_cd_setPaused rfl rfl rfl rfl rfl (fun _ h => h) (Nat.le_refl _) (Nat.le_refl _) ?_
    refine en_s_pop rfl rfl ?_
    refine en_s_goto rfl ?_
    cases h
    exact en_s_vret rfl rfl
  rw [if_neg c19] at h
  by_cases c23 : v1 = 6
  · rw [if_pos c23] at h
    refine en_s_table [(0, 52), (1, 80), (2, 102), (3, 137), (4, 148), (5, 165), (6, 183), (7, 201), (8, 224)] rfl (by decide) (en_sw_miss c1 (en_sw_miss c4 (en_sw_miss c7 (en_sw_miss c11 (en_sw_miss c15 (en_sw_miss c19 (en_sw_hit c23))))))) ?_
    refine en_s_aload_n rfl rfl ?_
    refine en_s_getR (w := some (0, 0, 0)) rfl rfl rfl rfl ?_
    refine en_s_aload_n rfl rfl ?_
    refine en_s_getR (w := some (22, 0, 0)) rfl rfl rfl rfl ?_
    refine en_s_iconst rfl ?_
    refine en_c_iald (q := 0) rfl rfl (by decide) (by decide) ?_
    refine en_s_iconst rfl ?_
    obtain ⟨t24, s25, h26, h⟩ := en_b2_h h
    refine en_callV (as := [.inl (σ 22 0 0 0), .inl 0]) (rest := []) (bc' := 0) (bs' := 0) hz rfl (s_cd_setPaused G hz (d + 1) h26) lk_9_123 mv_cd_setPaused rfl rfl rfl rfl rfl (fun _ h => h) (Nat.le_refl _) (Nat.le_refl _) ?_
    refine en_s_pop rfl rfl ?_
    refine en_s_goto rfl ?_
    cases h
    exact en_s_vret rfl rfl
  rw [if_neg c23] at h
  by_cases c27 : v1 = 7
  · rw [if_pos c27] at h
    refine en_s_table [(0, 52), (1, 80), (2, 102), (3, 137), (4, 148), (5, 165), (6, 183), (7, 201), (8, 224)] rfl (by decide) (en_sw_miss c1 (en_sw_miss c4 (en_sw_miss c7 (en_sw_miss c11 (en_sw_miss c15 (en_sw_miss c19 (en_sw_miss c23 (en_sw_hit c27)))))))) ?_
    refine en_s_aload_n rfl rfl ?_
    refine en_s_getR (w := some (0, 0, 0)) rfl rfl rfl rfl ?_
    refine en_s_aload_n rfl rfl ?_
    refine en_s_getR (w := some (22, 0, 0)) rfl rfl rfl rfl ?_
    refine en_s_iconst rfl ?_
    refine en_c_iald (q := 0) rfl rfl (by decide) (by decide) ?_
    refine en_s_aload_n rfl rfl ?_
    refine en_s_getR (w := some (22, 0, 0)) rfl rfl rfl rfl ?_
    refine en_s_iconst rfl ?_
    refine en_c_iald (q := 1) rfl rfl (by decide) (by decide) ?_
    obtain ⟨t28, s29, h30, h⟩ := en_b2_h h
    refine en_callV (as := [.inl (σ 22 0 0 0), .inl (σ 22 0 0 1)]) (rest := []) (bc' := 0) (bs' := 0) hz rfl (s_cd_setRate G hz (d + 1) h30) lk_9_131 mv_cd_setRate rfl rfl rfl rfl rfl (fun _ h => h) (Nat.le_refl _) (Nat.le_refl _) ?_
    refine en_s_pop rfl rfl ?_
    refine en_s_goto rfl ?_
    cases h
    exact en_s_vret rfl rfl
  rw [if_neg c27] at h
  by_cases c31 : v1 = 8
  · rw [if_pos c31] at h
    refine en_s_table [(0, 52), (1, 80), (2, 102), (3, 137), (4, 148), (5, 165), (6, 183), (7, 201), (8, 224)] rfl (by decide) (en_sw_miss c1 (en_sw_miss c4 (en_sw_miss c7 (en_sw_miss c11 (en_sw_miss c15 (en_sw_miss c19 (en_sw_miss c23 (en_sw_miss c27 (en_sw_hit c31))))))))) ?_
    refine en_s_aload_n rfl rfl ?_
    refine en_s_getR (w := some (0, 0, 0)) rfl rfl rfl rfl ?_
    refine en_s_aload_n rfl rfl ?_
    refine en_s_getR (w := some (22, 0, 0)) rfl rfl rfl rfl ?_
    refine en_s_iconst rfl ?_
    refine en_c_iald (q := 0) rfl rfl (by decide) (by decide) ?_
    obtain ⟨t32, s33, h34, h⟩ := en_b2_h h
    refine en_callV (as := [.inl (σ 22 0 0 0)]) (rest := []) (bc' := 0) (bs' := 0) hz rfl (s_cd_runTicks G hz (d + 0) h34) lk_9_140 mv_cd_runTicks rfl rfl rfl rfl rfl (fun _ h => h) (Nat.le_refl _) (Nat.le_refl _) ?_
    refine en_s_pop rfl rfl ?_
    refine en_s_goto rfl ?_
    cases h
    exact en_s_vret rfl rfl
  rw [if_neg c31] at h
  refine en_s_table [(0, 52), (1, 80), (2, 102), (3, 137), (4, 148), (5, 165), (6, 183), (7, 201), (8, 224)] rfl (by decide) (en_sw_miss c1 (en_sw_miss c4 (en_sw_miss c7 (en_sw_miss c11 (en_sw_miss c15 (en_sw_miss c19 (en_sw_miss c23 (en_sw_miss c27 (en_sw_miss c31 en_sw_nil))))))))) ?_
  cases h
  exact en_s_vret rfl rfl
def k_cc_readAct  (σ : en_M) : Option (en_M) :=
  en_b2 (k_tp_takeAct σ) fun t1 s2 =>
  en_b1 (k_cc_readNumbers t1 s2) fun s4 =>
  if (k_tp_isRight s4) = 0 then
    some s4
  else
    en_b1 (k_cc_refusalOf t1 s4) fun t7 =>
    if t7 = 0 then
      en_b1 (k_cc_perform t1 s4) fun s10 =>
      some s10
    else
      en_let (en_wr s4 14 0 0 9 t7) fun s12 =>
      en_b1 (k_tp_markAt (σ 20 0 0 3) s12) fun s14 =>
      some s14
set_option maxRecDepth 100000 in
set_option maxHeartbeats 4000000 in
theorem s_cc_readAct (G : en_G) (hz : G.2.2.2.2.2.2.2.2 = none) (d : Nat) {cs : List en_A} {σ : en_M}  {s0 : en_M}  (h : k_cc_readAct  σ = some s0) : en_Mt G (d + 7) 0 0 M_cc_readAct [.inr (.inl (some (14, 0, 0)))] cs en_rf σ (.inr (none)) cs en_rf s0 := by
  refine en_meth (ls := [some (.inr (.inl (some (14, 0, 0)))), none, none, none]) md_cc_readAct rfl rfl rfl ?_
  unfold k_cc_readAct at h
  refine en_s_aload_n rfl rfl ?_
  refine en_s_getR (w := some (20, 0, 0)) rfl rfl rfl rfl ?_
  refine en_s_getI rfl rfl rfl ?_
  refine en_s_istore_n (ls' := [some (.inr (.inl (some (14, 0, 0)))), some (.inl (σ 20 0 0 3)), none, none]) rfl rfl rfl ?_
  refine en_s_aload_n rfl rfl ?_
  refine en_s_getR (w := some (20, 0, 0)) rfl rfl rfl rfl ?_
  obtain ⟨t1, s2, h3, h⟩ := en_b2_h h
  refine en_callV (as := []) (rest := []) (bc' := 0) (bs' := 0) hz rfl (s_tp_takeAct G hz (d + 0) h3) lk_9_450 mv_tp_takeAct rfl rfl rfl rfl rfl (fun _ h => h) (Nat.le_refl _) (Nat.le_refl _) ?_
  refine en_s_istore_n (ls' := [some (.inr (.inl (some (14, 0, 0)))), some (.inl (σ 20 0 0 3)), some (.inl t1), none]) rfl rfl rfl ?_
  refine en_s_aload_n rfl rfl ?_
  refine en_s_iload_n rfl rfl ?_
  obtain ⟨s4, h5, h⟩ := en_b1_h h
  refine en_callV (as := [.inl t1]) (rest := []) (bc' := 0) (bs' := 0) hz rfl (s_cc_readNumbers G hz (d + 0) h5) lk_9_453 mv_cc_readNumbers rfl rfl rfl rfl rfl (fun _ h => h) (Nat.le_refl _) (Nat.le_refl _) ?_
  refine en_s_aload_n rfl rfl ?_
  refine en_s_getR (w := some (20, 0, 0)) rfl rfl rfl rfl ?_
  refine en_callV (as := []) (rest := []) (bc' := 0) (bs' := 0) hz rfl (s_tp_isRight G hz (d + 6) rfl) lk_9_438 mv_tp_isRight rfl rfl rfl rfl rfl (fun _ h => h) (Nat.le_refl _) (Nat.le_refl _) ?_
  refine en_s_if_ne rfl (fun c6 => ?_) (fun c6 => ?_)
  · rw [if_neg c6] at h
    refine en_s_aload_n rfl rfl ?_
    refine en_s_iload_n rfl rfl ?_
    obtain ⟨t7, h8, h⟩ := en_b1_h h
    refine en_callV (as := [.inl t1]) (rest := []) (bc' := 0) (bs' := 0) hz rfl (s_cc_refusalOf G hz (d + 3) h8) lk_9_456 mv_cc_refusalOf rfl rfl rfl rfl rfl (fun _ h => h) (Nat.le_refl _) (Nat.le_refl _) ?_
    refine en_s_istore_n (ls' := [some (.inr (.inl (some (14, 0, 0)))), some (.inl (σ 20 0 0 3)), some (.inl t1), some (.inl t7)]) rfl rfl rfl ?_
    refine en_s_iload_n rfl rfl ?_
    refine en_s_if_eq rfl (fun c9 => ?_) (fun c9 => ?_)
    · rw [if_pos c9] at h
      refine en_s_aload_n rfl rfl ?_
      refine en_s_iload_n rfl rfl ?_
      obtain ⟨s10, h11, h⟩ := en_b1_h h
      refine en_callV (as := [.inl t1]) (rest := []) (bc' := 0) (bs' := 0) hz rfl (s_cc_perform G hz (d + 2) h11) lk_9_462 mv_cc_perform rfl rfl rfl rfl rfl (fun _ h => h) (Nat.le_refl _) (Nat.le_refl _) ?_
      cases h
      exact en_s_vret rfl rfl
    · rw [if_neg c9] at h
      refine en_s_aload_n rfl rfl ?_
      refine en_s_iload_n rfl rfl ?_
      obtain ⟨s12, e13, h⟩ := en_let_h h
      refine en_p_putI e13 rfl rfl rfl rfl rfl ?_
      refine en_s_aload_n rfl rfl ?_
      refine en_s_getR (w := some (20, 0, 0)) rfl rfl rfl rfl ?_
      refine en_s_iload_n rfl rfl ?_
      obtain ⟨s14, h15, h⟩ := en_b1_h h
      refine en_callV (as := [.inl (σ 20 0 0 3)]) (rest := []) (bc' := 0) (bs' := 0) hz rfl (s_tp_markAt G hz (d + 6) h15) lk_9_459 mv_tp_markAt rfl rfl rfl rfl rfl (fun _ h => h) (Nat.le_refl _) (Nat.le_refl _) ?_
      cases h
      exact en_s_vret rfl rfl
  · rw [if_pos c6] at h
    cases h
    exact en_s_vret rfl rfl
def k_cc_readActs_21 (f0 : Nat) (v1 : Int32) (σ : en_M) : Option ((Int32 × en_M) ⊕ (en_M)) := match f0 with
  | 0 => none
  | f9 + 1 =>
    if 14 < v1 then
      some (.inr (σ))
    else
      en_b1 (k_cc_readAct σ) fun s5 =>
      if (k_tp_isRight s5) = 0 then
        en_b1 (k_tp_takeSemicolon s5) fun s8 =>
        if (k_tp_isRight s8) = 0 then
          some (.inl ((-1), s8))
        else
          k_cc_readActs_21 f9 (v1 + 1) s8
      else
        if (k_tp_atEnd s5) = 0 then
          en_b1 (k_tp_takeSemicolon s5) fun s12 =>
          if (k_tp_isRight s12) = 0 then
            some (.inl ((-1), s12))
          else
            k_cc_readActs_21 f9 (v1 + 1) s12
        else
          some (.inl (v1, s5))
def k_cc_readActs  (σ : en_M) : Option (Int32 × en_M) :=
  en_b1 (k_tp_open σ) fun s1 =>
  if (k_tp_atEnd s1) = 0 then
    en_rx (k_cc_readActs_21 en_fu 1 s1) (fun r18 => some r18) (fun s16 =>
    en_b1 (k_tp_markHere s16) fun s20 =>
    some ((-1), s20))
  else
    some (0, s1)
set_option maxRecDepth 100000 in
set_option maxHeartbeats 4000000 in
theorem s_cc_readActs_21 (G : en_G) (hz : G.2.2.2.2.2.2.2.2 = none) {d : Nat} {r : en_P} {cs cs' : List en_A} {ρ' : en_R} {σ' : en_M} : ∀ (f0 : Nat) {v1 : Int32}  {σ : en_M} {x9 : ((Int32 × en_M) ⊕ (en_M))} , k_cc_readActs_21 f0 v1 σ = some x9 →
    (∀ a9, x9 = .inl a9 → r = .inr (some (.inl a9.1)) ∧ cs' = cs ∧ ρ' = en_rf ∧ σ' = a9.2) →
    (∀ (s0 : en_M), x9 = .inr s0 → ∀ (f1 : Option en_V), en_W G (d + 8) 0 0 M_cc_readActs r cs' ρ' σ' 0 0 78 [some (.inr (.inl (some (14, 0, 0)))), f1] [] cs en_rf s0) → en_W G (d + 8) 0 0 M_cc_readActs r cs' ρ' σ' 0 0 21 [some (.inr (.inl (some (14, 0, 0)))), some (.inl v1)] [] cs en_rf σ := by
  intro f0
  induction f0 with
  | zero =>
    intros
    rename_i h _ _
    cases h
  | succ f9 ih =>
    intro v1 σ x9 h hr hk
    rw [k_cc_readActs_21] at h
    refine en_s_iload_n rfl rfl ?_
    refine en_s_bipush rfl ?_
    refine en_s_icmp_gt rfl (fun c4 => ?_) (fun c4 => ?_)
    · rw [if_pos c4] at h
      obtain rfl := Option.some.inj h
      exact hk _ rfl (some (.inl v1))
    · rw [if_neg c4] at h
      refine en_s_aload_n rfl rfl ?_
      obtain ⟨s5, h6, h⟩ := en_b1_h h
      refine en_callV (as := []) (rest := []) (bc' := 0) (bs' := 0) hz rfl (s_cc_readAct G hz (d + 0) h6) lk_9_435 mv_cc_readAct rfl rfl rfl rfl rfl (fun _ h => h) (Nat.le_refl _) (Nat.le_refl _) ?_
      refine en_s_aload_n rfl rfl ?_
      refine en_s_getR (w := some (20, 0, 0)) rfl rfl rfl rfl ?_
      refine en_callV (as := []) (rest := []) (bc' := 0) (bs' := 0) hz rfl (s_tp_isRight G hz (d + 7) rfl) lk_9_438 mv_tp_isRight rfl rfl rfl rfl rfl (fun _ h => h) (Nat.le_refl _) (Nat.le_refl _) ?_
      refine en_s_if_eq rfl (fun c7 => ?_) (fun c7 => ?_)
      · rw [if_pos c7] at h
        refine en_s_aload_n rfl rfl ?_
        refine en_s_getR (w := some (20, 0, 0)) rfl rfl rfl rfl ?_
        obtain ⟨s8, h9, h⟩ := en_b1_h h
        refine en_callV (as := []) (rest := []) (bc' := 0) (bs' := 0) hz rfl (s_tp_takeSemicolon G hz (d + 5) h9) lk_9_441 mv_tp_takeSemicolon rfl rfl rfl rfl rfl (fun _ h => h) (Nat.le_refl _) (Nat.le_refl _) ?_
        refine en_s_aload_n rfl rfl ?_
        refine en_s_getR (w := some (20, 0, 0)) rfl rfl rfl rfl ?_
        refine en_callV (as := []) (rest := []) (bc' := 0) (bs' := 0) hz rfl (s_tp_isRight G hz (d + 7) rfl) lk_9_438 mv_tp_isRight rfl rfl rfl rfl rfl (fun _ h => h) (Nat.le_refl _) (Nat.le_refl _) ?_
        refine en_s_if_ne rfl (fun c10 => ?_) (fun c10 => ?_)
        · rw [if_neg c10] at h
          refine en_s_iinc (ls' := [some (.inr (.inl (some (14, 0, 0)))), some (.inl (v1 + 1))]) rfl rfl rfl ?_
          refine en_s_goto rfl ?_
          exact ih  h hr hk
        · rw [if_pos c10] at h
          refine en_s_iconst rfl ?_
          obtain rfl := Option.some.inj h
          obtain ⟨rfl, rfl, rfl, rfl⟩ := hr _ rfl
          exact en_s_iret rfl rfl
      · rw [if_neg c7] at h
        refine en_s_aload_n rfl rfl ?_
        refine en_s_getR (w := some (20, 0, 0)) rfl rfl rfl rfl ?_
        refine en_callV (as := []) (rest := []) (bc' := 0) (bs' := 0) hz rfl (s_tp_atEnd G hz (d + 7) rfl) lk_9_431 mv_tp_atEnd rfl rfl rfl rfl rfl (fun _ h => h) (Nat.le_refl _) (Nat.le_refl _) ?_
        refine en_s_if_eq rfl (fun c11 => ?_) (fun c11 => ?_)
        · rw [if_pos c11] at h
          refine en_s_aload_n rfl rfl ?_
          refine en_s_getR (w := some (20, 0, 0)) rfl rfl rfl rfl ?_
          obtain ⟨s12, h13, h⟩ := en_b1_h h
          refine en_callV (as := []) (rest := []) (bc' := 0) (bs' := 0) hz rfl (s_tp_takeSemicolon G hz (d + 5) h13) lk_9_441 mv_tp_takeSemicolon rfl rfl rfl rfl rfl (fun _ h => h) (Nat.le_refl _) (Nat.le_refl _) ?_
          refine en_s_aload_n rfl rfl ?_
          refine en_s_getR (w := some (20, 0, 0)) rfl rfl rfl rfl ?_
          refine en_callV (as := []) (rest := []) (bc' := 0) (bs' := 0) hz rfl (s_tp_isRight G hz (d + 7) rfl) lk_9_438 mv_tp_isRight rfl rfl rfl rfl rfl (fun _ h => h) (Nat.le_refl _) (Nat.le_refl _) ?_
          refine en_s_if_ne rfl (fun c14 => ?_) (fun c14 => ?_)
          · rw [if_neg c14] at h
            refine en_s_iinc (ls' := [some (.inr (.inl (some (14, 0, 0)))), some (.inl (v1 + 1))]) rfl rfl rfl ?_
            refine en_s_goto rfl ?_
            exact ih  h hr hk
          · rw [if_pos c14] at h
            refine en_s_iconst rfl ?_
            obtain rfl := Option.some.inj h
            obtain ⟨rfl, rfl, rfl, rfl⟩ := hr _ rfl
            exact en_s_iret rfl rfl
        · rw [if_neg c11] at h
          refine en_s_iload_n rfl rfl ?_
          obtain rfl := Option.some.inj h
          obtain ⟨rfl, rfl, rfl, rfl⟩ := hr _ rfl
          exact en_s_iret rfl rfl
set_option maxRecDepth 100000 in
set_option maxHeartbeats 4000000 in
theorem s_cc_readActs (G : en_G) (hz : G.2.2.2.2.2.2.2.2 = none) (d : Nat) {cs : List en_A} {σ : en_M}  {x0 : Int32} {s0 : en_M}  (h : k_cc_readActs  σ = some (x0, s0)) : en_Mt G (d + 8) 0 0 M_cc_readActs [.inr (.inl (some (14, 0, 0)))] cs en_rf σ (.inr (some (.inl x0))) cs en_rf s0 := by
  refine en_meth (ls := [some (.inr (.inl (some (14, 0, 0)))), none]) md_cc_readActs rfl rfl rfl ?_
  unfold k_cc_readActs at h
  refine en_s_aload_n rfl rfl ?_
  refine en_s_getR (w := some (20, 0, 0)) rfl rfl rfl rfl ?_
  obtain ⟨s1, h2, h⟩ := en_b1_h h
  refine en_callV (as := []) (rest := []) (bc' := 0) (bs' := 0) hz rfl (s_tp_open G hz (d + 5) h2) lk_9_428 mv_tp_open rfl rfl rfl rfl rfl (fun _ h => h) (Nat.le_refl _) (Nat.le_refl _) ?_
  refine en_s_aload_n rfl rfl ?_
  refine en_s_getR (w := some (20, 0, 0)) rfl rfl rfl rfl ?_
  refine en_callV (as := []) (rest := []) (bc' := 0) (bs' := 0) hz rfl (s_tp_atEnd G hz (d + 7) rfl) lk_9_431 mv_tp_atEnd rfl rfl rfl rfl rfl (fun _ h => h) (Nat.le_refl _) (Nat.le_refl _) ?_
  refine en_s_if_eq rfl (fun c3 => ?_) (fun c3 => ?_)
  · rw [if_pos c3] at h
    refine en_s_iconst rfl ?_
    refine en_s_istore_n (ls' := [some (.inr (.inl (some (14, 0, 0)))), some (.inl 1)]) rfl rfl rfl ?_
    rcases en_rx_h h with ⟨r18, h17, h⟩ | ⟨s16, h17, h⟩
    · obtain rfl := Option.some.inj h
      exact s_cc_readActs_21 G hz en_fu  h17 (fun _ e9 => by cases e9; exact ⟨rfl, rfl, rfl, rfl⟩) (fun _ e9 => by cases e9)
    · refine s_cc_readActs_21 G hz en_fu  h17 (fun _ e9 => by cases e9) (fun _ e9 f15 => ?_)
      cases e9
      refine en_s_aload_n rfl rfl ?_
      refine en_s_getR (w := some (20, 0, 0)) rfl rfl rfl rfl ?_
      obtain ⟨s20, h21, h⟩ := en_b1_h h
      refine en_callV (as := []) (rest := []) (bc' := 0) (bs' := 0) hz rfl (s_tp_markHere G hz (d + 6) h21) lk_9_444 mv_tp_markHere rfl rfl rfl rfl rfl (fun _ h => h) (Nat.le_refl _) (Nat.le_refl _) ?_
      refine en_s_iconst rfl ?_
      cases h
      exact en_s_iret rfl rfl
  · rw [if_neg c3] at h
    refine en_s_iconst rfl ?_
    cases h
    exact en_s_iret rfl rfl
def k_cc_acts  (σ : en_M) : Option ((Nat ⊕ Int32) × en_M) :=
  en_b1 (k_cd_copyFrom 1 0 σ) fun s1 =>
  en_b2 (k_cc_readActs s1) fun t3 s4 =>
  en_let (en_wr s4 14 0 0 10 (s4 20 0 0 5)) fun s6 =>
  en_let (en_wr s6 20 0 0 1 0) fun s8 =>
  if t3 = (-1) then
    en_b1 (k_cd_copyFrom 0 1 s8) fun s16 =>
    some (.inl 0, s16)
  else
    en_b1 (k_hi_forget s8) fun s11 =>
    if t3 ≤ 0 then
      some (.inr t3, s11)
    else
      en_let (en_wr s11 14 0 0 9 0) fun s14 =>
      some (.inr t3, s14)
set_option maxRecDepth 100000 in
set_option maxHeartbeats 4000000 in
theorem s_cc_acts (G : en_G) (hz : G.2.2.2.2.2.2.2.2 = none) (d : Nat) {cs : List en_A} {σ : en_M}  {x0 : (Nat ⊕ Int32)} {s0 : en_M}  (h : k_cc_acts  σ = some (x0, s0)) : en_Mt G (d + 9) 1 6 M_cc_acts [.inr (.inl (some (14, 0, 0)))] cs en_rf σ (en_ri x0) cs en_rf s0 := by
  refine en_meth (ls := [some (.inr (.inl (some (14, 0, 0)))), none]) md_cc_acts rfl rfl rfl ?_
  unfold k_cc_acts at h
  refine en_s_aload_n rfl rfl ?_
  refine en_s_getR (w := some (0, 1, 0)) rfl rfl rfl rfl ?_
  refine en_s_aload_n rfl rfl ?_
  refine en_s_getR (w := some (0, 0, 0)) rfl rfl rfl rfl ?_
  obtain ⟨s1, h2, h⟩ := en_b1_h h
  refine en_callV (as := [.inr (.inl (some (0, 0, 0)))]) (rest := []) (bc' := 1) (bs' := 6) hz rfl (s_cd_copyFrom G hz (d + 6) h2) lk_9_72 mv_cd_copyFrom rfl rfl rfl rfl rfl (fun _ h => h) (Nat.le_refl _) (Nat.le_refl _) ?_
  refine en_s_aload_n rfl rfl ?_
  obtain ⟨t3, s4, h5, h⟩ := en_b2_h h
  refine en_callV (as := []) (rest := []) (bc' := 1) (bs' := 6) hz rfl (s_cc_readActs G hz (d + 0) h5) lk_9_76 mv_cc_readActs rfl rfl rfl rfl rfl (fun _ h => h) (Nat.le_refl _) (Nat.le_refl _) ?_
  refine en_s_istore_n (ls' := [some (.inr (.inl (some (14, 0, 0)))), some (.inl t3)]) rfl rfl rfl ?_
  refine en_s_aload_n rfl rfl ?_
  refine en_s_aload_n rfl rfl ?_
  refine en_s_getR (w := some (20, 0, 0)) rfl rfl rfl rfl ?_
  refine en_s_getI rfl rfl rfl ?_
  obtain ⟨s6, e7, h⟩ := en_let_h h
  refine en_p_putI e7 rfl rfl rfl rfl rfl ?_
  refine en_s_aload_n rfl rfl ?_
  refine en_s_getR (w := some (20, 0, 0)) rfl rfl rfl rfl ?_
  refine en_s_iconst rfl ?_
  obtain ⟨s8, e9, h⟩ := en_let_h h
  refine en_p_putI e9 rfl rfl rfl rfl rfl ?_
  refine en_s_iload_n rfl rfl ?_
  refine en_s_iconst rfl ?_
  refine en_s_icmp_ne rfl (fun c10 => ?_) (fun c10 => ?_)
  · rw [if_neg c10] at h
    refine en_s_aload_n rfl rfl ?_
    refine en_s_getR (w := some (15, 0, 0)) rfl rfl rfl rfl ?_
    obtain ⟨s11, h12, h⟩ := en_b1_h h
    refine en_callV (as := []) (rest := []) (bc' := 1) (bs' := 6) hz rfl (s_hi_forget G hz (d + 8) h12) lk_9_90 mv_hi_forget rfl rfl rfl rfl rfl (fun _ h => h) (Nat.le_refl _) (Nat.le_refl _) ?_
    refine en_s_iload_n rfl rfl ?_
    refine en_s_if_le rfl (fun c13 => ?_) (fun c13 => ?_)
    · rw [if_pos c13] at h
      refine en_s_iload_n rfl rfl ?_
      cases h
      exact en_s_iret rfl rfl
    · rw [if_neg c13] at h
      refine en_s_aload_n rfl rfl ?_
      refine en_s_iconst rfl ?_
      obtain ⟨s14, e15, h⟩ := en_let_h h
      refine en_p_putI e15 rfl rfl rfl rfl rfl ?_
      refine en_s_iload_n rfl rfl ?_
      cases h
      exact en_s_iret rfl rfl
  · rw [if_pos c10] at h
    refine en_s_aload_n rfl rfl ?_
    refine en_s_getR (w := some (0, 0, 0)) rfl rfl rfl rfl ?_
    refine en_s_aload_n rfl rfl ?_
    refine en_s_getR (w := some (0, 1, 0)) rfl rfl rfl rfl ?_
    obtain ⟨s16, h17, h⟩ := en_b1_h h
    refine en_callV (as := [.inr (.inl (some (0, 1, 0)))]) (rest := []) (bc' := 1) (bs' := 6) hz rfl (s_cd_copyFrom G hz (d + 6) h17) lk_9_72 mv_cd_copyFrom rfl rfl rfl rfl rfl (fun _ h => h) (Nat.le_refl _) (Nat.le_refl _) ?_
    cases h
    exact en_s_throw (n := 0) (is := 85) (text := "the text is wrong") (bc := 0) (bs := 0) (by decide) rfl rfl (by decide +kernel) rfl rfl rfl rfl rfl rfl
def k_cc_back  (σ : en_M) : Option (Int32 × en_M) :=
  if (σ 14 0 0 8) = 0 then
    some (0, σ)
  else
    en_b1 (k_cd_copyFrom 0 2 σ) fun s2 =>
    en_b1 (k_hi_forget s2) fun s4 =>
    some (1, s4)
set_option maxRecDepth 100000 in
set_option maxHeartbeats 4000000 in
theorem s_cc_back (G : en_G) (hz : G.2.2.2.2.2.2.2.2 = none) (d : Nat) {cs : List en_A} {σ : en_M}  {x0 : Int32} {s0 : en_M}  (h : k_cc_back  σ = some (x0, s0)) : en_Mt G (d + 3) 0 0 M_cc_back [.inr (.inl (some (14, 0, 0)))] cs en_rf σ (.inr (some (.inl x0))) cs en_rf s0 := by
  refine en_meth (ls := [some (.inr (.inl (some (14, 0, 0))))]) md_cc_back rfl rfl rfl ?_
  unfold k_cc_back at h
  refine en_s_aload_n rfl rfl ?_
  refine en_s_getI rfl rfl rfl ?_
  refine en_s_if_ne rfl (fun c1 => ?_) (fun c1 => ?_)
  · rw [if_neg c1] at h
    refine en_s_aload_n rfl rfl ?_
    refine en_s_getR (w := some (0, 0, 0)) rfl rfl rfl rfl ?_
    refine en_s_aload_n rfl rfl ?_
    refine en_s_getR (w := some (0, 2, 0)) rfl rfl rfl rfl ?_
    obtain ⟨s2, h3, h⟩ := en_b1_h h
    refine en_callV (as := [.inr (.inl (some (0, 2, 0)))]) (rest := []) (bc' := 0) (bs' := 0) hz rfl (s_cd_copyFrom G hz (d + 0) h3) lk_9_72 mv_cd_copyFrom rfl rfl rfl rfl rfl (fun _ h => h) (Nat.le_refl _) (Nat.le_refl _) ?_
    refine en_s_aload_n rfl rfl ?_
    refine en_s_getR (w := some (15, 0, 0)) rfl rfl rfl rfl ?_
    obtain ⟨s4, h5, h⟩ := en_b1_h h
    refine en_callV (as := []) (rest := []) (bc' := 0) (bs' := 0) hz rfl (s_hi_forget G hz (d + 2) h5) lk_9_90 mv_hi_forget rfl rfl rfl rfl rfl (fun _ h => h) (Nat.le_refl _) (Nat.le_refl _) ?_
    refine en_s_iconst rfl ?_
    cases h
    exact en_s_zret rfl rfl (Or.inr rfl)
  · rw [if_pos c1] at h
    refine en_s_iconst rfl ?_
    cases h
    exact en_s_zret rfl rfl (Or.inl rfl)
def k_cc_startAct (v1 : Int32) (σ : en_M) : Option ((Nat ⊕ Unit) × en_M) :=
  en_let (en_wr σ 14 0 0 9 v1) fun s1 =>
  if v1 = 0 then
    en_b1 (k_hi_remember 0 s1) fun s4 =>
    some (.inr (), s4)
  else
    some (.inl 1, s1)
set_option maxRecDepth 100000 in
set_option maxHeartbeats 4000000 in
theorem s_cc_startAct (G : en_G) (hz : G.2.2.2.2.2.2.2.2 = none) (d : Nat) {cs : List en_A} {σ : en_M} {v1 : Int32} {x0 : (Nat ⊕ Unit)} {s0 : en_M}  (h : k_cc_startAct v1 σ = some (x0, s0)) : en_Mt G (d + 6) 1 6 M_cc_startAct [.inr (.inl (some (14, 0, 0))), .inl v1] cs en_rf σ (en_ru x0) cs en_rf s0 := by
  refine en_meth (ls := [some (.inr (.inl (some (14, 0, 0)))), some (.inl v1)]) md_cc_startAct rfl rfl rfl ?_
  unfold k_cc_startAct at h
  refine en_s_aload_n rfl rfl ?_
  refine en_s_iload_n rfl rfl ?_
  obtain ⟨s1, e2, h⟩ := en_let_h h
  refine en_p_putI e2 rfl rfl rfl rfl rfl ?_
  refine en_s_iload_n rfl rfl ?_
  refine en_s_if_eq rfl (fun c3 => ?_) (fun c3 => ?_)
  · rw [if_pos c3] at h
    refine en_s_aload_n rfl rfl ?_
    refine en_s_getR (w := some (15, 0, 0)) rfl rfl rfl rfl ?_
    refine en_s_aload_n rfl rfl ?_
    refine en_s_getR (w := some (0, 0, 0)) rfl rfl rfl rfl ?_
    obtain ⟨s4, h5, h⟩ := en_b1_h h
    refine en_callV (as := [.inr (.inl (some (0, 0, 0)))]) (rest := []) (bc' := 1) (bs' := 6) hz rfl (s_hi_remember G hz (d + 2) h5) lk_9_412 mv_hi_remember rfl rfl rfl rfl rfl (fun _ h => h) (Nat.le_refl _) (Nat.le_refl _) ?_
    cases h
    exact en_s_vret rfl rfl
  · rw [if_neg c3] at h
    cases h
    exact en_s_throwW (n := 1) (is := 410) (text := "the act is refused") (bc := 0) (bs := 0) (by decide) rfl rfl (by decide +kernel) rfl rfl rfl rfl rfl rfl
def k_cc_bell  (σ : en_M) : Option ((Nat ⊕ Int32) × en_M) :=
  en_b2 (k_cc_startAct 0 σ) fun t1 s2 =>
  en_tx t1 (fun n4 => some (.inl n4, s2)) (fun x5 =>
  en_b2 (k_cd_ringBell 0 s2) fun t6 s7 =>
  some (.inr t6, s7))
set_option maxRecDepth 100000 in
set_option maxHeartbeats 4000000 in
theorem s_cc_bell (G : en_G) (hz : G.2.2.2.2.2.2.2.2 = none) (d : Nat) {cs : List en_A} {σ : en_M}  {x0 : (Nat ⊕ Int32)} {s0 : en_M}  (h : k_cc_bell  σ = some (x0, s0)) : en_Mt G (d + 7) 1 6 M_cc_bell [.inr (.inl (some (14, 0, 0)))] cs en_rf σ (en_ri x0) cs en_rf s0 := by
  refine en_meth (ls := [some (.inr (.inl (some (14, 0, 0))))]) md_cc_bell rfl rfl rfl ?_
  unfold k_cc_bell at h
  refine en_s_aload_n rfl rfl ?_
  refine en_s_iconst rfl ?_
  obtain ⟨t1, s2, h3, h⟩ := en_b2_h h
  rcases t1 with n4 | x5
  · simp only [en_tx] at h
    cases h
    exact en_callVX (as := [.inl 0]) (rest := []) hz rfl (s_cc_startAct G hz (d + 0) h3) lk_9_103 mv_cc_startAct rfl rfl rfl rfl rfl (by decide) (by decide) rfl
  · simp only [en_tx] at h
    refine en_callV (as := [.inl 0]) (rest := []) (bc' := 0) (bs' := 0) hz rfl (s_cc_startAct G hz (d + 0) h3) lk_9_103 mv_cc_startAct rfl rfl rfl rfl rfl (fun _ h => h) (by decide) (by decide) ?_
    refine en_s_aload_n rfl rfl ?_
    refine en_s_getR (w := some (0, 0, 0)) rfl rfl rfl rfl ?_
    obtain ⟨t6, s7, h8, h⟩ := en_b2_h h
    refine en_callV (as := []) (rest := []) (bc' := 0) (bs' := 0) hz rfl (s_cd_ringBell G hz (d + 4) h8) lk_9_110 mv_cd_ringBell rfl rfl rfl rfl rfl (fun _ h => h) (Nat.le_refl _) (Nat.le_refl _) ?_
    cases h
    exact en_s_iret rfl rfl
def k_cc_unlikePairs_21 (f0 : Nat) (v1 : Int32) (v2 : Int32) (v3 : Int32) (v4 : Int32) (σ : en_M) : Option (Int32) := match f0 with
  | 0 => none
  | f9 + 1 =>
    if v3 ≤ v4 then
      some (v2)
    else
      en_b1 (en_rd 56 (σ 23 0 0) v3) fun t4 =>
      en_b1 (en_rd 56 (σ 23 0 0) v4) fun t6 =>
      if t4 = t6 then
        k_cc_unlikePairs_21 f9 v1 v2 v3 (v4 + 1) σ
      else
        k_cc_unlikePairs_21 f9 v1 (v2 + 1) v3 (v4 + 1) σ
def k_cc_unlikePairs_4 (f0 : Nat) (v1 : Int32) (v2 : Int32) (v3 : Int32) (σ : en_M) : Option (Int32) := match f0 with
  | 0 => none
  | f9 + 1 =>
    if v1 ≤ v3 then
      some (v2)
    else
      if 56 ≤ v3 then
        some (v2)
      else
        en_b1 (k_cc_unlikePairs_21 en_fu v1 v2 v3 0 σ) fun x9 =>
        k_cc_unlikePairs_4 f9 v1 x9 (v3 + 1) σ
def k_cc_unlikePairs (v1 : Int32) (σ : en_M) : Option (Int32) :=
  en_b1 (k_cc_unlikePairs_4 en_fu v1 0 0 σ) fun x12 =>
  some x12
set_option maxRecDepth 100000 in
set_option maxHeartbeats 4000000 in
theorem s_cc_unlikePairs_21 (G : en_G) (hz : G.2.2.2.2.2.2.2.2 = none) {d : Nat} {r : en_P} {cs cs' : List en_A} {ρ' : en_R} {σ' : en_M} : ∀ (f0 : Nat) {v1 : Int32} {v2 : Int32} {v3 : Int32} {v4 : Int32}  {σ : en_M} {x2 : Int32} , k_cc_unlikePairs_21 f0 v1 v2 v3 v4 σ = some (x2) →
    (∀ (f4 : Option en_V), en_W G (d + 0) 0 0 M_cc_unlikePairs r cs' ρ' σ' 0 0 52 [some (.inr (.inl (some (14, 0, 0)))), some (.inl v1), some (.inl x2), some (.inl v3), f4] [] cs en_rf σ) → en_W G (d + 0) 0 0 M_cc_unlikePairs r cs' ρ' σ' 0 0 21 [some (.inr (.inl (some (14, 0, 0)))), some (.inl v1), some (.inl v2), some (.inl v3), some (.inl v4)] [] cs en_rf σ := by
  intro f0
  induction f0 with
  | zero =>
    intros
    rename_i h _
    cases h
  | succ f9 ih =>
    intro v1 v2 v3 v4 σ x2 h hk
    rw [k_cc_unlikePairs_21] at h
    refine en_s_iload rfl rfl ?_
    refine en_s_iload_n rfl rfl ?_
    refine en_s_icmp_ge rfl (fun c3 => ?_) (fun c3 => ?_)
    · rw [if_pos c3] at h
      cases h
      exact hk (some (.inl v4))
    · rw [if_neg c3] at h
      refine en_s_aload_n rfl rfl ?_
      refine en_s_getR (w := some (23, 0, 0)) rfl rfl rfl rfl ?_
      refine en_s_iload_n rfl rfl ?_
      obtain ⟨t4, h5, h⟩ := en_b1_h h
      refine en_s_iald rfl rfl h5 ?_
      refine en_s_aload_n rfl rfl ?_
      refine en_s_getR (w := some (23, 0, 0)) rfl rfl rfl rfl ?_
      refine en_s_iload rfl rfl ?_
      obtain ⟨t6, h7, h⟩ := en_b1_h h
      refine en_s_iald rfl rfl h7 ?_
      refine en_s_icmp_eq rfl (fun c8 => ?_) (fun c8 => ?_)
      · rw [if_pos c8] at h
        refine en_s_iinc (ls' := [some (.inr (.inl (some (14, 0, 0)))), some (.inl v1), some (.inl v2), some (.inl v3), some (.inl (v4 + 1))]) rfl rfl rfl ?_
        refine en_s_goto rfl ?_
        exact ih  h hk
      · rw [if_neg c8] at h
        refine en_s_iinc (ls' := [some (.inr (.inl (some (14, 0, 0)))), some (.inl v1), some (.inl (v2 + 1)), some (.inl v3), some (.inl v4)]) rfl rfl rfl ?_
        refine en_s_iinc (ls' := [some (.inr (.inl (some (14, 0, 0)))), some (.inl v1), some (.inl (v2 + 1)), some (.inl v3), some (.inl (v4 + 1))]) rfl rfl rfl ?_
        refine en_s_goto rfl ?_
        exact ih  h hk
set_option maxRecDepth 100000 in
set_option maxHeartbeats 4000000 in
theorem s_cc_unlikePairs_4 (G : en_G) (hz : G.2.2.2.2.2.2.2.2 = none) {d : Nat} {r : en_P} {cs cs' : List en_A} {ρ' : en_R} {σ' : en_M} : ∀ (f0 : Nat) {v1 : Int32} {v2 : Int32} {v3 : Int32} {e4 : Option en_V} {σ : en_M} {x2 : Int32} , k_cc_unlikePairs_4 f0 v1 v2 v3 σ = some (x2) →
    (∀ (f3 : Option en_V) (f4 : Option en_V), en_W G (d + 0) 0 0 M_cc_unlikePairs r cs' ρ' σ' 0 0 58 [some (.inr (.inl (some (14, 0, 0)))), some (.inl v1), some (.inl x2), f3, f4] [] cs en_rf σ) → en_W G (d + 0) 0 0 M_cc_unlikePairs r cs' ρ' σ' 0 0 4 [some (.inr (.inl (some (14, 0, 0)))), some (.inl v1), some (.inl v2), some (.inl v3), e4] [] cs en_rf σ := by
  intro f0
  induction f0 with
  | zero =>
    intros
    rename_i h _
    cases h
  | succ f9 ih =>
    intro v1 v2 v3 e4 σ x2 h hk
    rw [k_cc_unlikePairs_4] at h
    refine en_s_iload_n rfl rfl ?_
    refine en_s_iload_n rfl rfl ?_
    refine en_s_icmp_ge rfl (fun c1 => ?_) (fun c1 => ?_)
    · rw [if_pos c1] at h
      cases h
      exact hk (some (.inl v3)) (e4)
    · rw [if_neg c1] at h
      refine en_s_iload_n rfl rfl ?_
      refine en_s_aload_n rfl rfl ?_
      refine en_s_getR (w := some (23, 0, 0)) rfl rfl rfl rfl ?_
      refine en_s_alen (x := 56) rfl rfl rfl rfl ?_
      refine en_s_icmp_ge rfl (fun c2 => ?_) (fun c2 => ?_)
      · rw [if_pos c2] at h
        cases h
        exact hk (some (.inl v3)) (e4)
      · rw [if_neg c2] at h
        refine en_s_iconst rfl ?_
        refine en_s_istore (ls' := [some (.inr (.inl (some (14, 0, 0)))), some (.inl v1), some (.inl v2), some (.inl v3), some (.inl 0)]) rfl rfl rfl ?_
        obtain ⟨x9, h11, h⟩ := en_b1_h h
        refine s_cc_unlikePairs_21 G hz en_fu  h11 (fun f10 => ?_)
        refine en_s_iinc (ls' := [some (.inr (.inl (some (14, 0, 0)))), some (.inl v1), some (.inl x9), some (.inl (v3 + 1)), f10]) rfl rfl rfl ?_
        refine en_s_goto rfl ?_
        exact ih (e4 := f10) h hk
set_option maxRecDepth 100000 in
set_option maxHeartbeats 4000000 in
theorem s_cc_unlikePairs (G : en_G) (hz : G.2.2.2.2.2.2.2.2 = none) (d : Nat) {cs : List en_A} {σ : en_M} {v1 : Int32} {x0 : Int32}  (h : k_cc_unlikePairs v1 σ = some x0) : en_Mt G (d + 0) 0 0 M_cc_unlikePairs [.inr (.inl (some (14, 0, 0))), .inl v1] cs en_rf σ (.inr (some (.inl x0))) cs en_rf σ := by
  refine en_meth (ls := [some (.inr (.inl (some (14, 0, 0)))), some (.inl v1), none, none, none]) md_cc_unlikePairs rfl rfl rfl ?_
  unfold k_cc_unlikePairs at h
  refine en_s_iconst rfl ?_
  refine en_s_istore_n (ls' := [some (.inr (.inl (some (14, 0, 0)))), some (.inl v1), some (.inl 0), none, none]) rfl rfl rfl ?_
  refine en_s_iconst rfl ?_
  refine en_s_istore_n (ls' := [some (.inr (.inl (some (14, 0, 0)))), some (.inl v1), some (.inl 0), some (.inl 0), none]) rfl rfl rfl ?_
  obtain ⟨x12, h15, h⟩ := en_b1_h h
  refine s_cc_unlikePairs_4 G hz en_fu (e4 := none) h15 (fun f13 f14 => ?_)
  refine en_s_iload_n rfl rfl ?_
  cases h
  exact en_s_iret rfl rfl
def k_cc_blind (v1 : Int32) (v2 : Int32) (σ : en_M) : Option ((Nat ⊕ Int32) × en_M) :=
  en_b1 (k_cd_knownSend 0 v1 σ) fun t1 =>
  (match t1 with
  | none =>
    some (.inl 2, σ)
  | some z3 =>
    if (k_sd_hasPiece 0 z3 v2 σ) = 0 then
      some (.inl 2, σ)
    else
      en_b2 (k_sd_putWholeWords 0 z3 v2 σ) fun t5 s6 =>
      en_b1 (k_cc_unlikePairs t5 s6) fun t8 =>
      some (.inr t8, s6))
set_option maxRecDepth 100000 in
set_option maxHeartbeats 4000000 in
theorem s_cc_blind (G : en_G) (hz : G.2.2.2.2.2.2.2.2 = none) (d : Nat) {cs : List en_A} {σ : en_M} {v1 : Int32} {v2 : Int32} {x0 : (Nat ⊕ Int32)} {s0 : en_M}  (h : k_cc_blind v1 v2 σ = some (x0, s0)) : en_Mt G (d + 6) 1 6 M_cc_blind [.inr (.inl (some (14, 0, 0))), .inl v1, .inl v2] cs en_rf σ (en_ri x0) cs en_rf s0 := by
  refine en_meth (ls := [some (.inr (.inl (some (14, 0, 0)))), some (.inl v1), some (.inl v2), none]) md_cc_blind rfl rfl rfl ?_
  unfold k_cc_blind at h
  refine en_s_aload_n rfl rfl ?_
  refine en_s_getR (w := some (0, 0, 0)) rfl rfl rfl rfl ?_
  refine en_s_iload_n rfl rfl ?_
  obtain ⟨t1, h2, h⟩ := en_b1_h h
  refine en_callV (as := [.inl v1]) (rest := []) (bc' := 1) (bs' := 6) hz rfl (s_cd_knownSend G hz (d + 4) h2) lk_9_154 mv_cd_knownSend rfl rfl rfl rfl rfl (fun _ h => h) (Nat.le_refl _) (Nat.le_refl _) ?_
  refine en_o_astore_n (ls' := [some (.inr (.inl (some (14, 0, 0)))), some (.inl v1), some (.inl v2), some (.inr (.inl (t1.map (fun z9 => (13, 0, z9)))))]) rfl rfl rfl ?_
  refine en_o_aload_n rfl rfl ?_
  cases t1 with
  | none =>
    dsimp only at h
    refine en_s_ifnullN rfl ?_
    cases h
    exact en_s_throw (n := 2) (is := 198) (text := "no such piece") (bc := 0) (bs := 0) (by decide) rfl rfl (by decide +kernel) rfl rfl rfl rfl rfl rfl
  | some z3 =>
    dsimp only at h
    refine en_s_ifnull rfl ?_
    refine en_s_aload_n rfl rfl ?_
    refine en_s_iload_n rfl rfl ?_
    refine en_callV (as := [.inl v2]) (rest := []) (bc' := 1) (bs' := 6) hz rfl (s_sd_hasPiece G hz (d + 5) rfl) lk_9_195 mv_sd_hasPiece rfl rfl rfl rfl rfl (fun _ h => h) (Nat.le_refl _) (Nat.le_refl _) ?_
    refine en_s_if_ne rfl (fun c4 => ?_) (fun c4 => ?_)
    · rw [if_neg c4] at h
      refine en_s_aload_n rfl rfl ?_
      refine en_s_aload_n rfl rfl ?_
      refine en_s_iload_n rfl rfl ?_
      refine en_s_aload_n rfl rfl ?_
      refine en_s_getR (w := some (23, 0, 0)) rfl rfl rfl rfl ?_
      obtain ⟨t5, s6, h7, h⟩ := en_b2_h h
      refine en_callV (as := [.inl v2, .inr (.inl (some (23, 0, 0)))]) (rest := [.inr (.inl (some (14, 0, 0)))]) (bc' := 1) (bs' := 6) hz rfl (s_sd_putWholeWords G hz (d + 3) h7) lk_9_333 mv_sd_putWholeWords rfl rfl rfl rfl rfl (fun _ h => h) (Nat.le_refl _) (Nat.le_refl _) ?_
      obtain ⟨t8, h9, h⟩ := en_b1_h h
      refine en_callV (as := [.inl t5]) (rest := []) (bc' := 1) (bs' := 6) hz rfl (s_cc_unlikePairs G hz (d + 5) h9) lk_9_337 mv_cc_unlikePairs rfl rfl rfl rfl rfl (fun _ h => h) (Nat.le_refl _) (Nat.le_refl _) ?_
      cases h
      exact en_s_iret rfl rfl
    · rw [if_pos c4] at h
      cases h
      exact en_s_throw (n := 2) (is := 198) (text := "no such piece") (bc := 0) (bs := 0) (by decide) rfl rfl (by decide +kernel) rfl rfl rfl rfl rfl rfl
def k_cc_needFlow (v1 : Int32) (σ : en_M) : Option ((Nat ⊕ Unit)) :=
  en_b1 (k_cd_flowAt 0 v1 σ) fun t1 =>
  (match t1 with
  | none =>
    some (.inl 2)
  | some z3 =>
    some (.inr ()))
set_option maxRecDepth 100000 in
set_option maxHeartbeats 4000000 in
theorem s_cc_needFlow (G : en_G) (hz : G.2.2.2.2.2.2.2.2 = none) (d : Nat) {cs : List en_A} {σ : en_M} {v1 : Int32} {x0 : (Nat ⊕ Unit)}  (h : k_cc_needFlow v1 σ = some x0) : en_Mt G (d + 6) 1 6 M_cc_needFlow [.inr (.inl (some (14, 0, 0))), .inl v1] cs en_rf σ (en_ru x0) cs en_rf σ := by
  refine en_meth (ls := [some (.inr (.inl (some (14, 0, 0)))), some (.inl v1)]) md_cc_needFlow rfl rfl rfl ?_
  unfold k_cc_needFlow at h
  refine en_s_aload_n rfl rfl ?_
  refine en_s_getR (w := some (0, 0, 0)) rfl rfl rfl rfl ?_
  refine en_s_iload_n rfl rfl ?_
  obtain ⟨t1, h2, h⟩ := en_b1_h h
  refine en_callV (as := [.inl v1]) (rest := []) (bc' := 1) (bs' := 6) hz rfl (s_cd_flowAt G hz (d + 5) h2) lk_9_231 mv_cd_flowAt rfl rfl rfl rfl rfl (fun _ h => h) (Nat.le_refl _) (Nat.le_refl _) ?_
  cases t1 with
  | none =>
    dsimp only at h
    refine en_s_ifnonnullN rfl ?_
    cases h
    exact en_s_throw (n := 2) (is := 235) (text := "no such flow") (bc := 0) (bs := 0) (by decide) rfl rfl (by decide +kernel) rfl rfl rfl rfl rfl rfl
  | some z3 =>
    dsimp only at h
    refine en_s_ifnonnull rfl ?_
    cases h
    exact en_s_vret rfl rfl
def k_cc_burst (v1 : Int32) (v2 : Int32) (σ : en_M) : Option ((Nat ⊕ Int32)) :=
  en_b1 (k_cc_needFlow v1 σ) fun t1 =>
  en_tx t1 (fun n3 => some (.inl n3)) (fun x4 =>
  if (k_cc_within v2 1 99) = 0 then
    some (.inl 0)
  else
    en_b1 (k_lg_burstOf 0 v1 v2 σ) fun t6 =>
    some (.inr t6))
set_option maxRecDepth 100000 in
set_option maxHeartbeats 4000000 in
theorem s_cc_burst (G : en_G) (hz : G.2.2.2.2.2.2.2.2 = none) (d : Nat) {cs : List en_A} {σ : en_M} {v1 : Int32} {v2 : Int32} {x0 : (Nat ⊕ Int32)}  (h : k_cc_burst v1 v2 σ = some x0) : en_Mt G (d + 7) 2 12 M_cc_burst [.inr (.inl (some (14, 0, 0))), .inl v1, .inl v2] cs en_rf σ (en_ri x0) cs en_rf σ := by
  refine en_meth (ls := [some (.inr (.inl (some (14, 0, 0)))), some (.inl v1), some (.inl v2)]) md_cc_burst rfl rfl rfl ?_
  unfold k_cc_burst at h
  refine en_s_aload_n rfl rfl ?_
  refine en_s_iload_n rfl rfl ?_
  obtain ⟨t1, h2, h⟩ := en_b1_h h
  rcases t1 with n3 | x4
  · simp only [en_tx] at h
    cases h
    exact en_callVX (as := [.inl v1]) (rest := []) hz rfl (s_cc_needFlow G hz (d + 0) h2) lk_9_271 mv_cc_needFlow rfl rfl rfl rfl rfl (by decide) (by decide) rfl
  · simp only [en_tx] at h
    refine en_callV (as := [.inl v1]) (rest := []) (bc' := 1) (bs' := 6) hz rfl (s_cc_needFlow G hz (d + 0) h2) lk_9_271 mv_cc_needFlow rfl rfl rfl rfl rfl (fun _ h => h) (by decide) (by decide) ?_
    refine en_s_iload_n rfl rfl ?_
    refine en_s_iconst rfl ?_
    refine en_s_bipush rfl ?_
    refine en_callS (as := [.inl v2, .inl 1, .inl 99]) (rest := []) (bc' := 1) (bs' := 6) hz rfl (s_cc_within G hz (d + 6) rfl) lk_9_93 mv_cc_within rfl rfl rfl (fun _ h => h) (Nat.le_refl _) (Nat.le_refl _) ?_
    refine en_s_if_ne rfl (fun c5 => ?_) (fun c5 => ?_)
    · rw [if_neg c5] at h
      refine en_s_aload_n rfl rfl ?_
      refine en_s_getR (w := some (0, 0, 0)) rfl rfl rfl rfl ?_
      refine en_s_getR (w := some (6, 0, 0)) rfl rfl rfl rfl ?_
      refine en_s_iload_n rfl rfl ?_
      refine en_s_iload_n rfl rfl ?_
      obtain ⟨t6, h7, h⟩ := en_b1_h h
      refine en_callV (as := [.inl v1, .inl v2]) (rest := []) (bc' := 1) (bs' := 6) hz rfl (s_lg_burstOf G hz (d + 3) h7) lk_9_274 mv_lg_burstOf rfl rfl rfl rfl rfl (fun _ h => h) (Nat.le_refl _) (Nat.le_refl _) ?_
      cases h
      exact en_s_iret rfl rfl
    · rw [if_pos c5] at h
      cases h
      exact en_s_throw (n := 0) (is := 135) (text := "no such number of ticks") (bc := 0) (bs := 0) (by decide) rfl rfl (by decide +kernel) rfl rfl rfl rfl rfl rfl
def k_cc_calendar (v1 : Int32) (v2 : Int32) (σ : en_M) : Option ((Nat ⊕ Int32)) :=
  if (k_cc_within v1 1 99) = 0 then
    some (.inl 0)
  else
    if (k_cc_within v2 0 9999) = 0 then
      some (.inl 0)
    else
      if v2 = 0 then
        en_b1 (k_cd_departingIn 0 0 (((σ 0 0 0 11) + (v2 * v1)) + v1) σ) fun t6 =>
        some (.inr t6)
      else
        en_b1 (k_cd_departingIn 0 ((σ 0 0 0 11) + (v2 * v1)) (((σ 0 0 0 11) + (v2 * v1)) + v1) σ) fun t4 =>
        some (.inr t4)
set_option maxRecDepth 100000 in
set_option maxHeartbeats 4000000 in
theorem s_cc_calendar (G : en_G) (hz : G.2.2.2.2.2.2.2.2 = none) (d : Nat) {cs : List en_A} {σ : en_M} {v1 : Int32} {v2 : Int32} {x0 : (Nat ⊕ Int32)}  (h : k_cc_calendar v1 v2 σ = some x0) : en_Mt G (d + 6) 1 6 M_cc_calendar [.inr (.inl (some (14, 0, 0))), .inl v1, .inl v2] cs en_rf σ (en_ri x0) cs en_rf σ := by
  refine en_meth (ls := [some (.inr (.inl (some (14, 0, 0)))), some (.inl v1), some (.inl v2), none]) md_cc_calendar rfl rfl rfl ?_
  unfold k_cc_calendar at h
  refine en_s_iload_n rfl rfl ?_
  refine en_s_iconst rfl ?_
  refine en_s_bipush rfl ?_
  refine en_callS (as := [.inl v1, .inl 1, .inl 99]) (rest := []) (bc' := 1) (bs' := 6) hz rfl (s_cc_within G hz (d + 5) rfl) lk_9_93 mv_cc_within rfl rfl rfl (fun _ h => h) (Nat.le_refl _) (Nat.le_refl _) ?_
  refine en_s_if_eq rfl (fun c1 => ?_) (fun c1 => ?_)
  · rw [if_pos c1] at h
    cases h
    exact en_s_throwW (n := 0) (is := 308) (text := "no such span of the calendar") (bc := 0) (bs := 0) (by decide) rfl rfl (by decide +kernel) rfl rfl rfl rfl rfl rfl
  · rw [if_neg c1] at h
    refine en_s_iload_n rfl rfl ?_
    refine en_s_iconst rfl ?_
    refine en_s_sipush rfl ?_
    refine en_callS (as := [.inl v2, .inl 0, .inl 9999]) (rest := []) (bc' := 1) (bs' := 6) hz rfl (s_cc_within G hz (d + 5) rfl) lk_9_93 mv_cc_within rfl rfl rfl (fun _ h => h) (Nat.le_refl _) (Nat.le_refl _) ?_
    refine en_s_if_ne rfl (fun c2 => ?_) (fun c2 => ?_)
    · rw [if_neg c2] at h
      refine en_s_aload_n rfl rfl ?_
      refine en_s_getR (w := some (0, 0, 0)) rfl rfl rfl rfl ?_
      refine en_s_getI rfl rfl rfl ?_
      refine en_s_iload_n rfl rfl ?_
      refine en_s_iload_n rfl rfl ?_
      refine en_s_imul rfl ?_
      refine en_s_iadd rfl ?_
      refine en_s_istore_n (ls' := [some (.inr (.inl (some (14, 0, 0)))), some (.inl v1), some (.inl v2), some (.inl ((σ 0 0 0 11) + (v2 * v1)))]) rfl rfl rfl ?_
      refine en_s_aload_n rfl rfl ?_
      refine en_s_getR (w := some (0, 0, 0)) rfl rfl rfl rfl ?_
      refine en_s_iload_n rfl rfl ?_
      refine en_s_if_ne rfl (fun c3 => ?_) (fun c3 => ?_)
      · rw [if_neg c3] at h
        refine en_s_iload_n rfl rfl ?_
        refine en_s_iload_n rfl rfl ?_
        refine en_s_iload_n rfl rfl ?_
        refine en_s_iadd rfl ?_
        obtain ⟨t4, h5, h⟩ := en_b1_h h
        refine en_callV (as := [.inl ((σ 0 0 0 11) + (v2 * v1)), .inl (((σ 0 0 0 11) + (v2 * v1)) + v1)]) (rest := []) (bc' := 1) (bs' := 6) hz rfl (s_cd_departingIn G hz (d + 4) h5) lk_9_313 mv_cd_departingIn rfl rfl rfl rfl rfl (fun _ h => h) (Nat.le_refl _) (Nat.le_refl _) ?_
        cases h
        exact en_s_iret rfl rfl
      · rw [if_pos c3] at h
        refine en_s_iconst rfl ?_
        refine en_s_goto rfl ?_
        refine en_s_iload_n rfl rfl ?_
        refine en_s_iload_n rfl rfl ?_
        refine en_s_iadd rfl ?_
        obtain ⟨t6, h7, h⟩ := en_b1_h h
        refine en_callV (as := [.inl 0, .inl (((σ 0 0 0 11) + (v2 * v1)) + v1)]) (rest := []) (bc' := 1) (bs' := 6) hz rfl (s_cd_departingIn G hz (d + 4) h7) lk_9_313 mv_cd_departingIn rfl rfl rfl rfl rfl (fun _ h => h) (Nat.le_refl _) (Nat.le_refl _) ?_
        cases h
        exact en_s_iret rfl rfl
    · rw [if_pos c2] at h
      cases h
      exact en_s_throwW (n := 0) (is := 308) (text := "no such span of the calendar") (bc := 0) (bs := 0) (by decide) rfl rfl (by decide +kernel) rfl rfl rfl rfl rfl rfl
def k_cc_count (v1 : Int32) (σ : en_M) : Option (Int32) :=
  if v1 = 0 then
    some (σ 0 0 0 8)
  else
  if v1 = 1 then
    some (σ 0 0 0 9)
  else
  if v1 = 2 then
    some (σ 0 0 0 10)
  else
  if v1 = 3 then
    some (σ 0 0 0 12)
  else
  if v1 = 4 then
    some (σ 0 0 0 11)
  else
  if v1 = 5 then
    some (σ 0 0 0 13)
  else
  if v1 = 6 then
    some (σ 0 0 0 14)
  else
  if v1 = 7 then
    en_b1 (k_cd_inState 0 0 σ) fun t9 =>
    some t9
  else
  if v1 = 8 then
    some (σ 11 0 0 0)
  else
  if v1 = 9 then
    some (σ 11 0 0 1)
  else
  if v1 = 10 then
    some (σ 8 0 0 2)
  else
  if v1 = 11 then
    some (σ 11 0 0 2)
  else
  if v1 = 12 then
    en_b1 (k_cd_inState 0 2 σ) fun t16 =>
    some t16
  else
  if v1 = 13 then
    some (σ 11 0 0 3)
  else
  if v1 = 14 then
    some (σ 11 0 0 4)
  else
  if v1 = 15 then
    some (σ 11 0 0 5)
  else
  if v1 = 16 then
    some (σ 6 0 0 2)
  else
  if v1 = 17 then
    if (σ 0 0 0 15) = (-1) then
      some 0
    else
      some 1
  else
  if v1 = 18 then
    some (σ 15 0 0 2)
  else
  some (-1)
set_option maxRecDepth 100000 in
set_option maxHeartbeats 4000000 in
theorem s_cc_count (G : en_G) (hz : G.2.2.2.2.2.2.2.2 = none) (d : Nat) {cs : List en_A} {σ : en_M} {v1 : Int32} {x0 : Int32}  (h : k_cc_count v1 σ = some x0) : en_Mt G (d + 2) 0 0 M_cc_count [.inr (.inl (some (14, 0, 0))), .inl v1] cs en_rf σ (.inr (some (.inl x0))) cs en_rf σ := by
  refine en_meth (ls := [some (.inr (.inl (some (14, 0, 0)))), some (.inl v1)]) md_cc_count rfl rfl rfl ?_
  unfold k_cc_count at h
  refine en_s_iload_n rfl rfl ?_
  by_cases c1 : v1 = 0
  · rw [if_pos c1] at h
    refine en_s_table [(0, 92), (1, 100), (2, 108), (3, 116), (4, 124), (5, 132), (6, 140), (7, 148), (8, 157), (9, 168), (10, 179), (11, 190), (12, 201), (13, 210), (14, 221), (15, 232), (16, 243), (17, 254), (18, 271)] rfl (by decide) (en_sw_hit c1) ?_
    refine en_s_aload_n rfl rfl ?_
    refine en_s_getR (w := some (0, 0, 0)) rfl rfl rfl rfl ?_
    refine en_s_getI rfl rfl rfl ?_
    cases h
    exact en_s_iret rfl rfl
  rw [if_neg c1] at h
  by_cases c2 : v1 = 1
  · rw [if_pos c2] at h
    refine en_s_table [(0, 92), (1, 100), (2, 108), (3, 116), (4, 124), (5, 132), (6, 140), (7, 148), (8, 157), (9, 168), (10, 179), (11, 190), (12, 201), (13, 210), (14, 221), (15, 232), (16, 243), (17, 254), (18, 271)] rfl (by decide) (en_sw_miss c1 (en_sw_hit c2)) ?_
    refine en_s_aload_n rfl rfl ?_
    refine en_s_getR (w := some (0, 0, 0)) rfl rfl rfl rfl ?_
    refine en_s_getI rfl rfl rfl ?_
    cases h
    exact en_s_iret rfl rfl
  rw [if_neg c2] at h
  by_cases c3 : v1 = 2
  · rw [if_pos c3] at h
    refine en_s_table [(0, 92), (1, 100), (2, 108), (3, 116), (4, 124), (5, 132), (6, 140), (7, 148), (8, 157), (9, 168), (10, 179), (11, 190), (12, 201), (13, 210), (14, 221), (15, 232), (16, 243), (17, 254), (18, 271)] rfl (by decide) (en_sw_miss c1 (en_sw_miss c2 (en_sw_hit c3))) ?_
    refine en_s_aload_n rfl rfl ?_
    refine en_s_getR (w := some (0, 0, 0)) rfl rfl rfl rfl ?_
    refine en_s_getI rfl rfl rfl ?_
    cases h
    exact en_s_iret rfl rfl
  rw [if_neg c3] at h
  by_cases c4 : v1 = 3
  · rw [if_pos c4] at h
    refine en_s_table [(0, 92), (1, 100), (2, 108), (3, 116), (4, 124), (5, 132), (6, 140), (7, 148), (8, 157), (9, 168), (10, 179), (11, 190), (12, 201), (13, 210), (14, 221), (15, 232), (16, 243), (17, 254), (18, 271)] rfl (by decide) (en_sw_miss c1 (en_sw_miss c2 (en_sw_miss c3 (en_sw_hit c4)))) ?_
    refine en_s_aload_n rfl rfl ?_
    refine en_s_getR (w := some (0, 0, 0)) rfl rfl rfl rfl ?_
    refine en_s_getI rfl rfl rfl ?_
    cases h
    exact en_s_iret rfl rfl
  rw [if_neg c4] at h
  by_cases c5 : v1 = 4
  · rw [if_pos c5] at h
    refine en_s_table [(0, 92), (1, 100), (2, 108), (3, 116), (4, 124), (5, 132), (6, 140), (7, 148), (8, 157), (9, 168), (10, 179), (11, 190), (12, 201), (13, 210), (14, 221), (15, 232), (16, 243), (17, 254), (18, 271)] rfl (by decide) (en_sw_miss c1 (en_sw_miss c2 (en_sw_miss c3 (en_sw_miss c4 (en_sw_hit c5))))) ?_
    refine en_s_aload_n rfl rfl ?_
    refine en_s_getR (w := some (0, 0, 0)) rfl rfl rfl rfl ?_
    refine en_s_getI rfl rfl rfl ?_
    cases h
    exact en_s_iret rfl rfl
  rw [if_neg c5] at h
  by_cases c6 : v1 = 5
  · rw [if_pos c6] at h
    refine en_s_table [(0, 92), (1, 100), (2, 108), (3, 116), (4, 124), (5, 132), (6, 140), (7, 148), (8, 157), (9, 168), (10, 179), (11, 190), (12, 201), (13, 210), (14, 221), (15, 232), (16, 243), (17, 254), (18, 271)] rfl (by decide) (en_sw_miss c1 (en_sw_miss c2 (en_sw_miss c3 (en_sw_miss c4 (en_sw_miss c5 (en_sw_hit c6)))))) ?_
    refine en_s_aload_n rfl rfl ?_
    refine en_s_getR (w := some (0, 0, 0)) rfl rfl rfl rfl ?_
    refine en_s_getI rfl rfl rfl ?_
    cases h
    exact en_s_iret rfl rfl
  rw [if_neg c6] at h
  by_cases c7 : v1 = 6
  · rw [if_pos c7] at h
    refine en_s_table [(0, 92), (1, 100), (2, 108), (3, 116), (4, 124), (5, 132), (6, 140), (7, 148), (8, 157), (9, 168), (10, 179), (11, 190), (12, 201), (13, 210), (14, 221), (15, 232), (16, 243), (17, 254), (18, 271)] rfl (by decide) (en_sw_miss c1 (en_sw_miss c2 (en_sw_miss c3 (en_sw_miss c4 (en_sw_miss c5 (en_sw_miss c6 (en_sw_hit c7))))))) ?_
    refine en_s_aload_n rfl rfl ?_
    refine en_s_getR (w := some (0, 0, 0)) rfl rfl rfl rfl ?_
    refine en_s_getI rfl rfl rfl ?_
    cases h
    exact en_s_iret rfl rfl
  rw [if_neg c7] at h
  by_cases c8 : v1 = 7
  · rw [if_pos c8] at h
    refine en_s_table [(0, 92), (1, 100), (2, 108), (3, 116), (4, 124), (5, 132), (6, 140), (7, 148), (8, 157), (9, 168), (10, 179), (11, 190), (12, 201), (13, 210), (14, 221), (15, 232), (16, 243), (17, 254), (18, 271)] rfl (by decide) (en_sw_miss c1 (en_sw_miss c2 (en_sw_miss c3 (en_sw_miss c4 (en_sw_miss c5 (en_sw_miss c6 (en_sw_miss c7 (en_sw_hit c8)))))))) ?_
    refine en_s_aload_n rfl rfl ?_
    refine en_s_getR (w := some (0, 0, 0)) rfl rfl rfl rfl ?_
    refine en_s_iconst rfl ?_
    obtain ⟨t9, h10, h⟩ := en_b1_h h
    refine en_callV (as := [.inl 0]) (rest := []) (bc' := 0) (bs' := 0) hz rfl (s_cd_inState G hz (d + 0) h10) lk_9_376 mv_cd_inState rfl rfl rfl rfl rfl (fun _ h => h) (Nat.le_refl _) (Nat.le_refl _) ?_
    cases h
    exact en_s_iret rfl rfl
  rw [if_neg c8] at h
  by_cases c11 : v1 = 8
  · rw [if_pos c11] at h
    refine en_s_table [(0, 92), (1, 100), (2, 108), (3, 116), (4, 124), (5, 132), (6, 140), (7, 148), (8, 157), (9, 168), (10, 179), (11, 190), (12, 201), (13, 210), (14, 221), (15, 232), (16, 243), (17, 254), (18, 271)] rfl (by decide) (en_sw_miss c1 (en_sw_miss c2 (en_sw_miss c3 (en_sw_miss c4 (en_sw_miss c5 (en_sw_miss c6 (en_sw_miss c7 (en_sw_miss c8 (en_sw_hit c11))))))))) ?_
    refine en_s_aload_n rfl rfl ?_
    refine en_s_getR (w := some (0, 0, 0)) rfl rfl rfl rfl ?_
    refine en_s_getR (w := some (11, 0, 0)) rfl rfl rfl rfl ?_
    refine en_s_getI rfl rfl rfl ?_
    cases h
    exact en_s_iret rfl rfl
  rw [if_neg c11] at h
  by_cases c12 : v1 = 9
  · rw [if_pos c12] at h
    refine en_s_table [(0, 92), (1, 100), (2, 108), (3, 116), (4, 124), (5, 132), (6, 140), (7, 148), (8, 157), (9, 168), (10, 179), (11, 190), (12, 201), (13, 210), (14, 221), (15, 232), (16, 243), (17, 254), (18, 271)] rfl (by decide) (en_sw_miss c1 (en_sw_miss c2 (en_sw_miss c3 (en_sw_miss c4 (en_sw_miss c5 (en_sw_miss c6 (en_sw_miss c7 (en_sw_miss c8 (en_sw_miss c11 (en_sw_hit c12)))))))))) ?_
    refine en_s_aload_n rfl rfl ?_
    refine en_s_getR (w := some (0, 0, 0)) rfl rfl rfl rfl ?_
    refine en_s_getR (w := some (11, 0, 0)) rfl rfl rfl rfl ?_
    refine en_s_getI rfl rfl rfl ?_
    cases h
    exact en_s_iret rfl rfl
  rw [if_neg c12] at h
  by_cases c13 : v1 = 10
  · rw [if_pos c13] at h
    refine en_s_table [(0, 92), (1, 100), (2, 108), (3, 116), (4, 124), (5, 132), (6, 140), (7, 148), (8, 157), (9, 168), (10, 179), (11, 190), (12, 201), (13, 210), (14, 221), (15, 232), (16, 243), (17, 254), (18, 271)] rfl (by decide) (en_sw_miss c1 (en_sw_miss c2 (en_sw_miss c3 (en_sw_miss c4 (en_sw_miss c5 (en_sw_miss c6 (en_sw_miss c7 (en_sw_miss c8 (en_sw_miss c11 (en_sw_miss c12 (en_sw_hit c13))))))))))) ?_
    refine en_s_aload_n rfl rfl ?_
    refine en_s_getR (w := some (0, 0, 0)) rfl rfl rfl rfl ?_
    refine en_s_getR (w := some (8, 0, 0)) rfl rfl rfl rfl ?_
    refine en_s_getI rfl rfl rfl ?_
    cases h
    exact en_s_iret rfl rfl
  rw [if_neg c13] at h
  by_cases c14 : v1 = 11
  · rw [if_pos c14] at h
    refine en_s_table [(0, 92), (1, 100), (2, 108), (3, 116), (4, 124), (5, 132), (6, 140), (7, 148), (8, 157), (9, 168), (10, 179), (11, 190), (12, 201), (13, 210), (14, 221), (15, 232), (16, 243), (17, 254), (18, 271)] rfl (by decide) (en_sw_miss c1 (en_sw_miss c2 (en_sw_miss c3 (en_sw_miss c4 (en_sw_miss c5 (en_sw_miss c6 (en_sw_miss c7 (en_sw_miss c8 (en_sw_miss c11 (en_sw_miss c12 (en_sw_miss c13 (en_sw_hit c14)))))))))))) ?_
    refine en_s_aload_n rfl rfl ?_
    refine en_s_getR (w := some (0, 0, 0)) rfl rfl rfl rfl ?_
    refine en_s_getR (w := some (11, 0, 0)) rfl rfl rfl rfl ?_
    refine en_s_getI rfl rfl rfl ?_
    cases h
    exact en_s_iret rfl rfl
  rw [if_neg c14] at h
  by_cases c15 : v1 = 12
  · rw [if_pos c15] at h
    refine en_s_table [(0, 92), (1, 100), (2, 108), (3, 116), (4, 124), (5, 132), (6, 140), (7, 148), (8, 157), (9, 168), (10, 179), (11, 190), (12, 201), (13, 210), (14, 221), (15, 232), (16, 243), (17, 254), (18, 271)] rfl (by decide) (en_sw_miss c1 (en_sw_miss c2 (en_sw_miss c3 (en_sw_miss c4 (en_sw_miss c5 (en_sw_miss c6 (en_sw_miss c7 (en_sw_miss c8 (en_sw_miss c11 (en_sw_miss c12 (en_sw_miss c13 (en_sw_miss c14 (en_sw_hit c15))))))))))))) ?_
    refine en_s_aload_n rfl rfl ?_
    refine en_s_getR (w := some (0, 0, 0)) rfl rfl rfl rfl ?_
    refine en_s_iconst rfl ?_
    obtain ⟨t16, h17, h⟩ := en_b1_h h
    refine en_callV (as := [.inl 2]) (rest := []) (bc' := 0) (bs' := 0) hz rfl (s_cd_inState G hz (d + 0) h17) lk_9_376 mv_cd_inState rfl rfl rfl rfl rfl (fun _ h => h) (Nat.le_refl _) (Nat.le_refl _) ?_
    cases h
    exact en_s_iret rfl rfl
  rw [if_neg c15] at h
  by_cases c18 : v1 = 13
  · rw [if_pos c18] at h
    refine en_s_table [(0, 92), (1, 100), (2, 108), (3, 116), (4, 124), (5, 132), (6, 140), (7, 148), (8, 157), (9, 168), (10, 179), (11, 190), (12, 201), (13, 210), (14, 221), (15, 232), (16, 243), (17, 254), (18, 271)] rfl (by decide) (en_sw_miss c1 (en_sw_miss c2 (en_sw_miss c3 (en_sw_miss c4 (en_sw_miss c5 (en_sw_miss c6 (en_sw_miss c7 (en_sw_miss c8 (en_sw_miss c11 (en_sw_miss c12 (en_sw_miss c13 (en_sw_miss c14 (en_sw_miss c15 (en_sw_hit c18)))))))))))))) ?_
    refine en_s_aload_n rfl rfl ?_
    refine en_s_getR (w := some (0, 0, 0)) rfl rfl rfl rfl ?_
    refine en_s_getR (w := some (11, 0, 0)) rfl rfl rfl rfl ?_
    refine en_s_getI rfl rfl rfl ?_
    cases h
    exact en_s_iret rfl rfl
  rw [if_neg c18] at h
  by_cases c19 : v1 = 14
  · rw [if_pos c19] at h
    refine en_s_table [(0, 92), (1, 100), (2, 108), (3, 116), (4, 124), (5, 132), (6, 140), (7, 148), (8, 157), (9, 168), (10, 179), (11, 190), (12, 201), (13, 210), (14, 221), (15, 232), (16, 243), (17, 254), (18, 271)] rfl (by decide) (en_sw_miss c1 (en_sw_miss c2 (en_sw_miss c3 (en_sw_miss c4 (en_sw_miss c5 (en_sw_miss c6 (en_sw_miss c7 (en_sw_miss c8 (en_sw_miss c11 (en_sw_miss c12 (en_sw_miss c13 (en_sw_miss c14 (en_sw_miss c15 (en_sw_miss c18 (en_sw_hit c19))))))))))))))) ?_
    refine en_s_aload_n rfl rfl ?_
    refine en_s_getR (w := some (0, 0, 0)) rfl rfl rfl rfl ?_
    refine en_s_getR (w := some (11, 0, 0)) rfl rfl rfl rfl ?_
    refine en_s_getI rfl rfl rfl ?_
    cases h
    exact en_s_iret rfl rfl
  rw [if_neg c19] at h
  by_cases c20 : v1 = 15
  · rw [if_pos c20] at h
    refine en_s_table [(0, 92), (1, 100), (2, 108), (3, 116), (4, 124), (5, 132), (6, 140), (7, 148), (8, 157), (9, 168), (10, 179), (11, 190), (12, 201), (13, 210), (14, 221), (15, 232), (16, 243), (17, 254), (18, 271)] rfl (by decide) (en_sw_miss c1 (en_sw_miss c2 (en_sw_miss c3 (en_sw_miss c4 (en_sw_miss c5 (en_sw_miss c6 (en_sw_miss c7 (en_sw_miss c8 (en_sw_miss c11 (en_sw_miss c12 (en_sw_miss c13 (en_sw_miss c14 (en_sw_miss c15 (en_sw_miss c18 (en_sw_miss c19 (en_sw_hit c20)))))))))))))))) ?_
    refine en_s_aload_n rfl rfl ?_
    refine en_s_getR (w := some (0, 0, 0)) rfl rfl rfl rfl ?_
    refine en_s_getR (w := some (11, 0, 0)) rfl rfl rfl rfl ?_
    refine en_s_getI rfl rfl rfl ?_
    cases h
    exact en_s_iret rfl rfl
  rw [if_neg c20] at h
  by_cases c21 : v1 = 16
  · rw [if_pos c21] at h
    refine en_s_table [(0, 92), (1, 100), (2, 108), (3, 116), (4, 124), (5, 132), (6, 140), (7, 148), (8, 157), (9, 168), (10, 179), (11, 190), (12, 201), (13, 210), (14, 221), (15, 232), (16, 243), (17, 254), (18, 271)] rfl (by decide) (en_sw_miss c1 (en_sw_miss c2 (en_sw_miss c3 (en_sw_miss c4 (en_sw_miss c5 (en_sw_miss c6 (en_sw_miss c7 (en_sw_miss c8 (en_sw_miss c11 (en_sw_miss c12 (en_sw_miss c13 (en_sw_miss c14 (en_sw_miss c15 (en_sw_miss c18 (en_sw_miss c19 (en_sw_miss c20 (en_sw_hit c21))))))))))))))))) ?_
    refine en_s_aload_n rfl rfl ?_
    refine en_s_getR (w := some (0, 0, 0)) rfl rfl rfl rfl ?_
    refine en_s_getR (w := some (6, 0, 0)) rfl rfl rfl rfl ?_
    refine en_s_getI rfl rfl rfl ?_
    cases h
    exact en_s_iret rfl rfl
  rw [if_neg c21] at h
  by_cases c22 : v1 = 17
  · rw [if_pos c22] at h
    refine en_s_table [(0, 92), (1, 100), (2, 108), (3, 116), (4, 124), (5, 132), (6, 140), (7, 148), (8, 157), (9, 168), (10, 179), (11, 190), (12, 201), (13, 210), (14, 221), (15, 232), (16, 243), (17, 254), (18, 271)] rfl (by decide) (en_sw_miss c1 (en_sw_miss c2 (en_sw_miss c3 (en_sw_miss c4 (en_sw_miss c5 (en_sw_miss c6 (en_sw_miss c7 (en_sw_miss c8 (en_sw_miss c11 (en_sw_miss c12 (en_sw_miss c13 (en_sw_miss c14 (en_sw_miss c15 (en_sw_miss c18 (en_sw_miss c19 (en_sw_miss c20 (en_sw_miss c21 (en_sw_hit c22)))))))))))))))))) ?_
    refine en_s_aload_n rfl rfl ?_
    refine en_s_getR (w := some (0, 0, 0)) rfl rfl rfl rfl ?_
    refine en_s_getI rfl rfl rfl ?_
    refine en_s_iconst rfl ?_
    refine en_s_icmp_ne rfl (fun c23 => ?_) (fun c23 => ?_)
    · rw [if_neg c23] at h
      refine en_s_iconst rfl ?_
      cases h
      exact en_s_iret rfl rfl
    · rw [if_pos c23] at h
      refine en_s_iconst rfl ?_
      refine en_s_goto rfl ?_
      cases h
      exact en_s_iret rfl rfl
  rw [if_neg c22] at h
  by_cases c24 : v1 = 18
  · rw [if_pos c24] at h
    refine en_s_table [(0, 92), (1, 100), (2, 108), (3, 116), (4, 124), (5, 132), (6, 140), (7, 148), (8, 157), (9, 168), (10, 179), (11, 190), (12, 201), (13, 210), (14, 221), (15, 232), (16, 243), (17, 254), (18, 271)] rfl (by decide) (en_sw_miss c1 (en_sw_miss c2 (en_sw_miss c3 (en_sw_miss c4 (en_sw_miss c5 (en_sw_miss c6 (en_sw_miss c7 (en_sw_miss c8 (en_sw_miss c11 (en_sw_miss c12 (en_sw_miss c13 (en_sw_miss c14 (en_sw_miss c15 (en_sw_miss c18 (en_sw_miss c19 (en_sw_miss c20 (en_sw_miss c21 (en_sw_miss c22 (en_sw_hit c24))))))))))))))))))) ?_
    refine en_s_aload_n rfl rfl ?_
    refine en_s_getR (w := some (15, 0, 0)) rfl rfl rfl rfl ?_
    refine en_s_getI rfl rfl rfl ?_
    cases h
    exact en_s_iret rfl rfl
  rw [if_neg c24] at h
  refine en_s_table [(0, 92), (1, 100), (2, 108), (3, 116), (4, 124), (5, 132), (6, 140), (7, 148), (8, 157), (9, 168), (10, 179), (11, 190), (12, 201), (13, 210), (14, 221), (15, 232), (16, 243), (17, 254), (18, 271)] rfl (by decide) (en_sw_miss c1 (en_sw_miss c2 (en_sw_miss c3 (en_sw_miss c4 (en_sw_miss c5 (en_sw_miss c6 (en_sw_miss c7 (en_sw_miss c8 (en_sw_miss c11 (en_sw_miss c12 (en_sw_miss c13 (en_sw_miss c14 (en_sw_miss c15 (en_sw_miss c18 (en_sw_miss c19 (en_sw_miss c20 (en_sw_miss c21 (en_sw_miss c22 (en_sw_miss c24 en_sw_nil))))))))))))))))))) ?_
  refine en_s_iconst rfl ?_
  cases h
  exact en_s_iret rfl rfl
def k_cc_delay (v1 : Int32) (σ : en_M) : Option ((Nat ⊕ Int32)) :=
  en_b1 (k_cc_needFlow v1 σ) fun t1 =>
  en_tx t1 (fun n3 => some (.inl n3)) (fun x4 =>
  en_b1 (k_lg_delayOf 0 v1 σ) fun t5 =>
  some (.inr t5))
set_option maxRecDepth 100000 in
set_option maxHeartbeats 4000000 in
theorem s_cc_delay (G : en_G) (hz : G.2.2.2.2.2.2.2.2 = none) (d : Nat) {cs : List en_A} {σ : en_M} {v1 : Int32} {x0 : (Nat ⊕ Int32)}  (h : k_cc_delay v1 σ = some x0) : en_Mt G (d + 7) 1 6 M_cc_delay [.inr (.inl (some (14, 0, 0))), .inl v1] cs en_rf σ (en_ri x0) cs en_rf σ := by
  refine en_meth (ls := [some (.inr (.inl (some (14, 0, 0)))), some (.inl v1)]) md_cc_delay rfl rfl rfl ?_
  unfold k_cc_delay at h
  refine en_s_aload_n rfl rfl ?_
  refine en_s_iload_n rfl rfl ?_
  obtain ⟨t1, h2, h⟩ := en_b1_h h
  rcases t1 with n3 | x4
  · simp only [en_tx] at h
    cases h
    exact en_callVX (as := [.inl v1]) (rest := []) hz rfl (s_cc_needFlow G hz (d + 0) h2) lk_9_271 mv_cc_needFlow rfl rfl rfl rfl rfl (by decide) (by decide) rfl
  · simp only [en_tx] at h
    refine en_callV (as := [.inl v1]) (rest := []) (bc' := 0) (bs' := 0) hz rfl (s_cc_needFlow G hz (d + 0) h2) lk_9_271 mv_cc_needFlow rfl rfl rfl rfl rfl (fun _ h => h) (by decide) (by decide) ?_
    refine en_s_aload_n rfl rfl ?_
    refine en_s_getR (w := some (0, 0, 0)) rfl rfl rfl rfl ?_
    refine en_s_getR (w := some (6, 0, 0)) rfl rfl rfl rfl ?_
    refine en_s_iload_n rfl rfl ?_
    obtain ⟨t5, h6, h⟩ := en_b1_h h
    refine en_callV (as := [.inl v1]) (rest := []) (bc' := 0) (bs' := 0) hz rfl (s_lg_delayOf G hz (d + 3) h6) lk_9_316 mv_lg_delayOf rfl rfl rfl rfl rfl (fun _ h => h) (Nat.le_refl _) (Nat.le_refl _) ?_
    cases h
    exact en_s_iret rfl rfl
def k_cc_done (v1 : Int32) (v2 : Int32) (σ : en_M) : Option (Int32) :=
  if v2 = 0 then
    en_b1 (k_fi_sendOf 0 v1 σ) fun t2 =>
    some t2
  else
    en_b1 (k_fi_timeOf 0 v1 σ) fun t4 =>
    some t4
set_option maxRecDepth 100000 in
set_option maxHeartbeats 4000000 in
theorem s_cc_done (G : en_G) (hz : G.2.2.2.2.2.2.2.2 = none) (d : Nat) {cs : List en_A} {σ : en_M} {v1 : Int32} {v2 : Int32} {x0 : Int32}  (h : k_cc_done v1 v2 σ = some x0) : en_Mt G (d + 2) 0 0 M_cc_done [.inr (.inl (some (14, 0, 0))), .inl v1, .inl v2] cs en_rf σ (.inr (some (.inl x0))) cs en_rf σ := by
  refine en_meth (ls := [some (.inr (.inl (some (14, 0, 0)))), some (.inl v1), some (.inl v2)]) md_cc_done rfl rfl rfl ?_
  unfold k_cc_done at h
  refine en_s_iload_n rfl rfl ?_
  refine en_s_if_eq rfl (fun c1 => ?_) (fun c1 => ?_)
  · rw [if_pos c1] at h
    refine en_s_aload_n rfl rfl ?_
    refine en_s_getR (w := some (0, 0, 0)) rfl rfl rfl rfl ?_
    refine en_s_getR (w := some (8, 0, 0)) rfl rfl rfl rfl ?_
    refine en_s_iload_n rfl rfl ?_
    obtain ⟨t2, h3, h⟩ := en_b1_h h
    refine en_callV (as := [.inl v1]) (rest := []) (bc' := 0) (bs' := 0) hz rfl (s_fi_sendOf G hz (d + 0) h3) lk_9_286 mv_fi_sendOf rfl rfl rfl rfl rfl (fun _ h => h) (Nat.le_refl _) (Nat.le_refl _) ?_
    cases h
    exact en_s_iret rfl rfl
  · rw [if_neg c1] at h
    refine en_s_aload_n rfl rfl ?_
    refine en_s_getR (w := some (0, 0, 0)) rfl rfl rfl rfl ?_
    refine en_s_getR (w := some (8, 0, 0)) rfl rfl rfl rfl ?_
    refine en_s_iload_n rfl rfl ?_
    obtain ⟨t4, h5, h⟩ := en_b1_h h
    refine en_callV (as := [.inl v1]) (rest := []) (bc' := 0) (bs' := 0) hz rfl (s_fi_timeOf G hz (d + 0) h5) lk_9_281 mv_fi_timeOf rfl rfl rfl rfl rfl (fun _ h => h) (Nat.le_refl _) (Nat.le_refl _) ?_
    refine en_s_goto rfl ?_
    cases h
    exact en_s_iret rfl rfl
def k_cc_drop (v1 : Int32) (σ : en_M) : Option ((Nat ⊕ Int32) × en_M) :=
  en_b1 (k_cd_whyNoDrop 0 v1 σ) fun t1 =>
  en_b2 (k_cc_startAct t1 σ) fun t3 s4 =>
  en_tx t3 (fun n6 => some (.inl n6, s4)) (fun x7 =>
  en_b2 (k_cd_dropSend 0 v1 s4) fun t8 s9 =>
  some (.inr t8, s9))
set_option maxRecDepth 100000 in
set_option maxHeartbeats 4000000 in
theorem s_cc_drop (G : en_G) (hz : G.2.2.2.2.2.2.2.2 = none) (d : Nat) {cs : List en_A} {σ : en_M} {v1 : Int32} {x0 : (Nat ⊕ Int32)} {s0 : en_M}  (h : k_cc_drop v1 σ = some (x0, s0)) : en_Mt G (d + 7) 1 6 M_cc_drop [.inr (.inl (some (14, 0, 0))), .inl v1] cs en_rf σ (en_ri x0) cs en_rf s0 := by
  refine en_meth (ls := [some (.inr (.inl (some (14, 0, 0)))), some (.inl v1)]) md_cc_drop rfl rfl rfl ?_
  unfold k_cc_drop at h
  refine en_s_aload_n rfl rfl ?_
  refine en_s_aload_n rfl rfl ?_
  refine en_s_getR (w := some (0, 0, 0)) rfl rfl rfl rfl ?_
  refine en_s_iload_n rfl rfl ?_
  obtain ⟨t1, h2, h⟩ := en_b1_h h
  refine en_callV (as := [.inl v1]) (rest := [.inr (.inl (some (14, 0, 0)))]) (bc' := 1) (bs' := 6) hz rfl (s_cd_whyNoDrop G hz (d + 4) h2) lk_9_113 mv_cd_whyNoDrop rfl rfl rfl rfl rfl (fun _ h => h) (Nat.le_refl _) (Nat.le_refl _) ?_
  obtain ⟨t3, s4, h5, h⟩ := en_b2_h h
  rcases t3 with n6 | x7
  · simp only [en_tx] at h
    cases h
    exact en_callVX (as := [.inl t1]) (rest := []) hz rfl (s_cc_startAct G hz (d + 0) h5) lk_9_103 mv_cc_startAct rfl rfl rfl rfl rfl (by decide) (by decide) rfl
  · simp only [en_tx] at h
    refine en_callV (as := [.inl t1]) (rest := []) (bc' := 0) (bs' := 0) hz rfl (s_cc_startAct G hz (d + 0) h5) lk_9_103 mv_cc_startAct rfl rfl rfl rfl rfl (fun _ h => h) (by decide) (by decide) ?_
    refine en_s_aload_n rfl rfl ?_
    refine en_s_getR (w := some (0, 0, 0)) rfl rfl rfl rfl ?_
    refine en_s_iload_n rfl rfl ?_
    obtain ⟨t8, s9, h10, h⟩ := en_b2_h h
    refine en_callV (as := [.inl v1]) (rest := []) (bc' := 0) (bs' := 0) hz rfl (s_cd_dropSend G hz (d + 4) h10) lk_9_116 mv_cd_dropSend rfl rfl rfl rfl rfl (fun _ h => h) (Nat.le_refl _) (Nat.le_refl _) ?_
    cases h
    exact en_s_iret rfl rfl
def k_cc_end (v1 : Int32) (σ : en_M) : Option (Int32 × en_M) :=
  if v1 < 0 then
    some (0, σ)
  else
    if v1 ≤ (σ 20 0 0 1) then
      en_let (en_wr σ 20 0 0 1 v1) fun s3 =>
      some (1, s3)
    else
      some (0, σ)
set_option maxRecDepth 100000 in
set_option maxHeartbeats 4000000 in
theorem s_cc_end (G : en_G) (hz : G.2.2.2.2.2.2.2.2 = none) (d : Nat) {cs : List en_A} {σ : en_M} {v1 : Int32} {x0 : Int32} {s0 : en_M}  (h : k_cc_end v1 σ = some (x0, s0)) : en_Mt G (d + 0) 0 0 M_cc_end [.inr (.inl (some (14, 0, 0))), .inl v1] cs en_rf σ (.inr (some (.inl x0))) cs en_rf s0 := by
  refine en_meth (ls := [some (.inr (.inl (some (14, 0, 0)))), some (.inl v1)]) md_cc_end rfl rfl rfl ?_
  unfold k_cc_end at h
  refine en_s_iload_n rfl rfl ?_
  refine en_s_if_lt rfl (fun c1 => ?_) (fun c1 => ?_)
  · rw [if_pos c1] at h
    refine en_s_iconst rfl ?_
    cases h
    exact en_s_zret rfl rfl (Or.inl rfl)
  · rw [if_neg c1] at h
    refine en_s_iload_n rfl rfl ?_
    refine en_s_aload_n rfl rfl ?_
    refine en_s_getR (w := some (20, 0, 0)) rfl rfl rfl rfl ?_
    refine en_s_getI rfl rfl rfl ?_
    refine en_s_icmp_le rfl (fun c2 => ?_) (fun c2 => ?_)
    · rw [if_pos c2] at h
      refine en_s_aload_n rfl rfl ?_
      refine en_s_getR (w := some (20, 0, 0)) rfl rfl rfl rfl ?_
      refine en_s_iload_n rfl rfl ?_
      obtain ⟨s3, e4, h⟩ := en_let_h h
      refine en_p_putI e4 rfl rfl rfl rfl rfl ?_
      refine en_s_iconst rfl ?_
      cases h
      exact en_s_zret rfl rfl (Or.inr rfl)
    · rw [if_neg c2] at h
      refine en_s_iconst rfl ?_
      cases h
      exact en_s_zret rfl rfl (Or.inl rfl)
def k_cc_ends (v1 : Int32) (σ : en_M) : Option ((Nat ⊕ Int32) × en_M) :=
  en_b1 (k_cd_knownSend 0 v1 σ) fun t1 =>
  (match t1 with
  | none =>
    some (.inl 2, σ)
  | some z3 =>
    if (σ 13 0 z3 5) = 1 then
      en_b2 (k_pp_endOf 0 0 z3 σ) fun t5 s6 =>
      some (.inr t5, s6)
    else
      some (.inr (σ 13 0 z3 9), σ))
set_option maxRecDepth 100000 in
set_option maxHeartbeats 4000000 in
theorem s_cc_ends (G : en_G) (hz : G.2.2.2.2.2.2.2.2 = none) (d : Nat) {cs : List en_A} {σ : en_M} {v1 : Int32} {x0 : (Nat ⊕ Int32)} {s0 : en_M}  (h : k_cc_ends v1 σ = some (x0, s0)) : en_Mt G (d + 6) 1 6 M_cc_ends [.inr (.inl (some (14, 0, 0))), .inl v1] cs en_rf σ (en_ri x0) cs en_rf s0 := by
  refine en_meth (ls := [some (.inr (.inl (some (14, 0, 0)))), some (.inl v1), none]) md_cc_ends rfl rfl rfl ?_
  unfold k_cc_ends at h
  refine en_s_aload_n rfl rfl ?_
  refine en_s_getR (w := some (0, 0, 0)) rfl rfl rfl rfl ?_
  refine en_s_iload_n rfl rfl ?_
  obtain ⟨t1, h2, h⟩ := en_b1_h h
  refine en_callV (as := [.inl v1]) (rest := []) (bc' := 1) (bs' := 6) hz rfl (s_cd_knownSend G hz (d + 4) h2) lk_9_154 mv_cd_knownSend rfl rfl rfl rfl rfl (fun _ h => h) (Nat.le_refl _) (Nat.le_refl _) ?_
  refine en_o_astore_n (ls' := [some (.inr (.inl (some (14, 0, 0)))), some (.inl v1), some (.inr (.inl (t1.map (fun z9 => (13, 0, z9)))))]) rfl rfl rfl ?_
  refine en_o_aload_n rfl rfl ?_
  cases t1 with
  | none =>
    dsimp only at h
    refine en_s_ifnonnullN rfl ?_
    cases h
    exact en_s_throw (n := 2) (is := 160) (text := "no such send") (bc := 0) (bs := 0) (by decide) rfl rfl (by decide +kernel) rfl rfl rfl rfl rfl rfl
  | some z3 =>
    dsimp only at h
    refine en_s_ifnonnull rfl ?_
    refine en_s_aload_n rfl rfl ?_
    refine en_s_getI rfl rfl rfl ?_
    refine en_s_iconst rfl ?_
    refine en_s_icmp_ne rfl (fun c4 => ?_) (fun c4 => ?_)
    · rw [if_neg c4] at h
      refine en_s_aload_n rfl rfl ?_
      refine en_s_getI rfl rfl rfl ?_
      cases h
      exact en_s_iret rfl rfl
    · rw [if_pos c4] at h
      refine en_s_aload_n rfl rfl ?_
      refine en_s_getR (w := some (17, 0, 0)) rfl rfl rfl rfl ?_
      refine en_s_aload_n rfl rfl ?_
      refine en_s_getR (w := some (0, 0, 0)) rfl rfl rfl rfl ?_
      refine en_s_aload_n rfl rfl ?_
      obtain ⟨t5, s6, h7, h⟩ := en_b2_h h
      refine en_callV (as := [.inr (.inl (some (0, 0, 0))), .inr (.inl (some (13, 0, z3)))]) (rest := []) (bc' := 1) (bs' := 6) hz rfl (s_pp_endOf G hz (d + 2) h7) lk_9_350 mv_pp_endOf rfl rfl rfl rfl rfl (fun _ h => h) (Nat.le_refl _) (Nat.le_refl _) ?_
      refine en_s_goto rfl ?_
      cases h
      exact en_s_iret rfl rfl
def k_cc_fault  (σ : en_M) : Int32 :=
  σ 14 0 0 10
set_option maxRecDepth 100000 in
set_option maxHeartbeats 4000000 in
theorem s_cc_fault (G : en_G) (hz : G.2.2.2.2.2.2.2.2 = none) (d : Nat) {cs : List en_A} {σ : en_M}  {x0 : Int32}  (h : k_cc_fault  σ = x0) : en_Mt G (d + 0) 0 0 M_cc_fault [.inr (.inl (some (14, 0, 0)))] cs en_rf σ (.inr (some (.inl x0))) cs en_rf σ := by
  refine en_meth (ls := [some (.inr (.inl (some (14, 0, 0))))]) md_cc_fault rfl rfl rfl ?_
  unfold k_cc_fault at h
  refine en_s_aload_n rfl rfl ?_
  refine en_s_getI rfl rfl rfl ?_
  subst h
  exact en_s_iret rfl rfl
def k_cc_feed (v1 : Int32) (v2 : Int32) (v3 : Int32) (v4 : Int32) (v5 : Int32) (σ : en_M) : Option (Int32 × en_M) :=
  if (k_tp_hasRoom 20 σ) = 0 then
    some ((-1), σ)
  else
    en_b1 (k_tp_append v1 σ) fun s2 =>
    en_b1 (k_tp_append v2 s2) fun s4 =>
    en_b1 (k_tp_append v3 s4) fun s6 =>
    en_b1 (k_tp_append v4 s6) fun s8 =>
    en_b1 (k_tp_append v5 s8) fun s10 =>
    some (s10 20 0 0 1, s10)
set_option maxRecDepth 100000 in
set_option maxHeartbeats 4000000 in
theorem s_cc_feed (G : en_G) (hz : G.2.2.2.2.2.2.2.2 = none) (d : Nat) {cs : List en_A} {σ : en_M} {v1 : Int32} {v2 : Int32} {v3 : Int32} {v4 : Int32} {v5 : Int32} {x0 : Int32} {s0 : en_M}  (h : k_cc_feed v1 v2 v3 v4 v5 σ = some (x0, s0)) : en_Mt G (d + 1) 0 0 M_cc_feed [.inr (.inl (some (14, 0, 0))), .inl v1, .inl v2, .inl v3, .inl v4, .inl v5] cs en_rf σ (.inr (some (.inl x0))) cs en_rf s0 := by
  refine en_meth (ls := [some (.inr (.inl (some (14, 0, 0)))), some (.inl v1), some (.inl v2), some (.inl v3), some (.inl v4), some (.inl v5)]) md_cc_feed rfl rfl rfl ?_
  unfold k_cc_feed at h
  refine en_s_aload_n rfl rfl ?_
  refine en_s_getR (w := some (20, 0, 0)) rfl rfl rfl rfl ?_
  refine en_s_bipush rfl ?_
  refine en_callV (as := [.inl 20]) (rest := []) (bc' := 0) (bs' := 0) hz rfl (s_tp_hasRoom G hz (d + 0) rfl) lk_9_61 mv_tp_hasRoom rfl rfl rfl rfl rfl (fun _ h => h) (Nat.le_refl _) (Nat.le_refl _) ?_
  refine en_s_if_ne rfl (fun c1 => ?_) (fun c1 => ?_)
  · rw [if_neg c1] at h
    refine en_s_aload_n rfl rfl ?_
    refine en_s_getR (w := some (20, 0, 0)) rfl rfl rfl rfl ?_
    refine en_s_iload_n rfl rfl ?_
    obtain ⟨s2, h3, h⟩ := en_b1_h h
    refine en_callV (as := [.inl v1]) (rest := []) (bc' := 0) (bs' := 0) hz rfl (s_tp_append G hz (d + 0) h3) lk_9_65 mv_tp_append rfl rfl rfl rfl rfl (fun _ h => h) (Nat.le_refl _) (Nat.le_refl _) ?_
    refine en_s_aload_n rfl rfl ?_
    refine en_s_getR (w := some (20, 0, 0)) rfl rfl rfl rfl ?_
    refine en_s_iload_n rfl rfl ?_
    obtain ⟨s4, h5, h⟩ := en_b1_h h
    refine en_callV (as := [.inl v2]) (rest := []) (bc' := 0) (bs' := 0) hz rfl (s_tp_append G hz (d + 0) h5) lk_9_65 mv_tp_append rfl rfl rfl rfl rfl (fun _ h => h) (Nat.le_refl _) (Nat.le_refl _) ?_
    refine en_s_aload_n rfl rfl ?_
    refine en_s_getR (w := some (20, 0, 0)) rfl rfl rfl rfl ?_
    refine en_s_iload_n rfl rfl ?_
    obtain ⟨s6, h7, h⟩ := en_b1_h h
    refine en_callV (as := [.inl v3]) (rest := []) (bc' := 0) (bs' := 0) hz rfl (s_tp_append G hz (d + 0) h7) lk_9_65 mv_tp_append rfl rfl rfl rfl rfl (fun _ h => h) (Nat.le_refl _) (Nat.le_refl _) ?_
    refine en_s_aload_n rfl rfl ?_
    refine en_s_getR (w := some (20, 0, 0)) rfl rfl rfl rfl ?_
    refine en_s_iload rfl rfl ?_
    obtain ⟨s8, h9, h⟩ := en_b1_h h
    refine en_callV (as := [.inl v4]) (rest := []) (bc' := 0) (bs' := 0) hz rfl (s_tp_append G hz (d + 0) h9) lk_9_65 mv_tp_append rfl rfl rfl rfl rfl (fun _ h => h) (Nat.le_refl _) (Nat.le_refl _) ?_
    refine en_s_aload_n rfl rfl ?_
    refine en_s_getR (w := some (20, 0, 0)) rfl rfl rfl rfl ?_
    refine en_s_iload rfl rfl ?_
    obtain ⟨s10, h11, h⟩ := en_b1_h h
    refine en_callV (as := [.inl v5]) (rest := []) (bc' := 0) (bs' := 0) hz rfl (s_tp_append G hz (d + 0) h11) lk_9_65 mv_tp_append rfl rfl rfl rfl rfl (fun _ h => h) (Nat.le_refl _) (Nat.le_refl _) ?_
    refine en_s_aload_n rfl rfl ?_
    refine en_s_getR (w := some (20, 0, 0)) rfl rfl rfl rfl ?_
    refine en_s_getI rfl rfl rfl ?_
    cases h
    exact en_s_iret rfl rfl
  · rw [if_pos c1] at h
    refine en_s_iconst rfl ?_
    cases h
    exact en_s_iret rfl rfl
def k_cc_finds (v1 : Int32) (v2 : Int32) (v3 : Int32) (v4 : Int32) (σ : en_M) : Option ((Nat ⊕ Int32)) :=
  en_b1 (k_cd_knownSend 0 v1 σ) fun t1 =>
  (match t1 with
  | none =>
    some (.inl 2)
  | some z3 =>
    if (k_sd_hasOctet 0 z3 v2 v3 σ) = 0 then
      some (.inl 2)
    else
      if (k_cc_within v4 0 255) = 0 then
        some (.inl 0)
      else
        en_b1 (k_sd_isFound 0 z3 v2 v3 v4 σ) fun t6 =>
        en_b1 (en_bz t6) fun t8 =>
        some (.inr t8))
set_option maxRecDepth 100000 in
set_option maxHeartbeats 4000000 in
theorem s_cc_finds (G : en_G) (hz : G.2.2.2.2.2.2.2.2 = none) (d : Nat) {cs : List en_A} {σ : en_M} {v1 : Int32} {v2 : Int32} {v3 : Int32} {v4 : Int32} {x0 : (Nat ⊕ Int32)}  (h : k_cc_finds v1 v2 v3 v4 σ = some x0) : en_Mt G (d + 6) 1 6 M_cc_finds [.inr (.inl (some (14, 0, 0))), .inl v1, .inl v2, .inl v3, .inl v4] cs en_rf σ (en_ri x0) cs en_rf σ := by
  refine en_meth (ls := [some (.inr (.inl (some (14, 0, 0)))), some (.inl v1), some (.inl v2), some (.inl v3), some (.inl v4), none]) md_cc_finds rfl rfl rfl ?_
  unfold k_cc_finds at h
  refine en_s_aload_n rfl rfl ?_
  refine en_s_getR (w := some (0, 0, 0)) rfl rfl rfl rfl ?_
  refine en_s_iload_n rfl rfl ?_
  obtain ⟨t1, h2, h⟩ := en_b1_h h
  refine en_callV (as := [.inl v1]) (rest := []) (bc' := 1) (bs' := 6) hz rfl (s_cd_knownSend G hz (d + 4) h2) lk_9_154 mv_cd_knownSend rfl rfl rfl rfl rfl (fun _ h => h) (Nat.le_refl _) (Nat.le_refl _) ?_
  refine en_o_astore (ls' := [some (.inr (.inl (some (14, 0, 0)))), some (.inl v1), some (.inl v2), some (.inl v3), some (.inl v4), some (.inr (.inl (t1.map (fun z9 => (13, 0, z9)))))]) rfl rfl rfl ?_
  refine en_o_aload rfl rfl ?_
  cases t1 with
  | none =>
    dsimp only at h
    refine en_s_ifnullN rfl ?_
    cases h
    exact en_s_throw (n := 2) (is := 224) (text := "no such byte of a piece") (bc := 0) (bs := 0) (by decide) rfl rfl (by decide +kernel) rfl rfl rfl rfl rfl rfl
  | some z3 =>
    dsimp only at h
    refine en_s_ifnull rfl ?_
    refine en_s_aload rfl rfl ?_
    refine en_s_iload_n rfl rfl ?_
    refine en_s_iload_n rfl rfl ?_
    refine en_callV (as := [.inl v2, .inl v3]) (rest := []) (bc' := 1) (bs' := 6) hz rfl (s_sd_hasOctet G hz (d + 4) rfl) lk_9_220 mv_sd_hasOctet rfl rfl rfl rfl rfl (fun _ h => h) (Nat.le_refl _) (Nat.le_refl _) ?_
    refine en_s_if_ne rfl (fun c4 => ?_) (fun c4 => ?_)
    · rw [if_neg c4] at h
      refine en_s_iload rfl rfl ?_
      refine en_s_iconst rfl ?_
      refine en_s_sipush rfl ?_
      refine en_callS (as := [.inl v4, .inl 0, .inl 255]) (rest := []) (bc' := 1) (bs' := 6) hz rfl (s_cc_within G hz (d + 5) rfl) lk_9_93 mv_cc_within rfl rfl rfl (fun _ h => h) (Nat.le_refl _) (Nat.le_refl _) ?_
      refine en_s_if_ne rfl (fun c5 => ?_) (fun c5 => ?_)
      · rw [if_neg c5] at h
        refine en_s_aload rfl rfl ?_
        refine en_s_iload_n rfl rfl ?_
        refine en_s_iload_n rfl rfl ?_
        refine en_s_iload rfl rfl ?_
        obtain ⟨t6, h7, h⟩ := en_b1_h h
        refine en_callV (as := [.inl v2, .inl v3, .inl v4]) (rest := []) (bc' := 1) (bs' := 6) hz rfl (s_sd_isFound G hz (d + 0) h7) lk_9_330 mv_sd_isFound rfl rfl rfl rfl rfl (fun _ h => h) (Nat.le_refl _) (Nat.le_refl _) ?_
        obtain ⟨t8, z9, h⟩ := en_b1_h h
        cases h
        obtain ⟨z91, z92⟩ := en_bz_h z9
        subst z92
        exact en_s_zret rfl rfl z91
      · rw [if_pos c5] at h
        cases h
        exact en_s_throwW (n := 0) (is := 328) (text := "no such byte") (bc := 0) (bs := 0) (by decide) rfl rfl (by decide +kernel) rfl rfl rfl rfl rfl rfl
    · rw [if_pos c4] at h
      cases h
      exact en_s_throw (n := 2) (is := 224) (text := "no such byte of a piece") (bc := 0) (bs := 0) (by decide) rfl rfl (by decide +kernel) rfl rfl rfl rfl rfl rfl
def k_cc_leaver (v1 : Int32) (v2 : Int32) (σ : en_M) : Option (Int32 × en_M) :=
  en_b2 (k_pp_runTo 0 v1 σ) fun t1 s2 =>
  if t1 = 0 then
    some ((-1), s2)
  else
    if v2 = 0 then
      some ((64 * (s2 17 0 0 3)) + (s2 17 0 0 4), s2)
    else
      some (s2 17 0 0 5, s2)
set_option maxRecDepth 100000 in
set_option maxHeartbeats 4000000 in
theorem s_cc_leaver (G : en_G) (hz : G.2.2.2.2.2.2.2.2 = none) (d : Nat) {cs : List en_A} {σ : en_M} {v1 : Int32} {v2 : Int32} {x0 : Int32} {s0 : en_M}  (h : k_cc_leaver v1 v2 σ = some (x0, s0)) : en_Mt G (d + 3) 0 0 M_cc_leaver [.inr (.inl (some (14, 0, 0))), .inl v1, .inl v2] cs en_rf σ (.inr (some (.inl x0))) cs en_rf s0 := by
  refine en_meth (ls := [some (.inr (.inl (some (14, 0, 0)))), some (.inl v1), some (.inl v2)]) md_cc_leaver rfl rfl rfl ?_
  unfold k_cc_leaver at h
  refine en_s_aload_n rfl rfl ?_
  refine en_s_getR (w := some (17, 0, 0)) rfl rfl rfl rfl ?_
  refine en_s_aload_n rfl rfl ?_
  refine en_s_getR (w := some (0, 0, 0)) rfl rfl rfl rfl ?_
  refine en_s_iload_n rfl rfl ?_
  obtain ⟨t1, s2, h3, h⟩ := en_b2_h h
  refine en_callV (as := [.inr (.inl (some (0, 0, 0))), .inl v1]) (rest := []) (bc' := 0) (bs' := 0) hz rfl (s_pp_runTo G hz (d + 0) h3) lk_9_415 mv_pp_runTo rfl rfl rfl rfl rfl (fun _ h => h) (Nat.le_refl _) (Nat.le_refl _) ?_
  refine en_s_if_ne rfl (fun c4 => ?_) (fun c4 => ?_)
  · rw [if_neg c4] at h
    refine en_s_iload_n rfl rfl ?_
    refine en_s_if_eq rfl (fun c5 => ?_) (fun c5 => ?_)
    · rw [if_pos c5] at h
      refine en_s_bipush rfl ?_
      refine en_s_aload_n rfl rfl ?_
      refine en_s_getR (w := some (17, 0, 0)) rfl rfl rfl rfl ?_
      refine en_s_getI rfl rfl rfl ?_
      refine en_s_imul rfl ?_
      refine en_s_aload_n rfl rfl ?_
      refine en_s_getR (w := some (17, 0, 0)) rfl rfl rfl rfl ?_
      refine en_s_getI rfl rfl rfl ?_
      refine en_s_iadd rfl ?_
      cases h
      exact en_s_iret rfl rfl
    · rw [if_neg c5] at h
      refine en_s_aload_n rfl rfl ?_
      refine en_s_getR (w := some (17, 0, 0)) rfl rfl rfl rfl ?_
      refine en_s_getI rfl rfl rfl ?_
      refine en_s_goto rfl ?_
      cases h
      exact en_s_iret rfl rfl
  · rw [if_pos c4] at h
    refine en_s_iconst rfl ?_
    cases h
    exact en_s_iret rfl rfl
def k_cc_first (v1 : Int32) (σ : en_M) : Option (Int32 × en_M) :=
  en_b2 (k_cc_leaver 0 v1 σ) fun t1 s2 =>
  some (t1, s2)
set_option maxRecDepth 100000 in
set_option maxHeartbeats 4000000 in
theorem s_cc_first (G : en_G) (hz : G.2.2.2.2.2.2.2.2 = none) (d : Nat) {cs : List en_A} {σ : en_M} {v1 : Int32} {x0 : Int32} {s0 : en_M}  (h : k_cc_first v1 σ = some (x0, s0)) : en_Mt G (d + 4) 0 0 M_cc_first [.inr (.inl (some (14, 0, 0))), .inl v1] cs en_rf σ (.inr (some (.inl x0))) cs en_rf s0 := by
  refine en_meth (ls := [some (.inr (.inl (some (14, 0, 0)))), some (.inl v1)]) md_cc_first rfl rfl rfl ?_
  unfold k_cc_first at h
  refine en_s_aload_n rfl rfl ?_
  refine en_s_iconst rfl ?_
  refine en_s_iload_n rfl rfl ?_
  obtain ⟨t1, s2, h3, h⟩ := en_b2_h h
  refine en_callV (as := [.inl 0, .inl v1]) (rest := []) (bc' := 0) (bs' := 0) hz rfl (s_cc_leaver G hz (d + 0) h3) lk_9_325 mv_cc_leaver rfl rfl rfl rfl rfl (fun _ h => h) (Nat.le_refl _) (Nat.le_refl _) ?_
  cases h
  exact en_s_iret rfl rfl
def k_cc_flow (v1 : Int32) (v2 : Int32) (σ : en_M) : Option ((Nat ⊕ Int32)) :=
  en_b1 (k_cd_flowAt 0 v1 σ) fun t1 =>
  (match t1 with
  | none =>
    some (.inl 2)
  | some z3 =>
    if v2 = 0 then
      some (.inr (σ 12 0 z3 0))
    else
    if v2 = 1 then
      some (.inr (σ 12 0 z3 1))
    else
    if v2 = 2 then
      if (σ 12 0 z3 2) = 0 then
        some (.inr 0)
      else
        some (.inr 1)
    else
    if v2 = 3 then
      en_b1 (k_cd_waitingOf 0 v1 σ) fun t9 =>
      some (.inr t9)
    else
    if v2 = 4 then
      some (.inr (σ 12 0 z3 6))
    else
    if v2 = 5 then
      some (.inr (σ 12 0 z3 7))
    else
    if v2 = 6 then
      some (.inr (σ 12 0 z3 8))
    else
    if v2 = 7 then
      en_b1 (k_lg_jitterOf 0 v1 σ) fun t15 =>
      some (.inr t15)
    else
    some (.inl 3))
set_option maxRecDepth 100000 in
set_option maxHeartbeats 4000000 in
theorem s_cc_flow (G : en_G) (hz : G.2.2.2.2.2.2.2.2 = none) (d : Nat) {cs : List en_A} {σ : en_M} {v1 : Int32} {v2 : Int32} {x0 : (Nat ⊕ Int32)}  (h : k_cc_flow v1 v2 σ = some x0) : en_Mt G (d + 6) 1 6 M_cc_flow [.inr (.inl (some (14, 0, 0))), .inl v1, .inl v2] cs en_rf σ (en_ri x0) cs en_rf σ := by
  refine en_meth (ls := [some (.inr (.inl (some (14, 0, 0)))), some (.inl v1), some (.inl v2), none]) md_cc_flow rfl rfl rfl ?_
  unfold k_cc_flow at h
  refine en_s_aload_n rfl rfl ?_
  refine en_s_getR (w := some (0, 0, 0)) rfl rfl rfl rfl ?_
  refine en_s_iload_n rfl rfl ?_
  obtain ⟨t1, h2, h⟩ := en_b1_h h
  refine en_callV (as := [.inl v1]) (rest := []) (bc' := 1) (bs' := 6) hz rfl (s_cd_flowAt G hz (d + 5) h2) lk_9_231 mv_cd_flowAt rfl rfl rfl rfl rfl (fun _ h => h) (Nat.le_refl _) (Nat.le_refl _) ?_
  refine en_o_astore_n (ls' := [some (.inr (.inl (some (14, 0, 0)))), some (.inl v1), some (.inl v2), some (.inr (.inl (t1.map (fun z9 => (12, 0, z9)))))]) rfl rfl rfl ?_
  refine en_o_aload_n rfl rfl ?_
  cases t1 with
  | none =>
    dsimp only at h
    refine en_s_ifnonnullN rfl ?_
    cases h
    exact en_s_throw (n := 2) (is := 235) (text := "no such flow") (bc := 0) (bs := 0) (by decide) rfl rfl (by decide +kernel) rfl rfl rfl rfl rfl rfl
  | some z3 =>
    dsimp only at h
    refine en_s_ifnonnull rfl ?_
    refine en_s_iload_n rfl rfl ?_
    by_cases c4 : v2 = 0
    · rw [if_pos c4] at h
      refine en_s_table [(0, 72), (1, 77), (2, 82), (3, 95), (4, 104), (5, 109), (6, 114), (7, 119)] rfl (by decide) (en_sw_hit c4) ?_
      refine en_s_aload_n rfl rfl ?_
      refine en_s_getI rfl rfl rfl ?_
      cases h
      exact en_s_iret rfl rfl
    rw [if_neg c4] at h
    by_cases c5 : v2 = 1
    · rw [if_pos c5] at h
      refine en_s_table [(0, 72), (1, 77), (2, 82), (3, 95), (4, 104), (5, 109), (6, 114), (7, 119)] rfl (by decide) (en_sw_miss c4 (en_sw_hit c5)) ?_
      refine en_s_aload_n rfl rfl ?_
      refine en_s_getI rfl rfl rfl ?_
      cases h
      exact en_s_iret rfl rfl
    rw [if_neg c5] at h
    by_cases c6 : v2 = 2
    · rw [if_pos c6] at h
      refine en_s_table [(0, 72), (1, 77), (2, 82), (3, 95), (4, 104), (5, 109), (6, 114), (7, 119)] rfl (by decide) (en_sw_miss c4 (en_sw_miss c5 (en_sw_hit c6))) ?_
      refine en_s_aload_n rfl rfl ?_
      refine en_s_getI rfl rfl rfl ?_
      refine en_s_if_eq rfl (fun c7 => ?_) (fun c7 => ?_)
      · rw [if_pos c7] at h
        refine en_s_iconst rfl ?_
        cases h
        exact en_s_iret rfl rfl
      · rw [if_neg c7] at h
        refine en_s_iconst rfl ?_
        refine en_s_goto rfl ?_
        cases h
        exact en_s_iret rfl rfl
    rw [if_neg c6] at h
    by_cases c8 : v2 = 3
    · rw [if_pos c8] at h
      refine en_s_table [(0, 72), (1, 77), (2, 82), (3, 95), (4, 104), (5, 109), (6, 114), (7, 119)] rfl (by decide) (en_sw_miss c4 (en_sw_miss c5 (en_sw_miss c6 (en_sw_hit c8)))) ?_
      refine en_s_aload_n rfl rfl ?_
      refine en_s_getR (w := some (0, 0, 0)) rfl rfl rfl rfl ?_
      refine en_s_iload_n rfl rfl ?_
      obtain ⟨t9, h10, h⟩ := en_b1_h h
      refine en_callV (as := [.inl v1]) (rest := []) (bc' := 1) (bs' := 6) hz rfl (s_cd_waitingOf G hz (d + 4) h10) lk_9_248 mv_cd_waitingOf rfl rfl rfl rfl rfl (fun _ h => h) (Nat.le_refl _) (Nat.le_refl _) ?_
      cases h
      exact en_s_iret rfl rfl
    rw [if_neg c8] at h
    by_cases c11 : v2 = 4
    · rw [if_pos c11] at h
      refine en_s_table [(0, 72), (1, 77), (2, 82), (3, 95), (4, 104), (5, 109), (6, 114), (7, 119)] rfl (by decide) (en_sw_miss c4 (en_sw_miss c5 (en_sw_miss c6 (en_sw_miss c8 (en_sw_hit c11))))) ?_
      refine en_s_aload_n rfl rfl ?_
      refine en_s_getI rfl rfl rfl ?_
      cases h
      exact en_s_iret rfl rfl
    rw [if_neg c11] at h
    by_cases c12 : v2 = 5
    · rw [if_pos c12] at h
      refine en_s_table [(0, 72), (1, 77), (2, 82), (3, 95), (4, 104), (5, 109), (6, 114), (7, 119)] rfl (by decide) (en_sw_miss c4 (en_sw_miss c5 (en_sw_miss c6 (en_sw_miss c8 (en_sw_miss c11 (en_sw_hit c12)))))) ?_
      refine en_s_aload_n rfl rfl ?_
      refine en_s_getI rfl rfl rfl ?_
      cases h
      exact en_s_iret rfl rfl
    rw [if_neg c12] at h
    by_cases c13 : v2 = 6
    · rw [if_pos c13] at h
      refine en_s_table [(0, 72), (1, 77), (2, 82), (3, 95), (4, 104), (5, 109), (6, 114), (7, 119)] rfl (by decide) (en_sw_miss c4 (en_sw_miss c5 (en_sw_miss c6 (en_sw_miss c8 (en_sw_miss c11 (en_sw_miss c12 (en_sw_hit c13))))))) ?_
      refine en_s_aload_n rfl rfl ?_
      refine en_s_getI rfl rfl rfl ?_
      cases h
      exact en_s_iret rfl rfl
    rw [if_neg c13] at h
    by_cases c14 : v2 = 7
    · rw [if_pos c14] at h
      refine en_s_table [(0, 72), (1, 77), (2, 82), (3, 95), (4, 104), (5, 109), (6, 114), (7, 119)] rfl (by decide) (en_sw_miss c4 (en_sw_miss c5 (en_sw_miss c6 (en_sw_miss c8 (en_sw_miss c11 (en_sw_miss c12 (en_sw_miss c13 (en_sw_hit c14)))))))) ?_
      refine en_s_aload_n rfl rfl ?_
      refine en_s_getR (w := some (0, 0, 0)) rfl rfl rfl rfl ?_
      refine en_s_getR (w := some (6, 0, 0)) rfl rfl rfl rfl ?_
      refine en_s_iload_n rfl rfl ?_
      obtain ⟨t15, h16, h⟩ := en_b1_h h
      refine en_callV (as := [.inl v1]) (rest := []) (bc' := 1) (bs' := 6) hz rfl (s_lg_jitterOf G hz (d + 3) h16) lk_9_264 mv_lg_jitterOf rfl rfl rfl rfl rfl (fun _ h => h) (Nat.le_refl _) (Nat.le_refl _) ?_
      cases h
      exact en_s_iret rfl rfl
    rw [if_neg c14] at h
    refine en_s_table [(0, 72), (1, 77), (2, 82), (3, 95), (4, 104), (5, 109), (6, 114), (7, 119)] rfl (by decide) (en_sw_miss c4 (en_sw_miss c5 (en_sw_miss c6 (en_sw_miss c8 (en_sw_miss c11 (en_sw_miss c12 (en_sw_miss c13 (en_sw_miss c14 en_sw_nil)))))))) ?_
    cases h
    exact en_s_throwW (n := 3) (is := 269) (text := "no such thing of a flow") (bc := 0) (bs := 0) (by decide) rfl rfl (by decide +kernel) rfl rfl rfl rfl rfl rfl
def k_cc_holder (v1 : Int32) (v2 : Int32) (σ : en_M) : Option ((Nat ⊕ Int32)) :=
  en_b1 (k_cd_knownSend 0 v1 σ) fun t1 =>
  (match t1 with
  | none =>
    some (.inl 2)
  | some z3 =>
    if (σ 13 0 z3 6) = 0 then
      some (.inl 2)
    else
      if (k_cc_within v2 0 ((σ 13 0 z3 2) - 1)) = 0 then
        some (.inl 2)
      else
        if 0 < (σ 13 0 z3 3) then
          en_b1 (en_dv v2 (σ 13 0 z3 3)) fun t7 =>
          some (.inr t7)
        else
          some (.inl 2))
set_option maxRecDepth 100000 in
set_option maxHeartbeats 4000000 in
theorem s_cc_holder (G : en_G) (hz : G.2.2.2.2.2.2.2.2 = none) (d : Nat) {cs : List en_A} {σ : en_M} {v1 : Int32} {v2 : Int32} {x0 : (Nat ⊕ Int32)}  (h : k_cc_holder v1 v2 σ = some x0) : en_Mt G (d + 6) 1 6 M_cc_holder [.inr (.inl (some (14, 0, 0))), .inl v1, .inl v2] cs en_rf σ (en_ri x0) cs en_rf σ := by
  refine en_meth (ls := [some (.inr (.inl (some (14, 0, 0)))), some (.inl v1), some (.inl v2), none]) md_cc_holder rfl rfl rfl ?_
  unfold k_cc_holder at h
  refine en_s_aload_n rfl rfl ?_
  refine en_s_getR (w := some (0, 0, 0)) rfl rfl rfl rfl ?_
  refine en_s_iload_n rfl rfl ?_
  obtain ⟨t1, h2, h⟩ := en_b1_h h
  refine en_callV (as := [.inl v1]) (rest := []) (bc' := 1) (bs' := 6) hz rfl (s_cd_knownSend G hz (d + 4) h2) lk_9_154 mv_cd_knownSend rfl rfl rfl rfl rfl (fun _ h => h) (Nat.le_refl _) (Nat.le_refl _) ?_
  refine en_o_astore_n (ls' := [some (.inr (.inl (some (14, 0, 0)))), some (.inl v1), some (.inl v2), some (.inr (.inl (t1.map (fun z9 => (13, 0, z9)))))]) rfl rfl rfl ?_
  refine en_o_aload_n rfl rfl ?_
  cases t1 with
  | none =>
    dsimp only at h
    refine en_s_ifnullN rfl ?_
    cases h
    exact en_s_throw (n := 2) (is := 229) (text := "no piece has such a byte") (bc := 0) (bs := 0) (by decide) rfl rfl (by decide +kernel) rfl rfl rfl rfl rfl rfl
  | some z3 =>
    dsimp only at h
    refine en_s_ifnull rfl ?_
    refine en_s_aload_n rfl rfl ?_
    refine en_s_getI rfl rfl rfl ?_
    refine en_s_if_eq rfl (fun c4 => ?_) (fun c4 => ?_)
    · rw [if_pos c4] at h
      cases h
      exact en_s_throw (n := 2) (is := 229) (text := "no piece has such a byte") (bc := 0) (bs := 0) (by decide) rfl rfl (by decide +kernel) rfl rfl rfl rfl rfl rfl
    · rw [if_neg c4] at h
      refine en_s_iload_n rfl rfl ?_
      refine en_s_iconst rfl ?_
      refine en_s_aload_n rfl rfl ?_
      refine en_s_getI rfl rfl rfl ?_
      refine en_s_iconst rfl ?_
      refine en_s_isub rfl ?_
      refine en_callS (as := [.inl v2, .inl 0, .inl ((σ 13 0 z3 2) - 1)]) (rest := []) (bc' := 1) (bs' := 6) hz rfl (s_cc_within G hz (d + 5) rfl) lk_9_93 mv_cc_within rfl rfl rfl (fun _ h => h) (Nat.le_refl _) (Nat.le_refl _) ?_
      refine en_s_if_eq rfl (fun c5 => ?_) (fun c5 => ?_)
      · rw [if_pos c5] at h
        cases h
        exact en_s_throw (n := 2) (is := 229) (text := "no piece has such a byte") (bc := 0) (bs := 0) (by decide) rfl rfl (by decide +kernel) rfl rfl rfl rfl rfl rfl
      · rw [if_neg c5] at h
        refine en_s_aload_n rfl rfl ?_
        refine en_s_getI rfl rfl rfl ?_
        refine en_s_if_gt rfl (fun c6 => ?_) (fun c6 => ?_)
        · rw [if_pos c6] at h
          refine en_s_iload_n rfl rfl ?_
          refine en_s_aload_n rfl rfl ?_
          refine en_s_getI rfl rfl rfl ?_
          obtain ⟨t7, h8, h⟩ := en_b1_h h
          refine en_p_idiv h8 rfl ?_
          cases h
          exact en_s_iret rfl rfl
        · rw [if_neg c6] at h
          cases h
          exact en_s_throw (n := 2) (is := 229) (text := "no piece has such a byte") (bc := 0) (bs := 0) (by decide) rfl rfl (by decide +kernel) rfl rfl rfl rfl rfl rfl
def k_cc_image  (σ : en_M) : Option (en_M) :=
  en_b1 (k_cd_copyFrom 2 0 σ) fun s1 =>
  en_let (en_wr s1 14 0 0 8 1) fun s3 =>
  some s3
set_option maxRecDepth 100000 in
set_option maxHeartbeats 4000000 in
theorem s_cc_image (G : en_G) (hz : G.2.2.2.2.2.2.2.2 = none) (d : Nat) {cs : List en_A} {σ : en_M}  {s0 : en_M}  (h : k_cc_image  σ = some s0) : en_Mt G (d + 3) 0 0 M_cc_image [.inr (.inl (some (14, 0, 0)))] cs en_rf σ (.inr (none)) cs en_rf s0 := by
  refine en_meth (ls := [some (.inr (.inl (some (14, 0, 0))))]) md_cc_image rfl rfl rfl ?_
  unfold k_cc_image at h
  refine en_s_aload_n rfl rfl ?_
  refine en_s_getR (w := some (0, 2, 0)) rfl rfl rfl rfl ?_
  refine en_s_aload_n rfl rfl ?_
  refine en_s_getR (w := some (0, 0, 0)) rfl rfl rfl rfl ?_
  obtain ⟨s1, h2, h⟩ := en_b1_h h
  refine en_callV (as := [.inr (.inl (some (0, 0, 0)))]) (rest := []) (bc' := 0) (bs' := 0) hz rfl (s_cd_copyFrom G hz (d + 0) h2) lk_9_72 mv_cd_copyFrom rfl rfl rfl rfl rfl (fun _ h => h) (Nat.le_refl _) (Nat.le_refl _) ?_
  refine en_s_aload_n rfl rfl ?_
  refine en_s_iconst rfl ?_
  obtain ⟨s3, e4, h⟩ := en_let_h h
  refine en_p_putZ e4 (by decide) rfl rfl rfl rfl rfl ?_
  cases h
  exact en_s_vret rfl rfl
def k_cc_last  (σ : en_M) : Option (Int32 × en_M) :=
  en_b2 (k_pp_lastEnd 0 σ) fun t1 s2 =>
  some (t1, s2)
set_option maxRecDepth 100000 in
set_option maxHeartbeats 4000000 in
theorem s_cc_last (G : en_G) (hz : G.2.2.2.2.2.2.2.2 = none) (d : Nat) {cs : List en_A} {σ : en_M}  {x0 : Int32} {s0 : en_M}  (h : k_cc_last  σ = some (x0, s0)) : en_Mt G (d + 3) 0 0 M_cc_last [.inr (.inl (some (14, 0, 0)))] cs en_rf σ (.inr (some (.inl x0))) cs en_rf s0 := by
  refine en_meth (ls := [some (.inr (.inl (some (14, 0, 0))))]) md_cc_last rfl rfl rfl ?_
  unfold k_cc_last at h
  refine en_s_aload_n rfl rfl ?_
  refine en_s_getR (w := some (17, 0, 0)) rfl rfl rfl rfl ?_
  refine en_s_aload_n rfl rfl ?_
  refine en_s_getR (w := some (0, 0, 0)) rfl rfl rfl rfl ?_
  obtain ⟨t1, s2, h3, h⟩ := en_b2_h h
  refine en_callV (as := [.inr (.inl (some (0, 0, 0)))]) (rest := []) (bc' := 0) (bs' := 0) hz rfl (s_pp_lastEnd G hz (d + 0) h3) lk_9_354 mv_pp_lastEnd rfl rfl rfl rfl rfl (fun _ h => h) (Nat.le_refl _) (Nat.le_refl _) ?_
  cases h
  exact en_s_iret rfl rfl
def k_cc_latest (v1 : Int32) (σ : en_M) : Option (Int32) :=
  en_b1 (k_lg_rowByLate 0 v1 σ) fun t1 =>
  some t1
set_option maxRecDepth 100000 in
set_option maxHeartbeats 4000000 in
theorem s_cc_latest (G : en_G) (hz : G.2.2.2.2.2.2.2.2 = none) (d : Nat) {cs : List en_A} {σ : en_M} {v1 : Int32} {x0 : Int32}  (h : k_cc_latest v1 σ = some x0) : en_Mt G (d + 4) 0 0 M_cc_latest [.inr (.inl (some (14, 0, 0))), .inl v1] cs en_rf σ (.inr (some (.inl x0))) cs en_rf σ := by
  refine en_meth (ls := [some (.inr (.inl (some (14, 0, 0)))), some (.inl v1)]) md_cc_latest rfl rfl rfl ?_
  unfold k_cc_latest at h
  refine en_s_aload_n rfl rfl ?_
  refine en_s_getR (w := some (0, 0, 0)) rfl rfl rfl rfl ?_
  refine en_s_getR (w := some (6, 0, 0)) rfl rfl rfl rfl ?_
  refine en_s_iload_n rfl rfl ?_
  obtain ⟨t1, h2, h⟩ := en_b1_h h
  refine en_callV (as := [.inl v1]) (rest := []) (bc' := 0) (bs' := 0) hz rfl (s_lg_rowByLate G hz (d + 0) h2) lk_9_296 mv_lg_rowByLate rfl rfl rfl rfl rfl (fun _ h => h) (Nat.le_refl _) (Nat.le_refl _) ?_
  cases h
  exact en_s_iret rfl rfl
def k_cc_least (v1 : Int32) (v2 : Int32) (σ : en_M) : Option ((Nat ⊕ Int32) × en_M) :=
  en_b1 (k_cd_knownSend 0 v1 σ) fun t1 =>
  (match t1 with
  | none =>
    some (.inl 2, σ)
  | some z3 =>
    if (k_cc_within v2 0 9999) = 0 then
      some (.inl 0, σ)
    else
      if (σ 13 0 z3 5) = 1 then
        en_b2 (k_pp_leastRate 0 0 z3 v2 σ) fun t6 s7 =>
        some (.inr t6, s7)
      else
        some (.inr (-1), σ))
set_option maxRecDepth 100000 in
set_option maxHeartbeats 4000000 in
theorem s_cc_least (G : en_G) (hz : G.2.2.2.2.2.2.2.2 = none) (d : Nat) {cs : List en_A} {σ : en_M} {v1 : Int32} {v2 : Int32} {x0 : (Nat ⊕ Int32)} {s0 : en_M}  (h : k_cc_least v1 v2 σ = some (x0, s0)) : en_Mt G (d + 6) 1 6 M_cc_least [.inr (.inl (some (14, 0, 0))), .inl v1, .inl v2] cs en_rf σ (en_ri x0) cs en_rf s0 := by
  refine en_meth (ls := [some (.inr (.inl (some (14, 0, 0)))), some (.inl v1), some (.inl v2), none]) md_cc_least rfl rfl rfl ?_
  unfold k_cc_least at h
  refine en_s_aload_n rfl rfl ?_
  refine en_s_getR (w := some (0, 0, 0)) rfl rfl rfl rfl ?_
  refine en_s_iload_n rfl rfl ?_
  obtain ⟨t1, h2, h⟩ := en_b1_h h
  refine en_callV (as := [.inl v1]) (rest := []) (bc' := 1) (bs' := 6) hz rfl (s_cd_knownSend G hz (d + 4) h2) lk_9_154 mv_cd_knownSend rfl rfl rfl rfl rfl (fun _ h => h) (Nat.le_refl _) (Nat.le_refl _) ?_
  refine en_o_astore_n (ls' := [some (.inr (.inl (some (14, 0, 0)))), some (.inl v1), some (.inl v2), some (.inr (.inl (t1.map (fun z9 => (13, 0, z9)))))]) rfl rfl rfl ?_
  refine en_o_aload_n rfl rfl ?_
  cases t1 with
  | none =>
    dsimp only at h
    refine en_s_ifnonnullN rfl ?_
    cases h
    exact en_s_throw (n := 2) (is := 160) (text := "no such send") (bc := 0) (bs := 0) (by decide) rfl rfl (by decide +kernel) rfl rfl rfl rfl rfl rfl
  | some z3 =>
    dsimp only at h
    refine en_s_ifnonnull rfl ?_
    refine en_s_iload_n rfl rfl ?_
    refine en_s_iconst rfl ?_
    refine en_s_sipush rfl ?_
    refine en_callS (as := [.inl v2, .inl 0, .inl 9999]) (rest := []) (bc' := 1) (bs' := 6) hz rfl (s_cc_within G hz (d + 5) rfl) lk_9_93 mv_cc_within rfl rfl rfl (fun _ h => h) (Nat.le_refl _) (Nat.le_refl _) ?_
    refine en_s_if_ne rfl (fun c4 => ?_) (fun c4 => ?_)
    · rw [if_neg c4] at h
      refine en_s_aload_n rfl rfl ?_
      refine en_s_getI rfl rfl rfl ?_
      refine en_s_iconst rfl ?_
      refine en_s_icmp_ne rfl (fun c5 => ?_) (fun c5 => ?_)
      · rw [if_neg c5] at h
        refine en_s_iconst rfl ?_
        cases h
        exact en_s_iret rfl rfl
      · rw [if_pos c5] at h
        refine en_s_aload_n rfl rfl ?_
        refine en_s_getR (w := some (17, 0, 0)) rfl rfl rfl rfl ?_
        refine en_s_aload_n rfl rfl ?_
        refine en_s_getR (w := some (0, 0, 0)) rfl rfl rfl rfl ?_
        refine en_s_aload_n rfl rfl ?_
        refine en_s_iload_n rfl rfl ?_
        obtain ⟨t6, s7, h8, h⟩ := en_b2_h h
        refine en_callV (as := [.inr (.inl (some (0, 0, 0))), .inr (.inl (some (13, 0, z3))), .inl v2]) (rest := []) (bc' := 1) (bs' := 6) hz rfl (s_pp_leastRate G hz (d + 1) h8) lk_9_357 mv_pp_leastRate rfl rfl rfl rfl rfl (fun _ h => h) (Nat.le_refl _) (Nat.le_refl _) ?_
        refine en_s_goto rfl ?_
        cases h
        exact en_s_iret rfl rfl
    · rw [if_pos c4] at h
      cases h
      exact en_s_throwW (n := 0) (is := 340) (text := "no such time") (bc := 0) (bs := 0) (by decide) rfl rfl (by decide +kernel) rfl rfl rfl rfl rfl rfl
def k_cc_log (v1 : Int32) (v2 : Int32) (σ : en_M) : Option ((Nat ⊕ Int32)) :=
  if v2 = 0 then
    en_b1 (k_lg_at 0 v1 0 σ) fun t2 =>
    some (.inr t2)
  else
  if v2 = 1 then
    en_b1 (k_lg_at 0 v1 1 σ) fun t5 =>
    some (.inr t5)
  else
  if v2 = 2 then
    en_b1 (k_lg_at 0 v1 2 σ) fun t8 =>
    some (.inr t8)
  else
  if v2 = 3 then
    en_b1 (k_lg_at 0 v1 3 σ) fun t11 =>
    some (.inr t11)
  else
  if v2 = 4 then
    en_b1 (k_lg_at 0 v1 4 σ) fun t14 =>
    some (.inr t14)
  else
  if v2 = 5 then
    en_b1 (k_lg_at 0 v1 5 σ) fun t17 =>
    some (.inr t17)
  else
  if v2 = 6 then
    en_b1 (k_lg_lateOf 0 v1 σ) fun t20 =>
    some (.inr t20)
  else
  if v2 = 7 then
    en_b1 (k_lg_at 0 v1 6 σ) fun t23 =>
    some (.inr t23)
  else
  some (.inl 3)
set_option maxRecDepth 100000 in
set_option maxHeartbeats 4000000 in
theorem s_cc_log (G : en_G) (hz : G.2.2.2.2.2.2.2.2 = none) (d : Nat) {cs : List en_A} {σ : en_M} {v1 : Int32} {v2 : Int32} {x0 : (Nat ⊕ Int32)}  (h : k_cc_log v1 v2 σ = some x0) : en_Mt G (d + 6) 1 6 M_cc_log [.inr (.inl (some (14, 0, 0))), .inl v1, .inl v2] cs en_rf σ (en_ri x0) cs en_rf σ := by
  refine en_meth (ls := [some (.inr (.inl (some (14, 0, 0)))), some (.inl v1), some (.inl v2)]) md_cc_log rfl rfl rfl ?_
  unfold k_cc_log at h
  refine en_s_iload_n rfl rfl ?_
  by_cases c1 : v2 = 0
  · rw [if_pos c1] at h
    refine en_s_table [(0, 48), (1, 61), (2, 74), (3, 87), (4, 100), (5, 113), (6, 126), (7, 138)] rfl (by decide) (en_sw_hit c1) ?_
    refine en_s_aload_n rfl rfl ?_
    refine en_s_getR (w := some (0, 0, 0)) rfl rfl rfl rfl ?_
    refine en_s_getR (w := some (6, 0, 0)) rfl rfl rfl rfl ?_
    refine en_s_iload_n rfl rfl ?_
    refine en_s_iconst rfl ?_
    obtain ⟨t2, h3, h⟩ := en_b1_h h
    refine en_callV (as := [.inl v1, .inl 0]) (rest := []) (bc' := 1) (bs' := 6) hz rfl (s_lg_at G hz (d + 4) h3) lk_9_289 mv_lg_at rfl rfl rfl rfl rfl (fun _ h => h) (Nat.le_refl _) (Nat.le_refl _) ?_
    cases h
    exact en_s_iret rfl rfl
  rw [if_neg c1] at h
  by_cases c4 : v2 = 1
  · rw [if_pos c4] at h
    refine en_s_table [(0, 48), (1, 61), (2, 74), (3, 87), (4, 100), (5, 113), (6, 126), (7, 138)] rfl (by decide) (en_sw_miss c1 (en_sw_hit c4)) ?_
    refine en_s_aload_n rfl rfl ?_
    refine en_s_getR (w := some (0, 0, 0)) rfl rfl rfl rfl ?_
    refine en_s_getR (w := some (6, 0, 0)) rfl rfl rfl rfl ?_
    refine en_s_iload_n rfl rfl ?_
    refine en_s_iconst rfl ?_
    obtain ⟨t5, h6, h⟩ := en_b1_h h
    refine en_callV (as := [.inl v1, .inl 1]) (rest := []) (bc' := 1) (bs' := 6) hz rfl (s_lg_at G hz (d + 4) h6) lk_9_289 mv_lg_at rfl rfl rfl rfl rfl (fun _ h => h) (Nat.le_refl _) (Nat.le_refl _) ?_
    cases h
    exact en_s_iret rfl rfl
  rw [if_neg c4] at h
  by_cases c7 : v2 = 2
  · rw [if_pos c7] at h
    refine en_s_table [(0, 48), (1, 61), (2, 74), (3, 87), (4, 100), (5, 113), (6, 126), (7, 138)] rfl (by decide) (en_sw_miss c1 (en_sw_miss c4 (en_sw_hit c7))) ?_
    refine en_s_aload_n rfl rfl ?_
    refine en_s_getR (w := some (0, 0, 0)) rfl rfl rfl rfl ?_
    refine en_s_getR (w := some (6, 0, 0)) rfl rfl rfl rfl ?_
    refine en_s_iload_n rfl rfl ?_
    refine en_s_iconst rfl ?_
    obtain ⟨t8, h9, h⟩ := en_b1_h h
    refine en_callV (as := [.inl v1, .inl 2]) (rest := []) (bc' := 1) (bs' := 6) hz rfl (s_lg_at G hz (d + 4) h9) lk_9_289 mv_lg_at rfl rfl rfl rfl rfl (fun _ h => h) (Nat.le_refl _) (Nat.le_refl _) ?_
    cases h
    exact en_s_iret rfl rfl
  rw [if_neg c7] at h
  by_cases c10 : v2 = 3
  · rw [if_pos c10] at h
    refine en_s_table [(0, 48), (1, 61), (2, 74), (3, 87), (4, 100), (5, 113), (6, 126), (7, 138)] rfl (by decide) (en_sw_miss c1 (en_sw_miss c4 (en_sw_miss c7 (en_sw_hit c10)))) ?_
    refine en_s_aload_n rfl rfl ?_
    refine en_s_getR (w := some (0, 0, 0)) rfl rfl rfl rfl ?_
    refine en_s_getR (w := some (6, 0, 0)) rfl rfl rfl rfl ?_
    refine en_s_iload_n rfl rfl ?_
    refine en_s_iconst rfl ?_
    obtain ⟨t11, h12, h⟩ := en_b1_h h
    refine en_callV (as := [.inl v1, .inl 3]) (rest := []) (bc' := 1) (bs' := 6) hz rfl (s_lg_at G hz (d + 4) h12) lk_9_289 mv_lg_at rfl rfl rfl rfl rfl (fun _ h => h) (Nat.le_refl _) (Nat.le_refl _) ?_
    cases h
    exact en_s_iret rfl rfl
  rw [if_neg c10] at h
  by_cases c13 : v2 = 4
  · rw [if_pos c13] at h
    refine en_s_table [(0, 48), (1, 61), (2, 74), (3, 87), (4, 100), (5, 113), (6, 126), (7, 138)] rfl (by decide) (en_sw_miss c1 (en_sw_miss c4 (en_sw_miss c7 (en_sw_miss c10 (en_sw_hit c13))))) ?_
    refine en_s_aload_n rfl rfl ?_
    refine en_s_getR (w := some (0, 0, 0)) rfl rfl rfl rfl ?_
    refine en_s_getR (w := some (6, 0, 0)) rfl rfl rfl rfl ?_
    refine en_s_iload_n rfl rfl ?_
    refine en_s_iconst rfl ?_
    obtain ⟨t14, h15, h⟩ := en_b1_h h
    refine en_callV (as := [.inl v1, .inl 4]) (rest := []) (bc' := 1) (bs' := 6) hz rfl (s_lg_at G hz (d + 4) h15) lk_9_289 mv_lg_at rfl rfl rfl rfl rfl (fun _ h => h) (Nat.le_refl _) (Nat.le_refl _) ?_
    cases h
    exact en_s_iret rfl rfl
  rw [if_neg c13] at h
  by_cases c16 : v2 = 5
  · rw [if_pos c16] at h
    refine en_s_table [(0, 48), (1, 61), (2, 74), (3, 87), (4, 100), (5, 113), (6, 126), (7, 138)] rfl (by decide) (en_sw_miss c1 (en_sw_miss c4 (en_sw_miss c7 (en_sw_miss c10 (en_sw_miss c13 (en_sw_hit c16)))))) ?_
    refine en_s_aload_n rfl rfl ?_
    refine en_s_getR (w := some (0, 0, 0)) rfl rfl rfl rfl ?_
    refine en_s_getR (w := some (6, 0, 0)) rfl rfl rfl rfl ?_
    refine en_s_iload_n rfl rfl ?_
    refine en_s_iconst rfl ?_
    obtain ⟨t17, h18, h⟩ := en_b1_h h
    refine en_callV (as := [.inl v1, .inl 5]) (rest := []) (bc' := 1) (bs' := 6) hz rfl (s_lg_at G hz (d + 4) h18) lk_9_289 mv_lg_at rfl rfl rfl rfl rfl (fun _ h => h) (Nat.le_refl _) (Nat.le_refl _) ?_
    cases h
    exact en_s_iret rfl rfl
  rw [if_neg c16] at h
  by_cases c19 : v2 = 6
  · rw [if_pos c19] at h
    refine en_s_table [(0, 48), (1, 61), (2, 74), (3, 87), (4, 100), (5, 113), (6, 126), (7, 138)] rfl (by decide) (en_sw_miss c1 (en_sw_miss c4 (en_sw_miss c7 (en_sw_miss c10 (en_sw_miss c13 (en_sw_miss c16 (en_sw_hit c19))))))) ?_
    refine en_s_aload_n rfl rfl ?_
    refine en_s_getR (w := some (0, 0, 0)) rfl rfl rfl rfl ?_
    refine en_s_getR (w := some (6, 0, 0)) rfl rfl rfl rfl ?_
    refine en_s_iload_n rfl rfl ?_
    obtain ⟨t20, h21, h⟩ := en_b1_h h
    refine en_callV (as := [.inl v1]) (rest := []) (bc' := 1) (bs' := 6) hz rfl (s_lg_lateOf G hz (d + 3) h21) lk_9_291 mv_lg_lateOf rfl rfl rfl rfl rfl (fun _ h => h) (Nat.le_refl _) (Nat.le_refl _) ?_
    cases h
    exact en_s_iret rfl rfl
  rw [if_neg c19] at h
  by_cases c22 : v2 = 7
  · rw [if_pos c22] at h
    refine en_s_table [(0, 48), (1, 61), (2, 74), (3, 87), (4, 100), (5, 113), (6, 126), (7, 138)] rfl (by decide) (en_sw_miss c1 (en_sw_miss c4 (en_sw_miss c7 (en_sw_miss c10 (en_sw_miss c13 (en_sw_miss c16 (en_sw_miss c19 (en_sw_hit c22)))))))) ?_
    refine en_s_aload_n rfl rfl ?_
    refine en_s_getR (w := some (0, 0, 0)) rfl rfl rfl rfl ?_
    refine en_s_getR (w := some (6, 0, 0)) rfl rfl rfl rfl ?_
    refine en_s_iload_n rfl rfl ?_
    refine en_s_bipush rfl ?_
    obtain ⟨t23, h24, h⟩ := en_b1_h h
    refine en_callV (as := [.inl v1, .inl 6]) (rest := []) (bc' := 1) (bs' := 6) hz rfl (s_lg_at G hz (d + 4) h24) lk_9_289 mv_lg_at rfl rfl rfl rfl rfl (fun _ h => h) (Nat.le_refl _) (Nat.le_refl _) ?_
    cases h
    exact en_s_iret rfl rfl
  rw [if_neg c22] at h
  refine en_s_table [(0, 48), (1, 61), (2, 74), (3, 87), (4, 100), (5, 113), (6, 126), (7, 138)] rfl (by decide) (en_sw_miss c1 (en_sw_miss c4 (en_sw_miss c7 (en_sw_miss c10 (en_sw_miss c13 (en_sw_miss c16 (en_sw_miss c19 (en_sw_miss c22 en_sw_nil)))))))) ?_
  cases h
  exact en_s_throwW (n := 3) (is := 294) (text := "no such thing of a row") (bc := 0) (bs := 0) (by decide) rfl rfl (by decide +kernel) rfl rfl rfl rfl rfl rfl
def k_cc_merged (v1 : Int32) (v2 : Int32) (σ : en_M) : Option ((Nat ⊕ Int32)) :=
  en_b1 (k_cc_needFlow v1 σ) fun t1 =>
  en_tx t1 (fun n3 => some (.inl n3)) (fun x4 =>
  if v2 = 0 then
    en_b1 (k_lg_mergedOf 0 v1 σ) fun t6 =>
    some (.inr t6)
  else
    en_b1 (k_lg_mostMergedOf 0 v1 σ) fun t8 =>
    some (.inr t8))
set_option maxRecDepth 100000 in
set_option maxHeartbeats 4000000 in
theorem s_cc_merged (G : en_G) (hz : G.2.2.2.2.2.2.2.2 = none) (d : Nat) {cs : List en_A} {σ : en_M} {v1 : Int32} {v2 : Int32} {x0 : (Nat ⊕ Int32)}  (h : k_cc_merged v1 v2 σ = some x0) : en_Mt G (d + 7) 1 6 M_cc_merged [.inr (.inl (some (14, 0, 0))), .inl v1, .inl v2] cs en_rf σ (en_ri x0) cs en_rf σ := by
  refine en_meth (ls := [some (.inr (.inl (some (14, 0, 0)))), some (.inl v1), some (.inl v2)]) md_cc_merged rfl rfl rfl ?_
  unfold k_cc_merged at h
  refine en_s_aload_n rfl rfl ?_
  refine en_s_iload_n rfl rfl ?_
  obtain ⟨t1, h2, h⟩ := en_b1_h h
  rcases t1 with n3 | x4
  · simp only [en_tx] at h
    cases h
    exact en_callVX (as := [.inl v1]) (rest := []) hz rfl (s_cc_needFlow G hz (d + 0) h2) lk_9_271 mv_cc_needFlow rfl rfl rfl rfl rfl (by decide) (by decide) rfl
  · simp only [en_tx] at h
    refine en_callV (as := [.inl v1]) (rest := []) (bc' := 0) (bs' := 0) hz rfl (s_cc_needFlow G hz (d + 0) h2) lk_9_271 mv_cc_needFlow rfl rfl rfl rfl rfl (fun _ h => h) (by decide) (by decide) ?_
    refine en_s_iload_n rfl rfl ?_
    refine en_s_if_eq rfl (fun c5 => ?_) (fun c5 => ?_)
    · rw [if_pos c5] at h
      refine en_s_aload_n rfl rfl ?_
      refine en_s_getR (w := some (0, 0, 0)) rfl rfl rfl rfl ?_
      refine en_s_getR (w := some (6, 0, 0)) rfl rfl rfl rfl ?_
      refine en_s_iload_n rfl rfl ?_
      obtain ⟨t6, h7, h⟩ := en_b1_h h
      refine en_callV (as := [.inl v1]) (rest := []) (bc' := 0) (bs' := 0) hz rfl (s_lg_mergedOf G hz (d + 4) h7) lk_9_302 mv_lg_mergedOf rfl rfl rfl rfl rfl (fun _ h => h) (Nat.le_refl _) (Nat.le_refl _) ?_
      cases h
      exact en_s_iret rfl rfl
    · rw [if_neg c5] at h
      refine en_s_aload_n rfl rfl ?_
      refine en_s_getR (w := some (0, 0, 0)) rfl rfl rfl rfl ?_
      refine en_s_getR (w := some (6, 0, 0)) rfl rfl rfl rfl ?_
      refine en_s_iload_n rfl rfl ?_
      obtain ⟨t8, h9, h⟩ := en_b1_h h
      refine en_callV (as := [.inl v1]) (rest := []) (bc' := 0) (bs' := 0) hz rfl (s_lg_mostMergedOf G hz (d + 4) h9) lk_9_299 mv_lg_mostMergedOf rfl rfl rfl rfl rfl (fun _ h => h) (Nat.le_refl _) (Nat.le_refl _) ?_
      refine en_s_goto rfl ?_
      cases h
      exact en_s_iret rfl rfl
def k_cc_octet (v1 : Int32) (v2 : Int32) (v3 : Int32) (σ : en_M) : Option ((Nat ⊕ Int32)) :=
  en_b1 (k_cd_knownSend 0 v1 σ) fun t1 =>
  (match t1 with
  | none =>
    some (.inl 2)
  | some z3 =>
    if (k_sd_hasOctet 0 z3 v2 v3 σ) = 0 then
      some (.inl 2)
    else
      en_b1 (k_sd_octetOf 0 z3 v2 v3 σ) fun t5 =>
      some (.inr t5))
set_option maxRecDepth 100000 in
set_option maxHeartbeats 4000000 in
theorem s_cc_octet (G : en_G) (hz : G.2.2.2.2.2.2.2.2 = none) (d : Nat) {cs : List en_A} {σ : en_M} {v1 : Int32} {v2 : Int32} {v3 : Int32} {x0 : (Nat ⊕ Int32)}  (h : k_cc_octet v1 v2 v3 σ = some x0) : en_Mt G (d + 6) 1 6 M_cc_octet [.inr (.inl (some (14, 0, 0))), .inl v1, .inl v2, .inl v3] cs en_rf σ (en_ri x0) cs en_rf σ := by
  refine en_meth (ls := [some (.inr (.inl (some (14, 0, 0)))), some (.inl v1), some (.inl v2), some (.inl v3), none]) md_cc_octet rfl rfl rfl ?_
  unfold k_cc_octet at h
  refine en_s_aload_n rfl rfl ?_
  refine en_s_getR (w := some (0, 0, 0)) rfl rfl rfl rfl ?_
  refine en_s_iload_n rfl rfl ?_
  obtain ⟨t1, h2, h⟩ := en_b1_h h
  refine en_callV (as := [.inl v1]) (rest := []) (bc' := 1) (bs' := 6) hz rfl (s_cd_knownSend G hz (d + 4) h2) lk_9_154 mv_cd_knownSend rfl rfl rfl rfl rfl (fun _ h => h) (Nat.le_refl _) (Nat.le_refl _) ?_
  refine en_o_astore (ls' := [some (.inr (.inl (some (14, 0, 0)))), some (.inl v1), some (.inl v2), some (.inl v3), some (.inr (.inl (t1.map (fun z9 => (13, 0, z9)))))]) rfl rfl rfl ?_
  refine en_o_aload rfl rfl ?_
  cases t1 with
  | none =>
    dsimp only at h
    refine en_s_ifnullN rfl ?_
    cases h
    exact en_s_throw (n := 2) (is := 224) (text := "no such byte of a piece") (bc := 0) (bs := 0) (by decide) rfl rfl (by decide +kernel) rfl rfl rfl rfl rfl rfl
  | some z3 =>
    dsimp only at h
    refine en_s_ifnull rfl ?_
    refine en_s_aload rfl rfl ?_
    refine en_s_iload_n rfl rfl ?_
    refine en_s_iload_n rfl rfl ?_
    refine en_callV (as := [.inl v2, .inl v3]) (rest := []) (bc' := 1) (bs' := 6) hz rfl (s_sd_hasOctet G hz (d + 4) rfl) lk_9_220 mv_sd_hasOctet rfl rfl rfl rfl rfl (fun _ h => h) (Nat.le_refl _) (Nat.le_refl _) ?_
    refine en_s_if_ne rfl (fun c4 => ?_) (fun c4 => ?_)
    · rw [if_neg c4] at h
      refine en_s_aload rfl rfl ?_
      refine en_s_iload_n rfl rfl ?_
      refine en_s_iload_n rfl rfl ?_
      obtain ⟨t5, h6, h⟩ := en_b1_h h
      refine en_callV (as := [.inl v2, .inl v3]) (rest := []) (bc' := 1) (bs' := 6) hz rfl (s_sd_octetOf G hz (d + 1) h6) lk_9_226 mv_sd_octetOf rfl rfl rfl rfl rfl (fun _ h => h) (Nat.le_refl _) (Nat.le_refl _) ?_
      cases h
      exact en_s_iret rfl rfl
    · rw [if_pos c4] at h
      cases h
      exact en_s_throw (n := 2) (is := 224) (text := "no such byte of a piece") (bc := 0) (bs := 0) (by decide) rfl rfl (by decide +kernel) rfl rfl rfl rfl rfl rfl
def k_cc_pause (v1 : Int32) (v2 : Int32) (σ : en_M) : Option ((Nat ⊕ Int32) × en_M) :=
  if v2 = 0 then
    en_b1 (k_cd_whyNoPause 0 v1 1 σ) fun t16 =>
    en_b2 (k_cc_startAct t16 σ) fun t18 s19 =>
    en_tx t18 (fun n21 => some (.inl n21, s19)) (fun x22 =>
    if v2 = 0 then
      en_b2 (k_cd_setPaused 0 v1 1 s19) fun t27 s28 =>
      some (.inr t27, s28)
    else
      en_b2 (k_cd_setPaused 0 v1 0 s19) fun t24 s25 =>
      some (.inr t24, s25))
  else
    en_b1 (k_cd_whyNoPause 0 v1 0 σ) fun t2 =>
    en_b2 (k_cc_startAct t2 σ) fun t4 s5 =>
    en_tx t4 (fun n7 => some (.inl n7, s5)) (fun x8 =>
    if v2 = 0 then
      en_b2 (k_cd_setPaused 0 v1 1 s5) fun t13 s14 =>
      some (.inr t13, s14)
    else
      en_b2 (k_cd_setPaused 0 v1 0 s5) fun t10 s11 =>
      some (.inr t10, s11))
set_option maxRecDepth 100000 in
set_option maxHeartbeats 4000000 in
theorem s_cc_pause (G : en_G) (hz : G.2.2.2.2.2.2.2.2 = none) (d : Nat) {cs : List en_A} {σ : en_M} {v1 : Int32} {v2 : Int32} {x0 : (Nat ⊕ Int32)} {s0 : en_M}  (h : k_cc_pause v1 v2 σ = some (x0, s0)) : en_Mt G (d + 7) 1 6 M_cc_pause [.inr (.inl (some (14, 0, 0))), .inl v1, .inl v2] cs en_rf σ (en_ri x0) cs en_rf s0 := by
  refine en_meth (ls := [some (.inr (.inl (some (14, 0, 0)))), some (.inl v1), some (.inl v2)]) md_cc_pause rfl rfl rfl ?_
  unfold k_cc_pause at h
  refine en_s_aload_n rfl rfl ?_
  refine en_s_aload_n rfl rfl ?_
  refine en_s_getR (w := some (0, 0, 0)) rfl rfl rfl rfl ?_
  refine en_s_iload_n rfl rfl ?_
  refine en_s_iload_n rfl rfl ?_
  refine en_s_if_ne rfl (fun c1 => ?_) (fun c1 => ?_)
  · rw [if_neg c1] at h
    refine en_s_iconst rfl ?_
    obtain ⟨t2, h3, h⟩ := en_b1_h h
    refine en_callV (as := [.inl v1, .inl 0]) (rest := [.inr (.inl (some (14, 0, 0)))]) (bc' := 1) (bs' := 6) hz rfl (s_cd_whyNoPause G hz (d + 5) h3) lk_9_119 mv_cd_whyNoPause rfl rfl rfl rfl rfl (fun _ h => h) (Nat.le_refl _) (Nat.le_refl _) ?_
    obtain ⟨t4, s5, h6, h⟩ := en_b2_h h
    rcases t4 with n7 | x8
    · simp only [en_tx] at h
      cases h
      exact en_callVX (as := [.inl t2]) (rest := []) hz rfl (s_cc_startAct G hz (d + 0) h6) lk_9_103 mv_cc_startAct rfl rfl rfl rfl rfl (by decide) (by decide) rfl
    · simp only [en_tx] at h
      refine en_callV (as := [.inl t2]) (rest := []) (bc' := 0) (bs' := 0) hz rfl (s_cc_startAct G hz (d + 0) h6) lk_9_103 mv_cc_startAct rfl rfl rfl rfl rfl (fun _ h => h) (by decide) (by decide) ?_
      refine en_s_aload_n rfl rfl ?_
      refine en_s_getR (w := some (0, 0, 0)) rfl rfl rfl rfl ?_
      refine en_s_iload_n rfl rfl ?_
      refine en_s_iload_n rfl rfl ?_
      refine en_s_if_ne rfl (fun c9 => ?_) (fun c9 => ?_)
      · rw [if_neg c9] at h
        refine en_s_iconst rfl ?_
        obtain ⟨t10, s11, h12, h⟩ := en_b2_h h
        refine en_callV (as := [.inl v1, .inl 0]) (rest := []) (bc' := 0) (bs' := 0) hz rfl (s_cd_setPaused G hz (d + 4) h12) lk_9_123 mv_cd_setPaused rfl rfl rfl rfl rfl (fun _ h => h) (Nat.le_refl _) (Nat.le_refl _) ?_
        cases h
        exact en_s_iret rfl rfl
      · rw [if_pos c9] at h
        refine en_s_iconst rfl ?_
        refine en_s_goto rfl ?_
        obtain ⟨t13, s14, h15, h⟩ := en_b2_h h
        refine en_callV (as := [.inl v1, .inl 1]) (rest := []) (bc' := 0) (bs' := 0) hz rfl (s_cd_setPaused G hz (d + 4) h15) lk_9_123 mv_cd_setPaused rfl rfl rfl rfl rfl (fun _ h => h) (Nat.le_refl _) (Nat.le_refl _) ?_
        cases h
        exact en_s_iret rfl rfl
  · rw [if_pos c1] at h
    refine en_s_iconst rfl ?_
    refine en_s_goto rfl ?_
    obtain ⟨t16, h17, h⟩ := en_b1_h h
    refine en_callV (as := [.inl v1, .inl 1]) (rest := [.inr (.inl (some (14, 0, 0)))]) (bc' := 1) (bs' := 6) hz rfl (s_cd_whyNoPause G hz (d + 5) h17) lk_9_119 mv_cd_whyNoPause rfl rfl rfl rfl rfl (fun _ h => h) (Nat.le_refl _) (Nat.le_refl _) ?_
    obtain ⟨t18, s19, h20, h⟩ := en_b2_h h
    rcases t18 with n21 | x22
    · simp only [en_tx] at h
      cases h
      exact en_callVX (as := [.inl t16]) (rest := []) hz rfl (s_cc_startAct G hz (d + 0) h20) lk_9_103 mv_cc_startAct rfl rfl rfl rfl rfl (by decide) (by decide) rfl
    · simp only [en_tx] at h
      refine en_callV (as := [.inl t16]) (rest := []) (bc' := 0) (bs' := 0) hz rfl (s_cc_startAct G hz (d + 0) h20) lk_9_103 mv_cc_startAct rfl rfl rfl rfl rfl (fun _ h => h) (by decide) (by decide) ?_
      refine en_s_aload_n rfl rfl ?_
      refine en_s_getR (w := some (0, 0, 0)) rfl rfl rfl rfl ?_
      refine en_s_iload_n rfl rfl ?_
      refine en_s_iload_n rfl rfl ?_
      refine en_s_if_ne rfl (fun c23 => ?_) (fun c23 => ?_)
      · rw [if_neg c23] at h
        refine en_s_iconst rfl ?_
        obtain ⟨t24, s25, h26, h⟩ := en_b2_h h
        refine en_callV (as := [.inl v1, .inl 0]) (rest := []) (bc' := 0) (bs' := 0) hz rfl (s_cd_setPaused G hz (d + 4) h26) lk_9_123 mv_cd_setPaused rfl rfl rfl rfl rfl (fun _ h => h) (Nat.le_refl _) (Nat.le_refl _) ?_
        cases h
        exact en_s_iret rfl rfl
      · rw [if_pos c23] at h
        refine en_s_iconst rfl ?_
        refine en_s_goto rfl ?_
        obtain ⟨t27, s28, h29, h⟩ := en_b2_h h
        refine en_callV (as := [.inl v1, .inl 1]) (rest := []) (bc' := 0) (bs' := 0) hz rfl (s_cd_setPaused G hz (d + 4) h29) lk_9_123 mv_cd_setPaused rfl rfl rfl rfl rfl (fun _ h => h) (Nat.le_refl _) (Nat.le_refl _) ?_
        cases h
        exact en_s_iret rfl rfl
def k_cc_piece (v1 : Int32) (v2 : Int32) (v3 : Int32) (σ : en_M) : Option ((Nat ⊕ Int32)) :=
  en_b1 (k_cd_knownSend 0 v1 σ) fun t1 =>
  (match t1 with
  | none =>
    some (.inl 2)
  | some z3 =>
    if (k_sd_hasPiece 0 z3 v2 σ) = 0 then
      some (.inl 2)
    else
      if v3 = 0 then
        some (.inr (k_sd_sizeOf 0 z3 v2 σ))
      else
      if v3 = 1 then
        en_b1 (en_rd 160 (σ 3 0 0) (k_sd_indexOf 0 z3 v2 σ)) fun t7 =>
        some (.inr t7)
      else
      if v3 = 2 then
        en_b1 (en_rd 160 (σ 4 0 0) (k_sd_indexOf 0 z3 v2 σ)) fun t10 =>
        some (.inr t10)
      else
      if v3 = 3 then
        en_b1 (en_rd 160 (σ 5 0 0) (k_sd_indexOf 0 z3 v2 σ)) fun t13 =>
        some (.inr t13)
      else
      if v3 = 4 then
        en_b1 (k_sd_sumOf 0 z3 v2 σ) fun t16 =>
        some (.inr t16)
      else
      some (.inl 3))
set_option maxRecDepth 100000 in
set_option maxHeartbeats 4000000 in
theorem s_cc_piece (G : en_G) (hz : G.2.2.2.2.2.2.2.2 = none) (d : Nat) {cs : List en_A} {σ : en_M} {v1 : Int32} {v2 : Int32} {v3 : Int32} {x0 : (Nat ⊕ Int32)}  (h : k_cc_piece v1 v2 v3 σ = some x0) : en_Mt G (d + 6) 1 6 M_cc_piece [.inr (.inl (some (14, 0, 0))), .inl v1, .inl v2, .inl v3] cs en_rf σ (en_ri x0) cs en_rf σ := by
  refine en_meth (ls := [some (.inr (.inl (some (14, 0, 0)))), some (.inl v1), some (.inl v2), some (.inl v3), none, none]) md_cc_piece rfl rfl rfl ?_
  unfold k_cc_piece at h
  refine en_s_aload_n rfl rfl ?_
  refine en_s_getR (w := some (0, 0, 0)) rfl rfl rfl rfl ?_
  refine en_s_iload_n rfl rfl ?_
  obtain ⟨t1, h2, h⟩ := en_b1_h h
  refine en_callV (as := [.inl v1]) (rest := []) (bc' := 1) (bs' := 6) hz rfl (s_cd_knownSend G hz (d + 4) h2) lk_9_154 mv_cd_knownSend rfl rfl rfl rfl rfl (fun _ h => h) (Nat.le_refl _) (Nat.le_refl _) ?_
  refine en_o_astore (ls' := [some (.inr (.inl (some (14, 0, 0)))), some (.inl v1), some (.inl v2), some (.inl v3), some (.inr (.inl (t1.map (fun z9 => (13, 0, z9))))), none]) rfl rfl rfl ?_
  refine en_o_aload rfl rfl ?_
  cases t1 with
  | none =>
    dsimp only at h
    refine en_s_ifnullN rfl ?_
    cases h
    exact en_s_throw (n := 2) (is := 198) (text := "no such piece") (bc := 0) (bs := 0) (by decide) rfl rfl (by decide +kernel) rfl rfl rfl rfl rfl rfl
  | some z3 =>
    dsimp only at h
    refine en_s_ifnull rfl ?_
    refine en_s_aload rfl rfl ?_
    refine en_s_iload_n rfl rfl ?_
    refine en_callV (as := [.inl v2]) (rest := []) (bc' := 1) (bs' := 6) hz rfl (s_sd_hasPiece G hz (d + 5) rfl) lk_9_195 mv_sd_hasPiece rfl rfl rfl rfl rfl (fun _ h => h) (Nat.le_refl _) (Nat.le_refl _) ?_
    refine en_s_if_ne rfl (fun c4 => ?_) (fun c4 => ?_)
    · rw [if_neg c4] at h
      refine en_s_aload rfl rfl ?_
      refine en_s_iload_n rfl rfl ?_
      refine en_callV (as := [.inl v2]) (rest := []) (bc' := 1) (bs' := 6) hz rfl (s_sd_indexOf G hz (d + 5) rfl) lk_9_200 mv_sd_indexOf rfl rfl rfl rfl rfl (fun _ h => h) (Nat.le_refl _) (Nat.le_refl _) ?_
      refine en_s_istore (ls' := [some (.inr (.inl (some (14, 0, 0)))), some (.inl v1), some (.inl v2), some (.inl v3), some (.inr (.inl (some (13, 0, z3)))), some (.inl (k_sd_indexOf 0 z3 v2 σ))]) rfl rfl rfl ?_
      refine en_s_iload_n rfl rfl ?_
      by_cases c5 : v3 = 0
      · rw [if_pos c5] at h
        refine en_s_table [(0, 76), (1, 83), (2, 94), (3, 105), (4, 116)] rfl (by decide) (en_sw_hit c5) ?_
        refine en_s_aload rfl rfl ?_
        refine en_s_iload_n rfl rfl ?_
        refine en_callV (as := [.inl v2]) (rest := []) (bc' := 1) (bs' := 6) hz rfl (s_sd_sizeOf G hz (d + 5) rfl) lk_9_203 mv_sd_sizeOf rfl rfl rfl rfl rfl (fun _ h => h) (Nat.le_refl _) (Nat.le_refl _) ?_
        cases h
        exact en_s_iret rfl rfl
      rw [if_neg c5] at h
      by_cases c6 : v3 = 1
      · rw [if_pos c6] at h
        refine en_s_table [(0, 76), (1, 83), (2, 94), (3, 105), (4, 116)] rfl (by decide) (en_sw_miss c5 (en_sw_hit c6)) ?_
        refine en_s_aload_n rfl rfl ?_
        refine en_s_getR (w := some (0, 0, 0)) rfl rfl rfl rfl ?_
        refine en_s_getR (w := some (3, 0, 0)) rfl rfl rfl rfl ?_
        refine en_s_iload rfl rfl ?_
        obtain ⟨t7, h8, h⟩ := en_b1_h h
        refine en_s_iald rfl rfl h8 ?_
        cases h
        exact en_s_iret rfl rfl
      rw [if_neg c6] at h
      by_cases c9 : v3 = 2
      · rw [if_pos c9] at h
        refine en_s_table [(0, 76), (1, 83), (2, 94), (3, 105), (4, 116)] rfl (by decide) (en_sw_miss c5 (en_sw_miss c6 (en_sw_hit c9))) ?_
        refine en_s_aload_n rfl rfl ?_
        refine en_s_getR (w := some (0, 0, 0)) rfl rfl rfl rfl ?_
        refine en_s_getR (w := some (4, 0, 0)) rfl rfl rfl rfl ?_
        refine en_s_iload rfl rfl ?_
        obtain ⟨t10, h11, h⟩ := en_b1_h h
        refine en_s_iald rfl rfl h11 ?_
        cases h
        exact en_s_iret rfl rfl
      rw [if_neg c9] at h
      by_cases c12 : v3 = 3
      · rw [if_pos c12] at h
        refine en_s_table [(0, 76), (1, 83), (2, 94), (3, 105), (4, 116)] rfl (by decide) (en_sw_miss c5 (en_sw_miss c6 (en_sw_miss c9 (en_sw_hit c12)))) ?_
        refine en_s_aload_n rfl rfl ?_
        refine en_s_getR (w := some (0, 0, 0)) rfl rfl rfl rfl ?_
        refine en_s_getR (w := some (5, 0, 0)) rfl rfl rfl rfl ?_
        refine en_s_iload rfl rfl ?_
        obtain ⟨t13, h14, h⟩ := en_b1_h h
        refine en_s_iald rfl rfl h14 ?_
        cases h
        exact en_s_iret rfl rfl
      rw [if_neg c12] at h
      by_cases c15 : v3 = 4
      · rw [if_pos c15] at h
        refine en_s_table [(0, 76), (1, 83), (2, 94), (3, 105), (4, 116)] rfl (by decide) (en_sw_miss c5 (en_sw_miss c6 (en_sw_miss c9 (en_sw_miss c12 (en_sw_hit c15))))) ?_
        refine en_s_aload rfl rfl ?_
        refine en_s_iload_n rfl rfl ?_
        obtain ⟨t16, h17, h⟩ := en_b1_h h
        refine en_callV (as := [.inl v2]) (rest := []) (bc' := 1) (bs' := 6) hz rfl (s_sd_sumOf G hz (d + 2) h17) lk_9_215 mv_sd_sumOf rfl rfl rfl rfl rfl (fun _ h => h) (Nat.le_refl _) (Nat.le_refl _) ?_
        cases h
        exact en_s_iret rfl rfl
      rw [if_neg c15] at h
      refine en_s_table [(0, 76), (1, 83), (2, 94), (3, 105), (4, 116)] rfl (by decide) (en_sw_miss c5 (en_sw_miss c6 (en_sw_miss c9 (en_sw_miss c12 (en_sw_miss c15 en_sw_nil))))) ?_
      cases h
      exact en_s_throw (n := 3) (is := 218) (text := "no such thing of a piece") (bc := 0) (bs := 0) (by decide) rfl rfl (by decide +kernel) rfl rfl rfl rfl rfl rfl
    · rw [if_pos c4] at h
      cases h
      exact en_s_throw (n := 2) (is := 198) (text := "no such piece") (bc := 0) (bs := 0) (by decide) rfl rfl (by decide +kernel) rfl rfl rfl rfl rfl rfl
def k_cc_queue (v1 : Int32) (v2 : Int32) (σ : en_M) : Option (Int32 × en_M) :=
  en_b2 (k_cc_leaver v1 v2 σ) fun t1 s2 =>
  some (t1, s2)
set_option maxRecDepth 100000 in
set_option maxHeartbeats 4000000 in
theorem s_cc_queue (G : en_G) (hz : G.2.2.2.2.2.2.2.2 = none) (d : Nat) {cs : List en_A} {σ : en_M} {v1 : Int32} {v2 : Int32} {x0 : Int32} {s0 : en_M}  (h : k_cc_queue v1 v2 σ = some (x0, s0)) : en_Mt G (d + 4) 0 0 M_cc_queue [.inr (.inl (some (14, 0, 0))), .inl v1, .inl v2] cs en_rf σ (.inr (some (.inl x0))) cs en_rf s0 := by
  refine en_meth (ls := [some (.inr (.inl (some (14, 0, 0)))), some (.inl v1), some (.inl v2)]) md_cc_queue rfl rfl rfl ?_
  unfold k_cc_queue at h
  refine en_s_aload_n rfl rfl ?_
  refine en_s_iload_n rfl rfl ?_
  refine en_s_iload_n rfl rfl ?_
  obtain ⟨t1, s2, h3, h⟩ := en_b2_h h
  refine en_callV (as := [.inl v1, .inl v2]) (rest := []) (bc' := 0) (bs' := 0) hz rfl (s_cc_leaver G hz (d + 0) h3) lk_9_325 mv_cc_leaver rfl rfl rfl rfl rfl (fun _ h => h) (Nat.le_refl _) (Nat.le_refl _) ?_
  cases h
  exact en_s_iret rfl rfl
def k_cc_quiet  (σ : en_M) : Option (Int32 × en_M) :=
  en_b2 (k_pp_firstIdle 0 σ) fun t1 s2 =>
  some (t1, s2)
set_option maxRecDepth 100000 in
set_option maxHeartbeats 4000000 in
theorem s_cc_quiet (G : en_G) (hz : G.2.2.2.2.2.2.2.2 = none) (d : Nat) {cs : List en_A} {σ : en_M}  {x0 : Int32} {s0 : en_M}  (h : k_cc_quiet  σ = some (x0, s0)) : en_Mt G (d + 3) 0 0 M_cc_quiet [.inr (.inl (some (14, 0, 0)))] cs en_rf σ (.inr (some (.inl x0))) cs en_rf s0 := by
  refine en_meth (ls := [some (.inr (.inl (some (14, 0, 0))))]) md_cc_quiet rfl rfl rfl ?_
  unfold k_cc_quiet at h
  refine en_s_aload_n rfl rfl ?_
  refine en_s_getR (w := some (17, 0, 0)) rfl rfl rfl rfl ?_
  refine en_s_aload_n rfl rfl ?_
  refine en_s_getR (w := some (0, 0, 0)) rfl rfl rfl rfl ?_
  obtain ⟨t1, s2, h3, h⟩ := en_b2_h h
  refine en_callV (as := [.inr (.inl (some (0, 0, 0)))]) (rest := []) (bc' := 0) (bs' := 0) hz rfl (s_pp_firstIdle G hz (d + 0) h3) lk_9_346 mv_pp_firstIdle rfl rfl rfl rfl rfl (fun _ h => h) (Nat.le_refl _) (Nat.le_refl _) ?_
  cases h
  exact en_s_iret rfl rfl
def k_cc_rate (v1 : Int32) (v2 : Int32) (σ : en_M) : Option ((Nat ⊕ Int32) × en_M) :=
  if (k_cc_within v2 0 999) = 0 then
    some (.inl 0, σ)
  else
    en_b1 (k_cd_whyNoRate 0 v1 σ) fun t2 =>
    en_b2 (k_cc_startAct t2 σ) fun t4 s5 =>
    en_tx t4 (fun n7 => some (.inl n7, s5)) (fun x8 =>
    en_b2 (k_cd_setRate 0 v1 v2 s5) fun t9 s10 =>
    some (.inr t9, s10))
set_option maxRecDepth 100000 in
set_option maxHeartbeats 4000000 in
theorem s_cc_rate (G : en_G) (hz : G.2.2.2.2.2.2.2.2 = none) (d : Nat) {cs : List en_A} {σ : en_M} {v1 : Int32} {v2 : Int32} {x0 : (Nat ⊕ Int32)} {s0 : en_M}  (h : k_cc_rate v1 v2 σ = some (x0, s0)) : en_Mt G (d + 7) 2 12 M_cc_rate [.inr (.inl (some (14, 0, 0))), .inl v1, .inl v2] cs en_rf σ (en_ri x0) cs en_rf s0 := by
  refine en_meth (ls := [some (.inr (.inl (some (14, 0, 0)))), some (.inl v1), some (.inl v2)]) md_cc_rate rfl rfl rfl ?_
  unfold k_cc_rate at h
  refine en_s_iload_n rfl rfl ?_
  refine en_s_iconst rfl ?_
  refine en_s_sipush rfl ?_
  refine en_callS (as := [.inl v2, .inl 0, .inl 999]) (rest := []) (bc' := 2) (bs' := 12) hz rfl (s_cc_within G hz (d + 6) rfl) lk_9_93 mv_cc_within rfl rfl rfl (fun _ h => h) (Nat.le_refl _) (Nat.le_refl _) ?_
  refine en_s_if_ne rfl (fun c1 => ?_) (fun c1 => ?_)
  · rw [if_neg c1] at h
    refine en_s_aload_n rfl rfl ?_
    refine en_s_aload_n rfl rfl ?_
    refine en_s_getR (w := some (0, 0, 0)) rfl rfl rfl rfl ?_
    refine en_s_iload_n rfl rfl ?_
    obtain ⟨t2, h3, h⟩ := en_b1_h h
    refine en_callV (as := [.inl v1]) (rest := [.inr (.inl (some (14, 0, 0)))]) (bc' := 2) (bs' := 12) hz rfl (s_cd_whyNoRate G hz (d + 5) h3) lk_9_128 mv_cd_whyNoRate rfl rfl rfl rfl rfl (fun _ h => h) (Nat.le_refl _) (Nat.le_refl _) ?_
    obtain ⟨t4, s5, h6, h⟩ := en_b2_h h
    rcases t4 with n7 | x8
    · simp only [en_tx] at h
      cases h
      exact en_callVX (as := [.inl t2]) (rest := []) hz rfl (s_cc_startAct G hz (d + 0) h6) lk_9_103 mv_cc_startAct rfl rfl rfl rfl rfl (by decide) (by decide) rfl
    · simp only [en_tx] at h
      refine en_callV (as := [.inl t2]) (rest := []) (bc' := 1) (bs' := 6) hz rfl (s_cc_startAct G hz (d + 0) h6) lk_9_103 mv_cc_startAct rfl rfl rfl rfl rfl (fun _ h => h) (by decide) (by decide) ?_
      refine en_s_aload_n rfl rfl ?_
      refine en_s_getR (w := some (0, 0, 0)) rfl rfl rfl rfl ?_
      refine en_s_iload_n rfl rfl ?_
      refine en_s_iload_n rfl rfl ?_
      obtain ⟨t9, s10, h11, h⟩ := en_b2_h h
      refine en_callV (as := [.inl v1, .inl v2]) (rest := []) (bc' := 1) (bs' := 6) hz rfl (s_cd_setRate G hz (d + 4) h11) lk_9_131 mv_cd_setRate rfl rfl rfl rfl rfl (fun _ h => h) (Nat.le_refl _) (Nat.le_refl _) ?_
      cases h
      exact en_s_iret rfl rfl
  · rw [if_pos c1] at h
    cases h
    exact en_s_throw (n := 0) (is := 126) (text := "no such rate") (bc := 1) (bs := 6) (by decide) rfl rfl (by decide +kernel) rfl rfl rfl rfl rfl rfl
def k_cc_rest  (σ : en_M) : Option (Int32) :=
  en_b1 (k_lg_restOf 0 (σ 0 0 0 9) σ) fun t1 =>
  some t1
set_option maxRecDepth 100000 in
set_option maxHeartbeats 4000000 in
theorem s_cc_rest (G : en_G) (hz : G.2.2.2.2.2.2.2.2 = none) (d : Nat) {cs : List en_A} {σ : en_M}  {x0 : Int32}  (h : k_cc_rest  σ = some x0) : en_Mt G (d + 3) 0 0 M_cc_rest [.inr (.inl (some (14, 0, 0)))] cs en_rf σ (.inr (some (.inl x0))) cs en_rf σ := by
  refine en_meth (ls := [some (.inr (.inl (some (14, 0, 0))))]) md_cc_rest rfl rfl rfl ?_
  unfold k_cc_rest at h
  refine en_s_aload_n rfl rfl ?_
  refine en_s_getR (w := some (0, 0, 0)) rfl rfl rfl rfl ?_
  refine en_s_getR (w := some (6, 0, 0)) rfl rfl rfl rfl ?_
  refine en_s_aload_n rfl rfl ?_
  refine en_s_getR (w := some (0, 0, 0)) rfl rfl rfl rfl ?_
  refine en_s_getI rfl rfl rfl ?_
  obtain ⟨t1, h2, h⟩ := en_b1_h h
  refine en_callV (as := [.inl (σ 0 0 0 9)]) (rest := []) (bc' := 0) (bs' := 0) hz rfl (s_lg_restOf G hz (d + 0) h2) lk_9_322 mv_lg_restOf rfl rfl rfl rfl rfl (fun _ h => h) (Nat.le_refl _) (Nat.le_refl _) ?_
  cases h
  exact en_s_iret rfl rfl
def k_cc_send (v1 : Int32) (v2 : Int32) (v3 : Int32) (v4 : Int32) (σ : en_M) : Option ((Nat ⊕ Int32) × en_M) :=
  if (k_cc_within v2 1 200) = 0 then
    some (.inl 0, σ)
  else
    if (k_cc_within v3 10 100) = 0 then
      some (.inl 0, σ)
    else
      if (k_cc_within v4 0 9999) = 0 then
        some (.inl 0, σ)
      else
        en_b1 (k_cd_whyNoSend 0 v1 σ) fun t4 =>
        en_b2 (k_cc_startAct t4 σ) fun t6 s7 =>
        en_tx t6 (fun n9 => some (.inl n9, s7)) (fun x10 =>
        en_b2 (k_cd_post 0 v1 v2 v3 v4 s7) fun t11 s12 =>
        some (.inr t11, s12))
set_option maxRecDepth 100000 in
set_option maxHeartbeats 4000000 in
theorem s_cc_send (G : en_G) (hz : G.2.2.2.2.2.2.2.2 = none) (d : Nat) {cs : List en_A} {σ : en_M} {v1 : Int32} {v2 : Int32} {v3 : Int32} {v4 : Int32} {x0 : (Nat ⊕ Int32)} {s0 : en_M}  (h : k_cc_send v1 v2 v3 v4 σ = some (x0, s0)) : en_Mt G (d + 7) 2 12 M_cc_send [.inr (.inl (some (14, 0, 0))), .inl v1, .inl v2, .inl v3, .inl v4] cs en_rf σ (en_ri x0) cs en_rf s0 := by
  refine en_meth (ls := [some (.inr (.inl (some (14, 0, 0)))), some (.inl v1), some (.inl v2), some (.inl v3), some (.inl v4)]) md_cc_send rfl rfl rfl ?_
  unfold k_cc_send at h
  refine en_s_iload_n rfl rfl ?_
  refine en_s_iconst rfl ?_
  refine en_s_sipush rfl ?_
  refine en_callS (as := [.inl v2, .inl 1, .inl 200]) (rest := []) (bc' := 2) (bs' := 12) hz rfl (s_cc_within G hz (d + 6) rfl) lk_9_93 mv_cc_within rfl rfl rfl (fun _ h => h) (Nat.le_refl _) (Nat.le_refl _) ?_
  refine en_s_if_eq rfl (fun c1 => ?_) (fun c1 => ?_)
  · rw [if_pos c1] at h
    cases h
    exact en_s_throw (n := 0) (is := 97) (text := "no such length, cut or time") (bc := 1) (bs := 6) (by decide) rfl rfl (by decide +kernel) rfl rfl rfl rfl rfl rfl
  · rw [if_neg c1] at h
    refine en_s_iload_n rfl rfl ?_
    refine en_s_bipush rfl ?_
    refine en_s_bipush rfl ?_
    refine en_callS (as := [.inl v3, .inl 10, .inl 100]) (rest := []) (bc' := 2) (bs' := 12) hz rfl (s_cc_within G hz (d + 6) rfl) lk_9_93 mv_cc_within rfl rfl rfl (fun _ h => h) (Nat.le_refl _) (Nat.le_refl _) ?_
    refine en_s_if_eq rfl (fun c2 => ?_) (fun c2 => ?_)
    · rw [if_pos c2] at h
      cases h
      exact en_s_throw (n := 0) (is := 97) (text := "no such length, cut or time") (bc := 1) (bs := 6) (by decide) rfl rfl (by decide +kernel) rfl rfl rfl rfl rfl rfl
    · rw [if_neg c2] at h
      refine en_s_iload rfl rfl ?_
      refine en_s_iconst rfl ?_
      refine en_s_sipush rfl ?_
      refine en_callS (as := [.inl v4, .inl 0, .inl 9999]) (rest := []) (bc' := 2) (bs' := 12) hz rfl (s_cc_within G hz (d + 6) rfl) lk_9_93 mv_cc_within rfl rfl rfl (fun _ h => h) (Nat.le_refl _) (Nat.le_refl _) ?_
      refine en_s_if_ne rfl (fun c3 => ?_) (fun c3 => ?_)
      · rw [if_neg c3] at h
        refine en_s_aload_n rfl rfl ?_
        refine en_s_aload_n rfl rfl ?_
        refine en_s_getR (w := some (0, 0, 0)) rfl rfl rfl rfl ?_
        refine en_s_iload_n rfl rfl ?_
        obtain ⟨t4, h5, h⟩ := en_b1_h h
        refine en_callV (as := [.inl v1]) (rest := [.inr (.inl (some (14, 0, 0)))]) (bc' := 2) (bs' := 12) hz rfl (s_cd_whyNoSend G hz (d + 5) h5) lk_9_99 mv_cd_whyNoSend rfl rfl rfl rfl rfl (fun _ h => h) (Nat.le_refl _) (Nat.le_refl _) ?_
        obtain ⟨t6, s7, h8, h⟩ := en_b2_h h
        rcases t6 with n9 | x10
        · simp only [en_tx] at h
          cases h
          exact en_callVX (as := [.inl t4]) (rest := []) hz rfl (s_cc_startAct G hz (d + 0) h8) lk_9_103 mv_cc_startAct rfl rfl rfl rfl rfl (by decide) (by decide) rfl
        · simp only [en_tx] at h
          refine en_callV (as := [.inl t4]) (rest := []) (bc' := 1) (bs' := 6) hz rfl (s_cc_startAct G hz (d + 0) h8) lk_9_103 mv_cc_startAct rfl rfl rfl rfl rfl (fun _ h => h) (by decide) (by decide) ?_
          refine en_s_aload_n rfl rfl ?_
          refine en_s_getR (w := some (0, 0, 0)) rfl rfl rfl rfl ?_
          refine en_s_iload_n rfl rfl ?_
          refine en_s_iload_n rfl rfl ?_
          refine en_s_iload_n rfl rfl ?_
          refine en_s_iload rfl rfl ?_
          obtain ⟨t11, s12, h13, h⟩ := en_b2_h h
          refine en_callV (as := [.inl v1, .inl v2, .inl v3, .inl v4]) (rest := []) (bc' := 1) (bs' := 6) hz rfl (s_cd_post G hz (d + 3) h13) lk_9_106 mv_cd_post rfl rfl rfl rfl rfl (fun _ h => h) (Nat.le_refl _) (Nat.le_refl _) ?_
          cases h
          exact en_s_iret rfl rfl
      · rw [if_pos c3] at h
        cases h
        exact en_s_throw (n := 0) (is := 97) (text := "no such length, cut or time") (bc := 1) (bs := 6) (by decide) rfl rfl (by decide +kernel) rfl rfl rfl rfl rfl rfl
def k_cc_share (v1 : Int32) (σ : en_M) : Option ((Nat ⊕ Int32)) :=
  en_b1 (k_cc_needFlow v1 σ) fun t1 =>
  en_tx t1 (fun n3 => some (.inl n3)) (fun x4 =>
  en_b1 (k_lg_shareOf 0 v1 σ) fun t5 =>
  some (.inr t5))
set_option maxRecDepth 100000 in
set_option maxHeartbeats 4000000 in
theorem s_cc_share (G : en_G) (hz : G.2.2.2.2.2.2.2.2 = none) (d : Nat) {cs : List en_A} {σ : en_M} {v1 : Int32} {x0 : (Nat ⊕ Int32)}  (h : k_cc_share v1 σ = some x0) : en_Mt G (d + 7) 1 6 M_cc_share [.inr (.inl (some (14, 0, 0))), .inl v1] cs en_rf σ (en_ri x0) cs en_rf σ := by
  refine en_meth (ls := [some (.inr (.inl (some (14, 0, 0)))), some (.inl v1)]) md_cc_share rfl rfl rfl ?_
  unfold k_cc_share at h
  refine en_s_aload_n rfl rfl ?_
  refine en_s_iload_n rfl rfl ?_
  obtain ⟨t1, h2, h⟩ := en_b1_h h
  rcases t1 with n3 | x4
  · simp only [en_tx] at h
    cases h
    exact en_callVX (as := [.inl v1]) (rest := []) hz rfl (s_cc_needFlow G hz (d + 0) h2) lk_9_271 mv_cc_needFlow rfl rfl rfl rfl rfl (by decide) (by decide) rfl
  · simp only [en_tx] at h
    refine en_callV (as := [.inl v1]) (rest := []) (bc' := 0) (bs' := 0) hz rfl (s_cc_needFlow G hz (d + 0) h2) lk_9_271 mv_cc_needFlow rfl rfl rfl rfl rfl (fun _ h => h) (by decide) (by decide) ?_
    refine en_s_aload_n rfl rfl ?_
    refine en_s_getR (w := some (0, 0, 0)) rfl rfl rfl rfl ?_
    refine en_s_getR (w := some (6, 0, 0)) rfl rfl rfl rfl ?_
    refine en_s_iload_n rfl rfl ?_
    obtain ⟨t5, h6, h⟩ := en_b1_h h
    refine en_callV (as := [.inl v1]) (rest := []) (bc' := 0) (bs' := 0) hz rfl (s_lg_shareOf G hz (d + 4) h6) lk_9_305 mv_lg_shareOf rfl rfl rfl rfl rfl (fun _ h => h) (Nat.le_refl _) (Nat.le_refl _) ?_
    cases h
    exact en_s_iret rfl rfl
def k_cc_tick (v1 : Int32) (σ : en_M) : Option ((Nat ⊕ Int32) × en_M) :=
  if (k_cc_within v1 1 99) = 0 then
    some (.inl 0, σ)
  else
    en_b2 (k_cc_startAct (k_cd_whyNoTick 0 σ) σ) fun t2 s3 =>
    en_tx t2 (fun n5 => some (.inl n5, s3)) (fun x6 =>
    en_b2 (k_cd_runTicks 0 v1 s3) fun t7 s8 =>
    some (.inr t7, s8))
set_option maxRecDepth 100000 in
set_option maxHeartbeats 4000000 in
theorem s_cc_tick (G : en_G) (hz : G.2.2.2.2.2.2.2.2 = none) (d : Nat) {cs : List en_A} {σ : en_M} {v1 : Int32} {x0 : (Nat ⊕ Int32)} {s0 : en_M}  (h : k_cc_tick v1 σ = some (x0, s0)) : en_Mt G (d + 7) 2 12 M_cc_tick [.inr (.inl (some (14, 0, 0))), .inl v1] cs en_rf σ (en_ri x0) cs en_rf s0 := by
  refine en_meth (ls := [some (.inr (.inl (some (14, 0, 0)))), some (.inl v1)]) md_cc_tick rfl rfl rfl ?_
  unfold k_cc_tick at h
  refine en_s_iload_n rfl rfl ?_
  refine en_s_iconst rfl ?_
  refine en_s_bipush rfl ?_
  refine en_callS (as := [.inl v1, .inl 1, .inl 99]) (rest := []) (bc' := 2) (bs' := 12) hz rfl (s_cc_within G hz (d + 6) rfl) lk_9_93 mv_cc_within rfl rfl rfl (fun _ h => h) (Nat.le_refl _) (Nat.le_refl _) ?_
  refine en_s_if_ne rfl (fun c1 => ?_) (fun c1 => ?_)
  · rw [if_neg c1] at h
    refine en_s_aload_n rfl rfl ?_
    refine en_s_aload_n rfl rfl ?_
    refine en_s_getR (w := some (0, 0, 0)) rfl rfl rfl rfl ?_
    refine en_callV (as := []) (rest := [.inr (.inl (some (14, 0, 0)))]) (bc' := 2) (bs' := 12) hz rfl (s_cd_whyNoTick G hz (d + 6) rfl) lk_9_137 mv_cd_whyNoTick rfl rfl rfl rfl rfl (fun _ h => h) (Nat.le_refl _) (Nat.le_refl _) ?_
    obtain ⟨t2, s3, h4, h⟩ := en_b2_h h
    rcases t2 with n5 | x6
    · simp only [en_tx] at h
      cases h
      exact en_callVX (as := [.inl (k_cd_whyNoTick 0 σ)]) (rest := []) hz rfl (s_cc_startAct G hz (d + 0) h4) lk_9_103 mv_cc_startAct rfl rfl rfl rfl rfl (by decide) (by decide) rfl
    · simp only [en_tx] at h
      refine en_callV (as := [.inl (k_cd_whyNoTick 0 σ)]) (rest := []) (bc' := 1) (bs' := 6) hz rfl (s_cc_startAct G hz (d + 0) h4) lk_9_103 mv_cc_startAct rfl rfl rfl rfl rfl (fun _ h => h) (by decide) (by decide) ?_
      refine en_s_aload_n rfl rfl ?_
      refine en_s_getR (w := some (0, 0, 0)) rfl rfl rfl rfl ?_
      refine en_s_iload_n rfl rfl ?_
      obtain ⟨t7, s8, h9, h⟩ := en_b2_h h
      refine en_callV (as := [.inl v1]) (rest := []) (bc' := 1) (bs' := 6) hz rfl (s_cd_runTicks G hz (d + 3) h9) lk_9_140 mv_cd_runTicks rfl rfl rfl rfl rfl (fun _ h => h) (Nat.le_refl _) (Nat.le_refl _) ?_
      cases h
      exact en_s_iret rfl rfl
  · rw [if_pos c1] at h
    cases h
    exact en_s_throw (n := 0) (is := 135) (text := "no such number of ticks") (bc := 1) (bs := 6) (by decide) rfl rfl (by decide +kernel) rfl rfl rfl rfl rfl rfl
def k_cc_told (v1 : Int32) (v2 : Int32) (σ : en_M) : Option ((Nat ⊕ Int32)) :=
  en_b1 (k_cd_knownSend 0 v1 σ) fun t1 =>
  (match t1 with
  | none =>
    some (.inl 2)
  | some z3 =>
    if v2 = 0 then
      some (.inr (σ 13 0 z3 1))
    else
    if v2 = 1 then
      some (.inr (σ 13 0 z3 2))
    else
    if v2 = 2 then
      some (.inr (σ 13 0 z3 3))
    else
    if v2 = 3 then
      some (.inr (σ 13 0 z3 4))
    else
    if v2 = 4 then
      some (.inr (σ 13 0 z3 5))
    else
    if v2 = 5 then
      some (.inr (σ 13 0 z3 6))
    else
    if v2 = 6 then
      some (.inr (σ 13 0 z3 8))
    else
    if v2 = 7 then
      some (.inr (σ 13 0 z3 9))
    else
    if v2 = 8 then
      some (.inr (σ 13 0 z3 10))
    else
    some (.inl 3))
set_option maxRecDepth 100000 in
set_option maxHeartbeats 4000000 in
theorem s_cc_told (G : en_G) (hz : G.2.2.2.2.2.2.2.2 = none) (d : Nat) {cs : List en_A} {σ : en_M} {v1 : Int32} {v2 : Int32} {x0 : (Nat ⊕ Int32)}  (h : k_cc_told v1 v2 σ = some x0) : en_Mt G (d + 6) 1 6 M_cc_told [.inr (.inl (some (14, 0, 0))), .inl v1, .inl v2] cs en_rf σ (en_ri x0) cs en_rf σ := by
  refine en_meth (ls := [some (.inr (.inl (some (14, 0, 0)))), some (.inl v1), some (.inl v2), none]) md_cc_told rfl rfl rfl ?_
  unfold k_cc_told at h
  refine en_s_aload_n rfl rfl ?_
  refine en_s_getR (w := some (0, 0, 0)) rfl rfl rfl rfl ?_
  refine en_s_iload_n rfl rfl ?_
  obtain ⟨t1, h2, h⟩ := en_b1_h h
  refine en_callV (as := [.inl v1]) (rest := []) (bc' := 1) (bs' := 6) hz rfl (s_cd_knownSend G hz (d + 4) h2) lk_9_154 mv_cd_knownSend rfl rfl rfl rfl rfl (fun _ h => h) (Nat.le_refl _) (Nat.le_refl _) ?_
  refine en_o_astore_n (ls' := [some (.inr (.inl (some (14, 0, 0)))), some (.inl v1), some (.inl v2), some (.inr (.inl (t1.map (fun z9 => (13, 0, z9)))))]) rfl rfl rfl ?_
  refine en_o_aload_n rfl rfl ?_
  cases t1 with
  | none =>
    dsimp only at h
    refine en_s_ifnonnullN rfl ?_
    cases h
    exact en_s_throw (n := 2) (is := 160) (text := "no such send") (bc := 0) (bs := 0) (by decide) rfl rfl (by decide +kernel) rfl rfl rfl rfl rfl rfl
  | some z3 =>
    dsimp only at h
    refine en_s_ifnonnull rfl ?_
    refine en_s_iload_n rfl rfl ?_
    by_cases c4 : v2 = 0
    · rw [if_pos c4] at h
      refine en_s_table [(0, 76), (1, 81), (2, 86), (3, 91), (4, 96), (5, 101), (6, 106), (7, 111), (8, 116)] rfl (by decide) (en_sw_hit c4) ?_
      refine en_s_aload_n rfl rfl ?_
      refine en_s_getI rfl rfl rfl ?_
      cases h
      exact en_s_iret rfl rfl
    rw [if_neg c4] at h
    by_cases c5 : v2 = 1
    · rw [if_pos c5] at h
      refine en_s_table [(0, 76), (1, 81), (2, 86), (3, 91), (4, 96), (5, 101), (6, 106), (7, 111), (8, 116)] rfl (by decide) (en_sw_miss c4 (en_sw_hit c5)) ?_
      refine en_s_aload_n rfl rfl ?_
      refine en_s_getI rfl rfl rfl ?_
      cases h
      exact en_s_iret rfl rfl
    rw [if_neg c5] at h
    by_cases c6 : v2 = 2
    · rw [if_pos c6] at h
      refine en_s_table [(0, 76), (1, 81), (2, 86), (3, 91), (4, 96), (5, 101), (6, 106), (7, 111), (8, 116)] rfl (by decide) (en_sw_miss c4 (en_sw_miss c5 (en_sw_hit c6))) ?_
      refine en_s_aload_n rfl rfl ?_
      refine en_s_getI rfl rfl rfl ?_
      cases h
      exact en_s_iret rfl rfl
    rw [if_neg c6] at h
    by_cases c7 : v2 = 3
    · rw [if_pos c7] at h
      refine en_s_table [(0, 76), (1, 81), (2, 86), (3, 91), (4, 96), (5, 101), (6, 106), (7, 111), (8, 116)] rfl (by decide) (en_sw_miss c4 (en_sw_miss c5 (en_sw_miss c6 (en_sw_hit c7)))) ?_
      refine en_s_aload_n rfl rfl ?_
      refine en_s_getI rfl rfl rfl ?_
      cases h
      exact en_s_iret rfl rfl
    rw [if_neg c7] at h
    by_cases c8 : v2 = 4
    · rw [if_pos c8] at h
      refine en_s_table [(0, 76), (1, 81), (2, 86), (3, 91), (4, 96), (5, 101), (6, 106), (7, 111), (8, 116)] rfl (by decide) (en_sw_miss c4 (en_sw_miss c5 (en_sw_miss c6 (en_sw_miss c7 (en_sw_hit c8))))) ?_
      refine en_s_aload_n rfl rfl ?_
      refine en_s_getI rfl rfl rfl ?_
      cases h
      exact en_s_iret rfl rfl
    rw [if_neg c8] at h
    by_cases c9 : v2 = 5
    · rw [if_pos c9] at h
      refine en_s_table [(0, 76), (1, 81), (2, 86), (3, 91), (4, 96), (5, 101), (6, 106), (7, 111), (8, 116)] rfl (by decide) (en_sw_miss c4 (en_sw_miss c5 (en_sw_miss c6 (en_sw_miss c7 (en_sw_miss c8 (en_sw_hit c9)))))) ?_
      refine en_s_aload_n rfl rfl ?_
      refine en_s_getI rfl rfl rfl ?_
      cases h
      exact en_s_iret rfl rfl
    rw [if_neg c9] at h
    by_cases c10 : v2 = 6
    · rw [if_pos c10] at h
      refine en_s_table [(0, 76), (1, 81), (2, 86), (3, 91), (4, 96), (5, 101), (6, 106), (7, 111), (8, 116)] rfl (by decide) (en_sw_miss c4 (en_sw_miss c5 (en_sw_miss c6 (en_sw_miss c7 (en_sw_miss c8 (en_sw_miss c9 (en_sw_hit c10))))))) ?_
      refine en_s_aload_n rfl rfl ?_
      refine en_s_getI rfl rfl rfl ?_
      cases h
      exact en_s_iret rfl rfl
    rw [if_neg c10] at h
    by_cases c11 : v2 = 7
    · rw [if_pos c11] at h
      refine en_s_table [(0, 76), (1, 81), (2, 86), (3, 91), (4, 96), (5, 101), (6, 106), (7, 111), (8, 116)] rfl (by decide) (en_sw_miss c4 (en_sw_miss c5 (en_sw_miss c6 (en_sw_miss c7 (en_sw_miss c8 (en_sw_miss c9 (en_sw_miss c10 (en_sw_hit c11)))))))) ?_
      refine en_s_aload_n rfl rfl ?_
      refine en_s_getI rfl rfl rfl ?_
      cases h
      exact en_s_iret rfl rfl
    rw [if_neg c11] at h
    by_cases c12 : v2 = 8
    · rw [if_pos c12] at h
      refine en_s_table [(0, 76), (1, 81), (2, 86), (3, 91), (4, 96), (5, 101), (6, 106), (7, 111), (8, 116)] rfl (by decide) (en_sw_miss c4 (en_sw_miss c5 (en_sw_miss c6 (en_sw_miss c7 (en_sw_miss c8 (en_sw_miss c9 (en_sw_miss c10 (en_sw_miss c11 (en_sw_hit c12))))))))) ?_
      refine en_s_aload_n rfl rfl ?_
      refine en_s_getI rfl rfl rfl ?_
      cases h
      exact en_s_iret rfl rfl
    rw [if_neg c12] at h
    refine en_s_table [(0, 76), (1, 81), (2, 86), (3, 91), (4, 96), (5, 101), (6, 106), (7, 111), (8, 116)] rfl (by decide) (en_sw_miss c4 (en_sw_miss c5 (en_sw_miss c6 (en_sw_miss c7 (en_sw_miss c8 (en_sw_miss c9 (en_sw_miss c10 (en_sw_miss c11 (en_sw_miss c12 en_sw_nil))))))))) ?_
    cases h
    exact en_s_throw (n := 3) (is := 192) (text := "no such thing of a send") (bc := 0) (bs := 0) (by decide) rfl rfl (by decide +kernel) rfl rfl rfl rfl rfl rfl
def k_cc_undo  (σ : en_M) : Option ((Nat ⊕ Int32) × en_M) :=
  if (σ 15 0 0 2) = 0 then
    some (.inl 1, σ)
  else
    en_b1 (k_hi_takeBack 0 σ) fun s2 =>
    some (.inr (s2 15 0 0 2), s2)
set_option maxRecDepth 100000 in
set_option maxHeartbeats 4000000 in
theorem s_cc_undo (G : en_G) (hz : G.2.2.2.2.2.2.2.2 = none) (d : Nat) {cs : List en_A} {σ : en_M}  {x0 : (Nat ⊕ Int32)} {s0 : en_M}  (h : k_cc_undo  σ = some (x0, s0)) : en_Mt G (d + 6) 1 6 M_cc_undo [.inr (.inl (some (14, 0, 0)))] cs en_rf σ (en_ri x0) cs en_rf s0 := by
  refine en_meth (ls := [some (.inr (.inl (some (14, 0, 0))))]) md_cc_undo rfl rfl rfl ?_
  unfold k_cc_undo at h
  refine en_s_aload_n rfl rfl ?_
  refine en_s_getR (w := some (15, 0, 0)) rfl rfl rfl rfl ?_
  refine en_s_getI rfl rfl rfl ?_
  refine en_s_if_ne rfl (fun c1 => ?_) (fun c1 => ?_)
  · rw [if_neg c1] at h
    refine en_s_aload_n rfl rfl ?_
    refine en_s_getR (w := some (15, 0, 0)) rfl rfl rfl rfl ?_
    refine en_s_aload_n rfl rfl ?_
    refine en_s_getR (w := some (0, 0, 0)) rfl rfl rfl rfl ?_
    obtain ⟨s2, h3, h⟩ := en_b1_h h
    refine en_callV (as := [.inr (.inl (some (0, 0, 0)))]) (rest := []) (bc' := 1) (bs' := 6) hz rfl (s_hi_takeBack G hz (d + 2) h3) lk_9_151 mv_hi_takeBack rfl rfl rfl rfl rfl (fun _ h => h) (Nat.le_refl _) (Nat.le_refl _) ?_
    refine en_s_aload_n rfl rfl ?_
    refine en_s_getR (w := some (15, 0, 0)) rfl rfl rfl rfl ?_
    refine en_s_getI rfl rfl rfl ?_
    cases h
    exact en_s_iret rfl rfl
  · rw [if_pos c1] at h
    cases h
    exact en_s_throw (n := 1) (is := 148) (text := "nothing is remembered") (bc := 0) (bs := 0) (by decide) rfl rfl (by decide +kernel) rfl rfl rfl rfl rfl rfl
def k_cc_why  (σ : en_M) : Int32 :=
  σ 14 0 0 9
set_option maxRecDepth 100000 in
set_option maxHeartbeats 4000000 in
theorem s_cc_why (G : en_G) (hz : G.2.2.2.2.2.2.2.2 = none) (d : Nat) {cs : List en_A} {σ : en_M}  {x0 : Int32}  (h : k_cc_why  σ = x0) : en_Mt G (d + 0) 0 0 M_cc_why [.inr (.inl (some (14, 0, 0)))] cs en_rf σ (.inr (some (.inl x0))) cs en_rf σ := by
  refine en_meth (ls := [some (.inr (.inl (some (14, 0, 0))))]) md_cc_why rfl rfl rfl ?_
  unfold k_cc_why at h
  refine en_s_aload_n rfl rfl ?_
  refine en_s_getI rfl rfl rfl ?_
  subst h
  exact en_s_iret rfl rfl
def k_cc_works (v1 : Int32) (σ : en_M) : Option ((Nat ⊕ Int32) × en_M) :=
  if (k_cc_within v1 (σ 0 0 0 11) 9999) = 0 then
    some (.inl 0, σ)
  else
    en_b2 (k_pp_busyTicks 0 v1 σ) fun t2 s3 =>
    some (.inr t2, s3)
set_option maxRecDepth 100000 in
set_option maxHeartbeats 4000000 in
theorem s_cc_works (G : en_G) (hz : G.2.2.2.2.2.2.2.2 = none) (d : Nat) {cs : List en_A} {σ : en_M} {v1 : Int32} {x0 : (Nat ⊕ Int32)} {s0 : en_M}  (h : k_cc_works v1 σ = some (x0, s0)) : en_Mt G (d + 6) 1 6 M_cc_works [.inr (.inl (some (14, 0, 0))), .inl v1] cs en_rf σ (en_ri x0) cs en_rf s0 := by
  refine en_meth (ls := [some (.inr (.inl (some (14, 0, 0)))), some (.inl v1)]) md_cc_works rfl rfl rfl ?_
  unfold k_cc_works at h
  refine en_s_iload_n rfl rfl ?_
  refine en_s_aload_n rfl rfl ?_
  refine en_s_getR (w := some (0, 0, 0)) rfl rfl rfl rfl ?_
  refine en_s_getI rfl rfl rfl ?_
  refine en_s_sipush rfl ?_
  refine en_callS (as := [.inl v1, .inl (σ 0 0 0 11), .inl 9999]) (rest := []) (bc' := 1) (bs' := 6) hz rfl (s_cc_within G hz (d + 5) rfl) lk_9_93 mv_cc_within rfl rfl rfl (fun _ h => h) (Nat.le_refl _) (Nat.le_refl _) ?_
  refine en_s_if_ne rfl (fun c1 => ?_) (fun c1 => ?_)
  · rw [if_neg c1] at h
    refine en_s_aload_n rfl rfl ?_
    refine en_s_getR (w := some (17, 0, 0)) rfl rfl rfl rfl ?_
    refine en_s_aload_n rfl rfl ?_
    refine en_s_getR (w := some (0, 0, 0)) rfl rfl rfl rfl ?_
    refine en_s_iload_n rfl rfl ?_
    obtain ⟨t2, s3, h4, h⟩ := en_b2_h h
    refine en_callV (as := [.inr (.inl (some (0, 0, 0))), .inl v1]) (rest := []) (bc' := 1) (bs' := 6) hz rfl (s_pp_busyTicks G hz (d + 3) h4) lk_9_342 mv_pp_busyTicks rfl rfl rfl rfl rfl (fun _ h => h) (Nat.le_refl _) (Nat.le_refl _) ?_
    cases h
    exact en_s_iret rfl rfl
  · rw [if_pos c1] at h
    cases h
    exact en_s_throwW (n := 0) (is := 340) (text := "no such time") (bc := 0) (bs := 0) (by decide) rfl rfl (by decide +kernel) rfl rfl rfl rfl rfl rfl

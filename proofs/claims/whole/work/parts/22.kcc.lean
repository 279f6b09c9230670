/-! By program: the methods as functions, and that they are these. -/
def k_fo_begin (g : Nat) (i : Nat) (v1 : Int32) (v2 : Int32) (σ : en_M) : Option (en_M) :=
  en_let (en_wr σ 12 g i 0 v1) fun s1 =>
  en_let (en_wr s1 12 g i 1 v2) fun s3 =>
  en_let (en_wr s3 12 g i 2 0) fun s5 =>
  en_let (en_wr s5 12 g i 3 0) fun s7 =>
  en_let (en_wr s7 12 g i 4 (-1)) fun s9 =>
  en_let (en_wr s9 12 g i 5 0) fun s11 =>
  en_let (en_wr s11 12 g i 6 0) fun s13 =>
  en_let (en_wr s13 12 g i 7 0) fun s15 =>
  en_let (en_wr s15 12 g i 8 0) fun s17 =>
  some s17
set_option maxRecDepth 100000 in
set_option maxHeartbeats 4000000 in
theorem s_fo_begin (G : en_G) (hz : G.2.2.2.2.2.2.2.2 = none) (d : Nat) {cs : List en_A} {σ : en_M} {g : Nat} {i : Nat} {v1 : Int32} {v2 : Int32} {s0 : en_M}  (h : k_fo_begin g i v1 v2 σ = some s0) : en_Mt G (d + 0) 0 0 M_fo_begin [.inr (.inl (some (12, g, i))), .inl v1, .inl v2] cs en_rf σ (.inr (none)) cs en_rf s0 := by
  refine en_meth (ls := [some (.inr (.inl (some (12, g, i)))), some (.inl v1), some (.inl v2)]) md_fo_begin rfl rfl rfl ?_
  unfold k_fo_begin at h
  refine en_s_aload_n rfl rfl ?_
  refine en_s_iload_n rfl rfl ?_
  obtain ⟨s1, e2, h⟩ := en_let_h h
  refine en_p_putI e2 rfl rfl rfl rfl rfl ?_
  refine en_s_aload_n rfl rfl ?_
  refine en_s_iload_n rfl rfl ?_
  obtain ⟨s3, e4, h⟩ := en_let_h h
  refine en_p_putI e4 rfl rfl rfl rfl rfl ?_
  refine en_s_aload_n rfl rfl ?_
  refine en_s_iconst rfl ?_
  obtain ⟨s5, e6, h⟩ := en_let_h h
  refine en_p_putZ e6 (by decide) rfl rfl rfl rfl rfl ?_
  refine en_s_aload_n rfl rfl ?_
  refine en_s_iconst rfl ?_
  obtain ⟨s7, e8, h⟩ := en_let_h h
  refine en_p_putI e8 rfl rfl rfl rfl rfl ?_
  refine en_s_aload_n rfl rfl ?_
  refine en_s_iconst rfl ?_
  obtain ⟨s9, e10, h⟩ := en_let_h h
  refine en_p_putI e10 rfl rfl rfl rfl rfl ?_
  refine en_s_aload_n rfl rfl ?_
  refine en_s_iconst rfl ?_
  obtain ⟨s11, e12, h⟩ := en_let_h h
  refine en_p_putI e12 rfl rfl rfl rfl rfl ?_
  refine en_s_aload_n rfl rfl ?_
  refine en_s_iconst rfl ?_
  obtain ⟨s13, e14, h⟩ := en_let_h h
  refine en_p_putI e14 rfl rfl rfl rfl rfl ?_
  refine en_s_aload_n rfl rfl ?_
  refine en_s_iconst rfl ?_
  obtain ⟨s15, e16, h⟩ := en_let_h h
  refine en_p_putI e16 rfl rfl rfl rfl rfl ?_
  refine en_s_aload_n rfl rfl ?_
  refine en_s_iconst rfl ?_
  obtain ⟨s17, e18, h⟩ := en_let_h h
  refine en_p_putI e18 rfl rfl rfl rfl rfl ?_
  cases h
  exact en_s_vret rfl rfl
def k_fo_copyFrom (g : Nat) (i : Nat) (g1 : Nat) (i1 : Nat) (σ : en_M) : Option (en_M) :=
  en_let (en_wr σ 12 g i 0 (σ 12 g1 i1 0)) fun s1 =>
  en_let (en_wr s1 12 g i 1 (s1 12 g1 i1 1)) fun s3 =>
  en_b1 (en_bz (s3 12 g1 i1 2)) fun t7 =>
  en_let (en_wr s3 12 g i 2 (s3 12 g1 i1 2)) fun s5 =>
  en_let (en_wr s5 12 g i 3 (s5 12 g1 i1 3)) fun s9 =>
  en_let (en_wr s9 12 g i 4 (s9 12 g1 i1 4)) fun s11 =>
  en_let (en_wr s11 12 g i 5 (s11 12 g1 i1 5)) fun s13 =>
  en_let (en_wr s13 12 g i 6 (s13 12 g1 i1 6)) fun s15 =>
  en_let (en_wr s15 12 g i 7 (s15 12 g1 i1 7)) fun s17 =>
  en_let (en_wr s17 12 g i 8 (s17 12 g1 i1 8)) fun s19 =>
  some s19
set_option maxRecDepth 100000 in
set_option maxHeartbeats 4000000 in
theorem s_fo_copyFrom (G : en_G) (hz : G.2.2.2.2.2.2.2.2 = none) (d : Nat) {cs : List en_A} {σ : en_M} {g : Nat} {i : Nat} {g1 : Nat} {i1 : Nat} {s0 : en_M}  (h : k_fo_copyFrom g i g1 i1 σ = some s0) : en_Mt G (d + 0) 0 0 M_fo_copyFrom [.inr (.inl (some (12, g, i))), .inr (.inl (some (12, g1, i1)))] cs en_rf σ (.inr (none)) cs en_rf s0 := by
  refine en_meth (ls := [some (.inr (.inl (some (12, g, i)))), some (.inr (.inl (some (12, g1, i1))))]) md_fo_copyFrom rfl rfl rfl ?_
  unfold k_fo_copyFrom at h
  refine en_s_aload_n rfl rfl ?_
  refine en_s_aload_n rfl rfl ?_
  refine en_s_getI rfl rfl rfl ?_
  obtain ⟨s1, e2, h⟩ := en_let_h h
  refine en_p_putI e2 rfl rfl rfl rfl rfl ?_
  refine en_s_aload_n rfl rfl ?_
  refine en_s_aload_n rfl rfl ?_
  refine en_s_getI rfl rfl rfl ?_
  obtain ⟨s3, e4, h⟩ := en_let_h h
  refine en_p_putI e4 rfl rfl rfl rfl rfl ?_
  refine en_s_aload_n rfl rfl ?_
  refine en_s_aload_n rfl rfl ?_
  refine en_s_getI rfl rfl rfl ?_
  obtain ⟨t7, z8, h⟩ := en_b1_h h
  obtain ⟨s5, e6, h⟩ := en_let_h h
  refine en_p_putZ e6 (en_bz_h z8).1 rfl rfl rfl rfl rfl ?_
  refine en_s_aload_n rfl rfl ?_
  refine en_s_aload_n rfl rfl ?_
  refine en_s_getI rfl rfl rfl ?_
  obtain ⟨s9, e10, h⟩ := en_let_h h
  refine en_p_putI e10 rfl rfl rfl rfl rfl ?_
  refine en_s_aload_n rfl rfl ?_
  refine en_s_aload_n rfl rfl ?_
  refine en_s_getI rfl rfl rfl ?_
  obtain ⟨s11, e12, h⟩ := en_let_h h
  refine en_p_putI e12 rfl rfl rfl rfl rfl ?_
  refine en_s_aload_n rfl rfl ?_
  refine en_s_aload_n rfl rfl ?_
  refine en_s_getI rfl rfl rfl ?_
  obtain ⟨s13, e14, h⟩ := en_let_h h
  refine en_p_putI e14 rfl rfl rfl rfl rfl ?_
  refine en_s_aload_n rfl rfl ?_
  refine en_s_aload_n rfl rfl ?_
  refine en_s_getI rfl rfl rfl ?_
  obtain ⟨s15, e16, h⟩ := en_let_h h
  refine en_p_putI e16 rfl rfl rfl rfl rfl ?_
  refine en_s_aload_n rfl rfl ?_
  refine en_s_aload_n rfl rfl ?_
  refine en_s_getI rfl rfl rfl ?_
  obtain ⟨s17, e18, h⟩ := en_let_h h
  refine en_p_putI e18 rfl rfl rfl rfl rfl ?_
  refine en_s_aload_n rfl rfl ?_
  refine en_s_aload_n rfl rfl ?_
  refine en_s_getI rfl rfl rfl ?_
  obtain ⟨s19, e20, h⟩ := en_let_h h
  refine en_p_putI e20 rfl rfl rfl rfl rfl ?_
  cases h
  exact en_s_vret rfl rfl
def k_sd_begin (g : Nat) (i : Nat) (v1 : Int32) (v2 : Int32) (v3 : Int32) (v4 : Int32) (v5 : Int32) (σ : en_M) : Option (en_M) :=
  en_let (en_wr σ 13 g i 0 v1) fun s1 =>
  en_let (en_wr s1 13 g i 1 v2) fun s3 =>
  en_let (en_wr s3 13 g i 2 v3) fun s5 =>
  en_let (en_wr s5 13 g i 3 v4) fun s7 =>
  en_let (en_wr s7 13 g i 4 v5) fun s9 =>
  en_let (en_wr s9 13 g i 5 0) fun s11 =>
  en_let (en_wr s11 13 g i 6 0) fun s13 =>
  en_let (en_wr s13 13 g i 7 0) fun s15 =>
  en_let (en_wr s15 13 g i 8 (-1)) fun s17 =>
  en_let (en_wr s17 13 g i 9 (-1)) fun s19 =>
  en_let (en_wr s19 13 g i 10 (-1)) fun s21 =>
  some s21
set_option maxRecDepth 100000 in
set_option maxHeartbeats 4000000 in
theorem s_sd_begin (G : en_G) (hz : G.2.2.2.2.2.2.2.2 = none) (d : Nat) {cs : List en_A} {σ : en_M} {g : Nat} {i : Nat} {v1 : Int32} {v2 : Int32} {v3 : Int32} {v4 : Int32} {v5 : Int32} {s0 : en_M}  (h : k_sd_begin g i v1 v2 v3 v4 v5 σ = some s0) : en_Mt G (d + 0) 0 0 M_sd_begin [.inr (.inl (some (13, g, i))), .inl v1, .inl v2, .inl v3, .inl v4, .inl v5] cs en_rf σ (.inr (none)) cs en_rf s0 := by
  refine en_meth (ls := [some (.inr (.inl (some (13, g, i)))), some (.inl v1), some (.inl v2), some (.inl v3), some (.inl v4), some (.inl v5)]) md_sd_begin rfl rfl rfl ?_
  unfold k_sd_begin at h
  refine en_s_aload_n rfl rfl ?_
  refine en_s_iload_n rfl rfl ?_
  obtain ⟨s1, e2, h⟩ := en_let_h h
  refine en_p_putI e2 rfl rfl rfl rfl rfl ?_
  refine en_s_aload_n rfl rfl ?_
  refine en_s_iload_n rfl rfl ?_
  obtain ⟨s3, e4, h⟩ := en_let_h h
  refine en_p_putI e4 rfl rfl rfl rfl rfl ?_
  refine en_s_aload_n rfl rfl ?_
  refine en_s_iload_n rfl rfl ?_
  obtain ⟨s5, e6, h⟩ := en_let_h h
  refine en_p_putI e6 rfl rfl rfl rfl rfl ?_
  refine en_s_aload_n rfl rfl ?_
  refine en_s_iload rfl rfl ?_
  obtain ⟨s7, e8, h⟩ := en_let_h h
  refine en_p_putI e8 rfl rfl rfl rfl rfl ?_
  refine en_s_aload_n rfl rfl ?_
  refine en_s_iload rfl rfl ?_
  obtain ⟨s9, e10, h⟩ := en_let_h h
  refine en_p_putI e10 rfl rfl rfl rfl rfl ?_
  refine en_s_aload_n rfl rfl ?_
  refine en_s_iconst rfl ?_
  obtain ⟨s11, e12, h⟩ := en_let_h h
  refine en_p_putI e12 rfl rfl rfl rfl rfl ?_
  refine en_s_aload_n rfl rfl ?_
  refine en_s_iconst rfl ?_
  obtain ⟨s13, e14, h⟩ := en_let_h h
  refine en_p_putI e14 rfl rfl rfl rfl rfl ?_
  refine en_s_aload_n rfl rfl ?_
  refine en_s_iconst rfl ?_
  obtain ⟨s15, e16, h⟩ := en_let_h h
  refine en_p_putI e16 rfl rfl rfl rfl rfl ?_
  refine en_s_aload_n rfl rfl ?_
  refine en_s_iconst rfl ?_
  obtain ⟨s17, e18, h⟩ := en_let_h h
  refine en_p_putI e18 rfl rfl rfl rfl rfl ?_
  refine en_s_aload_n rfl rfl ?_
  refine en_s_iconst rfl ?_
  obtain ⟨s19, e20, h⟩ := en_let_h h
  refine en_p_putI e20 rfl rfl rfl rfl rfl ?_
  refine en_s_aload_n rfl rfl ?_
  refine en_s_iconst rfl ?_
  obtain ⟨s21, e22, h⟩ := en_let_h h
  refine en_p_putI e22 rfl rfl rfl rfl rfl ?_
  cases h
  exact en_s_vret rfl rfl
def k_sd_bodyOctet (g : Nat) (i : Nat) (v1 : Int32) (v2 : Int32) (σ : en_M) : Int32 :=
  (((((((v1 * (σ 13 g i 3)) + v2) - 12) * (((v1 * (σ 13 g i 3)) + v2) - 12)) + (13 * (((v1 * (σ 13 g i 3)) + v2) - 12))) + (7 * (σ 13 g i 0))) + (σ 13 g i 1)) &&& 255
set_option maxRecDepth 100000 in
set_option maxHeartbeats 4000000 in
theorem s_sd_bodyOctet (G : en_G) (hz : G.2.2.2.2.2.2.2.2 = none) (d : Nat) {cs : List en_A} {σ : en_M} {g : Nat} {i : Nat} {v1 : Int32} {v2 : Int32} {x0 : Int32}  (h : k_sd_bodyOctet g i v1 v2 σ = x0) : en_Mt G (d + 0) 0 0 M_sd_bodyOctet [.inr (.inl (some (13, g, i))), .inl v1, .inl v2] cs en_rf σ (.inr (some (.inl x0))) cs en_rf σ := by
  refine en_meth (ls := [some (.inr (.inl (some (13, g, i)))), some (.inl v1), some (.inl v2), none]) md_sd_bodyOctet rfl rfl rfl ?_
  unfold k_sd_bodyOctet at h
  refine en_s_iload_n rfl rfl ?_
  refine en_s_aload_n rfl rfl ?_
  refine en_s_getI rfl rfl rfl ?_
  refine en_s_imul rfl ?_
  refine en_s_iload_n rfl rfl ?_
  refine en_s_iadd rfl ?_
  refine en_s_bipush rfl ?_
  refine en_s_isub rfl ?_
  refine en_s_istore_n (ls' := [some (.inr (.inl (some (13, g, i)))), some (.inl v1), some (.inl v2), some (.inl (((v1 * (σ 13 g i 3)) + v2) - 12))]) rfl rfl rfl ?_
  refine en_s_iload_n rfl rfl ?_
  refine en_s_iload_n rfl rfl ?_
  refine en_s_imul rfl ?_
  refine en_s_bipush rfl ?_
  refine en_s_iload_n rfl rfl ?_
  refine en_s_imul rfl ?_
  refine en_s_iadd rfl ?_
  refine en_s_bipush rfl ?_
  refine en_s_aload_n rfl rfl ?_
  refine en_s_getI rfl rfl rfl ?_
  refine en_s_imul rfl ?_
  refine en_s_iadd rfl ?_
  refine en_s_aload_n rfl rfl ?_
  refine en_s_getI rfl rfl rfl ?_
  refine en_s_iadd rfl ?_
  refine en_s_sipush rfl ?_
  refine en_s_iand rfl ?_
  subst h
  exact en_s_iret rfl rfl
def k_sd_sizeOf (g : Nat) (i : Nat) (v1 : Int32) (σ : en_M) : Int32 :=
  if v1 = ((σ 13 g i 6) - 1) then
    12 + ((σ 13 g i 2) - (v1 * (σ 13 g i 3)))
  else
    12 + (σ 13 g i 3)
set_option maxRecDepth 100000 in
set_option maxHeartbeats 4000000 in
theorem s_sd_sizeOf (G : en_G) (hz : G.2.2.2.2.2.2.2.2 = none) (d : Nat) {cs : List en_A} {σ : en_M} {g : Nat} {i : Nat} {v1 : Int32} {x0 : Int32}  (h : k_sd_sizeOf g i v1 σ = x0) : en_Mt G (d + 0) 0 0 M_sd_sizeOf [.inr (.inl (some (13, g, i))), .inl v1] cs en_rf σ (.inr (some (.inl x0))) cs en_rf σ := by
  refine en_meth (ls := [some (.inr (.inl (some (13, g, i)))), some (.inl v1)]) md_sd_sizeOf rfl rfl rfl ?_
  unfold k_sd_sizeOf at h
  refine en_s_bipush rfl ?_
  refine en_s_iload_n rfl rfl ?_
  refine en_s_aload_n rfl rfl ?_
  refine en_s_getI rfl rfl rfl ?_
  refine en_s_iconst rfl ?_
  refine en_s_isub rfl ?_
  refine en_s_icmp_ne rfl (fun c1 => ?_) (fun c1 => ?_)
  · rw [if_neg c1] at h
    refine en_s_aload_n rfl rfl ?_
    refine en_s_getI rfl rfl rfl ?_
    refine en_s_iadd rfl ?_
    subst h
    exact en_s_iret rfl rfl
  · rw [if_pos c1] at h
    refine en_s_aload_n rfl rfl ?_
    refine en_s_getI rfl rfl rfl ?_
    refine en_s_iload_n rfl rfl ?_
    refine en_s_aload_n rfl rfl ?_
    refine en_s_getI rfl rfl rfl ?_
    refine en_s_imul rfl ?_
    refine en_s_isub rfl ?_
    refine en_s_goto rfl ?_
    refine en_s_iadd rfl ?_
    subst h
    exact en_s_iret rfl rfl
def k_sd_bodyWord (g : Nat) (i : Nat) (v1 : Int32) (v2 : Int32) (σ : en_M) : Int32 :=
  if (k_sd_sizeOf g i v1 σ) ≤ ((2 * v2) + 1) then
    ((k_sd_bodyOctet g i v1 (((2 * v2) + 1) - 1) σ) <<< (8 &&& 31)) ||| 0
  else
    ((k_sd_bodyOctet g i v1 (((2 * v2) + 1) - 1) σ) <<< (8 &&& 31)) ||| (k_sd_bodyOctet g i v1 ((2 * v2) + 1) σ)
set_option maxRecDepth 100000 in
set_option maxHeartbeats 4000000 in
theorem s_sd_bodyWord (G : en_G) (hz : G.2.2.2.2.2.2.2.2 = none) (d : Nat) {cs : List en_A} {σ : en_M} {g : Nat} {i : Nat} {v1 : Int32} {v2 : Int32} {x0 : Int32}  (h : k_sd_bodyWord g i v1 v2 σ = x0) : en_Mt G (d + 1) 0 0 M_sd_bodyWord [.inr (.inl (some (13, g, i))), .inl v1, .inl v2] cs en_rf σ (.inr (some (.inl x0))) cs en_rf σ := by
  refine en_meth (ls := [some (.inr (.inl (some (13, g, i)))), some (.inl v1), some (.inl v2), none]) md_sd_bodyWord rfl rfl rfl ?_
  unfold k_sd_bodyWord at h
  refine en_s_iconst rfl ?_
  refine en_s_iload_n rfl rfl ?_
  refine en_s_imul rfl ?_
  refine en_s_iconst rfl ?_
  refine en_s_iadd rfl ?_
  refine en_s_istore_n (ls' := [some (.inr (.inl (some (13, g, i)))), some (.inl v1), some (.inl v2), some (.inl ((2 * v2) + 1))]) rfl rfl rfl ?_
  refine en_s_aload_n rfl rfl ?_
  refine en_s_iload_n rfl rfl ?_
  refine en_s_iload_n rfl rfl ?_
  refine en_s_iconst rfl ?_
  refine en_s_isub rfl ?_
  refine en_callV (as := [.inl v1, .inl (((2 * v2) + 1) - 1)]) (rest := []) (bc' := 0) (bs' := 0) hz rfl (s_sd_bodyOctet G hz (d + 0) rfl) lk_6_68 mv_sd_bodyOctet rfl rfl rfl rfl rfl (fun _ h => h) (Nat.le_refl _) (Nat.le_refl _) ?_
  refine en_s_bipush rfl ?_
  refine en_s_ishl rfl ?_
  refine en_s_iload_n rfl rfl ?_
  refine en_s_aload_n rfl rfl ?_
  refine en_s_iload_n rfl rfl ?_
  refine en_callV (as := [.inl v1]) (rest := [.inl ((2 * v2) + 1), .inl ((k_sd_bodyOctet g i v1 (((2 * v2) + 1) - 1) σ) <<< (8 &&& 31))]) (bc' := 0) (bs' := 0) hz rfl (s_sd_sizeOf G hz (d + 0) rfl) lk_6_58 mv_sd_sizeOf rfl rfl rfl rfl rfl (fun _ h => h) (Nat.le_refl _) (Nat.le_refl _) ?_
  refine en_s_icmp_ge rfl (fun c1 => ?_) (fun c1 => ?_)
  · rw [if_pos c1] at h
    refine en_s_iconst rfl ?_
    refine en_s_ior rfl ?_
    subst h
    exact en_s_iret rfl rfl
  · rw [if_neg c1] at h
    refine en_s_aload_n rfl rfl ?_
    refine en_s_iload_n rfl rfl ?_
    refine en_s_iload_n rfl rfl ?_
    refine en_callV (as := [.inl v1, .inl ((2 * v2) + 1)]) (rest := [.inl ((k_sd_bodyOctet g i v1 (((2 * v2) + 1) - 1) σ) <<< (8 &&& 31))]) (bc' := 0) (bs' := 0) hz rfl (s_sd_bodyOctet G hz (d + 0) rfl) lk_6_68 mv_sd_bodyOctet rfl rfl rfl rfl rfl (fun _ h => h) (Nat.le_refl _) (Nat.le_refl _) ?_
    refine en_s_goto rfl ?_
    refine en_s_ior rfl ?_
    subst h
    exact en_s_iret rfl rfl
def k_sd_copyFrom (g : Nat) (i : Nat) (g1 : Nat) (i1 : Nat) (σ : en_M) : Option (en_M) :=
  en_let (en_wr σ 13 g i 0 (σ 13 g1 i1 0)) fun s1 =>
  en_let (en_wr s1 13 g i 1 (s1 13 g1 i1 1)) fun s3 =>
  en_let (en_wr s3 13 g i 2 (s3 13 g1 i1 2)) fun s5 =>
  en_let (en_wr s5 13 g i 3 (s5 13 g1 i1 3)) fun s7 =>
  en_let (en_wr s7 13 g i 4 (s7 13 g1 i1 4)) fun s9 =>
  en_let (en_wr s9 13 g i 5 (s9 13 g1 i1 5)) fun s11 =>
  en_let (en_wr s11 13 g i 6 (s11 13 g1 i1 6)) fun s13 =>
  en_let (en_wr s13 13 g i 7 (s13 13 g1 i1 7)) fun s15 =>
  en_let (en_wr s15 13 g i 8 (s15 13 g1 i1 8)) fun s17 =>
  en_let (en_wr s17 13 g i 9 (s17 13 g1 i1 9)) fun s19 =>
  en_let (en_wr s19 13 g i 10 (s19 13 g1 i1 10)) fun s21 =>
  some s21
set_option maxRecDepth 100000 in
set_option maxHeartbeats 4000000 in
theorem s_sd_copyFrom (G : en_G) (hz : G.2.2.2.2.2.2.2.2 = none) (d : Nat) {cs : List en_A} {σ : en_M} {g : Nat} {i : Nat} {g1 : Nat} {i1 : Nat} {s0 : en_M}  (h : k_sd_copyFrom g i g1 i1 σ = some s0) : en_Mt G (d + 0) 0 0 M_sd_copyFrom [.inr (.inl (some (13, g, i))), .inr (.inl (some (13, g1, i1)))] cs en_rf σ (.inr (none)) cs en_rf s0 := by
  refine en_meth (ls := [some (.inr (.inl (some (13, g, i)))), some (.inr (.inl (some (13, g1, i1))))]) md_sd_copyFrom rfl rfl rfl ?_
  unfold k_sd_copyFrom at h
  refine en_s_aload_n rfl rfl ?_
  refine en_s_aload_n rfl rfl ?_
  refine en_s_getI rfl rfl rfl ?_
  obtain ⟨s1, e2, h⟩ := en_let_h h
  refine en_p_putI e2 rfl rfl rfl rfl rfl ?_
  refine en_s_aload_n rfl rfl ?_
  refine en_s_aload_n rfl rfl ?_
  refine en_s_getI rfl rfl rfl ?_
  obtain ⟨s3, e4, h⟩ := en_let_h h
  refine en_p_putI e4 rfl rfl rfl rfl rfl ?_
  refine en_s_aload_n rfl rfl ?_
  refine en_s_aload_n rfl rfl ?_
  refine en_s_getI rfl rfl rfl ?_
  obtain ⟨s5, e6, h⟩ := en_let_h h
  refine en_p_putI e6 rfl rfl rfl rfl rfl ?_
  refine en_s_aload_n rfl rfl ?_
  refine en_s_aload_n rfl rfl ?_
  refine en_s_getI rfl rfl rfl ?_
  obtain ⟨s7, e8, h⟩ := en_let_h h
  refine en_p_putI e8 rfl rfl rfl rfl rfl ?_
  refine en_s_aload_n rfl rfl ?_
  refine en_s_aload_n rfl rfl ?_
  refine en_s_getI rfl rfl rfl ?_
  obtain ⟨s9, e10, h⟩ := en_let_h h
  refine en_p_putI e10 rfl rfl rfl rfl rfl ?_
  refine en_s_aload_n rfl rfl ?_
  refine en_s_aload_n rfl rfl ?_
  refine en_s_getI rfl rfl rfl ?_
  obtain ⟨s11, e12, h⟩ := en_let_h h
  refine en_p_putI e12 rfl rfl rfl rfl rfl ?_
  refine en_s_aload_n rfl rfl ?_
  refine en_s_aload_n rfl rfl ?_
  refine en_s_getI rfl rfl rfl ?_
  obtain ⟨s13, e14, h⟩ := en_let_h h
  refine en_p_putI e14 rfl rfl rfl rfl rfl ?_
  refine en_s_aload_n rfl rfl ?_
  refine en_s_aload_n rfl rfl ?_
  refine en_s_getI rfl rfl rfl ?_
  obtain ⟨s15, e16, h⟩ := en_let_h h
  refine en_p_putI e16 rfl rfl rfl rfl rfl ?_
  refine en_s_aload_n rfl rfl ?_
  refine en_s_aload_n rfl rfl ?_
  refine en_s_getI rfl rfl rfl ?_
  obtain ⟨s17, e18, h⟩ := en_let_h h
  refine en_p_putI e18 rfl rfl rfl rfl rfl ?_
  refine en_s_aload_n rfl rfl ?_
  refine en_s_aload_n rfl rfl ?_
  refine en_s_getI rfl rfl rfl ?_
  obtain ⟨s19, e20, h⟩ := en_let_h h
  refine en_p_putI e20 rfl rfl rfl rfl rfl ?_
  refine en_s_aload_n rfl rfl ?_
  refine en_s_aload_n rfl rfl ?_
  refine en_s_getI rfl rfl rfl ?_
  obtain ⟨s21, e22, h⟩ := en_let_h h
  refine en_p_putI e22 rfl rfl rfl rfl rfl ?_
  cases h
  exact en_s_vret rfl rfl
def k_cc_roundedUp (v0 : Int32) (v1 : Int32) : Option (Int32) :=
  if 0 < v1 then
    en_b1 (en_dv ((v0 + v1) - 1) v1) fun t2 =>
    some t2
  else
    some 0
set_option maxRecDepth 100000 in
set_option maxHeartbeats 4000000 in
theorem s_cc_roundedUp (G : en_G) (hz : G.2.2.2.2.2.2.2.2 = none) (d : Nat) {cs : List en_A} {σ : en_M} {v0 : Int32} {v1 : Int32} {x0 : Int32}  (h : k_cc_roundedUp v0 v1 = some x0) : en_Mt G (d + 0) 0 0 M_cc_roundedUp [.inl v0, .inl v1] cs en_rf σ (.inr (some (.inl x0))) cs en_rf σ := by
  refine en_meth (ls := [some (.inl v0), some (.inl v1)]) md_cc_roundedUp rfl rfl rfl ?_
  unfold k_cc_roundedUp at h
  refine en_s_iload_n rfl rfl ?_
  refine en_s_if_gt rfl (fun c1 => ?_) (fun c1 => ?_)
  · rw [if_pos c1] at h
    refine en_s_iload_n rfl rfl ?_
    refine en_s_iload_n rfl rfl ?_
    refine en_s_iadd rfl ?_
    refine en_s_iconst rfl ?_
    refine en_s_isub rfl ?_
    refine en_s_iload_n rfl rfl ?_
    obtain ⟨t2, h3, h⟩ := en_b1_h h
    refine en_p_idiv h3 rfl ?_
    cases h
    exact en_s_iret rfl rfl
  · rw [if_neg c1] at h
    refine en_s_iconst rfl ?_
    refine en_s_goto rfl ?_
    cases h
    exact en_s_iret rfl rfl
def k_sd_cutUp (g : Nat) (i : Nat) (v1 : Int32) (v2 : Int32) (σ : en_M) : Option (en_M) :=
  en_let (en_wr σ 13 g i 5 1) fun s1 =>
  en_b1 (k_cc_roundedUp (s1 13 g i 2) (s1 13 g i 3)) fun t3 =>
  en_let (en_wr s1 13 g i 6 (if 20 < t3 then 20 else t3)) fun s5 =>
  en_let (en_wr s5 13 g i 8 v1) fun s7 =>
  en_let (en_wr s7 13 g i 10 v2) fun s9 =>
  some s9
set_option maxRecDepth 100000 in
set_option maxHeartbeats 4000000 in
theorem s_sd_cutUp (G : en_G) (hz : G.2.2.2.2.2.2.2.2 = none) (d : Nat) {cs : List en_A} {σ : en_M} {g : Nat} {i : Nat} {v1 : Int32} {v2 : Int32} {s0 : en_M}  (h : k_sd_cutUp g i v1 v2 σ = some s0) : en_Mt G (d + 1) 0 0 M_sd_cutUp [.inr (.inl (some (13, g, i))), .inl v1, .inl v2] cs en_rf σ (.inr (none)) cs en_rf s0 := by
  refine en_meth (ls := [some (.inr (.inl (some (13, g, i)))), some (.inl v1), some (.inl v2)]) md_sd_cutUp rfl rfl rfl ?_
  unfold k_sd_cutUp at h
  refine en_s_aload_n rfl rfl ?_
  refine en_s_iconst rfl ?_
  obtain ⟨s1, e2, h⟩ := en_let_h h
  refine en_p_putI e2 rfl rfl rfl rfl rfl ?_
  refine en_s_aload_n rfl rfl ?_
  refine en_s_aload_n rfl rfl ?_
  refine en_s_getI rfl rfl rfl ?_
  refine en_s_aload_n rfl rfl ?_
  refine en_s_getI rfl rfl rfl ?_
  obtain ⟨t3, h4, h⟩ := en_b1_h h
  refine en_callN (as := [.inl (s1 13 g i 2), .inl (s1 13 g i 3)]) (rest := [.inr (.inl (some (13, g, i)))]) (bc' := 0) (bs' := 0) hz rfl (s_cc_roundedUp G hz (d + 0) h4) lk_6_45 mv_cc_roundedUp rfl rfl rfl (fun _ h => h) (Nat.le_refl _) (Nat.le_refl _) ?_
  refine en_s_bipush rfl ?_
  refine en_s_min rfl (en_tw_of (i := 658) (by decide +kernel) (by decide +kernel)) mx_st_min mx_in mx_cd_min rfl ?_
  obtain ⟨s5, e6, h⟩ := en_let_h h
  refine en_p_putI e6 rfl rfl rfl rfl rfl ?_
  refine en_s_aload_n rfl rfl ?_
  refine en_s_iload_n rfl rfl ?_
  obtain ⟨s7, e8, h⟩ := en_let_h h
  refine en_p_putI e8 rfl rfl rfl rfl rfl ?_
  refine en_s_aload_n rfl rfl ?_
  refine en_s_iload_n rfl rfl ?_
  obtain ⟨s9, e10, h⟩ := en_let_h h
  refine en_p_putI e10 rfl rfl rfl rfl rfl ?_
  cases h
  exact en_s_vret rfl rfl
def k_sd_folded_4 (f0 : Nat) (v1 : Int32) (v2 : Int32) (σ : en_M) : Option (Int32) := match f0 with
  | 0 => none
  | f9 + 1 =>
    if 4 ≤ v2 then
      some (v1)
    else
      if v1 ≤ 65535 then
        some (v1)
      else
        k_sd_folded_4 f9 ((v1 >>> (16 &&& 31)) + (v1 &&& 65535)) (v2 + 1) σ
def k_sd_folded (v0 : Int32) (σ : en_M) : Option (Int32) :=
  en_b1 (k_sd_folded_4 en_fu v0 0 σ) fun x3 =>
  some x3
set_option maxRecDepth 100000 in
set_option maxHeartbeats 4000000 in
theorem s_sd_folded_4 (G : en_G) (hz : G.2.2.2.2.2.2.2.2 = none) {d : Nat} {r : en_P} {cs cs' : List en_A} {ρ' : en_R} {σ' : en_M} : ∀ (f0 : Nat) {v1 : Int32} {v2 : Int32} {e0 : Option en_V} {σ : en_M} {x1 : Int32} , k_sd_folded_4 f0 v1 v2 σ = some (x1) →
    (∀ (f2 : Option en_V), en_W G (d + 0) 0 0 M_sd_folded r cs' ρ' σ' 0 0 31 [e0, some (.inl x1), f2] [] cs en_rf σ) → en_W G (d + 0) 0 0 M_sd_folded r cs' ρ' σ' 0 0 4 [e0, some (.inl v1), some (.inl v2)] [] cs en_rf σ := by
  intro f0
  induction f0 with
  | zero =>
    intros
    rename_i h _
    cases h
  | succ f9 ih =>
    intro v1 v2 e0 σ x1 h hk
    rw [k_sd_folded_4] at h
    refine en_s_iload_n rfl rfl ?_
    refine en_s_iconst rfl ?_
    refine en_s_icmp_ge rfl (fun c1 => ?_) (fun c1 => ?_)
    · rw [if_pos c1] at h
      cases h
      exact hk (some (.inl v2))
    · rw [if_neg c1] at h
      refine en_s_iload_n rfl rfl ?_
      refine en_s_ldcI rfl (en_tw_of (i := 1192) (by decide +kernel) (by decide +kernel)) ?_
      refine en_s_icmp_le rfl (fun c2 => ?_) (fun c2 => ?_)
      · rw [if_pos c2] at h
        cases h
        exact hk (some (.inl v2))
      · rw [if_neg c2] at h
        refine en_s_iload_n rfl rfl ?_
        refine en_s_bipush rfl ?_
        refine en_s_ishr rfl ?_
        refine en_s_iload_n rfl rfl ?_
        refine en_s_ldcI rfl (en_tw_of (i := 1192) (by decide +kernel) (by decide +kernel)) ?_
        refine en_s_iand rfl ?_
        refine en_s_iadd rfl ?_
        refine en_s_istore_n (ls' := [e0, some (.inl ((v1 >>> (16 &&& 31)) + (v1 &&& 65535))), some (.inl v2)]) rfl rfl rfl ?_
        refine en_s_iinc (ls' := [e0, some (.inl ((v1 >>> (16 &&& 31)) + (v1 &&& 65535))), some (.inl (v2 + 1))]) rfl rfl rfl ?_
        refine en_s_goto rfl ?_
        exact ih (e0 := e0) h hk
set_option maxRecDepth 100000 in
set_option maxHeartbeats 4000000 in
theorem s_sd_folded (G : en_G) (hz : G.2.2.2.2.2.2.2.2 = none) (d : Nat) {cs : List en_A} {σ : en_M} {v0 : Int32} {x0 : Int32}  (h : k_sd_folded v0 σ = some x0) : en_Mt G (d + 0) 0 0 M_sd_folded [.inl v0] cs en_rf σ (.inr (some (.inl x0))) cs en_rf σ := by
  refine en_meth (ls := [some (.inl v0), none, none]) md_sd_folded rfl rfl rfl ?_
  unfold k_sd_folded at h
  refine en_s_iload_n rfl rfl ?_
  refine en_s_istore_n (ls' := [some (.inl v0), some (.inl v0), none]) rfl rfl rfl ?_
  refine en_s_iconst rfl ?_
  refine en_s_istore_n (ls' := [some (.inl v0), some (.inl v0), some (.inl 0)]) rfl rfl rfl ?_
  obtain ⟨x3, h5, h⟩ := en_b1_h h
  refine s_sd_folded_4 G hz en_fu (e0 := some (.inl v0)) h5 (fun f4 => ?_)
  refine en_s_iload_n rfl rfl ?_
  cases h
  exact en_s_iret rfl rfl
def k_sd_hasPiece (g : Nat) (i : Nat) (v1 : Int32) (σ : en_M) : Int32 :=
  if v1 < 0 then
    0
  else
    if (σ 13 g i 6) ≤ v1 then
      0
    else
      1
theorem z_sd_hasPiece {g : Nat} {i : Nat} {v1 : Int32} {σ : en_M} : k_sd_hasPiece g i v1 σ = 0 ∨ k_sd_hasPiece g i v1 σ = 1 := by
  unfold k_sd_hasPiece
  (repeat' split) <;> first | exact Or.inl rfl | exact Or.inr rfl
set_option maxRecDepth 100000 in
set_option maxHeartbeats 4000000 in
theorem s_sd_hasPiece (G : en_G) (hz : G.2.2.2.2.2.2.2.2 = none) (d : Nat) {cs : List en_A} {σ : en_M} {g : Nat} {i : Nat} {v1 : Int32} {x0 : Int32}  (h : k_sd_hasPiece g i v1 σ = x0) : en_Mt G (d + 0) 0 0 M_sd_hasPiece [.inr (.inl (some (13, g, i))), .inl v1] cs en_rf σ (.inr (some (.inl x0))) cs en_rf σ := by
  refine en_meth (ls := [some (.inr (.inl (some (13, g, i)))), some (.inl v1)]) md_sd_hasPiece rfl rfl rfl ?_
  unfold k_sd_hasPiece at h
  refine en_s_iload_n rfl rfl ?_
  refine en_s_if_lt rfl (fun c1 => ?_) (fun c1 => ?_)
  · rw [if_pos c1] at h
    refine en_s_iconst rfl ?_
    subst h
    exact en_s_zret rfl rfl (Or.inl rfl)
  · rw [if_neg c1] at h
    refine en_s_iload_n rfl rfl ?_
    refine en_s_aload_n rfl rfl ?_
    refine en_s_getI rfl rfl rfl ?_
    refine en_s_icmp_ge rfl (fun c2 => ?_) (fun c2 => ?_)
    · rw [if_pos c2] at h
      refine en_s_iconst rfl ?_
      subst h
      exact en_s_zret rfl rfl (Or.inl rfl)
    · rw [if_neg c2] at h
      refine en_s_iconst rfl ?_
      refine en_s_goto rfl ?_
      subst h
      exact en_s_zret rfl rfl (Or.inr rfl)
def k_sd_hasOctet (g : Nat) (i : Nat) (v1 : Int32) (v2 : Int32) (σ : en_M) : Int32 :=
  if (k_sd_hasPiece g i v1 σ) = 0 then
    0
  else
    if v2 < 0 then
      0
    else
      if (k_sd_sizeOf g i v1 σ) ≤ v2 then
        0
      else
        1
theorem z_sd_hasOctet {g : Nat} {i : Nat} {v1 : Int32} {v2 : Int32} {σ : en_M} : k_sd_hasOctet g i v1 v2 σ = 0 ∨ k_sd_hasOctet g i v1 v2 σ = 1 := by
  unfold k_sd_hasOctet
  (repeat' split) <;> first | exact Or.inl rfl | exact Or.inr rfl | exact z_sd_hasPiece
set_option maxRecDepth 100000 in
set_option maxHeartbeats 4000000 in
theorem s_sd_hasOctet (G : en_G) (hz : G.2.2.2.2.2.2.2.2 = none) (d : Nat) {cs : List en_A} {σ : en_M} {g : Nat} {i : Nat} {v1 : Int32} {v2 : Int32} {x0 : Int32}  (h : k_sd_hasOctet g i v1 v2 σ = x0) : en_Mt G (d + 1) 0 0 M_sd_hasOctet [.inr (.inl (some (13, g, i))), .inl v1, .inl v2] cs en_rf σ (.inr (some (.inl x0))) cs en_rf σ := by
  refine en_meth (ls := [some (.inr (.inl (some (13, g, i)))), some (.inl v1), some (.inl v2)]) md_sd_hasOctet rfl rfl rfl ?_
  unfold k_sd_hasOctet at h
  refine en_s_aload_n rfl rfl ?_
  refine en_s_iload_n rfl rfl ?_
  refine en_callV (as := [.inl v1]) (rest := []) (bc' := 0) (bs' := 0) hz rfl (s_sd_hasPiece G hz (d + 0) rfl) lk_6_54 mv_sd_hasPiece rfl rfl rfl rfl rfl (fun _ h => h) (Nat.le_refl _) (Nat.le_refl _) ?_
  refine en_s_if_eq rfl (fun c1 => ?_) (fun c1 => ?_)
  · rw [if_pos c1] at h
    refine en_s_iconst rfl ?_
    subst h
    exact en_s_zret rfl rfl (Or.inl rfl)
  · rw [if_neg c1] at h
    refine en_s_iload_n rfl rfl ?_
    refine en_s_if_lt rfl (fun c2 => ?_) (fun c2 => ?_)
    · rw [if_pos c2] at h
      refine en_s_iconst rfl ?_
      subst h
      exact en_s_zret rfl rfl (Or.inl rfl)
    · rw [if_neg c2] at h
      refine en_s_iload_n rfl rfl ?_
      refine en_s_aload_n rfl rfl ?_
      refine en_s_iload_n rfl rfl ?_
      refine en_callV (as := [.inl v1]) (rest := [.inl v2]) (bc' := 0) (bs' := 0) hz rfl (s_sd_sizeOf G hz (d + 0) rfl) lk_6_58 mv_sd_sizeOf rfl rfl rfl rfl rfl (fun _ h => h) (Nat.le_refl _) (Nat.le_refl _) ?_
      refine en_s_icmp_ge rfl (fun c3 => ?_) (fun c3 => ?_)
      · rw [if_pos c3] at h
        refine en_s_iconst rfl ?_
        subst h
        exact en_s_zret rfl rfl (Or.inl rfl)
      · rw [if_neg c3] at h
        refine en_s_iconst rfl ?_
        refine en_s_goto rfl ?_
        subst h
        exact en_s_zret rfl rfl (Or.inr rfl)
def k_sd_whereIs (g : Nat) (i : Nat) (v1 : Int32) (σ : en_M) : Int32 :=
  (σ 13 g i 10) + (v1 * (σ 13 g i 3))
set_option maxRecDepth 100000 in
set_option maxHeartbeats 4000000 in
theorem s_sd_whereIs (G : en_G) (hz : G.2.2.2.2.2.2.2.2 = none) (d : Nat) {cs : List en_A} {σ : en_M} {g : Nat} {i : Nat} {v1 : Int32} {x0 : Int32}  (h : k_sd_whereIs g i v1 σ = x0) : en_Mt G (d + 0) 0 0 M_sd_whereIs [.inr (.inl (some (13, g, i))), .inl v1] cs en_rf σ (.inr (some (.inl x0))) cs en_rf σ := by
  refine en_meth (ls := [some (.inr (.inl (some (13, g, i)))), some (.inl v1)]) md_sd_whereIs rfl rfl rfl ?_
  unfold k_sd_whereIs at h
  refine en_s_aload_n rfl rfl ?_
  refine en_s_getI rfl rfl rfl ?_
  refine en_s_iload_n rfl rfl ?_
  refine en_s_aload_n rfl rfl ?_
  refine en_s_getI rfl rfl rfl ?_
  refine en_s_imul rfl ?_
  refine en_s_iadd rfl ?_
  subst h
  exact en_s_iret rfl rfl
def k_sd_headWord (g : Nat) (i : Nat) (v1 : Int32) (v2 : Int32) (σ : en_M) : Int32 :=
  if v2 = 0 then
    k_sd_sizeOf g i v1 σ
  else
  if v2 = 1 then
    ((64 * (σ 13 g i 0)) + v1) &&& 65535
  else
  if v2 = 2 then
    ((k_sd_whereIs g i v1 σ) >>> (16 &&& 31)) &&& 65535
  else
  if v2 = 3 then
    (k_sd_whereIs g i v1 σ) &&& 65535
  else
  if v2 = 4 then
    if v1 = 0 then
      if v1 = ((σ 13 g i 6) - 1) then
        ((16 * (σ 13 g i 1)) + 1) + 2
      else
        ((16 * (σ 13 g i 1)) + 1) + 0
    else
      if v1 = ((σ 13 g i 6) - 1) then
        ((16 * (σ 13 g i 1)) + 0) + 2
      else
        ((16 * (σ 13 g i 1)) + 0) + 0
  else
  0
set_option maxRecDepth 100000 in
set_option maxHeartbeats 4000000 in
theorem s_sd_headWord (G : en_G) (hz : G.2.2.2.2.2.2.2.2 = none) (d : Nat) {cs : List en_A} {σ : en_M} {g : Nat} {i : Nat} {v1 : Int32} {v2 : Int32} {x0 : Int32}  (h : k_sd_headWord g i v1 v2 σ = x0) : en_Mt G (d + 1) 0 0 M_sd_headWord [.inr (.inl (some (13, g, i))), .inl v1, .inl v2] cs en_rf σ (.inr (some (.inl x0))) cs en_rf σ := by
  refine en_meth (ls := [some (.inr (.inl (some (13, g, i)))), some (.inl v1), some (.inl v2)]) md_sd_headWord rfl rfl rfl ?_
  unfold k_sd_headWord at h
  refine en_s_iload_n rfl rfl ?_
  by_cases c1 : v2 = 0
  · rw [if_pos c1] at h
    refine en_s_table [(0, 36), (1, 42), (2, 55), (3, 67), (4, 76)] rfl (by decide) (en_sw_hit c1) ?_
    refine en_s_aload_n rfl rfl ?_
    refine en_s_iload_n rfl rfl ?_
    refine en_callV (as := [.inl v1]) (rest := []) (bc' := 0) (bs' := 0) hz rfl (s_sd_sizeOf G hz (d + 0) rfl) lk_6_58 mv_sd_sizeOf rfl rfl rfl rfl rfl (fun _ h => h) (Nat.le_refl _) (Nat.le_refl _) ?_
    subst h
    exact en_s_iret rfl rfl
  rw [if_neg c1] at h
  by_cases c2 : v2 = 1
  · rw [if_pos c2] at h
    refine en_s_table [(0, 36), (1, 42), (2, 55), (3, 67), (4, 76)] rfl (by decide) (en_sw_miss c1 (en_sw_hit c2)) ?_
    refine en_s_bipush rfl ?_
    refine en_s_aload_n rfl rfl ?_
    refine en_s_getI rfl rfl rfl ?_
    refine en_s_imul rfl ?_
    refine en_s_iload_n rfl rfl ?_
    refine en_s_iadd rfl ?_
    refine en_s_ldcI rfl (en_tw_of (i := 1192) (by decide +kernel) (by decide +kernel)) ?_
    refine en_s_iand rfl ?_
    subst h
    exact en_s_iret rfl rfl
  rw [if_neg c2] at h
  by_cases c3 : v2 = 2
  · rw [if_pos c3] at h
    refine en_s_table [(0, 36), (1, 42), (2, 55), (3, 67), (4, 76)] rfl (by decide) (en_sw_miss c1 (en_sw_miss c2 (en_sw_hit c3))) ?_
    refine en_s_aload_n rfl rfl ?_
    refine en_s_iload_n rfl rfl ?_
    refine en_callV (as := [.inl v1]) (rest := []) (bc' := 0) (bs' := 0) hz rfl (s_sd_whereIs G hz (d + 0) rfl) lk_6_72 mv_sd_whereIs rfl rfl rfl rfl rfl (fun _ h => h) (Nat.le_refl _) (Nat.le_refl _) ?_
    refine en_s_bipush rfl ?_
    refine en_s_ishr rfl ?_
    refine en_s_ldcI rfl (en_tw_of (i := 1192) (by decide +kernel) (by decide +kernel)) ?_
    refine en_s_iand rfl ?_
    subst h
    exact en_s_iret rfl rfl
  rw [if_neg c3] at h
  by_cases c4 : v2 = 3
  · rw [if_pos c4] at h
    refine en_s_table [(0, 36), (1, 42), (2, 55), (3, 67), (4, 76)] rfl (by decide) (en_sw_miss c1 (en_sw_miss c2 (en_sw_miss c3 (en_sw_hit c4)))) ?_
    refine en_s_aload_n rfl rfl ?_
    refine en_s_iload_n rfl rfl ?_
    refine en_callV (as := [.inl v1]) (rest := []) (bc' := 0) (bs' := 0) hz rfl (s_sd_whereIs G hz (d + 0) rfl) lk_6_72 mv_sd_whereIs rfl rfl rfl rfl rfl (fun _ h => h) (Nat.le_refl _) (Nat.le_refl _) ?_
    refine en_s_ldcI rfl (en_tw_of (i := 1192) (by decide +kernel) (by decide +kernel)) ?_
    refine en_s_iand rfl ?_
    subst h
    exact en_s_iret rfl rfl
  rw [if_neg c4] at h
  by_cases c5 : v2 = 4
  · rw [if_pos c5] at h
    refine en_s_table [(0, 36), (1, 42), (2, 55), (3, 67), (4, 76)] rfl (by decide) (en_sw_miss c1 (en_sw_miss c2 (en_sw_miss c3 (en_sw_miss c4 (en_sw_hit c5))))) ?_
    refine en_s_bipush rfl ?_
    refine en_s_aload_n rfl rfl ?_
    refine en_s_getI rfl rfl rfl ?_
    refine en_s_imul rfl ?_
    refine en_s_iload_n rfl rfl ?_
    refine en_s_if_ne rfl (fun c6 => ?_) (fun c6 => ?_)
    · rw [if_neg c6] at h
      refine en_s_iconst rfl ?_
      refine en_s_iadd rfl ?_
      refine en_s_iload_n rfl rfl ?_
      refine en_s_aload_n rfl rfl ?_
      refine en_s_getI rfl rfl rfl ?_
      refine en_s_iconst rfl ?_
      refine en_s_isub rfl ?_
      refine en_s_icmp_ne rfl (fun c7 => ?_) (fun c7 => ?_)
      · rw [if_neg c7] at h
        refine en_s_iconst rfl ?_
        refine en_s_iadd rfl ?_
        subst h
        exact en_s_iret rfl rfl
      · rw [if_pos c7] at h
        refine en_s_iconst rfl ?_
        refine en_s_goto rfl ?_
        refine en_s_iadd rfl ?_
        subst h
        exact en_s_iret rfl rfl
    · rw [if_pos c6] at h
      refine en_s_iconst rfl ?_
      refine en_s_goto rfl ?_
      refine en_s_iadd rfl ?_
      refine en_s_iload_n rfl rfl ?_
      refine en_s_aload_n rfl rfl ?_
      refine en_s_getI rfl rfl rfl ?_
      refine en_s_iconst rfl ?_
      refine en_s_isub rfl ?_
      refine en_s_icmp_ne rfl (fun c8 => ?_) (fun c8 => ?_)
      · rw [if_neg c8] at h
        refine en_s_iconst rfl ?_
        refine en_s_iadd rfl ?_
        subst h
        exact en_s_iret rfl rfl
      · rw [if_pos c8] at h
        refine en_s_iconst rfl ?_
        refine en_s_goto rfl ?_
        refine en_s_iadd rfl ?_
        subst h
        exact en_s_iret rfl rfl
  rw [if_neg c5] at h
  refine en_s_table [(0, 36), (1, 42), (2, 55), (3, 67), (4, 76)] rfl (by decide) (en_sw_miss c1 (en_sw_miss c2 (en_sw_miss c3 (en_sw_miss c4 (en_sw_miss c5 en_sw_nil))))) ?_
  refine en_s_iconst rfl ?_
  subst h
  exact en_s_iret rfl rfl
def k_sd_indexOf (g : Nat) (i : Nat) (v1 : Int32) (σ : en_M) : Int32 :=
  if v1 < 0 then
    0
  else
    if 20 ≤ v1 then
      0
    else
      if 0 ≤ (σ 13 g i 0) then
        (((σ 13 g i 0) - (σ 13 g i 0) / 8 * 8) * 20) + v1
      else
        0
set_option maxRecDepth 100000 in
set_option maxHeartbeats 4000000 in
theorem s_sd_indexOf (G : en_G) (hz : G.2.2.2.2.2.2.2.2 = none) (d : Nat) {cs : List en_A} {σ : en_M} {g : Nat} {i : Nat} {v1 : Int32} {x0 : Int32}  (h : k_sd_indexOf g i v1 σ = x0) : en_Mt G (d + 0) 0 0 M_sd_indexOf [.inr (.inl (some (13, g, i))), .inl v1] cs en_rf σ (.inr (some (.inl x0))) cs en_rf σ := by
  refine en_meth (ls := [some (.inr (.inl (some (13, g, i)))), some (.inl v1)]) md_sd_indexOf rfl rfl rfl ?_
  unfold k_sd_indexOf at h
  refine en_s_iload_n rfl rfl ?_
  refine en_s_if_lt rfl (fun c1 => ?_) (fun c1 => ?_)
  · rw [if_pos c1] at h
    refine en_s_iconst rfl ?_
    refine en_s_goto rfl ?_
    subst h
    exact en_s_iret rfl rfl
  · rw [if_neg c1] at h
    refine en_s_iload_n rfl rfl ?_
    refine en_s_bipush rfl ?_
    refine en_s_icmp_ge rfl (fun c2 => ?_) (fun c2 => ?_)
    · rw [if_pos c2] at h
      refine en_s_iconst rfl ?_
      refine en_s_goto rfl ?_
      subst h
      exact en_s_iret rfl rfl
    · rw [if_neg c2] at h
      refine en_s_aload_n rfl rfl ?_
      refine en_s_getI rfl rfl rfl ?_
      refine en_s_if_ge rfl (fun c3 => ?_) (fun c3 => ?_)
      · rw [if_pos c3] at h
        refine en_s_aload_n rfl rfl ?_
        refine en_s_getI rfl rfl rfl ?_
        refine en_s_bipush rfl ?_
        refine en_s_irem rfl (by decide) ?_
        refine en_s_bipush rfl ?_
        refine en_s_imul rfl ?_
        refine en_s_iload_n rfl rfl ?_
        refine en_s_iadd rfl ?_
        subst h
        exact en_s_iret rfl rfl
      · rw [if_neg c3] at h
        refine en_s_iconst rfl ?_
        refine en_s_goto rfl ?_
        subst h
        exact en_s_iret rfl rfl
def k_sd_plainSum_4 (f0 : Nat) (g : Nat) (i : Nat) (v1 : Int32) (v2 : Int32) (v3 : Int32) (σ : en_M) : Option (Int32) := match f0 with
  | 0 => none
  | f9 + 1 =>
    if 5 ≤ v3 then
      some (v2)
    else
      k_sd_plainSum_4 f9 g i v1 (v2 + (k_sd_headWord g i v1 v3 σ)) (v3 + 1) σ
def k_sd_plainSum_38 (f0 : Nat) (g : Nat) (i : Nat) (v1 : Int32) (v2 : Int32) (v3 : Int32) (v4 : Int32) (σ : en_M) : Option (Int32) := match f0 with
  | 0 => none
  | f9 + 1 =>
    if v3 ≤ v4 then
      some (v2)
    else
      k_sd_plainSum_38 f9 g i v1 (v2 + (k_sd_bodyWord g i v1 v4 σ)) v3 (v4 + 1) σ
def k_sd_plainSum (g : Nat) (i : Nat) (v1 : Int32) (σ : en_M) : Option (Int32) :=
  en_b1 (k_sd_plainSum_4 en_fu g i v1 0 0 σ) fun x2 =>
  en_b1 (k_sd_plainSum_38 en_fu g i v1 x2 (((k_sd_sizeOf g i v1 σ) + 1) / 2) 6 σ) fun x6 =>
  some x6
set_option maxRecDepth 100000 in
set_option maxHeartbeats 4000000 in
theorem s_sd_plainSum_4 (G : en_G) (hz : G.2.2.2.2.2.2.2.2 = none) {d : Nat} {r : en_P} {cs cs' : List en_A} {ρ' : en_R} {σ' : en_M} : ∀ (f0 : Nat) {g : Nat} {i : Nat} {v1 : Int32} {v2 : Int32} {v3 : Int32} {e4 : Option en_V} {σ : en_M} {x2 : Int32} , k_sd_plainSum_4 f0 g i v1 v2 v3 σ = some (x2) →
    (∀ (f3 : Option en_V), en_W G (d + 2) 0 0 M_sd_plainSum r cs' ρ' σ' 0 0 24 [some (.inr (.inl (some (13, g, i)))), some (.inl v1), some (.inl x2), f3, e4] [] cs en_rf σ) → en_W G (d + 2) 0 0 M_sd_plainSum r cs' ρ' σ' 0 0 4 [some (.inr (.inl (some (13, g, i)))), some (.inl v1), some (.inl v2), some (.inl v3), e4] [] cs en_rf σ := by
  intro f0
  induction f0 with
  | zero =>
    intros
    rename_i h _
    cases h
  | succ f9 ih =>
    intro g i v1 v2 v3 e4 σ x2 h hk
    rw [k_sd_plainSum_4] at h
    refine en_s_iload_n rfl rfl ?_
    refine en_s_iconst rfl ?_
    refine en_s_icmp_ge rfl (fun c1 => ?_) (fun c1 => ?_)
    · rw [if_pos c1] at h
      cases h
      exact hk (some (.inl v3))
    · rw [if_neg c1] at h
      refine en_s_iload_n rfl rfl ?_
      refine en_s_aload_n rfl rfl ?_
      refine en_s_iload_n rfl rfl ?_
      refine en_s_iload_n rfl rfl ?_
      refine en_callV (as := [.inl v1, .inl v3]) (rest := [.inl v2]) (bc' := 0) (bs' := 0) hz rfl (s_sd_headWord G hz (d + 0) rfl) lk_6_62 mv_sd_headWord rfl rfl rfl rfl rfl (fun _ h => h) (Nat.le_refl _) (Nat.le_refl _) ?_
      refine en_s_iadd rfl ?_
      refine en_s_istore_n (ls' := [some (.inr (.inl (some (13, g, i)))), some (.inl v1), some (.inl (v2 + (k_sd_headWord g i v1 v3 σ))), some (.inl v3), e4]) rfl rfl rfl ?_
      refine en_s_iinc (ls' := [some (.inr (.inl (some (13, g, i)))), some (.inl v1), some (.inl (v2 + (k_sd_headWord g i v1 v3 σ))), some (.inl (v3 + 1)), e4]) rfl rfl rfl ?_
      refine en_s_goto rfl ?_
      exact ih (e4 := e4) h hk
set_option maxRecDepth 100000 in
set_option maxHeartbeats 4000000 in
theorem s_sd_plainSum_38 (G : en_G) (hz : G.2.2.2.2.2.2.2.2 = none) {d : Nat} {r : en_P} {cs cs' : List en_A} {ρ' : en_R} {σ' : en_M} : ∀ (f0 : Nat) {g : Nat} {i : Nat} {v1 : Int32} {v2 : Int32} {v3 : Int32} {v4 : Int32}  {σ : en_M} {x2 : Int32} , k_sd_plainSum_38 f0 g i v1 v2 v3 v4 σ = some (x2) →
    (∀ (f4 : Option en_V), en_W G (d + 2) 0 0 M_sd_plainSum r cs' ρ' σ' 0 0 60 [some (.inr (.inl (some (13, g, i)))), some (.inl v1), some (.inl x2), some (.inl v3), f4] [] cs en_rf σ) → en_W G (d + 2) 0 0 M_sd_plainSum r cs' ρ' σ' 0 0 38 [some (.inr (.inl (some (13, g, i)))), some (.inl v1), some (.inl v2), some (.inl v3), some (.inl v4)] [] cs en_rf σ := by
  intro f0
  induction f0 with
  | zero =>
    intros
    rename_i h _
    cases h
  | succ f9 ih =>
    intro g i v1 v2 v3 v4 σ x2 h hk
    rw [k_sd_plainSum_38] at h
    refine en_s_iload rfl rfl ?_
    refine en_s_iload_n rfl rfl ?_
    refine en_s_icmp_ge rfl (fun c5 => ?_) (fun c5 => ?_)
    · rw [if_pos c5] at h
      cases h
      exact hk (some (.inl v4))
    · rw [if_neg c5] at h
      refine en_s_iload_n rfl rfl ?_
      refine en_s_aload_n rfl rfl ?_
      refine en_s_iload_n rfl rfl ?_
      refine en_s_iload rfl rfl ?_
      refine en_callV (as := [.inl v1, .inl v4]) (rest := [.inl v2]) (bc' := 0) (bs' := 0) hz rfl (s_sd_bodyWord G hz (d + 0) rfl) lk_6_84 mv_sd_bodyWord rfl rfl rfl rfl rfl (fun _ h => h) (Nat.le_refl _) (Nat.le_refl _) ?_
      refine en_s_iadd rfl ?_
      refine en_s_istore_n (ls' := [some (.inr (.inl (some (13, g, i)))), some (.inl v1), some (.inl (v2 + (k_sd_bodyWord g i v1 v4 σ))), some (.inl v3), some (.inl v4)]) rfl rfl rfl ?_
      refine en_s_iinc (ls' := [some (.inr (.inl (some (13, g, i)))), some (.inl v1), some (.inl (v2 + (k_sd_bodyWord g i v1 v4 σ))), some (.inl v3), some (.inl (v4 + 1))]) rfl rfl rfl ?_
      refine en_s_goto rfl ?_
      exact ih  h hk
set_option maxRecDepth 100000 in
set_option maxHeartbeats 4000000 in
theorem s_sd_plainSum (G : en_G) (hz : G.2.2.2.2.2.2.2.2 = none) (d : Nat) {cs : List en_A} {σ : en_M} {g : Nat} {i : Nat} {v1 : Int32} {x0 : Int32}  (h : k_sd_plainSum g i v1 σ = some x0) : en_Mt G (d + 2) 0 0 M_sd_plainSum [.inr (.inl (some (13, g, i))), .inl v1] cs en_rf σ (.inr (some (.inl x0))) cs en_rf σ := by
  refine en_meth (ls := [some (.inr (.inl (some (13, g, i)))), some (.inl v1), none, none, none]) md_sd_plainSum rfl rfl rfl ?_
  unfold k_sd_plainSum at h
  refine en_s_iconst rfl ?_
  refine en_s_istore_n (ls' := [some (.inr (.inl (some (13, g, i)))), some (.inl v1), some (.inl 0), none, none]) rfl rfl rfl ?_
  refine en_s_iconst rfl ?_
  refine en_s_istore_n (ls' := [some (.inr (.inl (some (13, g, i)))), some (.inl v1), some (.inl 0), some (.inl 0), none]) rfl rfl rfl ?_
  obtain ⟨x2, h4, h⟩ := en_b1_h h
  refine s_sd_plainSum_4 G hz en_fu (e4 := none) h4 (fun f3 => ?_)
  refine en_s_aload_n rfl rfl ?_
  refine en_s_iload_n rfl rfl ?_
  refine en_callV (as := [.inl v1]) (rest := []) (bc' := 0) (bs' := 0) hz rfl (s_sd_sizeOf G hz (d + 1) rfl) lk_6_58 mv_sd_sizeOf rfl rfl rfl rfl rfl (fun _ h => h) (Nat.le_refl _) (Nat.le_refl _) ?_
  refine en_s_iconst rfl ?_
  refine en_s_iadd rfl ?_
  refine en_s_iconst rfl ?_
  refine en_s_idiv rfl (by decide) ?_
  refine en_s_istore_n (ls' := [some (.inr (.inl (some (13, g, i)))), some (.inl v1), some (.inl x2), some (.inl (((k_sd_sizeOf g i v1 σ) + 1) / 2)), none]) rfl rfl rfl ?_
  refine en_s_bipush rfl ?_
  refine en_s_istore (ls' := [some (.inr (.inl (some (13, g, i)))), some (.inl v1), some (.inl x2), some (.inl (((k_sd_sizeOf g i v1 σ) + 1) / 2)), some (.inl 6)]) rfl rfl rfl ?_
  obtain ⟨x6, h8, h⟩ := en_b1_h h
  refine s_sd_plainSum_38 G hz en_fu  h8 (fun f7 => ?_)
  refine en_s_iload_n rfl rfl ?_
  cases h
  exact en_s_iret rfl rfl
def k_sd_sumOf (g : Nat) (i : Nat) (v1 : Int32) (σ : en_M) : Option (Int32) :=
  en_b1 (k_sd_plainSum g i v1 σ) fun t1 =>
  en_b1 (k_sd_folded t1 σ) fun t3 =>
  some (65535 - t3)
set_option maxRecDepth 100000 in
set_option maxHeartbeats 4000000 in
theorem s_sd_sumOf (G : en_G) (hz : G.2.2.2.2.2.2.2.2 = none) (d : Nat) {cs : List en_A} {σ : en_M} {g : Nat} {i : Nat} {v1 : Int32} {x0 : Int32}  (h : k_sd_sumOf g i v1 σ = some x0) : en_Mt G (d + 3) 0 0 M_sd_sumOf [.inr (.inl (some (13, g, i))), .inl v1] cs en_rf σ (.inr (some (.inl x0))) cs en_rf σ := by
  refine en_meth (ls := [some (.inr (.inl (some (13, g, i)))), some (.inl v1)]) md_sd_sumOf rfl rfl rfl ?_
  unfold k_sd_sumOf at h
  refine en_s_ldcI rfl (en_tw_of (i := 1192) (by decide +kernel) (by decide +kernel)) ?_
  refine en_s_aload_n rfl rfl ?_
  refine en_s_iload_n rfl rfl ?_
  obtain ⟨t1, h2, h⟩ := en_b1_h h
  refine en_callV (as := [.inl v1]) (rest := [.inl 65535]) (bc' := 0) (bs' := 0) hz rfl (s_sd_plainSum G hz (d + 0) h2) lk_6_75 mv_sd_plainSum rfl rfl rfl rfl rfl (fun _ h => h) (Nat.le_refl _) (Nat.le_refl _) ?_
  obtain ⟨t3, h4, h⟩ := en_b1_h h
  refine en_callS (as := [.inl t1]) (rest := [.inl 65535]) (bc' := 0) (bs' := 0) hz rfl (s_sd_folded G hz (d + 2) h4) lk_6_78 mv_sd_folded rfl rfl rfl (fun _ h => h) (Nat.le_refl _) (Nat.le_refl _) ?_
  refine en_s_isub rfl ?_
  cases h
  exact en_s_iret rfl rfl
def k_sd_octetOf (g : Nat) (i : Nat) (v1 : Int32) (v2 : Int32) (σ : en_M) : Option (Int32) :=
  if 12 ≤ v2 then
    some (k_sd_bodyOctet g i v1 v2 σ)
  else
    if 10 ≤ v2 then
      en_b1 (k_sd_sumOf g i v1 σ) fun t3 =>
      if (v2 - v2 / 2 * 2) = 0 then
        some (t3 >>> (8 &&& 31))
      else
        some (t3 &&& 255)
    else
      if (v2 - v2 / 2 * 2) = 0 then
        some ((k_sd_headWord g i v1 (v2 / 2) σ) >>> (8 &&& 31))
      else
        some ((k_sd_headWord g i v1 (v2 / 2) σ) &&& 255)
set_option maxRecDepth 100000 in
set_option maxHeartbeats 4000000 in
theorem s_sd_octetOf (G : en_G) (hz : G.2.2.2.2.2.2.2.2 = none) (d : Nat) {cs : List en_A} {σ : en_M} {g : Nat} {i : Nat} {v1 : Int32} {v2 : Int32} {x0 : Int32}  (h : k_sd_octetOf g i v1 v2 σ = some x0) : en_Mt G (d + 4) 0 0 M_sd_octetOf [.inr (.inl (some (13, g, i))), .inl v1, .inl v2] cs en_rf σ (.inr (some (.inl x0))) cs en_rf σ := by
  refine en_meth (ls := [some (.inr (.inl (some (13, g, i)))), some (.inl v1), some (.inl v2), none]) md_sd_octetOf rfl rfl rfl ?_
  unfold k_sd_octetOf at h
  refine en_s_iload_n rfl rfl ?_
  refine en_s_bipush rfl ?_
  refine en_s_icmp_ge rfl (fun c1 => ?_) (fun c1 => ?_)
  · rw [if_pos c1] at h
    refine en_s_aload_n rfl rfl ?_
    refine en_s_iload_n rfl rfl ?_
    refine en_s_iload_n rfl rfl ?_
    refine en_callV (as := [.inl v1, .inl v2]) (rest := []) (bc' := 0) (bs' := 0) hz rfl (s_sd_bodyOctet G hz (d + 3) rfl) lk_6_68 mv_sd_bodyOctet rfl rfl rfl rfl rfl (fun _ h => h) (Nat.le_refl _) (Nat.le_refl _) ?_
    cases h
    exact en_s_iret rfl rfl
  · rw [if_neg c1] at h
    refine en_s_iload_n rfl rfl ?_
    refine en_s_bipush rfl ?_
    refine en_s_icmp_ge rfl (fun c2 => ?_) (fun c2 => ?_)
    · rw [if_pos c2] at h
      refine en_s_aload_n rfl rfl ?_
      refine en_s_iload_n rfl rfl ?_
      obtain ⟨t3, h4, h⟩ := en_b1_h h
      refine en_callV (as := [.inl v1]) (rest := []) (bc' := 0) (bs' := 0) hz rfl (s_sd_sumOf G hz (d + 0) h4) lk_6_65 mv_sd_sumOf rfl rfl rfl rfl rfl (fun _ h => h) (Nat.le_refl _) (Nat.le_refl _) ?_
      refine en_s_istore_n (ls' := [some (.inr (.inl (some (13, g, i)))), some (.inl v1), some (.inl v2), some (.inl t3)]) rfl rfl rfl ?_
      refine en_s_iload_n rfl rfl ?_
      refine en_s_iconst rfl ?_
      refine en_s_irem rfl (by decide) ?_
      refine en_s_if_ne rfl (fun c5 => ?_) (fun c5 => ?_)
      · rw [if_neg c5] at h
        refine en_s_iload_n rfl rfl ?_
        refine en_s_sipush rfl ?_
        refine en_s_iand rfl ?_
        cases h
        exact en_s_iret rfl rfl
      · rw [if_pos c5] at h
        refine en_s_iload_n rfl rfl ?_
        refine en_s_bipush rfl ?_
        refine en_s_ishr rfl ?_
        refine en_s_goto rfl ?_
        cases h
        exact en_s_iret rfl rfl
    · rw [if_neg c2] at h
      refine en_s_aload_n rfl rfl ?_
      refine en_s_iload_n rfl rfl ?_
      refine en_s_iload_n rfl rfl ?_
      refine en_s_iconst rfl ?_
      refine en_s_idiv rfl (by decide) ?_
      refine en_callV (as := [.inl v1, .inl (v2 / 2)]) (rest := []) (bc' := 0) (bs' := 0) hz rfl (s_sd_headWord G hz (d + 2) rfl) lk_6_62 mv_sd_headWord rfl rfl rfl rfl rfl (fun _ h => h) (Nat.le_refl _) (Nat.le_refl _) ?_
      refine en_s_goto rfl ?_
      refine en_s_istore_n (ls' := [some (.inr (.inl (some (13, g, i)))), some (.inl v1), some (.inl v2), some (.inl (k_sd_headWord g i v1 (v2 / 2) σ))]) rfl rfl rfl ?_
      refine en_s_iload_n rfl rfl ?_
      refine en_s_iconst rfl ?_
      refine en_s_irem rfl (by decide) ?_
      refine en_s_if_ne rfl (fun c6 => ?_) (fun c6 => ?_)
      · rw [if_neg c6] at h
        refine en_s_iload_n rfl rfl ?_
        refine en_s_sipush rfl ?_
        refine en_s_iand rfl ?_
        cases h
        exact en_s_iret rfl rfl
      · rw [if_pos c6] at h
        refine en_s_iload_n rfl rfl ?_
        refine en_s_bipush rfl ?_
        refine en_s_ishr rfl ?_
        refine en_s_goto rfl ?_
        cases h
        exact en_s_iret rfl rfl
def k_sd_isFound (g : Nat) (i : Nat) (v1 : Int32) (v2 : Int32) (v3 : Int32) (σ : en_M) : Option (Int32) :=
  en_b1 (k_sd_octetOf g i v1 v2 σ) fun t1 =>
  en_b1 (k_sd_plainSum g i v1 σ) fun t3 =>
  en_b1 (k_sd_sumOf g i v1 σ) fun t5 =>
  if (v2 - v2 / 2 * 2) = 0 then
    en_b1 (k_sd_folded ((t3 + t5) + ((v3 - t1) <<< (8 &&& 31))) σ) fun t11 =>
    if t11 = 65535 then
      some 0
    else
      some 1
  else
    en_b1 (k_sd_folded ((t3 + t5) + (v3 - t1)) σ) fun t8 =>
    if t8 = 65535 then
      some 0
    else
      some 1
set_option maxRecDepth 100000 in
set_option maxHeartbeats 4000000 in
theorem s_sd_isFound (G : en_G) (hz : G.2.2.2.2.2.2.2.2 = none) (d : Nat) {cs : List en_A} {σ : en_M} {g : Nat} {i : Nat} {v1 : Int32} {v2 : Int32} {v3 : Int32} {x0 : Int32}  (h : k_sd_isFound g i v1 v2 v3 σ = some x0) : en_Mt G (d + 5) 0 0 M_sd_isFound [.inr (.inl (some (13, g, i))), .inl v1, .inl v2, .inl v3] cs en_rf σ (.inr (some (.inl x0))) cs en_rf σ := by
  refine en_meth (ls := [some (.inr (.inl (some (13, g, i)))), some (.inl v1), some (.inl v2), some (.inl v3), none, none]) md_sd_isFound rfl rfl rfl ?_
  unfold k_sd_isFound at h
  refine en_s_iload_n rfl rfl ?_
  refine en_s_aload_n rfl rfl ?_
  refine en_s_iload_n rfl rfl ?_
  refine en_s_iload_n rfl rfl ?_
  obtain ⟨t1, h2, h⟩ := en_b1_h h
  refine en_callV (as := [.inl v1, .inl v2]) (rest := [.inl v3]) (bc' := 0) (bs' := 0) hz rfl (s_sd_octetOf G hz (d + 0) h2) lk_6_81 mv_sd_octetOf rfl rfl rfl rfl rfl (fun _ h => h) (Nat.le_refl _) (Nat.le_refl _) ?_
  refine en_s_isub rfl ?_
  refine en_s_istore (ls' := [some (.inr (.inl (some (13, g, i)))), some (.inl v1), some (.inl v2), some (.inl v3), some (.inl (v3 - t1)), none]) rfl rfl rfl ?_
  refine en_s_aload_n rfl rfl ?_
  refine en_s_iload_n rfl rfl ?_
  obtain ⟨t3, h4, h⟩ := en_b1_h h
  refine en_callV (as := [.inl v1]) (rest := []) (bc' := 0) (bs' := 0) hz rfl (s_sd_plainSum G hz (d + 2) h4) lk_6_75 mv_sd_plainSum rfl rfl rfl rfl rfl (fun _ h => h) (Nat.le_refl _) (Nat.le_refl _) ?_
  refine en_s_aload_n rfl rfl ?_
  refine en_s_iload_n rfl rfl ?_
  obtain ⟨t5, h6, h⟩ := en_b1_h h
  refine en_callV (as := [.inl v1]) (rest := [.inl t3]) (bc' := 0) (bs' := 0) hz rfl (s_sd_sumOf G hz (d + 1) h6) lk_6_65 mv_sd_sumOf rfl rfl rfl rfl rfl (fun _ h => h) (Nat.le_refl _) (Nat.le_refl _) ?_
  refine en_s_iadd rfl ?_
  refine en_s_iload_n rfl rfl ?_
  refine en_s_iconst rfl ?_
  refine en_s_irem rfl (by decide) ?_
  refine en_s_if_ne rfl (fun c7 => ?_) (fun c7 => ?_)
  · rw [if_neg c7] at h
    refine en_s_iload rfl rfl ?_
    refine en_s_iadd rfl ?_
    refine en_s_istore (ls' := [some (.inr (.inl (some (13, g, i)))), some (.inl v1), some (.inl v2), some (.inl v3), some (.inl (v3 - t1)), some (.inl ((t3 + t5) + (v3 - t1)))]) rfl rfl rfl ?_
    refine en_s_iload rfl rfl ?_
    obtain ⟨t8, h9, h⟩ := en_b1_h h
    refine en_callS (as := [.inl ((t3 + t5) + (v3 - t1))]) (rest := []) (bc' := 0) (bs' := 0) hz rfl (s_sd_folded G hz (d + 4) h9) lk_6_78 mv_sd_folded rfl rfl rfl (fun _ h => h) (Nat.le_refl _) (Nat.le_refl _) ?_
    refine en_s_ldcI rfl (en_tw_of (i := 1192) (by decide +kernel) (by decide +kernel)) ?_
    refine en_s_icmp_eq rfl (fun c10 => ?_) (fun c10 => ?_)
    · rw [if_pos c10] at h
      refine en_s_iconst rfl ?_
      cases h
      exact en_s_zret rfl rfl (Or.inl rfl)
    · rw [if_neg c10] at h
      refine en_s_iconst rfl ?_
      refine en_s_goto rfl ?_
      cases h
      exact en_s_zret rfl rfl (Or.inr rfl)
  · rw [if_pos c7] at h
    refine en_s_iload rfl rfl ?_
    refine en_s_bipush rfl ?_
    refine en_s_ishl rfl ?_
    refine en_s_goto rfl ?_
    refine en_s_iadd rfl ?_
    refine en_s_istore (ls' := [some (.inr (.inl (some (13, g, i)))), some (.inl v1), some (.inl v2), some (.inl v3), some (.inl (v3 - t1)), some (.inl ((t3 + t5) + ((v3 - t1) <<< (8 &&& 31))))]) rfl rfl rfl ?_
    refine en_s_iload rfl rfl ?_
    obtain ⟨t11, h12, h⟩ := en_b1_h h
    refine en_callS (as := [.inl ((t3 + t5) + ((v3 - t1) <<< (8 &&& 31)))]) (rest := []) (bc' := 0) (bs' := 0) hz rfl (s_sd_folded G hz (d + 4) h12) lk_6_78 mv_sd_folded rfl rfl rfl (fun _ h => h) (Nat.le_refl _) (Nat.le_refl _) ?_
    refine en_s_ldcI rfl (en_tw_of (i := 1192) (by decide +kernel) (by decide +kernel)) ?_
    refine en_s_icmp_eq rfl (fun c13 => ?_) (fun c13 => ?_)
    · rw [if_pos c13] at h
      refine en_s_iconst rfl ?_
      cases h
      exact en_s_zret rfl rfl (Or.inl rfl)
    · rw [if_neg c13] at h
      refine en_s_iconst rfl ?_
      refine en_s_goto rfl ?_
      cases h
      exact en_s_zret rfl rfl (Or.inr rfl)
def k_sd_isOver (g : Nat) (i : Nat) (σ : en_M) : Int32 :=
  if (σ 13 g i 5) = 2 then
    1
  else
    if (σ 13 g i 5) = 3 then
      1
    else
      0
theorem z_sd_isOver {g : Nat} {i : Nat} {σ : en_M} : k_sd_isOver g i σ = 0 ∨ k_sd_isOver g i σ = 1 := by
  unfold k_sd_isOver
  (repeat' split) <;> first | exact Or.inl rfl | exact Or.inr rfl
set_option maxRecDepth 100000 in
set_option maxHeartbeats 4000000 in
theorem s_sd_isOver (G : en_G) (hz : G.2.2.2.2.2.2.2.2 = none) (d : Nat) {cs : List en_A} {σ : en_M} {g : Nat} {i : Nat} {x0 : Int32}  (h : k_sd_isOver g i σ = x0) : en_Mt G (d + 0) 0 0 M_sd_isOver [.inr (.inl (some (13, g, i)))] cs en_rf σ (.inr (some (.inl x0))) cs en_rf σ := by
  refine en_meth (ls := [some (.inr (.inl (some (13, g, i))))]) md_sd_isOver rfl rfl rfl ?_
  unfold k_sd_isOver at h
  refine en_s_aload_n rfl rfl ?_
  refine en_s_getI rfl rfl rfl ?_
  refine en_s_iconst rfl ?_
  refine en_s_icmp_eq rfl (fun c1 => ?_) (fun c1 => ?_)
  · rw [if_pos c1] at h
    refine en_s_iconst rfl ?_
    refine en_s_goto rfl ?_
    subst h
    exact en_s_zret rfl rfl (Or.inr rfl)
  · rw [if_neg c1] at h
    refine en_s_aload_n rfl rfl ?_
    refine en_s_getI rfl rfl rfl ?_
    refine en_s_iconst rfl ?_
    refine en_s_icmp_ne rfl (fun c2 => ?_) (fun c2 => ?_)
    · rw [if_neg c2] at h
      refine en_s_iconst rfl ?_
      subst h
      exact en_s_zret rfl rfl (Or.inl rfl)
    · rw [if_pos c2] at h
      refine en_s_iconst rfl ?_
      refine en_s_goto rfl ?_
      subst h
      exact en_s_zret rfl rfl (Or.inr rfl)
def k_sd_putWholeWords_5 (f0 : Nat) (g : Nat) (i : Nat) (v1 : Int32) (v3 : Int32) (v4 : Int32) (σ : en_M) : Option (Int32 × en_M) := match f0 with
  | 0 => none
  | f9 + 1 =>
    if ((k_sd_sizeOf g i v1 σ) / 2) ≤ v4 then
      some (v3, σ)
    else
      if v4 = 5 then
        k_sd_putWholeWords_5 f9 g i v1 v3 (v4 + 1) σ
      else
        if 56 ≤ v3 then
          k_sd_putWholeWords_5 f9 g i v1 v3 (v4 + 1) σ
        else
          if 6 ≤ v4 then
            en_b1 (en_wa 56 σ 23 0 0 v3 (k_sd_bodyWord g i v1 v4 σ)) fun s5 =>
            k_sd_putWholeWords_5 f9 g i v1 (v3 + 1) (v4 + 1) s5
          else
            en_b1 (en_wa 56 σ 23 0 0 v3 (k_sd_headWord g i v1 v4 σ)) fun s7 =>
            k_sd_putWholeWords_5 f9 g i v1 (v3 + 1) (v4 + 1) s7
def k_sd_putWholeWords (g : Nat) (i : Nat) (v1 : Int32) (σ : en_M) : Option (Int32 × en_M) :=
  en_b2 (k_sd_putWholeWords_5 en_fu g i v1 0 0 σ) fun x9 s11 =>
  some (x9, s11)
set_option maxRecDepth 100000 in
set_option maxHeartbeats 4000000 in
theorem s_sd_putWholeWords_5 (G : en_G) (hz : G.2.2.2.2.2.2.2.2 = none) {d : Nat} {r : en_P} {cs cs' : List en_A} {ρ' : en_R} {σ' : en_M} : ∀ (f0 : Nat) {g : Nat} {i : Nat} {v1 : Int32} {v3 : Int32} {v4 : Int32}  {σ : en_M} {x3 : Int32} {s0 : en_M} , k_sd_putWholeWords_5 f0 g i v1 v3 v4 σ = some (x3, s0) →
    (∀ (f4 : Option en_V), en_W G (d + 2) 0 0 M_sd_putWholeWords r cs' ρ' σ' 0 0 65 [some (.inr (.inl (some (13, g, i)))), some (.inl v1), some (.inr (.inl (some (23, 0, 0)))), some (.inl x3), f4] [] cs en_rf s0) → en_W G (d + 2) 0 0 M_sd_putWholeWords r cs' ρ' σ' 0 0 5 [some (.inr (.inl (some (13, g, i)))), some (.inl v1), some (.inr (.inl (some (23, 0, 0)))), some (.inl v3), some (.inl v4)] [] cs en_rf σ := by
  intro f0
  induction f0 with
  | zero =>
    intros
    rename_i h _
    cases h
  | succ f9 ih =>
    intro g i v1 v3 v4 σ x3 s0 h hk
    rw [k_sd_putWholeWords_5] at h
    refine en_s_iload rfl rfl ?_
    refine en_s_aload_n rfl rfl ?_
    refine en_s_iload_n rfl rfl ?_
    refine en_callV (as := [.inl v1]) (rest := [.inl v4]) (bc' := 0) (bs' := 0) hz rfl (s_sd_sizeOf G hz (d + 1) rfl) lk_6_58 mv_sd_sizeOf rfl rfl rfl rfl rfl (fun _ h => h) (Nat.le_refl _) (Nat.le_refl _) ?_
    refine en_s_iconst rfl ?_
    refine en_s_idiv rfl (by decide) ?_
    refine en_s_icmp_ge rfl (fun c1 => ?_) (fun c1 => ?_)
    · rw [if_pos c1] at h
      cases h
      exact hk (some (.inl v4))
    · rw [if_neg c1] at h
      refine en_s_iload rfl rfl ?_
      refine en_s_iconst rfl ?_
      refine en_s_icmp_eq rfl (fun c2 => ?_) (fun c2 => ?_)
      · rw [if_pos c2] at h
        refine en_s_iinc (ls' := [some (.inr (.inl (some (13, g, i)))), some (.inl v1), some (.inr (.inl (some (23, 0, 0)))), some (.inl v3), some (.inl (v4 + 1))]) rfl rfl rfl ?_
        refine en_s_goto rfl ?_
        exact ih  h hk
      · rw [if_neg c2] at h
        refine en_s_iload_n rfl rfl ?_
        refine en_s_aload_n rfl rfl ?_
        refine en_s_alen (x := 56) rfl rfl rfl rfl ?_
        refine en_s_icmp_ge rfl (fun c3 => ?_) (fun c3 => ?_)
        · rw [if_pos c3] at h
          refine en_s_iinc (ls' := [some (.inr (.inl (some (13, g, i)))), some (.inl v1), some (.inr (.inl (some (23, 0, 0)))), some (.inl v3), some (.inl (v4 + 1))]) rfl rfl rfl ?_
          refine en_s_goto rfl ?_
          exact ih  h hk
        · rw [if_neg c3] at h
          refine en_s_aload_n rfl rfl ?_
          refine en_s_iload_n rfl rfl ?_
          refine en_s_iload rfl rfl ?_
          refine en_s_bipush rfl ?_
          refine en_s_icmp_ge rfl (fun c4 => ?_) (fun c4 => ?_)
          · rw [if_pos c4] at h
            refine en_s_aload_n rfl rfl ?_
            refine en_s_iload_n rfl rfl ?_
            refine en_s_iload rfl rfl ?_
            refine en_callV (as := [.inl v1, .inl v4]) (rest := [.inl v3, .inr (.inl (some (23, 0, 0)))]) (bc' := 0) (bs' := 0) hz rfl (s_sd_bodyWord G hz (d + 0) rfl) lk_6_84 mv_sd_bodyWord rfl rfl rfl rfl rfl (fun _ h => h) (Nat.le_refl _) (Nat.le_refl _) ?_
            obtain ⟨s5, e6, h⟩ := en_b1_h h
            refine en_s_iast rfl rfl e6 ?_
            refine en_s_iinc (ls' := [some (.inr (.inl (some (13, g, i)))), some (.inl v1), some (.inr (.inl (some (23, 0, 0)))), some (.inl (v3 + 1)), some (.inl v4)]) rfl rfl rfl ?_
            refine en_s_iinc (ls' := [some (.inr (.inl (some (13, g, i)))), some (.inl v1), some (.inr (.inl (some (23, 0, 0)))), some (.inl (v3 + 1)), some (.inl (v4 + 1))]) rfl rfl rfl ?_
            refine en_s_goto rfl ?_
            exact ih  h hk
          · rw [if_neg c4] at h
            refine en_s_aload_n rfl rfl ?_
            refine en_s_iload_n rfl rfl ?_
            refine en_s_iload rfl rfl ?_
            refine en_callV (as := [.inl v1, .inl v4]) (rest := [.inl v3, .inr (.inl (some (23, 0, 0)))]) (bc' := 0) (bs' := 0) hz rfl (s_sd_headWord G hz (d + 0) rfl) lk_6_62 mv_sd_headWord rfl rfl rfl rfl rfl (fun _ h => h) (Nat.le_refl _) (Nat.le_refl _) ?_
            refine en_s_goto rfl ?_
            obtain ⟨s7, e8, h⟩ := en_b1_h h
            refine en_s_iast rfl rfl e8 ?_
            refine en_s_iinc (ls' := [some (.inr (.inl (some (13, g, i)))), some (.inl v1), some (.inr (.inl (some (23, 0, 0)))), some (.inl (v3 + 1)), some (.inl v4)]) rfl rfl rfl ?_
            refine en_s_iinc (ls' := [some (.inr (.inl (some (13, g, i)))), some (.inl v1), some (.inr (.inl (some (23, 0, 0)))), some (.inl (v3 + 1)), some (.inl (v4 + 1))]) rfl rfl rfl ?_
            refine en_s_goto rfl ?_
            exact ih  h hk
set_option maxRecDepth 100000 in
set_option maxHeartbeats 4000000 in
theorem s_sd_putWholeWords (G : en_G) (hz : G.2.2.2.2.2.2.2.2 = none) (d : Nat) {cs : List en_A} {σ : en_M} {g : Nat} {i : Nat} {v1 : Int32} {x0 : Int32} {s0 : en_M}  (h : k_sd_putWholeWords g i v1 σ = some (x0, s0)) : en_Mt G (d + 2) 0 0 M_sd_putWholeWords [.inr (.inl (some (13, g, i))), .inl v1, .inr (.inl (some (23, 0, 0)))] cs en_rf σ (.inr (some (.inl x0))) cs en_rf s0 := by
  refine en_meth (ls := [some (.inr (.inl (some (13, g, i)))), some (.inl v1), some (.inr (.inl (some (23, 0, 0)))), none, none]) md_sd_putWholeWords rfl rfl rfl ?_
  unfold k_sd_putWholeWords at h
  refine en_s_iconst rfl ?_
  refine en_s_istore_n (ls' := [some (.inr (.inl (some (13, g, i)))), some (.inl v1), some (.inr (.inl (some (23, 0, 0)))), some (.inl 0), none]) rfl rfl rfl ?_
  refine en_s_iconst rfl ?_
  refine en_s_istore (ls' := [some (.inr (.inl (some (13, g, i)))), some (.inl v1), some (.inr (.inl (some (23, 0, 0)))), some (.inl 0), some (.inl 0)]) rfl rfl rfl ?_
  obtain ⟨x9, s11, h12, h⟩ := en_b2_h h
  refine s_sd_putWholeWords_5 G hz en_fu  h12 (fun f10 => ?_)
  refine en_s_iload_n rfl rfl ?_
  cases h
  exact en_s_iret rfl rfl
def k_sd_waits (g : Nat) (i : Nat) (σ : en_M) : Int32 :=
  if (σ 13 g i 5) = 1 then
    if (σ 13 g i 6) ≤ (σ 13 g i 7) then
      0
    else
      1
  else
    0
theorem z_sd_waits {g : Nat} {i : Nat} {σ : en_M} : k_sd_waits g i σ = 0 ∨ k_sd_waits g i σ = 1 := by
  unfold k_sd_waits
  (repeat' split) <;> first | exact Or.inl rfl | exact Or.inr rfl
set_option maxRecDepth 100000 in
set_option maxHeartbeats 4000000 in
theorem s_sd_waits (G : en_G) (hz : G.2.2.2.2.2.2.2.2 = none) (d : Nat) {cs : List en_A} {σ : en_M} {g : Nat} {i : Nat} {x0 : Int32}  (h : k_sd_waits g i σ = x0) : en_Mt G (d + 0) 0 0 M_sd_waits [.inr (.inl (some (13, g, i)))] cs en_rf σ (.inr (some (.inl x0))) cs en_rf σ := by
  refine en_meth (ls := [some (.inr (.inl (some (13, g, i))))]) md_sd_waits rfl rfl rfl ?_
  unfold k_sd_waits at h
  refine en_s_aload_n rfl rfl ?_
  refine en_s_getI rfl rfl rfl ?_
  refine en_s_iconst rfl ?_
  refine en_s_icmp_ne rfl (fun c1 => ?_) (fun c1 => ?_)
  · rw [if_neg c1] at h
    refine en_s_iconst rfl ?_
    subst h
    exact en_s_zret rfl rfl (Or.inl rfl)
  · rw [if_pos c1] at h
    refine en_s_aload_n rfl rfl ?_
    refine en_s_getI rfl rfl rfl ?_
    refine en_s_aload_n rfl rfl ?_
    refine en_s_getI rfl rfl rfl ?_
    refine en_s_icmp_ge rfl (fun c2 => ?_) (fun c2 => ?_)
    · rw [if_pos c2] at h
      refine en_s_iconst rfl ?_
      subst h
      exact en_s_zret rfl rfl (Or.inl rfl)
    · rw [if_neg c2] at h
      refine en_s_iconst rfl ?_
      refine en_s_goto rfl ?_
      subst h
      exact en_s_zret rfl rfl (Or.inr rfl)
def k_ta_clear (g : Nat) (σ : en_M) : Option (en_M) :=
  en_let (en_wr σ 11 g 0 0 0) fun s1 =>
  en_let (en_wr s1 11 g 0 1 0) fun s3 =>
  en_let (en_wr s3 11 g 0 2 0) fun s5 =>
  en_let (en_wr s5 11 g 0 3 0) fun s7 =>
  en_let (en_wr s7 11 g 0 4 0) fun s9 =>
  en_let (en_wr s9 11 g 0 5 0) fun s11 =>
  some s11
set_option maxRecDepth 100000 in
set_option maxHeartbeats 4000000 in
theorem s_ta_clear (G : en_G) (hz : G.2.2.2.2.2.2.2.2 = none) (d : Nat) {cs : List en_A} {σ : en_M} {g : Nat} {s0 : en_M}  (h : k_ta_clear g σ = some s0) : en_Mt G (d + 0) 0 0 M_ta_clear [.inr (.inl (some (11, g, 0)))] cs en_rf σ (.inr (none)) cs en_rf s0 := by
  refine en_meth (ls := [some (.inr (.inl (some (11, g, 0))))]) md_ta_clear rfl rfl rfl ?_
  unfold k_ta_clear at h
  refine en_s_aload_n rfl rfl ?_
  refine en_s_iconst rfl ?_
  obtain ⟨s1, e2, h⟩ := en_let_h h
  refine en_p_putI e2 rfl rfl rfl rfl rfl ?_
  refine en_s_aload_n rfl rfl ?_
  refine en_s_iconst rfl ?_
  obtain ⟨s3, e4, h⟩ := en_let_h h
  refine en_p_putI e4 rfl rfl rfl rfl rfl ?_
  refine en_s_aload_n rfl rfl ?_
  refine en_s_iconst rfl ?_
  obtain ⟨s5, e6, h⟩ := en_let_h h
  refine en_p_putI e6 rfl rfl rfl rfl rfl ?_
  refine en_s_aload_n rfl rfl ?_
  refine en_s_iconst rfl ?_
  obtain ⟨s7, e8, h⟩ := en_let_h h
  refine en_p_putI e8 rfl rfl rfl rfl rfl ?_
  refine en_s_aload_n rfl rfl ?_
  refine en_s_iconst rfl ?_
  obtain ⟨s9, e10, h⟩ := en_let_h h
  refine en_p_putI e10 rfl rfl rfl rfl rfl ?_
  refine en_s_aload_n rfl rfl ?_
  refine en_s_iconst rfl ?_
  obtain ⟨s11, e12, h⟩ := en_let_h h
  refine en_p_putI e12 rfl rfl rfl rfl rfl ?_
  cases h
  exact en_s_vret rfl rfl
def k_ta_copyFrom (g : Nat) (g1 : Nat) (σ : en_M) : Option (en_M) :=
  en_let (en_wr σ 11 g 0 0 (σ 11 g1 0 0)) fun s1 =>
  en_let (en_wr s1 11 g 0 1 (s1 11 g1 0 1)) fun s3 =>
  en_let (en_wr s3 11 g 0 2 (s3 11 g1 0 2)) fun s5 =>
  en_let (en_wr s5 11 g 0 3 (s5 11 g1 0 3)) fun s7 =>
  en_let (en_wr s7 11 g 0 4 (s7 11 g1 0 4)) fun s9 =>
  en_let (en_wr s9 11 g 0 5 (s9 11 g1 0 5)) fun s11 =>
  some s11
set_option maxRecDepth 100000 in
set_option maxHeartbeats 4000000 in
theorem s_ta_copyFrom (G : en_G) (hz : G.2.2.2.2.2.2.2.2 = none) (d : Nat) {cs : List en_A} {σ : en_M} {g : Nat} {g1 : Nat} {s0 : en_M}  (h : k_ta_copyFrom g g1 σ = some s0) : en_Mt G (d + 0) 0 0 M_ta_copyFrom [.inr (.inl (some (11, g, 0))), .inr (.inl (some (11, g1, 0)))] cs en_rf σ (.inr (none)) cs en_rf s0 := by
  refine en_meth (ls := [some (.inr (.inl (some (11, g, 0)))), some (.inr (.inl (some (11, g1, 0))))]) md_ta_copyFrom rfl rfl rfl ?_
  unfold k_ta_copyFrom at h
  refine en_s_aload_n rfl rfl ?_
  refine en_s_aload_n rfl rfl ?_
  refine en_s_getI rfl rfl rfl ?_
  obtain ⟨s1, e2, h⟩ := en_let_h h
  refine en_p_putI e2 rfl rfl rfl rfl rfl ?_
  refine en_s_aload_n rfl rfl ?_
  refine en_s_aload_n rfl rfl ?_
  refine en_s_getI rfl rfl rfl ?_
  obtain ⟨s3, e4, h⟩ := en_let_h h
  refine en_p_putI e4 rfl rfl rfl rfl rfl ?_
  refine en_s_aload_n rfl rfl ?_
  refine en_s_aload_n rfl rfl ?_
  refine en_s_getI rfl rfl rfl ?_
  obtain ⟨s5, e6, h⟩ := en_let_h h
  refine en_p_putI e6 rfl rfl rfl rfl rfl ?_
  refine en_s_aload_n rfl rfl ?_
  refine en_s_aload_n rfl rfl ?_
  refine en_s_getI rfl rfl rfl ?_
  obtain ⟨s7, e8, h⟩ := en_let_h h
  refine en_p_putI e8 rfl rfl rfl rfl rfl ?_
  refine en_s_aload_n rfl rfl ?_
  refine en_s_aload_n rfl rfl ?_
  refine en_s_getI rfl rfl rfl ?_
  obtain ⟨s9, e10, h⟩ := en_let_h h
  refine en_p_putI e10 rfl rfl rfl rfl rfl ?_
  refine en_s_aload_n rfl rfl ?_
  refine en_s_aload_n rfl rfl ?_
  refine en_s_getI rfl rfl rfl ?_
  obtain ⟨s11, e12, h⟩ := en_let_h h
  refine en_p_putI e12 rfl rfl rfl rfl rfl ?_
  cases h
  exact en_s_vret rfl rfl
def k_fi_add (g : Nat) (v1 : Int32) (v2 : Int32) (σ : en_M) : Option (en_M) :=
  en_b1 (en_wa 20 σ 9 g 0 (en_fm (σ 8 g 0 2) 20) v1) fun s1 =>
  en_b1 (en_wa 20 s1 10 g 0 (en_fm (σ 8 g 0 2) 20) v2) fun s3 =>
  en_let (en_wr s3 8 g 0 2 ((s3 8 g 0 2) + 1)) fun s5 =>
  some s5
set_option maxRecDepth 100000 in
set_option maxHeartbeats 4000000 in
theorem s_fi_add (G : en_G) (hz : G.2.2.2.2.2.2.2.2 = none) (d : Nat) {cs : List en_A} {σ : en_M} {g : Nat} {v1 : Int32} {v2 : Int32} {s0 : en_M}  (h : k_fi_add g v1 v2 σ = some s0) : en_Mt G (d + 1) 0 0 M_fi_add [.inr (.inl (some (8, g, 0))), .inl v1, .inl v2] cs en_rf σ (.inr (none)) cs en_rf s0 := by
  refine en_meth (ls := [some (.inr (.inl (some (8, g, 0)))), some (.inl v1), some (.inl v2), none]) md_fi_add rfl rfl rfl ?_
  unfold k_fi_add at h
  refine en_s_aload_n rfl rfl ?_
  refine en_s_getI rfl rfl rfl ?_
  refine en_s_bipush rfl ?_
  refine en_s_fmod hz rfl (en_tw_of (i := 695) (by decide +kernel) (by decide +kernel)) (by decide) rfl ?_
  refine en_s_istore_n (ls' := [some (.inr (.inl (some (8, g, 0)))), some (.inl v1), some (.inl v2), some (.inl (en_fm (σ 8 g 0 2) 20))]) rfl rfl rfl ?_
  refine en_s_aload_n rfl rfl ?_
  refine en_s_getR (w := some (9, g, 0)) rfl rfl rfl rfl ?_
  refine en_s_iload_n rfl rfl ?_
  refine en_s_iload_n rfl rfl ?_
  obtain ⟨s1, e2, h⟩ := en_b1_h h
  refine en_s_iast rfl rfl e2 ?_
  refine en_s_aload_n rfl rfl ?_
  refine en_s_getR (w := some (10, g, 0)) rfl rfl rfl rfl ?_
  refine en_s_iload_n rfl rfl ?_
  refine en_s_iload_n rfl rfl ?_
  obtain ⟨s3, e4, h⟩ := en_b1_h h
  refine en_s_iast rfl rfl e4 ?_
  refine en_s_aload_n rfl rfl ?_
  refine en_s_dup rfl rfl ?_
  refine en_s_getI rfl rfl rfl ?_
  refine en_s_iconst rfl ?_
  refine en_s_iadd rfl ?_
  obtain ⟨s5, e6, h⟩ := en_let_h h
  refine en_p_putI e6 rfl rfl rfl rfl rfl ?_
  cases h
  exact en_s_vret rfl rfl
def k_fi_clear (g : Nat) (σ : en_M) : Option (en_M) :=
  en_let (en_wr σ 8 g 0 2 0) fun s1 =>
  some s1
set_option maxRecDepth 100000 in
set_option maxHeartbeats 4000000 in
theorem s_fi_clear (G : en_G) (hz : G.2.2.2.2.2.2.2.2 = none) (d : Nat) {cs : List en_A} {σ : en_M} {g : Nat} {s0 : en_M}  (h : k_fi_clear g σ = some s0) : en_Mt G (d + 0) 0 0 M_fi_clear [.inr (.inl (some (8, g, 0)))] cs en_rf σ (.inr (none)) cs en_rf s0 := by
  refine en_meth (ls := [some (.inr (.inl (some (8, g, 0))))]) md_fi_clear rfl rfl rfl ?_
  unfold k_fi_clear at h
  refine en_s_aload_n rfl rfl ?_
  refine en_s_iconst rfl ?_
  obtain ⟨s1, e2, h⟩ := en_let_h h
  refine en_p_putI e2 rfl rfl rfl rfl rfl ?_
  cases h
  exact en_s_vret rfl rfl
def k_fi_copyFrom (g : Nat) (g1 : Nat) (σ : en_M) : Option (en_M) :=
  en_let (en_cp σ 9 g1 0 9 g 0 20) fun s1 =>
  en_let (en_cp s1 10 g1 0 10 g 0 20) fun s3 =>
  en_let (en_wr s3 8 g 0 2 (s3 8 g1 0 2)) fun s5 =>
  some s5
set_option maxRecDepth 100000 in
set_option maxHeartbeats 4000000 in
theorem s_fi_copyFrom (G : en_G) (hz : G.2.2.2.2.2.2.2.2 = none) (d : Nat) {cs : List en_A} {σ : en_M} {g : Nat} {g1 : Nat} {s0 : en_M}  (h : k_fi_copyFrom g g1 σ = some s0) : en_Mt G (d + 1) 0 0 M_fi_copyFrom [.inr (.inl (some (8, g, 0))), .inr (.inl (some (8, g1, 0)))] cs en_rf σ (.inr (none)) cs en_rf s0 := by
  refine en_meth (ls := [some (.inr (.inl (some (8, g, 0)))), some (.inr (.inl (some (8, g1, 0))))]) md_fi_copyFrom rfl rfl rfl ?_
  unfold k_fi_copyFrom at h
  refine en_s_aload_n rfl rfl ?_
  refine en_s_getR (w := some (9, g1, 0)) rfl rfl rfl rfl ?_
  refine en_s_iconst rfl ?_
  refine en_s_aload_n rfl rfl ?_
  refine en_s_getR (w := some (9, g, 0)) rfl rfl rfl rfl ?_
  refine en_s_iconst rfl ?_
  refine en_s_bipush rfl ?_
  obtain ⟨s1, e2, h⟩ := en_let_h h
  refine en_s_copy e2 rfl (en_tw_of (i := 634) (by decide +kernel) (by decide +kernel)) rfl rfl (by decide) (by decide) rfl rfl rfl ?_
  refine en_s_aload_n rfl rfl ?_
  refine en_s_getR (w := some (10, g1, 0)) rfl rfl rfl rfl ?_
  refine en_s_iconst rfl ?_
  refine en_s_aload_n rfl rfl ?_
  refine en_s_getR (w := some (10, g, 0)) rfl rfl rfl rfl ?_
  refine en_s_iconst rfl ?_
  refine en_s_bipush rfl ?_
  obtain ⟨s3, e4, h⟩ := en_let_h h
  refine en_s_copy e4 rfl (en_tw_of (i := 634) (by decide +kernel) (by decide +kernel)) rfl rfl (by decide) (by decide) rfl rfl rfl ?_
  refine en_s_aload_n rfl rfl ?_
  refine en_s_aload_n rfl rfl ?_
  refine en_s_getI rfl rfl rfl ?_
  obtain ⟨s5, e6, h⟩ := en_let_h h
  refine en_p_putI e6 rfl rfl rfl rfl rfl ?_
  cases h
  exact en_s_vret rfl rfl
def k_fi_has (g : Nat) (v1 : Int32) (σ : en_M) : Int32 :=
  if v1 < 0 then
    0
  else
    if 20 ≤ v1 then
      0
    else
      if (σ 8 g 0 2) ≤ v1 then
        0
      else
        1
theorem z_fi_has {g : Nat} {v1 : Int32} {σ : en_M} : k_fi_has g v1 σ = 0 ∨ k_fi_has g v1 σ = 1 := by
  unfold k_fi_has
  (repeat' split) <;> first | exact Or.inl rfl | exact Or.inr rfl
set_option maxRecDepth 100000 in
set_option maxHeartbeats 4000000 in
theorem s_fi_has (G : en_G) (hz : G.2.2.2.2.2.2.2.2 = none) (d : Nat) {cs : List en_A} {σ : en_M} {g : Nat} {v1 : Int32} {x0 : Int32}  (h : k_fi_has g v1 σ = x0) : en_Mt G (d + 0) 0 0 M_fi_has [.inr (.inl (some (8, g, 0))), .inl v1] cs en_rf σ (.inr (some (.inl x0))) cs en_rf σ := by
  refine en_meth (ls := [some (.inr (.inl (some (8, g, 0)))), some (.inl v1)]) md_fi_has rfl rfl rfl ?_
  unfold k_fi_has at h
  refine en_s_iload_n rfl rfl ?_
  refine en_s_if_lt rfl (fun c1 => ?_) (fun c1 => ?_)
  · rw [if_pos c1] at h
    refine en_s_iconst rfl ?_
    subst h
    exact en_s_zret rfl rfl (Or.inl rfl)
  · rw [if_neg c1] at h
    refine en_s_iload_n rfl rfl ?_
    refine en_s_bipush rfl ?_
    refine en_s_icmp_ge rfl (fun c2 => ?_) (fun c2 => ?_)
    · rw [if_pos c2] at h
      refine en_s_iconst rfl ?_
      subst h
      exact en_s_zret rfl rfl (Or.inl rfl)
    · rw [if_neg c2] at h
      refine en_s_iload_n rfl rfl ?_
      refine en_s_aload_n rfl rfl ?_
      refine en_s_getI rfl rfl rfl ?_
      refine en_s_icmp_ge rfl (fun c3 => ?_) (fun c3 => ?_)
      · rw [if_pos c3] at h
        refine en_s_iconst rfl ?_
        subst h
        exact en_s_zret rfl rfl (Or.inl rfl)
      · rw [if_neg c3] at h
        refine en_s_iconst rfl ?_
        refine en_s_goto rfl ?_
        subst h
        exact en_s_zret rfl rfl (Or.inr rfl)
def k_fi_sendOf (g : Nat) (v1 : Int32) (σ : en_M) : Option (Int32) :=
  if (k_fi_has g v1 σ) = 0 then
    some (-1)
  else
    en_b1 (en_rd 20 (σ 9 g 0) (en_fm (((σ 8 g 0 2) - 1) - v1) 20)) fun t2 =>
    some t2
set_option maxRecDepth 100000 in
set_option maxHeartbeats 4000000 in
theorem s_fi_sendOf (G : en_G) (hz : G.2.2.2.2.2.2.2.2 = none) (d : Nat) {cs : List en_A} {σ : en_M} {g : Nat} {v1 : Int32} {x0 : Int32}  (h : k_fi_sendOf g v1 σ = some x0) : en_Mt G (d + 1) 0 0 M_fi_sendOf [.inr (.inl (some (8, g, 0))), .inl v1] cs en_rf σ (.inr (some (.inl x0))) cs en_rf σ := by
  refine en_meth (ls := [some (.inr (.inl (some (8, g, 0)))), some (.inl v1)]) md_fi_sendOf rfl rfl rfl ?_
  unfold k_fi_sendOf at h
  refine en_s_aload_n rfl rfl ?_
  refine en_s_iload_n rfl rfl ?_
  refine en_callV (as := [.inl v1]) (rest := []) (bc' := 0) (bs' := 0) hz rfl (s_fi_has G hz (d + 0) rfl) lk_1_34 mv_fi_has rfl rfl rfl rfl rfl (fun _ h => h) (Nat.le_refl _) (Nat.le_refl _) ?_
  refine en_s_if_eq rfl (fun c1 => ?_) (fun c1 => ?_)
  · rw [if_pos c1] at h
    refine en_s_iconst rfl ?_
    cases h
    exact en_s_iret rfl rfl
  · rw [if_neg c1] at h
    refine en_s_aload_n rfl rfl ?_
    refine en_s_getR (w := some (9, g, 0)) rfl rfl rfl rfl ?_
    refine en_s_aload_n rfl rfl ?_
    refine en_s_getI rfl rfl rfl ?_
    refine en_s_iconst rfl ?_
    refine en_s_isub rfl ?_
    refine en_s_iload_n rfl rfl ?_
    refine en_s_isub rfl ?_
    refine en_s_bipush rfl ?_
    refine en_s_fmod hz rfl (en_tw_of (i := 695) (by decide +kernel) (by decide +kernel)) (by decide) rfl ?_
    obtain ⟨t2, h3, h⟩ := en_b1_h h
    refine en_s_iald rfl rfl h3 ?_
    refine en_s_goto rfl ?_
    cases h
    exact en_s_iret rfl rfl
def k_fi_timeOf (g : Nat) (v1 : Int32) (σ : en_M) : Option (Int32) :=
  if (k_fi_has g v1 σ) = 0 then
    some (-1)
  else
    en_b1 (en_rd 20 (σ 10 g 0) (en_fm (((σ 8 g 0 2) - 1) - v1) 20)) fun t2 =>
    some t2
set_option maxRecDepth 100000 in
set_option maxHeartbeats 4000000 in
theorem s_fi_timeOf (G : en_G) (hz : G.2.2.2.2.2.2.2.2 = none) (d : Nat) {cs : List en_A} {σ : en_M} {g : Nat} {v1 : Int32} {x0 : Int32}  (h : k_fi_timeOf g v1 σ = some x0) : en_Mt G (d + 1) 0 0 M_fi_timeOf [.inr (.inl (some (8, g, 0))), .inl v1] cs en_rf σ (.inr (some (.inl x0))) cs en_rf σ := by
  refine en_meth (ls := [some (.inr (.inl (some (8, g, 0)))), some (.inl v1)]) md_fi_timeOf rfl rfl rfl ?_
  unfold k_fi_timeOf at h
  refine en_s_aload_n rfl rfl ?_
  refine en_s_iload_n rfl rfl ?_
  refine en_callV (as := [.inl v1]) (rest := []) (bc' := 0) (bs' := 0) hz rfl (s_fi_has G hz (d + 0) rfl) lk_1_34 mv_fi_has rfl rfl rfl rfl rfl (fun _ h => h) (Nat.le_refl _) (Nat.le_refl _) ?_
  refine en_s_if_eq rfl (fun c1 => ?_) (fun c1 => ?_)
  · rw [if_pos c1] at h
    refine en_s_iconst rfl ?_
    cases h
    exact en_s_iret rfl rfl
  · rw [if_neg c1] at h
    refine en_s_aload_n rfl rfl ?_
    refine en_s_getR (w := some (10, g, 0)) rfl rfl rfl rfl ?_
    refine en_s_aload_n rfl rfl ?_
    refine en_s_getI rfl rfl rfl ?_
    refine en_s_iconst rfl ?_
    refine en_s_isub rfl ?_
    refine en_s_iload_n rfl rfl ?_
    refine en_s_isub rfl ?_
    refine en_s_bipush rfl ?_
    refine en_s_fmod hz rfl (en_tw_of (i := 695) (by decide +kernel) (by decide +kernel)) (by decide) rfl ?_
    obtain ⟨t2, h3, h⟩ := en_b1_h h
    refine en_s_iald rfl rfl h3 ?_
    refine en_s_goto rfl ?_
    cases h
    exact en_s_iret rfl rfl
def k_lg_add (g : Nat) (g1 : Nat) (i1 : Nat) (v2 : Int32) (v3 : Int32) (v4 : Int32) (σ : en_M) : Option (en_M) :=
  en_b1 (en_wa 280 σ 7 g 0 (((en_fm ((σ 6 g 0 1) + (σ 6 g 0 2)) 40) * 7) + 0) (σ 13 g1 i1 0)) fun s1 =>
  en_b1 (en_wa 280 s1 7 g 0 (((en_fm ((σ 6 g 0 1) + (σ 6 g 0 2)) 40) * 7) + 1) v2) fun s3 =>
  en_b1 (en_wa 280 s3 7 g 0 (((en_fm ((σ 6 g 0 1) + (σ 6 g 0 2)) 40) * 7) + 2) (s3 13 g1 i1 1)) fun s5 =>
  en_b1 (en_wa 280 s5 7 g 0 (((en_fm ((σ 6 g 0 1) + (σ 6 g 0 2)) 40) * 7) + 3) (k_sd_sizeOf g1 i1 v2 s5)) fun s7 =>
  en_b1 (en_wa 280 s7 7 g 0 (((en_fm ((σ 6 g 0 1) + (σ 6 g 0 2)) 40) * 7) + 4) v3) fun s9 =>
  en_b1 (en_wa 280 s9 7 g 0 (((en_fm ((σ 6 g 0 1) + (σ 6 g 0 2)) 40) * 7) + 5) v4) fun s11 =>
  en_b1 (en_wa 280 s11 7 g 0 (((en_fm ((σ 6 g 0 1) + (σ 6 g 0 2)) 40) * 7) + 6) (k_sd_whereIs g1 i1 v2 s11)) fun s13 =>
  if 40 ≤ (s13 6 g 0 2) then
    en_let (en_wr s13 6 g 0 1 (en_fm ((s13 6 g 0 1) + 1) 40)) fun s16 =>
    some s16
  else
    en_let (en_wr s13 6 g 0 2 ((s13 6 g 0 2) + 1)) fun s18 =>
    some s18
set_option maxRecDepth 100000 in
set_option maxHeartbeats 4000000 in
theorem s_lg_add (G : en_G) (hz : G.2.2.2.2.2.2.2.2 = none) (d : Nat) {cs : List en_A} {σ : en_M} {g : Nat} {g1 : Nat} {i1 : Nat} {v2 : Int32} {v3 : Int32} {v4 : Int32} {s0 : en_M}  (h : k_lg_add g g1 i1 v2 v3 v4 σ = some s0) : en_Mt G (d + 1) 0 0 M_lg_add [.inr (.inl (some (6, g, 0))), .inr (.inl (some (13, g1, i1))), .inl v2, .inl v3, .inl v4] cs en_rf σ (.inr (none)) cs en_rf s0 := by
  refine en_meth (ls := [some (.inr (.inl (some (6, g, 0)))), some (.inr (.inl (some (13, g1, i1)))), some (.inl v2), some (.inl v3), some (.inl v4), none]) md_lg_add rfl rfl rfl ?_
  unfold k_lg_add at h
  refine en_s_aload_n rfl rfl ?_
  refine en_s_getI rfl rfl rfl ?_
  refine en_s_aload_n rfl rfl ?_
  refine en_s_getI rfl rfl rfl ?_
  refine en_s_iadd rfl ?_
  refine en_s_bipush rfl ?_
  refine en_s_fmod hz rfl (en_tw_of (i := 716) (by decide +kernel) (by decide +kernel)) (by decide) rfl ?_
  refine en_s_bipush rfl ?_
  refine en_s_imul rfl ?_
  refine en_s_istore (ls' := [some (.inr (.inl (some (6, g, 0)))), some (.inr (.inl (some (13, g1, i1)))), some (.inl v2), some (.inl v3), some (.inl v4), some (.inl ((en_fm ((σ 6 g 0 1) + (σ 6 g 0 2)) 40) * 7))]) rfl rfl rfl ?_
  refine en_s_aload_n rfl rfl ?_
  refine en_s_getR (w := some (7, g, 0)) rfl rfl rfl rfl ?_
  refine en_s_iload rfl rfl ?_
  refine en_s_iconst rfl ?_
  refine en_s_iadd rfl ?_
  refine en_s_aload_n rfl rfl ?_
  refine en_s_getI rfl rfl rfl ?_
  obtain ⟨s1, e2, h⟩ := en_b1_h h
  refine en_s_iast rfl rfl e2 ?_
  refine en_s_aload_n rfl rfl ?_
  refine en_s_getR (w := some (7, g, 0)) rfl rfl rfl rfl ?_
  refine en_s_iload rfl rfl ?_
  refine en_s_iconst rfl ?_
  refine en_s_iadd rfl ?_
  refine en_s_iload_n rfl rfl ?_
  obtain ⟨s3, e4, h⟩ := en_b1_h h
  refine en_s_iast rfl rfl e4 ?_
  refine en_s_aload_n rfl rfl ?_
  refine en_s_getR (w := some (7, g, 0)) rfl rfl rfl rfl ?_
  refine en_s_iload rfl rfl ?_
  refine en_s_iconst rfl ?_
  refine en_s_iadd rfl ?_
  refine en_s_aload_n rfl rfl ?_
  refine en_s_getI rfl rfl rfl ?_
  obtain ⟨s5, e6, h⟩ := en_b1_h h
  refine en_s_iast rfl rfl e6 ?_
  refine en_s_aload_n rfl rfl ?_
  refine en_s_getR (w := some (7, g, 0)) rfl rfl rfl rfl ?_
  refine en_s_iload rfl rfl ?_
  refine en_s_iconst rfl ?_
  refine en_s_iadd rfl ?_
  refine en_s_aload_n rfl rfl ?_
  refine en_s_iload_n rfl rfl ?_
  refine en_callV (as := [.inl v2]) (rest := [.inl (((en_fm ((σ 6 g 0 1) + (σ 6 g 0 2)) 40) * 7) + 3), .inr (.inl (some (7, g, 0)))]) (bc' := 0) (bs' := 0) hz rfl (s_sd_sizeOf G hz (d + 0) rfl) lk_4_42 mv_sd_sizeOf rfl rfl rfl rfl rfl (fun _ h => h) (Nat.le_refl _) (Nat.le_refl _) ?_
  obtain ⟨s7, e8, h⟩ := en_b1_h h
  refine en_s_iast rfl rfl e8 ?_
  refine en_s_aload_n rfl rfl ?_
  refine en_s_getR (w := some (7, g, 0)) rfl rfl rfl rfl ?_
  refine en_s_iload rfl rfl ?_
  refine en_s_iconst rfl ?_
  refine en_s_iadd rfl ?_
  refine en_s_iload_n rfl rfl ?_
  obtain ⟨s9, e10, h⟩ := en_b1_h h
  refine en_s_iast rfl rfl e10 ?_
  refine en_s_aload_n rfl rfl ?_
  refine en_s_getR (w := some (7, g, 0)) rfl rfl rfl rfl ?_
  refine en_s_iload rfl rfl ?_
  refine en_s_iconst rfl ?_
  refine en_s_iadd rfl ?_
  refine en_s_iload rfl rfl ?_
  obtain ⟨s11, e12, h⟩ := en_b1_h h
  refine en_s_iast rfl rfl e12 ?_
  refine en_s_aload_n rfl rfl ?_
  refine en_s_getR (w := some (7, g, 0)) rfl rfl rfl rfl ?_
  refine en_s_iload rfl rfl ?_
  refine en_s_bipush rfl ?_
  refine en_s_iadd rfl ?_
  refine en_s_aload_n rfl rfl ?_
  refine en_s_iload_n rfl rfl ?_
  refine en_callV (as := [.inl v2]) (rest := [.inl (((en_fm ((σ 6 g 0 1) + (σ 6 g 0 2)) 40) * 7) + 6), .inr (.inl (some (7, g, 0)))]) (bc' := 0) (bs' := 0) hz rfl (s_sd_whereIs G hz (d + 0) rfl) lk_4_46 mv_sd_whereIs rfl rfl rfl rfl rfl (fun _ h => h) (Nat.le_refl _) (Nat.le_refl _) ?_
  obtain ⟨s13, e14, h⟩ := en_b1_h h
  refine en_s_iast rfl rfl e14 ?_
  refine en_s_aload_n rfl rfl ?_
  refine en_s_getI rfl rfl rfl ?_
  refine en_s_bipush rfl ?_
  refine en_s_icmp_ge rfl (fun c15 => ?_) (fun c15 => ?_)
  · rw [if_pos c15] at h
    refine en_s_aload_n rfl rfl ?_
    refine en_s_aload_n rfl rfl ?_
    refine en_s_getI rfl rfl rfl ?_
    refine en_s_iconst rfl ?_
    refine en_s_iadd rfl ?_
    refine en_s_bipush rfl ?_
    refine en_s_fmod hz rfl (en_tw_of (i := 716) (by decide +kernel) (by decide +kernel)) (by decide) rfl ?_
    obtain ⟨s16, e17, h⟩ := en_let_h h
    refine en_p_putI e17 rfl rfl rfl rfl rfl ?_
    cases h
    exact en_s_vret rfl rfl
  · rw [if_neg c15] at h
    refine en_s_aload_n rfl rfl ?_
    refine en_s_dup rfl rfl ?_
    refine en_s_getI rfl rfl rfl ?_
    refine en_s_iconst rfl ?_
    refine en_s_iadd rfl ?_
    obtain ⟨s18, e19, h⟩ := en_let_h h
    refine en_p_putI e19 rfl rfl rfl rfl rfl ?_
    refine en_s_goto rfl ?_
    cases h
    exact en_s_vret rfl rfl
def k_lg_at (g : Nat) (v1 : Int32) (v2 : Int32) (σ : en_M) : Option (Int32) :=
  if v1 < 0 then
    some (-1)
  else
    if (σ 6 g 0 2) ≤ v1 then
      some (-1)
    else
      if v2 < 0 then
        some (-1)
      else
        if v2 < 7 then
          en_b1 (en_rd 280 (σ 7 g 0) (((en_fm ((σ 6 g 0 1) + v1) 40) * 7) + v2)) fun t5 =>
          some t5
        else
          some (-1)
set_option maxRecDepth 100000 in
set_option maxHeartbeats 4000000 in
theorem s_lg_at (G : en_G) (hz : G.2.2.2.2.2.2.2.2 = none) (d : Nat) {cs : List en_A} {σ : en_M} {g : Nat} {v1 : Int32} {v2 : Int32} {x0 : Int32}  (h : k_lg_at g v1 v2 σ = some x0) : en_Mt G (d + 1) 0 0 M_lg_at [.inr (.inl (some (6, g, 0))), .inl v1, .inl v2] cs en_rf σ (.inr (some (.inl x0))) cs en_rf σ := by
  refine en_meth (ls := [some (.inr (.inl (some (6, g, 0)))), some (.inl v1), some (.inl v2)]) md_lg_at rfl rfl rfl ?_
  unfold k_lg_at at h
  refine en_s_iload_n rfl rfl ?_
  refine en_s_if_lt rfl (fun c1 => ?_) (fun c1 => ?_)
  · rw [if_pos c1] at h
    refine en_s_iconst rfl ?_
    cases h
    exact en_s_iret rfl rfl
  · rw [if_neg c1] at h
    refine en_s_iload_n rfl rfl ?_
    refine en_s_aload_n rfl rfl ?_
    refine en_s_getI rfl rfl rfl ?_
    refine en_s_icmp_ge rfl (fun c2 => ?_) (fun c2 => ?_)
    · rw [if_pos c2] at h
      refine en_s_iconst rfl ?_
      cases h
      exact en_s_iret rfl rfl
    · rw [if_neg c2] at h
      refine en_s_iload_n rfl rfl ?_
      refine en_s_if_lt rfl (fun c3 => ?_) (fun c3 => ?_)
      · rw [if_pos c3] at h
        refine en_s_iconst rfl ?_
        cases h
        exact en_s_iret rfl rfl
      · rw [if_neg c3] at h
        refine en_s_iload_n rfl rfl ?_
        refine en_s_bipush rfl ?_
        refine en_s_icmp_lt rfl (fun c4 => ?_) (fun c4 => ?_)
        · rw [if_pos c4] at h
          refine en_s_aload_n rfl rfl ?_
          refine en_s_getR (w := some (7, g, 0)) rfl rfl rfl rfl ?_
          refine en_s_aload_n rfl rfl ?_
          refine en_s_getI rfl rfl rfl ?_
          refine en_s_iload_n rfl rfl ?_
          refine en_s_iadd rfl ?_
          refine en_s_bipush rfl ?_
          refine en_s_fmod hz rfl (en_tw_of (i := 716) (by decide +kernel) (by decide +kernel)) (by decide) rfl ?_
          refine en_s_bipush rfl ?_
          refine en_s_imul rfl ?_
          refine en_s_iload_n rfl rfl ?_
          refine en_s_iadd rfl ?_
          obtain ⟨t5, h6, h⟩ := en_b1_h h
          refine en_s_iald rfl rfl h6 ?_
          cases h
          exact en_s_iret rfl rfl
        · rw [if_neg c4] at h
          refine en_s_iconst rfl ?_
          cases h
          exact en_s_iret rfl rfl
def k_lg_sizesUntil_6 (f0 : Nat) (g : Nat) (v1 : Int32) (v3 : Int32) (v4 : Int32) (v5 : Int32) (σ : en_M) : Option (Int32) := match f0 with
  | 0 => none
  | f9 + 1 =>
    if (σ 6 g 0 2) ≤ v5 then
      some (v4)
    else
      en_b1 (k_lg_at g v5 5 σ) fun t2 =>
      if v3 ≤ t2 then
        some (v4)
      else
        en_b1 (k_lg_at g v5 2 σ) fun t5 =>
        if t5 = v1 then
          en_b1 (k_lg_at g v5 3 σ) fun t8 =>
          k_lg_sizesUntil_6 f9 g v1 v3 (v4 + t8) (v5 + 1) σ
        else
          k_lg_sizesUntil_6 f9 g v1 v3 (v4 + 0) (v5 + 1) σ
def k_lg_sizesUntil (g : Nat) (v1 : Int32) (v2 : Int32) (v3 : Int32) (σ : en_M) : Option (Int32) :=
  en_b1 (k_lg_sizesUntil_6 en_fu g v1 v3 0 v2 σ) fun x10 =>
  some x10
set_option maxRecDepth 100000 in
set_option maxHeartbeats 4000000 in
theorem s_lg_sizesUntil_6 (G : en_G) (hz : G.2.2.2.2.2.2.2.2 = none) {d : Nat} {r : en_P} {cs cs' : List en_A} {ρ' : en_R} {σ' : en_M} : ∀ (f0 : Nat) {g : Nat} {v1 : Int32} {v3 : Int32} {v4 : Int32} {v5 : Int32} {e2 : Option en_V} {σ : en_M} {x4 : Int32} , k_lg_sizesUntil_6 f0 g v1 v3 v4 v5 σ = some (x4) →
    (∀ (f5 : Option en_V), en_W G (d + 2) 0 0 M_lg_sizesUntil r cs' ρ' σ' 0 0 59 [some (.inr (.inl (some (6, g, 0)))), some (.inl v1), e2, some (.inl v3), some (.inl x4), f5] [] cs en_rf σ) → en_W G (d + 2) 0 0 M_lg_sizesUntil r cs' ρ' σ' 0 0 6 [some (.inr (.inl (some (6, g, 0)))), some (.inl v1), e2, some (.inl v3), some (.inl v4), some (.inl v5)] [] cs en_rf σ := by
  intro f0
  induction f0 with
  | zero =>
    intros
    rename_i h _
    cases h
  | succ f9 ih =>
    intro g v1 v3 v4 v5 e2 σ x4 h hk
    rw [k_lg_sizesUntil_6] at h
    refine en_s_iload rfl rfl ?_
    refine en_s_aload_n rfl rfl ?_
    refine en_s_getI rfl rfl rfl ?_
    refine en_s_icmp_ge rfl (fun c1 => ?_) (fun c1 => ?_)
    · rw [if_pos c1] at h
      cases h
      exact hk (some (.inl v5))
    · rw [if_neg c1] at h
      refine en_s_aload_n rfl rfl ?_
      refine en_s_iload rfl rfl ?_
      refine en_s_iconst rfl ?_
      obtain ⟨t2, h3, h⟩ := en_b1_h h
      refine en_callV (as := [.inl v5, .inl 5]) (rest := []) (bc' := 0) (bs' := 0) hz rfl (s_lg_at G hz (d + 0) h3) lk_4_49 mv_lg_at rfl rfl rfl rfl rfl (fun _ h => h) (Nat.le_refl _) (Nat.le_refl _) ?_
      refine en_s_iload_n rfl rfl ?_
      refine en_s_icmp_ge rfl (fun c4 => ?_) (fun c4 => ?_)
      · rw [if_pos c4] at h
        cases h
        exact hk (some (.inl v5))
      · rw [if_neg c4] at h
        refine en_s_iload rfl rfl ?_
        refine en_s_aload_n rfl rfl ?_
        refine en_s_iload rfl rfl ?_
        refine en_s_iconst rfl ?_
        obtain ⟨t5, h6, h⟩ := en_b1_h h
        refine en_callV (as := [.inl v5, .inl 2]) (rest := [.inl v4]) (bc' := 0) (bs' := 0) hz rfl (s_lg_at G hz (d + 0) h6) lk_4_49 mv_lg_at rfl rfl rfl rfl rfl (fun _ h => h) (Nat.le_refl _) (Nat.le_refl _) ?_
        refine en_s_iload_n rfl rfl ?_
        refine en_s_icmp_ne rfl (fun c7 => ?_) (fun c7 => ?_)
        · rw [if_neg c7] at h
          refine en_s_iconst rfl ?_
          refine en_s_iadd rfl ?_
          refine en_s_istore (ls' := [some (.inr (.inl (some (6, g, 0)))), some (.inl v1), e2, some (.inl v3), some (.inl (v4 + 0)), some (.inl v5)]) rfl rfl rfl ?_
          refine en_s_iinc (ls' := [some (.inr (.inl (some (6, g, 0)))), some (.inl v1), e2, some (.inl v3), some (.inl (v4 + 0)), some (.inl (v5 + 1))]) rfl rfl rfl ?_
          refine en_s_goto rfl ?_
          exact ih (e2 := e2) h hk
        · rw [if_pos c7] at h
          refine en_s_aload_n rfl rfl ?_
          refine en_s_iload rfl rfl ?_
          refine en_s_iconst rfl ?_
          obtain ⟨t8, h9, h⟩ := en_b1_h h
          refine en_callV (as := [.inl v5, .inl 3]) (rest := [.inl v4]) (bc' := 0) (bs' := 0) hz rfl (s_lg_at G hz (d + 0) h9) lk_4_49 mv_lg_at rfl rfl rfl rfl rfl (fun _ h => h) (Nat.le_refl _) (Nat.le_refl _) ?_
          refine en_s_goto rfl ?_
          refine en_s_iadd rfl ?_
          refine en_s_istore (ls' := [some (.inr (.inl (some (6, g, 0)))), some (.inl v1), e2, some (.inl v3), some (.inl (v4 + t8)), some (.inl v5)]) rfl rfl rfl ?_
          refine en_s_iinc (ls' := [some (.inr (.inl (some (6, g, 0)))), some (.inl v1), e2, some (.inl v3), some (.inl (v4 + t8)), some (.inl (v5 + 1))]) rfl rfl rfl ?_
          refine en_s_goto rfl ?_
          exact ih (e2 := e2) h hk
set_option maxRecDepth 100000 in
set_option maxHeartbeats 4000000 in
theorem s_lg_sizesUntil (G : en_G) (hz : G.2.2.2.2.2.2.2.2 = none) (d : Nat) {cs : List en_A} {σ : en_M} {g : Nat} {v1 : Int32} {v2 : Int32} {v3 : Int32} {x0 : Int32}  (h : k_lg_sizesUntil g v1 v2 v3 σ = some x0) : en_Mt G (d + 2) 0 0 M_lg_sizesUntil [.inr (.inl (some (6, g, 0))), .inl v1, .inl v2, .inl v3] cs en_rf σ (.inr (some (.inl x0))) cs en_rf σ := by
  refine en_meth (ls := [some (.inr (.inl (some (6, g, 0)))), some (.inl v1), some (.inl v2), some (.inl v3), none, none]) md_lg_sizesUntil rfl rfl rfl ?_
  unfold k_lg_sizesUntil at h
  refine en_s_iconst rfl ?_
  refine en_s_istore (ls' := [some (.inr (.inl (some (6, g, 0)))), some (.inl v1), some (.inl v2), some (.inl v3), some (.inl 0), none]) rfl rfl rfl ?_
  refine en_s_iload_n rfl rfl ?_
  refine en_s_istore (ls' := [some (.inr (.inl (some (6, g, 0)))), some (.inl v1), some (.inl v2), some (.inl v3), some (.inl 0), some (.inl v2)]) rfl rfl rfl ?_
  obtain ⟨x10, h12, h⟩ := en_b1_h h
  refine s_lg_sizesUntil_6 G hz en_fu (e2 := some (.inl v2)) h12 (fun f11 => ?_)
  refine en_s_iload rfl rfl ?_
  cases h
  exact en_s_iret rfl rfl
def k_lg_burstOf_5 (f0 : Nat) (g : Nat) (v1 : Int32) (v2 : Int32) (v3 : Int32) (v4 : Int32) (σ : en_M) : Option (Int32) := match f0 with
  | 0 => none
  | f9 + 1 =>
    if (σ 6 g 0 2) ≤ v4 then
      some (v3)
    else
      en_b1 (k_lg_at g v4 2 σ) fun t2 =>
      if t2 = v1 then
        en_b1 (k_lg_at g v4 5 σ) fun t5 =>
        en_b1 (k_lg_sizesUntil g v1 v4 (t5 + v2) σ) fun t7 =>
        k_lg_burstOf_5 f9 g v1 v2 (if v3 < t7 then t7 else v3) (v4 + 1) σ
      else
        k_lg_burstOf_5 f9 g v1 v2 v3 (v4 + 1) σ
def k_lg_burstOf (g : Nat) (v1 : Int32) (v2 : Int32) (σ : en_M) : Option (Int32) :=
  en_b1 (k_lg_burstOf_5 en_fu g v1 v2 0 0 σ) fun x9 =>
  some x9
set_option maxRecDepth 100000 in
set_option maxHeartbeats 4000000 in
theorem s_lg_burstOf_5 (G : en_G) (hz : G.2.2.2.2.2.2.2.2 = none) {d : Nat} {r : en_P} {cs cs' : List en_A} {ρ' : en_R} {σ' : en_M} : ∀ (f0 : Nat) {g : Nat} {v1 : Int32} {v2 : Int32} {v3 : Int32} {v4 : Int32}  {σ : en_M} {x3 : Int32} , k_lg_burstOf_5 f0 g v1 v2 v3 v4 σ = some (x3) →
    (∀ (f4 : Option en_V), en_W G (d + 3) 0 0 M_lg_burstOf r cs' ρ' σ' 0 0 52 [some (.inr (.inl (some (6, g, 0)))), some (.inl v1), some (.inl v2), some (.inl x3), f4] [] cs en_rf σ) → en_W G (d + 3) 0 0 M_lg_burstOf r cs' ρ' σ' 0 0 5 [some (.inr (.inl (some (6, g, 0)))), some (.inl v1), some (.inl v2), some (.inl v3), some (.inl v4)] [] cs en_rf σ := by
  intro f0
  induction f0 with
  | zero =>
    intros
    rename_i h _
    cases h
  | succ f9 ih =>
    intro g v1 v2 v3 v4 σ x3 h hk
    rw [k_lg_burstOf_5] at h
    refine en_s_iload rfl rfl ?_
    refine en_s_aload_n rfl rfl ?_
    refine en_s_getI rfl rfl rfl ?_
    refine en_s_icmp_ge rfl (fun c1 => ?_) (fun c1 => ?_)
    · rw [if_pos c1] at h
      cases h
      exact hk (some (.inl v4))
    · rw [if_neg c1] at h
      refine en_s_aload_n rfl rfl ?_
      refine en_s_iload rfl rfl ?_
      refine en_s_iconst rfl ?_
      obtain ⟨t2, h3, h⟩ := en_b1_h h
      refine en_callV (as := [.inl v4, .inl 2]) (rest := []) (bc' := 0) (bs' := 0) hz rfl (s_lg_at G hz (d + 1) h3) lk_4_49 mv_lg_at rfl rfl rfl rfl rfl (fun _ h => h) (Nat.le_refl _) (Nat.le_refl _) ?_
      refine en_s_iload_n rfl rfl ?_
      refine en_s_icmp_ne rfl (fun c4 => ?_) (fun c4 => ?_)
      · rw [if_neg c4] at h
        refine en_s_iinc (ls' := [some (.inr (.inl (some (6, g, 0)))), some (.inl v1), some (.inl v2), some (.inl v3), some (.inl (v4 + 1))]) rfl rfl rfl ?_
        refine en_s_goto rfl ?_
        exact ih  h hk
      · rw [if_pos c4] at h
        refine en_s_iload_n rfl rfl ?_
        refine en_s_aload_n rfl rfl ?_
        refine en_s_iload_n rfl rfl ?_
        refine en_s_iload rfl rfl ?_
        refine en_s_aload_n rfl rfl ?_
        refine en_s_iload rfl rfl ?_
        refine en_s_iconst rfl ?_
        obtain ⟨t5, h6, h⟩ := en_b1_h h
        refine en_callV (as := [.inl v4, .inl 5]) (rest := [.inl v4, .inl v1, .inr (.inl (some (6, g, 0))), .inl v3]) (bc' := 0) (bs' := 0) hz rfl (s_lg_at G hz (d + 1) h6) lk_4_49 mv_lg_at rfl rfl rfl rfl rfl (fun _ h => h) (Nat.le_refl _) (Nat.le_refl _) ?_
        refine en_s_iload_n rfl rfl ?_
        refine en_s_iadd rfl ?_
        obtain ⟨t7, h8, h⟩ := en_b1_h h
        refine en_callV (as := [.inl v1, .inl v4, .inl (t5 + v2)]) (rest := [.inl v3]) (bc' := 0) (bs' := 0) hz rfl (s_lg_sizesUntil G hz (d + 0) h8) lk_4_55 mv_lg_sizesUntil rfl rfl rfl rfl rfl (fun _ h => h) (Nat.le_refl _) (Nat.le_refl _) ?_
        refine en_s_max rfl (en_tw_of (i := 726) (by decide +kernel) (by decide +kernel)) mx_st_max mx_in mx_cd_max rfl ?_
        refine en_s_istore_n (ls' := [some (.inr (.inl (some (6, g, 0)))), some (.inl v1), some (.inl v2), some (.inl ((if v3 < t7 then t7 else v3))), some (.inl v4)]) rfl rfl rfl ?_
        refine en_s_iinc (ls' := [some (.inr (.inl (some (6, g, 0)))), some (.inl v1), some (.inl v2), some (.inl ((if v3 < t7 then t7 else v3))), some (.inl (v4 + 1))]) rfl rfl rfl ?_
        refine en_s_goto rfl ?_
        exact ih  h hk
set_option maxRecDepth 100000 in
set_option maxHeartbeats 4000000 in
theorem s_lg_burstOf (G : en_G) (hz : G.2.2.2.2.2.2.2.2 = none) (d : Nat) {cs : List en_A} {σ : en_M} {g : Nat} {v1 : Int32} {v2 : Int32} {x0 : Int32}  (h : k_lg_burstOf g v1 v2 σ = some x0) : en_Mt G (d + 3) 0 0 M_lg_burstOf [.inr (.inl (some (6, g, 0))), .inl v1, .inl v2] cs en_rf σ (.inr (some (.inl x0))) cs en_rf σ := by
  refine en_meth (ls := [some (.inr (.inl (some (6, g, 0)))), some (.inl v1), some (.inl v2), none, none]) md_lg_burstOf rfl rfl rfl ?_
  unfold k_lg_burstOf at h
  refine en_s_iconst rfl ?_
  refine en_s_istore_n (ls' := [some (.inr (.inl (some (6, g, 0)))), some (.inl v1), some (.inl v2), some (.inl 0), none]) rfl rfl rfl ?_
  refine en_s_iconst rfl ?_
  refine en_s_istore (ls' := [some (.inr (.inl (some (6, g, 0)))), some (.inl v1), some (.inl v2), some (.inl 0), some (.inl 0)]) rfl rfl rfl ?_
  obtain ⟨x9, h11, h⟩ := en_b1_h h
  refine s_lg_burstOf_5 G hz en_fu  h11 (fun f10 => ?_)
  refine en_s_iload_n rfl rfl ?_
  cases h
  exact en_s_iret rfl rfl
def k_lg_clear (g : Nat) (σ : en_M) : Option (en_M) :=
  en_let (en_wr σ 6 g 0 1 0) fun s1 =>
  en_let (en_wr s1 6 g 0 2 0) fun s3 =>
  some s3
set_option maxRecDepth 100000 in
set_option maxHeartbeats 4000000 in
theorem s_lg_clear (G : en_G) (hz : G.2.2.2.2.2.2.2.2 = none) (d : Nat) {cs : List en_A} {σ : en_M} {g : Nat} {s0 : en_M}  (h : k_lg_clear g σ = some s0) : en_Mt G (d + 0) 0 0 M_lg_clear [.inr (.inl (some (6, g, 0)))] cs en_rf σ (.inr (none)) cs en_rf s0 := by
  refine en_meth (ls := [some (.inr (.inl (some (6, g, 0))))]) md_lg_clear rfl rfl rfl ?_
  unfold k_lg_clear at h
  refine en_s_aload_n rfl rfl ?_
  refine en_s_iconst rfl ?_
  obtain ⟨s1, e2, h⟩ := en_let_h h
  refine en_p_putI e2 rfl rfl rfl rfl rfl ?_
  refine en_s_aload_n rfl rfl ?_
  refine en_s_iconst rfl ?_
  obtain ⟨s3, e4, h⟩ := en_let_h h
  refine en_p_putI e4 rfl rfl rfl rfl rfl ?_
  cases h
  exact en_s_vret rfl rfl
def k_lg_copyFrom (g : Nat) (g1 : Nat) (σ : en_M) : Option (en_M) :=
  en_let (en_cp σ 7 g1 0 7 g 0 280) fun s1 =>
  en_let (en_wr s1 6 g 0 1 (s1 6 g1 0 1)) fun s3 =>
  en_let (en_wr s3 6 g 0 2 (s3 6 g1 0 2)) fun s5 =>
  some s5
set_option maxRecDepth 100000 in
set_option maxHeartbeats 4000000 in
theorem s_lg_copyFrom (G : en_G) (hz : G.2.2.2.2.2.2.2.2 = none) (d : Nat) {cs : List en_A} {σ : en_M} {g : Nat} {g1 : Nat} {s0 : en_M}  (h : k_lg_copyFrom g g1 σ = some s0) : en_Mt G (d + 1) 0 0 M_lg_copyFrom [.inr (.inl (some (6, g, 0))), .inr (.inl (some (6, g1, 0)))] cs en_rf σ (.inr (none)) cs en_rf s0 := by
  refine en_meth (ls := [some (.inr (.inl (some (6, g, 0)))), some (.inr (.inl (some (6, g1, 0))))]) md_lg_copyFrom rfl rfl rfl ?_
  unfold k_lg_copyFrom at h
  refine en_s_aload_n rfl rfl ?_
  refine en_s_getR (w := some (7, g1, 0)) rfl rfl rfl rfl ?_
  refine en_s_iconst rfl ?_
  refine en_s_aload_n rfl rfl ?_
  refine en_s_getR (w := some (7, g, 0)) rfl rfl rfl rfl ?_
  refine en_s_iconst rfl ?_
  refine en_s_sipush rfl ?_
  obtain ⟨s1, e2, h⟩ := en_let_h h
  refine en_s_copy e2 rfl (en_tw_of (i := 629) (by decide +kernel) (by decide +kernel)) rfl rfl (by decide) (by decide) rfl rfl rfl ?_
  refine en_s_aload_n rfl rfl ?_
  refine en_s_aload_n rfl rfl ?_
  refine en_s_getI rfl rfl rfl ?_
  obtain ⟨s3, e4, h⟩ := en_let_h h
  refine en_p_putI e4 rfl rfl rfl rfl rfl ?_
  refine en_s_aload_n rfl rfl ?_
  refine en_s_aload_n rfl rfl ?_
  refine en_s_getI rfl rfl rfl ?_
  obtain ⟨s5, e6, h⟩ := en_let_h h
  refine en_p_putI e6 rfl rfl rfl rfl rfl ?_
  cases h
  exact en_s_vret rfl rfl
def k_lg_lateOf (g : Nat) (v1 : Int32) (σ : en_M) : Option (Int32) :=
  if v1 < 0 then
    some (-1)
  else
    if v1 < (σ 6 g 0 2) then
      en_b1 (k_lg_at g v1 5 σ) fun t3 =>
      en_b1 (k_lg_at g v1 4 σ) fun t5 =>
      some (t3 - t5)
    else
      some (-1)
set_option maxRecDepth 100000 in
set_option maxHeartbeats 4000000 in
theorem s_lg_lateOf (G : en_G) (hz : G.2.2.2.2.2.2.2.2 = none) (d : Nat) {cs : List en_A} {σ : en_M} {g : Nat} {v1 : Int32} {x0 : Int32}  (h : k_lg_lateOf g v1 σ = some x0) : en_Mt G (d + 2) 0 0 M_lg_lateOf [.inr (.inl (some (6, g, 0))), .inl v1] cs en_rf σ (.inr (some (.inl x0))) cs en_rf σ := by
  refine en_meth (ls := [some (.inr (.inl (some (6, g, 0)))), some (.inl v1)]) md_lg_lateOf rfl rfl rfl ?_
  unfold k_lg_lateOf at h
  refine en_s_iload_n rfl rfl ?_
  refine en_s_if_lt rfl (fun c1 => ?_) (fun c1 => ?_)
  · rw [if_pos c1] at h
    refine en_s_iconst rfl ?_
    refine en_s_goto rfl ?_
    cases h
    exact en_s_iret rfl rfl
  · rw [if_neg c1] at h
    refine en_s_iload_n rfl rfl ?_
    refine en_s_aload_n rfl rfl ?_
    refine en_s_getI rfl rfl rfl ?_
    refine en_s_icmp_lt rfl (fun c2 => ?_) (fun c2 => ?_)
    · rw [if_pos c2] at h
      refine en_s_aload_n rfl rfl ?_
      refine en_s_iload_n rfl rfl ?_
      refine en_s_iconst rfl ?_
      obtain ⟨t3, h4, h⟩ := en_b1_h h
      refine en_callV (as := [.inl v1, .inl 5]) (rest := []) (bc' := 0) (bs' := 0) hz rfl (s_lg_at G hz (d + 0) h4) lk_4_49 mv_lg_at rfl rfl rfl rfl rfl (fun _ h => h) (Nat.le_refl _) (Nat.le_refl _) ?_
      refine en_s_aload_n rfl rfl ?_
      refine en_s_iload_n rfl rfl ?_
      refine en_s_iconst rfl ?_
      obtain ⟨t5, h6, h⟩ := en_b1_h h
      refine en_callV (as := [.inl v1, .inl 4]) (rest := [.inl t3]) (bc' := 0) (bs' := 0) hz rfl (s_lg_at G hz (d + 0) h6) lk_4_49 mv_lg_at rfl rfl rfl rfl rfl (fun _ h => h) (Nat.le_refl _) (Nat.le_refl _) ?_
      refine en_s_isub rfl ?_
      cases h
      exact en_s_iret rfl rfl
    · rw [if_neg c2] at h
      refine en_s_iconst rfl ?_
      refine en_s_goto rfl ?_
      cases h
      exact en_s_iret rfl rfl
def k_lg_delayOf_7 (f0 : Nat) (g : Nat) (v1 : Int32) (v2 : Int32) (v3 : Int32) (v4 : Int32) (σ : en_M) : Option (Int32 × Int32) := match f0 with
  | 0 => none
  | f9 + 1 =>
    if (σ 6 g 0 2) ≤ v4 then
      some (v2, v3)
    else
      en_b1 (k_lg_at g v4 2 σ) fun t2 =>
      if t2 = v1 then
        en_b1 (k_lg_lateOf g v4 σ) fun t5 =>
        k_lg_delayOf_7 f9 g v1 (v2 + t5) (v3 + 1) (v4 + 1) σ
      else
        k_lg_delayOf_7 f9 g v1 v2 v3 (v4 + 1) σ
def k_lg_delayOf (g : Nat) (v1 : Int32) (σ : en_M) : Option (Int32) :=
  en_b2 (k_lg_delayOf_7 en_fu g v1 0 0 0 σ) fun x7 x8 =>
  if 0 < x8 then
    en_b1 (en_dv (100 * x7) x8) fun t12 =>
    some t12
  else
    some (-1)
set_option maxRecDepth 100000 in
set_option maxHeartbeats 4000000 in
theorem s_lg_delayOf_7 (G : en_G) (hz : G.2.2.2.2.2.2.2.2 = none) {d : Nat} {r : en_P} {cs cs' : List en_A} {ρ' : en_R} {σ' : en_M} : ∀ (f0 : Nat) {g : Nat} {v1 : Int32} {v2 : Int32} {v3 : Int32} {v4 : Int32}  {σ : en_M} {x2 : Int32} {x3 : Int32} , k_lg_delayOf_7 f0 g v1 v2 v3 v4 σ = some (x2, x3) →
    (∀ (f4 : Option en_V), en_W G (d + 3) 0 0 M_lg_delayOf r cs' ρ' σ' 0 0 45 [some (.inr (.inl (some (6, g, 0)))), some (.inl v1), some (.inl x2), some (.inl x3), f4] [] cs en_rf σ) → en_W G (d + 3) 0 0 M_lg_delayOf r cs' ρ' σ' 0 0 7 [some (.inr (.inl (some (6, g, 0)))), some (.inl v1), some (.inl v2), some (.inl v3), some (.inl v4)] [] cs en_rf σ := by
  intro f0
  induction f0 with
  | zero =>
    intros
    rename_i h _
    cases h
  | succ f9 ih =>
    intro g v1 v2 v3 v4 σ x2 x3 h hk
    rw [k_lg_delayOf_7] at h
    refine en_s_iload rfl rfl ?_
    refine en_s_aload_n rfl rfl ?_
    refine en_s_getI rfl rfl rfl ?_
    refine en_s_icmp_ge rfl (fun c1 => ?_) (fun c1 => ?_)
    · rw [if_pos c1] at h
      cases h
      exact hk (some (.inl v4))
    · rw [if_neg c1] at h
      refine en_s_aload_n rfl rfl ?_
      refine en_s_iload rfl rfl ?_
      refine en_s_iconst rfl ?_
      obtain ⟨t2, h3, h⟩ := en_b1_h h
      refine en_callV (as := [.inl v4, .inl 2]) (rest := []) (bc' := 0) (bs' := 0) hz rfl (s_lg_at G hz (d + 1) h3) lk_4_49 mv_lg_at rfl rfl rfl rfl rfl (fun _ h => h) (Nat.le_refl _) (Nat.le_refl _) ?_
      refine en_s_iload_n rfl rfl ?_
      refine en_s_icmp_ne rfl (fun c4 => ?_) (fun c4 => ?_)
      · rw [if_neg c4] at h
        refine en_s_iinc (ls' := [some (.inr (.inl (some (6, g, 0)))), some (.inl v1), some (.inl v2), some (.inl v3), some (.inl (v4 + 1))]) rfl rfl rfl ?_
        refine en_s_goto rfl ?_
        exact ih  h hk
      · rw [if_pos c4] at h
        refine en_s_iload_n rfl rfl ?_
        refine en_s_aload_n rfl rfl ?_
        refine en_s_iload rfl rfl ?_
        obtain ⟨t5, h6, h⟩ := en_b1_h h
        refine en_callV (as := [.inl v4]) (rest := [.inl v2]) (bc' := 0) (bs' := 0) hz rfl (s_lg_lateOf G hz (d + 0) h6) lk_4_52 mv_lg_lateOf rfl rfl rfl rfl rfl (fun _ h => h) (Nat.le_refl _) (Nat.le_refl _) ?_
        refine en_s_iadd rfl ?_
        refine en_s_istore_n (ls' := [some (.inr (.inl (some (6, g, 0)))), some (.inl v1), some (.inl (v2 + t5)), some (.inl v3), some (.inl v4)]) rfl rfl rfl ?_
        refine en_s_iinc (ls' := [some (.inr (.inl (some (6, g, 0)))), some (.inl v1), some (.inl (v2 + t5)), some (.inl (v3 + 1)), some (.inl v4)]) rfl rfl rfl ?_
        refine en_s_iinc (ls' := [some (.inr (.inl (some (6, g, 0)))), some (.inl v1), some (.inl (v2 + t5)), some (.inl (v3 + 1)), some (.inl (v4 + 1))]) rfl rfl rfl ?_
        refine en_s_goto rfl ?_
        exact ih  h hk
set_option maxRecDepth 100000 in
set_option maxHeartbeats 4000000 in
theorem s_lg_delayOf (G : en_G) (hz : G.2.2.2.2.2.2.2.2 = none) (d : Nat) {cs : List en_A} {σ : en_M} {g : Nat} {v1 : Int32} {x0 : Int32}  (h : k_lg_delayOf g v1 σ = some x0) : en_Mt G (d + 3) 0 0 M_lg_delayOf [.inr (.inl (some (6, g, 0))), .inl v1] cs en_rf σ (.inr (some (.inl x0))) cs en_rf σ := by
  refine en_meth (ls := [some (.inr (.inl (some (6, g, 0)))), some (.inl v1), none, none, none]) md_lg_delayOf rfl rfl rfl ?_
  unfold k_lg_delayOf at h
  refine en_s_iconst rfl ?_
  refine en_s_istore_n (ls' := [some (.inr (.inl (some (6, g, 0)))), some (.inl v1), some (.inl 0), none, none]) rfl rfl rfl ?_
  refine en_s_iconst rfl ?_
  refine en_s_istore_n (ls' := [some (.inr (.inl (some (6, g, 0)))), some (.inl v1), some (.inl 0), some (.inl 0), none]) rfl rfl rfl ?_
  refine en_s_iconst rfl ?_
  refine en_s_istore (ls' := [some (.inr (.inl (some (6, g, 0)))), some (.inl v1), some (.inl 0), some (.inl 0), some (.inl 0)]) rfl rfl rfl ?_
  obtain ⟨x7, x8, h10, h⟩ := en_b2_h h
  refine s_lg_delayOf_7 G hz en_fu  h10 (fun f9 => ?_)
  refine en_s_iload_n rfl rfl ?_
  refine en_s_if_gt rfl (fun c11 => ?_) (fun c11 => ?_)
  · rw [if_pos c11] at h
    refine en_s_bipush rfl ?_
    refine en_s_iload_n rfl rfl ?_
    refine en_s_imul rfl ?_
    refine en_s_iload_n rfl rfl ?_
    obtain ⟨t12, h13, h⟩ := en_b1_h h
    refine en_p_idiv h13 rfl ?_
    cases h
    exact en_s_iret rfl rfl
  · rw [if_neg c11] at h
    refine en_s_iconst rfl ?_
    refine en_s_goto rfl ?_
    cases h
    exact en_s_iret rfl rfl
def k_lg_jitterOf_15 (f0 : Nat) (g : Nat) (v1 : Int32) (v2 : Int32) (v3 : Int32) (v4 : Int32) (v5 : Int32) (v6 : Int32) (σ : en_M) : Option (Int32 × Int32 × Int32) := match f0 with
  | 0 => none
  | f9 + 1 =>
    if (σ 6 g 0 2) ≤ v6 then
      some (v2, v4, v5)
    else
      en_b1 (k_lg_at g v6 2 σ) fun t2 =>
      if t2 = v1 then
        en_b1 (k_lg_at g v6 5 σ) fun t5 =>
        if v2 = 0 then
          if v2 = 0 then
            en_b1 (k_lg_at g v6 5 σ) fun t16 =>
            k_lg_jitterOf_15 f9 g v1 (v2 + 1) t16 v4 v5 (v6 + 1) σ
          else
            en_b1 (k_lg_at g v6 5 σ) fun t14 =>
            k_lg_jitterOf_15 f9 g v1 (v2 + 1) t14 v4 (if v5 < (t5 - v3) then (t5 - v3) else v5) (v6 + 1) σ
        else
          if v2 = 0 then
            en_b1 (k_lg_at g v6 5 σ) fun t11 =>
            k_lg_jitterOf_15 f9 g v1 (v2 + 1) t11 (if (t5 - v3) < v4 then (t5 - v3) else v4) v5 (v6 + 1) σ
          else
            en_b1 (k_lg_at g v6 5 σ) fun t9 =>
            k_lg_jitterOf_15 f9 g v1 (v2 + 1) t9 (if (t5 - v3) < v4 then (t5 - v3) else v4) (if v5 < (t5 - v3) then (t5 - v3) else v5) (v6 + 1) σ
      else
        k_lg_jitterOf_15 f9 g v1 v2 v3 v4 v5 (v6 + 1) σ
def k_lg_jitterOf (g : Nat) (v1 : Int32) (σ : en_M) : Option (Int32) :=
  en_b3 (k_lg_jitterOf_15 en_fu g v1 0 0 9999 0 0 σ) fun x18 x20 x21 =>
  if 3 ≤ x18 then
    some (x21 - x20)
  else
    some (-1)
set_option maxRecDepth 100000 in
set_option maxHeartbeats 4000000 in
theorem s_lg_jitterOf_15 (G : en_G) (hz : G.2.2.2.2.2.2.2.2 = none) {d : Nat} {r : en_P} {cs cs' : List en_A} {ρ' : en_R} {σ' : en_M} : ∀ (f0 : Nat) {g : Nat} {v1 : Int32} {v2 : Int32} {v3 : Int32} {v4 : Int32} {v5 : Int32} {v6 : Int32} {e7 : Option en_V} {σ : en_M} {x2 : Int32} {x4 : Int32} {x5 : Int32} , k_lg_jitterOf_15 f0 g v1 v2 v3 v4 v5 v6 σ = some (x2, x4, x5) →
    (∀ (f3 : Option en_V) (f6 : Option en_V) (f7 : Option en_V), en_W G (d + 2) 0 0 M_lg_jitterOf r cs' ρ' σ' 0 0 99 [some (.inr (.inl (some (6, g, 0)))), some (.inl v1), some (.inl x2), f3, some (.inl x4), some (.inl x5), f6, f7] [] cs en_rf σ) → en_W G (d + 2) 0 0 M_lg_jitterOf r cs' ρ' σ' 0 0 15 [some (.inr (.inl (some (6, g, 0)))), some (.inl v1), some (.inl v2), some (.inl v3), some (.inl v4), some (.inl v5), some (.inl v6), e7] [] cs en_rf σ := by
  intro f0
  induction f0 with
  | zero =>
    intros
    rename_i h _
    cases h
  | succ f9 ih =>
    intro g v1 v2 v3 v4 v5 v6 e7 σ x2 x4 x5 h hk
    rw [k_lg_jitterOf_15] at h
    refine en_s_iload rfl rfl ?_
    refine en_s_aload_n rfl rfl ?_
    refine en_s_getI rfl rfl rfl ?_
    refine en_s_icmp_ge rfl (fun c1 => ?_) (fun c1 => ?_)
    · rw [if_pos c1] at h
      cases h
      exact hk (some (.inl v3)) (some (.inl v6)) (e7)
    · rw [if_neg c1] at h
      refine en_s_aload_n rfl rfl ?_
      refine en_s_iload rfl rfl ?_
      refine en_s_iconst rfl ?_
      obtain ⟨t2, h3, h⟩ := en_b1_h h
      refine en_callV (as := [.inl v6, .inl 2]) (rest := []) (bc' := 0) (bs' := 0) hz rfl (s_lg_at G hz (d + 0) h3) lk_4_49 mv_lg_at rfl rfl rfl rfl rfl (fun _ h => h) (Nat.le_refl _) (Nat.le_refl _) ?_
      refine en_s_iload_n rfl rfl ?_
      refine en_s_icmp_ne rfl (fun c4 => ?_) (fun c4 => ?_)
      · rw [if_neg c4] at h
        refine en_s_iinc (ls' := [some (.inr (.inl (some (6, g, 0)))), some (.inl v1), some (.inl v2), some (.inl v3), some (.inl v4), some (.inl v5), some (.inl (v6 + 1)), e7]) rfl rfl rfl ?_
        refine en_s_goto rfl ?_
        exact ih (e7 := e7) h hk
      · rw [if_pos c4] at h
        refine en_s_aload_n rfl rfl ?_
        refine en_s_iload rfl rfl ?_
        refine en_s_iconst rfl ?_
        obtain ⟨t5, h6, h⟩ := en_b1_h h
        refine en_callV (as := [.inl v6, .inl 5]) (rest := []) (bc' := 0) (bs' := 0) hz rfl (s_lg_at G hz (d + 0) h6) lk_4_49 mv_lg_at rfl rfl rfl rfl rfl (fun _ h => h) (Nat.le_refl _) (Nat.le_refl _) ?_
        refine en_s_iload_n rfl rfl ?_
        refine en_s_isub rfl ?_
        refine en_s_istore (ls' := [some (.inr (.inl (some (6, g, 0)))), some (.inl v1), some (.inl v2), some (.inl v3), some (.inl v4), some (.inl v5), some (.inl v6), some (.inl (t5 - v3))]) rfl rfl rfl ?_
        refine en_s_iload_n rfl rfl ?_
        refine en_s_if_ne rfl (fun c7 => ?_) (fun c7 => ?_)
        · rw [if_neg c7] at h
          refine en_s_iload rfl rfl ?_
          refine en_s_iload rfl rfl ?_
          refine en_s_min rfl (en_tw_of (i := 1255) (by decide +kernel) (by decide +kernel)) mx_st_min mx_in mx_cd_min rfl ?_
          refine en_s_istore (ls' := [some (.inr (.inl (some (6, g, 0)))), some (.inl v1), some (.inl v2), some (.inl v3), some (.inl ((if (t5 - v3) < v4 then (t5 - v3) else v4))), some (.inl v5), some (.inl v6), some (.inl (t5 - v3))]) rfl rfl rfl ?_
          refine en_s_iload_n rfl rfl ?_
          refine en_s_if_ne rfl (fun c8 => ?_) (fun c8 => ?_)
          · rw [if_neg c8] at h
            refine en_s_iload rfl rfl ?_
            refine en_s_iload rfl rfl ?_
            refine en_s_max rfl (en_tw_of (i := 726) (by decide +kernel) (by decide +kernel)) mx_st_max mx_in mx_cd_max rfl ?_
            refine en_s_istore (ls' := [some (.inr (.inl (some (6, g, 0)))), some (.inl v1), some (.inl v2), some (.inl v3), some (.inl ((if (t5 - v3) < v4 then (t5 - v3) else v4))), some (.inl ((if v5 < (t5 - v3) then (t5 - v3) else v5))), some (.inl v6), some (.inl (t5 - v3))]) rfl rfl rfl ?_
            refine en_s_aload_n rfl rfl ?_
            refine en_s_iload rfl rfl ?_
            refine en_s_iconst rfl ?_
            obtain ⟨t9, h10, h⟩ := en_b1_h h
            refine en_callV (as := [.inl v6, .inl 5]) (rest := []) (bc' := 0) (bs' := 0) hz rfl (s_lg_at G hz (d + 0) h10) lk_4_49 mv_lg_at rfl rfl rfl rfl rfl (fun _ h => h) (Nat.le_refl _) (Nat.le_refl _) ?_
            refine en_s_istore_n (ls' := [some (.inr (.inl (some (6, g, 0)))), some (.inl v1), some (.inl v2), some (.inl t9), some (.inl ((if (t5 - v3) < v4 then (t5 - v3) else v4))), some (.inl ((if v5 < (t5 - v3) then (t5 - v3) else v5))), some (.inl v6), some (.inl (t5 - v3))]) rfl rfl rfl ?_
            refine en_s_iinc (ls' := [some (.inr (.inl (some (6, g, 0)))), some (.inl v1), some (.inl (v2 + 1)), some (.inl t9), some (.inl ((if (t5 - v3) < v4 then (t5 - v3) else v4))), some (.inl ((if v5 < (t5 - v3) then (t5 - v3) else v5))), some (.inl v6), some (.inl (t5 - v3))]) rfl rfl rfl ?_
            refine en_s_iinc (ls' := [some (.inr (.inl (some (6, g, 0)))), some (.inl v1), some (.inl (v2 + 1)), some (.inl t9), some (.inl ((if (t5 - v3) < v4 then (t5 - v3) else v4))), some (.inl ((if v5 < (t5 - v3) then (t5 - v3) else v5))), some (.inl (v6 + 1)), some (.inl (t5 - v3))]) rfl rfl rfl ?_
            refine en_s_goto rfl ?_
            exact ih (e7 := some (.inl (t5 - v3))) h hk
          · rw [if_pos c8] at h
            refine en_s_iload rfl rfl ?_
            refine en_s_goto rfl ?_
            refine en_s_istore (ls' := [some (.inr (.inl (some (6, g, 0)))), some (.inl v1), some (.inl v2), some (.inl v3), some (.inl ((if (t5 - v3) < v4 then (t5 - v3) else v4))), some (.inl v5), some (.inl v6), some (.inl (t5 - v3))]) rfl rfl rfl ?_
            refine en_s_aload_n rfl rfl ?_
            refine en_s_iload rfl rfl ?_
            refine en_s_iconst rfl ?_
            obtain ⟨t11, h12, h⟩ := en_b1_h h
            refine en_callV (as := [.inl v6, .inl 5]) (rest := []) (bc' := 0) (bs' := 0) hz rfl (s_lg_at G hz (d + 0) h12) lk_4_49 mv_lg_at rfl rfl rfl rfl rfl (fun _ h => h) (Nat.le_refl _) (Nat.le_refl _) ?_
            refine en_s_istore_n (ls' := [some (.inr (.inl (some (6, g, 0)))), some (.inl v1), some (.inl v2), some (.inl t11), some (.inl ((if (t5 - v3) < v4 then (t5 - v3) else v4))), some (.inl v5), some (.inl v6), some (.inl (t5 - v3))]) rfl rfl rfl ?_
            refine en_s_iinc (ls' := [some (.inr (.inl (some (6, g, 0)))), some (.inl v1), some (.inl (v2 + 1)), some (.inl t11), some (.inl ((if (t5 - v3) < v4 then (t5 - v3) else v4))), some (.inl v5), some (.inl v6), some (.inl (t5 - v3))]) rfl rfl rfl ?_
            refine en_s_iinc (ls' := [some (.inr (.inl (some (6, g, 0)))), some (.inl v1), some (.inl (v2 + 1)), some (.inl t11), some (.inl ((if (t5 - v3) < v4 then (t5 - v3) else v4))), some (.inl v5), some (.inl (v6 + 1)), some (.inl (t5 - v3))]) rfl rfl rfl ?_
            refine en_s_goto rfl ?_
            exact ih (e7 := some (.inl (t5 - v3))) h hk
        · rw [if_pos c7] at h
          refine en_s_iload rfl rfl ?_
          refine en_s_goto rfl ?_
          refine en_s_istore (ls' := [some (.inr (.inl (some (6, g, 0)))), some (.inl v1), some (.inl v2), some (.inl v3), some (.inl v4), some (.inl v5), some (.inl v6), some (.inl (t5 - v3))]) rfl rfl rfl ?_
          refine en_s_iload_n rfl rfl ?_
          refine en_s_if_ne rfl (fun c13 => ?_) (fun c13 => ?_)
          · rw [if_neg c13] at h
            refine en_s_iload rfl rfl ?_
            refine en_s_iload rfl rfl ?_
            refine en_s_max rfl (en_tw_of (i := 726) (by decide +kernel) (by decide +kernel)) mx_st_max mx_in mx_cd_max rfl ?_
            refine en_s_istore (ls' := [some (.inr (.inl (some (6, g, 0)))), some (.inl v1), some (.inl v2), some (.inl v3), some (.inl v4), some (.inl ((if v5 < (t5 - v3) then (t5 - v3) else v5))), some (.inl v6), some (.inl (t5 - v3))]) rfl rfl rfl ?_
            refine en_s_aload_n rfl rfl ?_
            refine en_s_iload rfl rfl ?_
            refine en_s_iconst rfl ?_
            obtain ⟨t14, h15, h⟩ := en_b1_h h
            refine en_callV (as := [.inl v6, .inl 5]) (rest := []) (bc' := 0) (bs' := 0) hz rfl (s_lg_at G hz (d + 0) h15) lk_4_49 mv_lg_at rfl rfl rfl rfl rfl (fun _ h => h) (Nat.le_refl _) (Nat.le_refl _) ?_
            refine en_s_istore_n (ls' := [some (.inr (.inl (some (6, g, 0)))), some (.inl v1), some (.inl v2), some (.inl t14), some (.inl v4), some (.inl ((if v5 < (t5 - v3) then (t5 - v3) else v5))), some (.inl v6), some (.inl (t5 - v3))]) rfl rfl rfl ?_
            refine en_s_iinc (ls' := [some (.inr (.inl (some (6, g, 0)))), some (.inl v1), some (.inl (v2 + 1)), some (.inl t14), some (.inl v4), some (.inl ((if v5 < (t5 - v3) then (t5 - v3) else v5))), some (.inl v6), some (.inl (t5 - v3))]) rfl rfl rfl ?_
            refine en_s_iinc (ls' := [some (.inr (.inl (some (6, g, 0)))), some (.inl v1), some (.inl (v2 + 1)), some (.inl t14), some (.inl v4), some (.inl ((if v5 < (t5 - v3) then (t5 - v3) else v5))), some (.inl (v6 + 1)), some (.inl (t5 - v3))]) rfl rfl rfl ?_
            refine en_s_goto rfl ?_
            exact ih (e7 := some (.inl (t5 - v3))) h hk
          · rw [if_pos c13] at h
            refine en_s_iload rfl rfl ?_
            refine en_s_goto rfl ?_
            refine en_s_istore (ls' := [some (.inr (.inl (some (6, g, 0)))), some (.inl v1), some (.inl v2), some (.inl v3), some (.inl v4), some (.inl v5), some (.inl v6), some (.inl (t5 - v3))]) rfl rfl rfl ?_
            refine en_s_aload_n rfl rfl ?_
            refine en_s_iload rfl rfl ?_
            refine en_s_iconst rfl ?_
            obtain ⟨t16, h17, h⟩ := en_b1_h h
            refine en_callV (as := [.inl v6, .inl 5]) (rest := []) (bc' := 0) (bs' := 0) hz rfl (s_lg_at G hz (d + 0) h17) lk_4_49 mv_lg_at rfl rfl rfl rfl rfl (fun _ h => h) (Nat.le_refl _) (Nat.le_refl _) ?_
            refine en_s_istore_n (ls' := [some (.inr (.inl (some (6, g, 0)))), some (.inl v1), some (.inl v2), some (.inl t16), some (.inl v4), some (.inl v5), some (.inl v6), some (.inl (t5 - v3))]) rfl rfl rfl ?_
            refine en_s_iinc (ls' := [some (.inr (.inl (some (6, g, 0)))), some (.inl v1), some (.inl (v2 + 1)), some (.inl t16), some (.inl v4), some (.inl v5), some (.inl v6), some (.inl (t5 - v3))]) rfl rfl rfl ?_
            refine en_s_iinc (ls' := [some (.inr (.inl (some (6, g, 0)))), some (.inl v1), some (.inl (v2 + 1)), some (.inl t16), some (.inl v4), some (.inl v5), some (.inl (v6 + 1)), some (.inl (t5 - v3))]) rfl rfl rfl ?_
            refine en_s_goto rfl ?_
            exact ih (e7 := some (.inl (t5 - v3))) h hk
set_option maxRecDepth 100000 in
set_option maxHeartbeats 4000000 in
theorem s_lg_jitterOf (G : en_G) (hz : G.2.2.2.2.2.2.2.2 = none) (d : Nat) {cs : List en_A} {σ : en_M} {g : Nat} {v1 : Int32} {x0 : Int32}  (h : k_lg_jitterOf g v1 σ = some x0) : en_Mt G (d + 2) 0 0 M_lg_jitterOf [.inr (.inl (some (6, g, 0))), .inl v1] cs en_rf σ (.inr (some (.inl x0))) cs en_rf σ := by
  refine en_meth (ls := [some (.inr (.inl (some (6, g, 0)))), some (.inl v1), none, none, none, none, none, none]) md_lg_jitterOf rfl rfl rfl ?_
  unfold k_lg_jitterOf at h
  refine en_s_iconst rfl ?_
  refine en_s_istore_n (ls' := [some (.inr (.inl (some (6, g, 0)))), some (.inl v1), some (.inl 0), none, none, none, none, none]) rfl rfl rfl ?_
  refine en_s_iconst rfl ?_
  refine en_s_istore_n (ls' := [some (.inr (.inl (some (6, g, 0)))), some (.inl v1), some (.inl 0), some (.inl 0), none, none, none, none]) rfl rfl rfl ?_
  refine en_s_sipush rfl ?_
  refine en_s_istore (ls' := [some (.inr (.inl (some (6, g, 0)))), some (.inl v1), some (.inl 0), some (.inl 0), some (.inl 9999), none, none, none]) rfl rfl rfl ?_
  refine en_s_iconst rfl ?_
  refine en_s_istore (ls' := [some (.inr (.inl (some (6, g, 0)))), some (.inl v1), some (.inl 0), some (.inl 0), some (.inl 9999), some (.inl 0), none, none]) rfl rfl rfl ?_
  refine en_s_iconst rfl ?_
  refine en_s_istore (ls' := [some (.inr (.inl (some (6, g, 0)))), some (.inl v1), some (.inl 0), some (.inl 0), some (.inl 9999), some (.inl 0), some (.inl 0), none]) rfl rfl rfl ?_
  obtain ⟨x18, x20, x21, h24, h⟩ := en_b3_h h
  refine s_lg_jitterOf_15 G hz en_fu (e7 := none) h24 (fun f19 f22 f23 => ?_)
  refine en_s_iload_n rfl rfl ?_
  refine en_s_iconst rfl ?_
  refine en_s_icmp_ge rfl (fun c25 => ?_) (fun c25 => ?_)
  · rw [if_pos c25] at h
    refine en_s_iload rfl rfl ?_
    refine en_s_iload rfl rfl ?_
    refine en_s_isub rfl ?_
    cases h
    exact en_s_iret rfl rfl
  · rw [if_neg c25] at h
    refine en_s_iconst rfl ?_
    refine en_s_goto rfl ?_
    cases h
    exact en_s_iret rfl rfl
def k_lg_mergedOf_7 (f0 : Nat) (g : Nat) (v1 : Int32) (v2 : Int32) (v3 : Int32) (v4 : Int32) (σ : en_M) : Option (Int32) := match f0 with
  | 0 => none
  | f9 + 1 =>
    if (σ 6 g 0 2) ≤ v4 then
      some (v2)
    else
      en_b1 (k_lg_at g v4 2 σ) fun t2 =>
      if t2 = v1 then
        en_b1 (k_lg_at g v4 6 σ) fun t5 =>
        if t5 = v3 then
          en_b1 (k_lg_at g v4 6 σ) fun t12 =>
          en_b1 (k_lg_at g v4 3 σ) fun t14 =>
          k_lg_mergedOf_7 f9 g v1 (v2 + 0) ((t12 + t14) - 12) (v4 + 1) σ
        else
          en_b1 (k_lg_at g v4 6 σ) fun t8 =>
          en_b1 (k_lg_at g v4 3 σ) fun t10 =>
          k_lg_mergedOf_7 f9 g v1 (v2 + 1) ((t8 + t10) - 12) (v4 + 1) σ
      else
        k_lg_mergedOf_7 f9 g v1 v2 v3 (v4 + 1) σ
def k_lg_mergedOf (g : Nat) (v1 : Int32) (σ : en_M) : Option (Int32) :=
  en_b1 (k_lg_mergedOf_7 en_fu g v1 0 (-1) 0 σ) fun x16 =>
  some x16
set_option maxRecDepth 100000 in
set_option maxHeartbeats 4000000 in
theorem s_lg_mergedOf_7 (G : en_G) (hz : G.2.2.2.2.2.2.2.2 = none) {d : Nat} {r : en_P} {cs cs' : List en_A} {ρ' : en_R} {σ' : en_M} : ∀ (f0 : Nat) {g : Nat} {v1 : Int32} {v2 : Int32} {v3 : Int32} {v4 : Int32}  {σ : en_M} {x2 : Int32} , k_lg_mergedOf_7 f0 g v1 v2 v3 v4 σ = some (x2) →
    (∀ (f3 : Option en_V) (f4 : Option en_V), en_W G (d + 2) 0 0 M_lg_mergedOf r cs' ρ' σ' 0 0 73 [some (.inr (.inl (some (6, g, 0)))), some (.inl v1), some (.inl x2), f3, f4] [] cs en_rf σ) → en_W G (d + 2) 0 0 M_lg_mergedOf r cs' ρ' σ' 0 0 7 [some (.inr (.inl (some (6, g, 0)))), some (.inl v1), some (.inl v2), some (.inl v3), some (.inl v4)] [] cs en_rf σ := by
  intro f0
  induction f0 with
  | zero =>
    intros
    rename_i h _
    cases h
  | succ f9 ih =>
    intro g v1 v2 v3 v4 σ x2 h hk
    rw [k_lg_mergedOf_7] at h
    refine en_s_iload rfl rfl ?_
    refine en_s_aload_n rfl rfl ?_
    refine en_s_getI rfl rfl rfl ?_
    refine en_s_icmp_ge rfl (fun c1 => ?_) (fun c1 => ?_)
    · rw [if_pos c1] at h
      cases h
      exact hk (some (.inl v3)) (some (.inl v4))
    · rw [if_neg c1] at h
      refine en_s_aload_n rfl rfl ?_
      refine en_s_iload rfl rfl ?_
      refine en_s_iconst rfl ?_
      obtain ⟨t2, h3, h⟩ := en_b1_h h
      refine en_callV (as := [.inl v4, .inl 2]) (rest := []) (bc' := 0) (bs' := 0) hz rfl (s_lg_at G hz (d + 0) h3) lk_4_49 mv_lg_at rfl rfl rfl rfl rfl (fun _ h => h) (Nat.le_refl _) (Nat.le_refl _) ?_
      refine en_s_iload_n rfl rfl ?_
      refine en_s_icmp_ne rfl (fun c4 => ?_) (fun c4 => ?_)
      · rw [if_neg c4] at h
        refine en_s_iinc (ls' := [some (.inr (.inl (some (6, g, 0)))), some (.inl v1), some (.inl v2), some (.inl v3), some (.inl (v4 + 1))]) rfl rfl rfl ?_
        refine en_s_goto rfl ?_
        exact ih  h hk
      · rw [if_pos c4] at h
        refine en_s_iload_n rfl rfl ?_
        refine en_s_aload_n rfl rfl ?_
        refine en_s_iload rfl rfl ?_
        refine en_s_bipush rfl ?_
        obtain ⟨t5, h6, h⟩ := en_b1_h h
        refine en_callV (as := [.inl v4, .inl 6]) (rest := [.inl v2]) (bc' := 0) (bs' := 0) hz rfl (s_lg_at G hz (d + 0) h6) lk_4_49 mv_lg_at rfl rfl rfl rfl rfl (fun _ h => h) (Nat.le_refl _) (Nat.le_refl _) ?_
        refine en_s_iload_n rfl rfl ?_
        refine en_s_icmp_ne rfl (fun c7 => ?_) (fun c7 => ?_)
        · rw [if_neg c7] at h
          refine en_s_iconst rfl ?_
          refine en_s_iadd rfl ?_
          refine en_s_istore_n (ls' := [some (.inr (.inl (some (6, g, 0)))), some (.inl v1), some (.inl (v2 + 1)), some (.inl v3), some (.inl v4)]) rfl rfl rfl ?_
          refine en_s_aload_n rfl rfl ?_
          refine en_s_iload rfl rfl ?_
          refine en_s_bipush rfl ?_
          obtain ⟨t8, h9, h⟩ := en_b1_h h
          refine en_callV (as := [.inl v4, .inl 6]) (rest := []) (bc' := 0) (bs' := 0) hz rfl (s_lg_at G hz (d + 0) h9) lk_4_49 mv_lg_at rfl rfl rfl rfl rfl (fun _ h => h) (Nat.le_refl _) (Nat.le_refl _) ?_
          refine en_s_aload_n rfl rfl ?_
          refine en_s_iload rfl rfl ?_
          refine en_s_iconst rfl ?_
          obtain ⟨t10, h11, h⟩ := en_b1_h h
          refine en_callV (as := [.inl v4, .inl 3]) (rest := [.inl t8]) (bc' := 0) (bs' := 0) hz rfl (s_lg_at G hz (d + 0) h11) lk_4_49 mv_lg_at rfl rfl rfl rfl rfl (fun _ h => h) (Nat.le_refl _) (Nat.le_refl _) ?_
          refine en_s_iadd rfl ?_
          refine en_s_bipush rfl ?_
          refine en_s_isub rfl ?_
          refine en_s_istore_n (ls' := [some (.inr (.inl (some (6, g, 0)))), some (.inl v1), some (.inl (v2 + 1)), some (.inl ((t8 + t10) - 12)), some (.inl v4)]) rfl rfl rfl ?_
          refine en_s_iinc (ls' := [some (.inr (.inl (some (6, g, 0)))), some (.inl v1), some (.inl (v2 + 1)), some (.inl ((t8 + t10) - 12)), some (.inl (v4 + 1))]) rfl rfl rfl ?_
          refine en_s_goto rfl ?_
          exact ih  h hk
        · rw [if_pos c7] at h
          refine en_s_iconst rfl ?_
          refine en_s_goto rfl ?_
          refine en_s_iadd rfl ?_
          refine en_s_istore_n (ls' := [some (.inr (.inl (some (6, g, 0)))), some (.inl v1), some (.inl (v2 + 0)), some (.inl v3), some (.inl v4)]) rfl rfl rfl ?_
          refine en_s_aload_n rfl rfl ?_
          refine en_s_iload rfl rfl ?_
          refine en_s_bipush rfl ?_
          obtain ⟨t12, h13, h⟩ := en_b1_h h
          refine en_callV (as := [.inl v4, .inl 6]) (rest := []) (bc' := 0) (bs' := 0) hz rfl (s_lg_at G hz (d + 0) h13) lk_4_49 mv_lg_at rfl rfl rfl rfl rfl (fun _ h => h) (Nat.le_refl _) (Nat.le_refl _) ?_
          refine en_s_aload_n rfl rfl ?_
          refine en_s_iload rfl rfl ?_
          refine en_s_iconst rfl ?_
          obtain ⟨t14, h15, h⟩ := en_b1_h h
          refine en_callV (as := [.inl v4, .inl 3]) (rest := [.inl t12]) (bc' := 0) (bs' := 0) hz rfl (s_lg_at G hz (d + 0) h15) lk_4_49 mv_lg_at rfl rfl rfl rfl rfl (fun _ h => h) (Nat.le_refl _) (Nat.le_refl _) ?_
          refine en_s_iadd rfl ?_
          refine en_s_bipush rfl ?_
          refine en_s_isub rfl ?_
          refine en_s_istore_n (ls' := [some (.inr (.inl (some (6, g, 0)))), some (.inl v1), some (.inl (v2 + 0)), some (.inl ((t12 + t14) - 12)), some (.inl v4)]) rfl rfl rfl ?_
          refine en_s_iinc (ls' := [some (.inr (.inl (some (6, g, 0)))), some (.inl v1), some (.inl (v2 + 0)), some (.inl ((t12 + t14) - 12)), some (.inl (v4 + 1))]) rfl rfl rfl ?_
          refine en_s_goto rfl ?_
          exact ih  h hk
set_option maxRecDepth 100000 in
set_option maxHeartbeats 4000000 in
theorem s_lg_mergedOf (G : en_G) (hz : G.2.2.2.2.2.2.2.2 = none) (d : Nat) {cs : List en_A} {σ : en_M} {g : Nat} {v1 : Int32} {x0 : Int32}  (h : k_lg_mergedOf g v1 σ = some x0) : en_Mt G (d + 2) 0 0 M_lg_mergedOf [.inr (.inl (some (6, g, 0))), .inl v1] cs en_rf σ (.inr (some (.inl x0))) cs en_rf σ := by
  refine en_meth (ls := [some (.inr (.inl (some (6, g, 0)))), some (.inl v1), none, none, none]) md_lg_mergedOf rfl rfl rfl ?_
  unfold k_lg_mergedOf at h
  refine en_s_iconst rfl ?_
  refine en_s_istore_n (ls' := [some (.inr (.inl (some (6, g, 0)))), some (.inl v1), some (.inl 0), none, none]) rfl rfl rfl ?_
  refine en_s_iconst rfl ?_
  refine en_s_istore_n (ls' := [some (.inr (.inl (some (6, g, 0)))), some (.inl v1), some (.inl 0), some (.inl ((-1))), none]) rfl rfl rfl ?_
  refine en_s_iconst rfl ?_
  refine en_s_istore (ls' := [some (.inr (.inl (some (6, g, 0)))), some (.inl v1), some (.inl 0), some (.inl ((-1))), some (.inl 0)]) rfl rfl rfl ?_
  obtain ⟨x16, h19, h⟩ := en_b1_h h
  refine s_lg_mergedOf_7 G hz en_fu  h19 (fun f17 f18 => ?_)
  refine en_s_iload_n rfl rfl ?_
  cases h
  exact en_s_iret rfl rfl
def k_lg_mostMergedOf_10 (f0 : Nat) (g : Nat) (v1 : Int32) (v2 : Int32) (v3 : Int32) (v4 : Int32) (v5 : Int32) (σ : en_M) : Option (Int32) := match f0 with
  | 0 => none
  | f9 + 1 =>
    if (σ 6 g 0 2) ≤ v5 then
      some (v2)
    else
      en_b1 (k_lg_at g v5 2 σ) fun t2 =>
      if t2 = v1 then
        en_b1 (k_lg_at g v5 6 σ) fun t5 =>
        if t5 = v4 then
          en_b1 (k_lg_at g v5 6 σ) fun t14 =>
          en_b1 (k_lg_at g v5 3 σ) fun t16 =>
          k_lg_mostMergedOf_10 f9 g v1 (if v2 < (((t14 + t16) - 12) - v3) then (((t14 + t16) - 12) - v3) else v2) v3 ((t14 + t16) - 12) (v5 + 1) σ
        else
          en_b1 (k_lg_at g v5 6 σ) fun t8 =>
          en_b1 (k_lg_at g v5 6 σ) fun t10 =>
          en_b1 (k_lg_at g v5 3 σ) fun t12 =>
          k_lg_mostMergedOf_10 f9 g v1 (if v2 < (((t10 + t12) - 12) - t8) then (((t10 + t12) - 12) - t8) else v2) t8 ((t10 + t12) - 12) (v5 + 1) σ
      else
        k_lg_mostMergedOf_10 f9 g v1 v2 v3 v4 (v5 + 1) σ
def k_lg_mostMergedOf (g : Nat) (v1 : Int32) (σ : en_M) : Option (Int32) :=
  en_b1 (k_lg_mostMergedOf_10 en_fu g v1 0 (-1) (-1) 0 σ) fun x18 =>
  some x18
set_option maxRecDepth 100000 in
set_option maxHeartbeats 4000000 in
theorem s_lg_mostMergedOf_10 (G : en_G) (hz : G.2.2.2.2.2.2.2.2 = none) {d : Nat} {r : en_P} {cs cs' : List en_A} {ρ' : en_R} {σ' : en_M} : ∀ (f0 : Nat) {g : Nat} {v1 : Int32} {v2 : Int32} {v3 : Int32} {v4 : Int32} {v5 : Int32}  {σ : en_M} {x2 : Int32} , k_lg_mostMergedOf_10 f0 g v1 v2 v3 v4 v5 σ = some (x2) →
    (∀ (f3 : Option en_V) (f4 : Option en_V) (f5 : Option en_V), en_W G (d + 2) 0 0 M_lg_mostMergedOf r cs' ρ' σ' 0 0 92 [some (.inr (.inl (some (6, g, 0)))), some (.inl v1), some (.inl x2), f3, f4, f5] [] cs en_rf σ) → en_W G (d + 2) 0 0 M_lg_mostMergedOf r cs' ρ' σ' 0 0 10 [some (.inr (.inl (some (6, g, 0)))), some (.inl v1), some (.inl v2), some (.inl v3), some (.inl v4), some (.inl v5)] [] cs en_rf σ := by
  intro f0
  induction f0 with
  | zero =>
    intros
    rename_i h _
    cases h
  | succ f9 ih =>
    intro g v1 v2 v3 v4 v5 σ x2 h hk
    rw [k_lg_mostMergedOf_10] at h
    refine en_s_iload rfl rfl ?_
    refine en_s_aload_n rfl rfl ?_
    refine en_s_getI rfl rfl rfl ?_
    refine en_s_icmp_ge rfl (fun c1 => ?_) (fun c1 => ?_)
    · rw [if_pos c1] at h
      cases h
      exact hk (some (.inl v3)) (some (.inl v4)) (some (.inl v5))
    · rw [if_neg c1] at h
      refine en_s_aload_n rfl rfl ?_
      refine en_s_iload rfl rfl ?_
      refine en_s_iconst rfl ?_
      obtain ⟨t2, h3, h⟩ := en_b1_h h
      refine en_callV (as := [.inl v5, .inl 2]) (rest := []) (bc' := 0) (bs' := 0) hz rfl (s_lg_at G hz (d + 0) h3) lk_4_49 mv_lg_at rfl rfl rfl rfl rfl (fun _ h => h) (Nat.le_refl _) (Nat.le_refl _) ?_
      refine en_s_iload_n rfl rfl ?_
      refine en_s_icmp_ne rfl (fun c4 => ?_) (fun c4 => ?_)
      · rw [if_neg c4] at h
        refine en_s_iinc (ls' := [some (.inr (.inl (some (6, g, 0)))), some (.inl v1), some (.inl v2), some (.inl v3), some (.inl v4), some (.inl (v5 + 1))]) rfl rfl rfl ?_
        refine en_s_goto rfl ?_
        exact ih  h hk
      · rw [if_pos c4] at h
        refine en_s_aload_n rfl rfl ?_
        refine en_s_iload rfl rfl ?_
        refine en_s_bipush rfl ?_
        obtain ⟨t5, h6, h⟩ := en_b1_h h
        refine en_callV (as := [.inl v5, .inl 6]) (rest := []) (bc' := 0) (bs' := 0) hz rfl (s_lg_at G hz (d + 0) h6) lk_4_49 mv_lg_at rfl rfl rfl rfl rfl (fun _ h => h) (Nat.le_refl _) (Nat.le_refl _) ?_
        refine en_s_iload rfl rfl ?_
        refine en_s_icmp_ne rfl (fun c7 => ?_) (fun c7 => ?_)
        · rw [if_neg c7] at h
          refine en_s_aload_n rfl rfl ?_
          refine en_s_iload rfl rfl ?_
          refine en_s_bipush rfl ?_
          obtain ⟨t8, h9, h⟩ := en_b1_h h
          refine en_callV (as := [.inl v5, .inl 6]) (rest := []) (bc' := 0) (bs' := 0) hz rfl (s_lg_at G hz (d + 0) h9) lk_4_49 mv_lg_at rfl rfl rfl rfl rfl (fun _ h => h) (Nat.le_refl _) (Nat.le_refl _) ?_
          refine en_s_istore_n (ls' := [some (.inr (.inl (some (6, g, 0)))), some (.inl v1), some (.inl v2), some (.inl t8), some (.inl v4), some (.inl v5)]) rfl rfl rfl ?_
          refine en_s_aload_n rfl rfl ?_
          refine en_s_iload rfl rfl ?_
          refine en_s_bipush rfl ?_
          obtain ⟨t10, h11, h⟩ := en_b1_h h
          refine en_callV (as := [.inl v5, .inl 6]) (rest := []) (bc' := 0) (bs' := 0) hz rfl (s_lg_at G hz (d + 0) h11) lk_4_49 mv_lg_at rfl rfl rfl rfl rfl (fun _ h => h) (Nat.le_refl _) (Nat.le_refl _) ?_
          refine en_s_aload_n rfl rfl ?_
          refine en_s_iload rfl rfl ?_
          refine en_s_iconst rfl ?_
          obtain ⟨t12, h13, h⟩ := en_b1_h h
          refine en_callV (as := [.inl v5, .inl 3]) (rest := [.inl t10]) (bc' := 0) (bs' := 0) hz rfl (s_lg_at G hz (d + 0) h13) lk_4_49 mv_lg_at rfl rfl rfl rfl rfl (fun _ h => h) (Nat.le_refl _) (Nat.le_refl _) ?_
          refine en_s_iadd rfl ?_
          refine en_s_bipush rfl ?_
          refine en_s_isub rfl ?_
          refine en_s_istore (ls' := [some (.inr (.inl (some (6, g, 0)))), some (.inl v1), some (.inl v2), some (.inl t8), some (.inl ((t10 + t12) - 12)), some (.inl v5)]) rfl rfl rfl ?_
          refine en_s_iload_n rfl rfl ?_
          refine en_s_iload rfl rfl ?_
          refine en_s_iload_n rfl rfl ?_
          refine en_s_isub rfl ?_
          refine en_s_max rfl (en_tw_of (i := 726) (by decide +kernel) (by decide +kernel)) mx_st_max mx_in mx_cd_max rfl ?_
          refine en_s_istore_n (ls' := [some (.inr (.inl (some (6, g, 0)))), some (.inl v1), some (.inl ((if v2 < (((t10 + t12) - 12) - t8) then (((t10 + t12) - 12) - t8) else v2))), some (.inl t8), some (.inl ((t10 + t12) - 12)), some (.inl v5)]) rfl rfl rfl ?_
          refine en_s_iinc (ls' := [some (.inr (.inl (some (6, g, 0)))), some (.inl v1), some (.inl ((if v2 < (((t10 + t12) - 12) - t8) then (((t10 + t12) - 12) - t8) else v2))), some (.inl t8), some (.inl ((t10 + t12) - 12)), some (.inl (v5 + 1))]) rfl rfl rfl ?_
          refine en_s_goto rfl ?_
          exact ih  h hk
        · rw [if_pos c7] at h
          refine en_s_iload_n rfl rfl ?_
          refine en_s_goto rfl ?_
          refine en_s_istore_n (ls' := [some (.inr (.inl (some (6, g, 0)))), some (.inl v1), some (.inl v2), some (.inl v3), some (.inl v4), some (.inl v5)]) rfl rfl rfl ?_
          refine en_s_aload_n rfl rfl ?_
          refine en_s_iload rfl rfl ?_
          refine en_s_bipush rfl ?_
          obtain ⟨t14, h15, h⟩ := en_b1_h h
          refine en_callV (as := [.inl v5, .inl 6]) (rest := []) (bc' := 0) (bs' := 0) hz rfl (s_lg_at G hz (d + 0) h15) lk_4_49 mv_lg_at rfl rfl rfl rfl rfl (fun _ h => h) (Nat.le_refl _) (Nat.le_refl _) ?_
          refine en_s_aload_n rfl rfl ?_
          refine en_s_iload rfl rfl ?_
          refine en_s_iconst rfl ?_
          obtain ⟨t16, h17, h⟩ := en_b1_h h
          refine en_callV (as := [.inl v5, .inl 3]) (rest := [.inl t14]) (bc' := 0) (bs' := 0) hz rfl (s_lg_at G hz (d + 0) h17) lk_4_49 mv_lg_at rfl rfl rfl rfl rfl (fun _ h => h) (Nat.le_refl _) (Nat.le_refl _) ?_
          refine en_s_iadd rfl ?_
          refine en_s_bipush rfl ?_
          refine en_s_isub rfl ?_
          refine en_s_istore (ls' := [some (.inr (.inl (some (6, g, 0)))), some (.inl v1), some (.inl v2), some (.inl v3), some (.inl ((t14 + t16) - 12)), some (.inl v5)]) rfl rfl rfl ?_
          refine en_s_iload_n rfl rfl ?_
          refine en_s_iload rfl rfl ?_
          refine en_s_iload_n rfl rfl ?_
          refine en_s_isub rfl ?_
          refine en_s_max rfl (en_tw_of (i := 726) (by decide +kernel) (by decide +kernel)) mx_st_max mx_in mx_cd_max rfl ?_
          refine en_s_istore_n (ls' := [some (.inr (.inl (some (6, g, 0)))), some (.inl v1), some (.inl ((if v2 < (((t14 + t16) - 12) - v3) then (((t14 + t16) - 12) - v3) else v2))), some (.inl v3), some (.inl ((t14 + t16) - 12)), some (.inl v5)]) rfl rfl rfl ?_
          refine en_s_iinc (ls' := [some (.inr (.inl (some (6, g, 0)))), some (.inl v1), some (.inl ((if v2 < (((t14 + t16) - 12) - v3) then (((t14 + t16) - 12) - v3) else v2))), some (.inl v3), some (.inl ((t14 + t16) - 12)), some (.inl (v5 + 1))]) rfl rfl rfl ?_
          refine en_s_goto rfl ?_
          exact ih  h hk
set_option maxRecDepth 100000 in
set_option maxHeartbeats 4000000 in
theorem s_lg_mostMergedOf (G : en_G) (hz : G.2.2.2.2.2.2.2.2 = none) (d : Nat) {cs : List en_A} {σ : en_M} {g : Nat} {v1 : Int32} {x0 : Int32}  (h : k_lg_mostMergedOf g v1 σ = some x0) : en_Mt G (d + 2) 0 0 M_lg_mostMergedOf [.inr (.inl (some (6, g, 0))), .inl v1] cs en_rf σ (.inr (some (.inl x0))) cs en_rf σ := by
  refine en_meth (ls := [some (.inr (.inl (some (6, g, 0)))), some (.inl v1), none, none, none, none]) md_lg_mostMergedOf rfl rfl rfl ?_
  unfold k_lg_mostMergedOf at h
  refine en_s_iconst rfl ?_
  refine en_s_istore_n (ls' := [some (.inr (.inl (some (6, g, 0)))), some (.inl v1), some (.inl 0), none, none, none]) rfl rfl rfl ?_
  refine en_s_iconst rfl ?_
  refine en_s_istore_n (ls' := [some (.inr (.inl (some (6, g, 0)))), some (.inl v1), some (.inl 0), some (.inl ((-1))), none, none]) rfl rfl rfl ?_
  refine en_s_iconst rfl ?_
  refine en_s_istore (ls' := [some (.inr (.inl (some (6, g, 0)))), some (.inl v1), some (.inl 0), some (.inl ((-1))), some (.inl ((-1))), none]) rfl rfl rfl ?_
  refine en_s_iconst rfl ?_
  refine en_s_istore (ls' := [some (.inr (.inl (some (6, g, 0)))), some (.inl v1), some (.inl 0), some (.inl ((-1))), some (.inl ((-1))), some (.inl 0)]) rfl rfl rfl ?_
  obtain ⟨x18, h22, h⟩ := en_b1_h h
  refine s_lg_mostMergedOf_10 G hz en_fu  h22 (fun f19 f20 f21 => ?_)
  refine en_s_iload_n rfl rfl ?_
  cases h
  exact en_s_iret rfl rfl
def k_lg_restOf_4 (f0 : Nat) (g : Nat) (v1 : Int32) (v2 : Int32) (v3 : Int32) (σ : en_M) : Option (Int32) := match f0 with
  | 0 => none
  | f9 + 1 =>
    if (σ 6 g 0 2) ≤ v3 then
      some (v2)
    else
      en_b1 (k_lg_at g (v3 - 1) 5 σ) fun t2 =>
      en_b1 (k_lg_at g (v3 - 1) 3 σ) fun t4 =>
      en_b1 (k_cc_roundedUp t4 v1) fun t6 =>
      en_b1 (k_lg_at g v3 5 σ) fun t8 =>
      k_lg_restOf_4 f9 g v1 (if v2 < (t8 - (t2 + t6)) then (t8 - (t2 + t6)) else v2) (v3 + 1) σ
def k_lg_restOf (g : Nat) (v1 : Int32) (σ : en_M) : Option (Int32) :=
  en_b1 (k_lg_restOf_4 en_fu g v1 (-1) 1 σ) fun x10 =>
  some x10
set_option maxRecDepth 100000 in
set_option maxHeartbeats 4000000 in
theorem s_lg_restOf_4 (G : en_G) (hz : G.2.2.2.2.2.2.2.2 = none) {d : Nat} {r : en_P} {cs cs' : List en_A} {ρ' : en_R} {σ' : en_M} : ∀ (f0 : Nat) {g : Nat} {v1 : Int32} {v2 : Int32} {v3 : Int32} {e4 : Option en_V} {σ : en_M} {x2 : Int32} , k_lg_restOf_4 f0 g v1 v2 v3 σ = some (x2) →
    (∀ (f3 : Option en_V) (f4 : Option en_V), en_W G (d + 2) 0 0 M_lg_restOf r cs' ρ' σ' 0 0 55 [some (.inr (.inl (some (6, g, 0)))), some (.inl v1), some (.inl x2), f3, f4] [] cs en_rf σ) → en_W G (d + 2) 0 0 M_lg_restOf r cs' ρ' σ' 0 0 4 [some (.inr (.inl (some (6, g, 0)))), some (.inl v1), some (.inl v2), some (.inl v3), e4] [] cs en_rf σ := by
  intro f0
  induction f0 with
  | zero =>
    intros
    rename_i h _
    cases h
  | succ f9 ih =>
    intro g v1 v2 v3 e4 σ x2 h hk
    rw [k_lg_restOf_4] at h
    refine en_s_iload_n rfl rfl ?_
    refine en_s_aload_n rfl rfl ?_
    refine en_s_getI rfl rfl rfl ?_
    refine en_s_icmp_ge rfl (fun c1 => ?_) (fun c1 => ?_)
    · rw [if_pos c1] at h
      cases h
      exact hk (some (.inl v3)) (e4)
    · rw [if_neg c1] at h
      refine en_s_aload_n rfl rfl ?_
      refine en_s_iload_n rfl rfl ?_
      refine en_s_iconst rfl ?_
      refine en_s_isub rfl ?_
      refine en_s_iconst rfl ?_
      obtain ⟨t2, h3, h⟩ := en_b1_h h
      refine en_callV (as := [.inl (v3 - 1), .inl 5]) (rest := []) (bc' := 0) (bs' := 0) hz rfl (s_lg_at G hz (d + 0) h3) lk_4_49 mv_lg_at rfl rfl rfl rfl rfl (fun _ h => h) (Nat.le_refl _) (Nat.le_refl _) ?_
      refine en_s_aload_n rfl rfl ?_
      refine en_s_iload_n rfl rfl ?_
      refine en_s_iconst rfl ?_
      refine en_s_isub rfl ?_
      refine en_s_iconst rfl ?_
      obtain ⟨t4, h5, h⟩ := en_b1_h h
      refine en_callV (as := [.inl (v3 - 1), .inl 3]) (rest := [.inl t2]) (bc' := 0) (bs' := 0) hz rfl (s_lg_at G hz (d + 0) h5) lk_4_49 mv_lg_at rfl rfl rfl rfl rfl (fun _ h => h) (Nat.le_refl _) (Nat.le_refl _) ?_
      refine en_s_iload_n rfl rfl ?_
      obtain ⟨t6, h7, h⟩ := en_b1_h h
      refine en_callN (as := [.inl t4, .inl v1]) (rest := [.inl t2]) (bc' := 0) (bs' := 0) hz rfl (s_cc_roundedUp G hz (d + 1) h7) lk_4_62 mv_cc_roundedUp rfl rfl rfl (fun _ h => h) (Nat.le_refl _) (Nat.le_refl _) ?_
      refine en_s_iadd rfl ?_
      refine en_s_istore (ls' := [some (.inr (.inl (some (6, g, 0)))), some (.inl v1), some (.inl v2), some (.inl v3), some (.inl (t2 + t6))]) rfl rfl rfl ?_
      refine en_s_iload_n rfl rfl ?_
      refine en_s_aload_n rfl rfl ?_
      refine en_s_iload_n rfl rfl ?_
      refine en_s_iconst rfl ?_
      obtain ⟨t8, h9, h⟩ := en_b1_h h
      refine en_callV (as := [.inl v3, .inl 5]) (rest := [.inl v2]) (bc' := 0) (bs' := 0) hz rfl (s_lg_at G hz (d + 0) h9) lk_4_49 mv_lg_at rfl rfl rfl rfl rfl (fun _ h => h) (Nat.le_refl _) (Nat.le_refl _) ?_
      refine en_s_iload rfl rfl ?_
      refine en_s_isub rfl ?_
      refine en_s_max rfl (en_tw_of (i := 726) (by decide +kernel) (by decide +kernel)) mx_st_max mx_in mx_cd_max rfl ?_
      refine en_s_istore_n (ls' := [some (.inr (.inl (some (6, g, 0)))), some (.inl v1), some (.inl ((if v2 < (t8 - (t2 + t6)) then (t8 - (t2 + t6)) else v2))), some (.inl v3), some (.inl (t2 + t6))]) rfl rfl rfl ?_
      refine en_s_iinc (ls' := [some (.inr (.inl (some (6, g, 0)))), some (.inl v1), some (.inl ((if v2 < (t8 - (t2 + t6)) then (t8 - (t2 + t6)) else v2))), some (.inl (v3 + 1)), some (.inl (t2 + t6))]) rfl rfl rfl ?_
      refine en_s_goto rfl ?_
      exact ih (e4 := some (.inl (t2 + t6))) h hk
set_option maxRecDepth 100000 in
set_option maxHeartbeats 4000000 in
theorem s_lg_restOf (G : en_G) (hz : G.2.2.2.2.2.2.2.2 = none) (d : Nat) {cs : List en_A} {σ : en_M} {g : Nat} {v1 : Int32} {x0 : Int32}  (h : k_lg_restOf g v1 σ = some x0) : en_Mt G (d + 2) 0 0 M_lg_restOf [.inr (.inl (some (6, g, 0))), .inl v1] cs en_rf σ (.inr (some (.inl x0))) cs en_rf σ := by
  refine en_meth (ls := [some (.inr (.inl (some (6, g, 0)))), some (.inl v1), none, none, none]) md_lg_restOf rfl rfl rfl ?_
  unfold k_lg_restOf at h
  refine en_s_iconst rfl ?_
  refine en_s_istore_n (ls' := [some (.inr (.inl (some (6, g, 0)))), some (.inl v1), some (.inl ((-1))), none, none]) rfl rfl rfl ?_
  refine en_s_iconst rfl ?_
  refine en_s_istore_n (ls' := [some (.inr (.inl (some (6, g, 0)))), some (.inl v1), some (.inl ((-1))), some (.inl 1), none]) rfl rfl rfl ?_
  obtain ⟨x10, h13, h⟩ := en_b1_h h
  refine s_lg_restOf_4 G hz en_fu (e4 := none) h13 (fun f11 f12 => ?_)
  refine en_s_iload_n rfl rfl ?_
  cases h
  exact en_s_iret rfl rfl
def k_lg_rowByLate_22 (f0 : Nat) (g : Nat) (v1 : Int32) (v2 : Int32) (v3 : Int32) (v4 : Int32) (v5 : Int32) (σ : en_M) : Option (Int32) := match f0 with
  | 0 => none
  | f9 + 1 =>
    if (σ 6 g 0 2) ≤ v5 then
      some (v4)
    else
      if v1 < v4 then
        some (v4)
      else
        en_b1 (k_lg_lateOf g v5 σ) fun t6 =>
        if 0 < (t6 - v3) then
          k_lg_rowByLate_22 f9 g v1 v2 v3 (v4 + 1) (v5 + 1) σ
        else
          if (t6 - v3) = 0 then
            if v2 ≤ v5 then
              k_lg_rowByLate_22 f9 g v1 v2 v3 v4 (v5 + 1) σ
            else
              k_lg_rowByLate_22 f9 g v1 v2 v3 (v4 + 1) (v5 + 1) σ
          else
            k_lg_rowByLate_22 f9 g v1 v2 v3 v4 (v5 + 1) σ
def k_lg_rowByLate_2 (f0 : Nat) (g : Nat) (v1 : Int32) (v2 : Int32) (σ : en_M) : Option ((Int32) ⊕ (Unit)) := match f0 with
  | 0 => none
  | f9 + 1 =>
    if (σ 6 g 0 2) ≤ v2 then
      some (.inr ())
    else
      en_b1 (k_lg_lateOf g v2 σ) fun t2 =>
      en_b1 (k_lg_rowByLate_22 en_fu g v1 v2 t2 0 0 σ) fun x11 =>
      if x11 = v1 then
        some (.inl (v2))
      else
        k_lg_rowByLate_2 f9 g v1 (v2 + 1) σ
def k_lg_rowByLate (g : Nat) (v1 : Int32) (σ : en_M) : Option (Int32) :=
  en_rx (k_lg_rowByLate_2 en_fu g v1 0 σ) (fun r22 => some r22) (fun u24 =>
  some (-1))
set_option maxRecDepth 100000 in
set_option maxHeartbeats 4000000 in
theorem s_lg_rowByLate_22 (G : en_G) (hz : G.2.2.2.2.2.2.2.2 = none) {d : Nat} {r : en_P} {cs cs' : List en_A} {ρ' : en_R} {σ' : en_M} : ∀ (f0 : Nat) {g : Nat} {v1 : Int32} {v2 : Int32} {v3 : Int32} {v4 : Int32} {v5 : Int32} {e6 : Option en_V} {σ : en_M} {x4 : Int32} , k_lg_rowByLate_22 f0 g v1 v2 v3 v4 v5 σ = some (x4) →
    (∀ (f5 : Option en_V) (f6 : Option en_V), en_W G (d + 3) 0 0 M_lg_rowByLate r cs' ρ' σ' 0 0 72 [some (.inr (.inl (some (6, g, 0)))), some (.inl v1), some (.inl v2), some (.inl v3), some (.inl x4), f5, f6] [] cs en_rf σ) → en_W G (d + 3) 0 0 M_lg_rowByLate r cs' ρ' σ' 0 0 22 [some (.inr (.inl (some (6, g, 0)))), some (.inl v1), some (.inl v2), some (.inl v3), some (.inl v4), some (.inl v5), e6] [] cs en_rf σ := by
  intro f0
  induction f0 with
  | zero =>
    intros
    rename_i h _
    cases h
  | succ f9 ih =>
    intro g v1 v2 v3 v4 v5 e6 σ x4 h hk
    rw [k_lg_rowByLate_22] at h
    refine en_s_iload rfl rfl ?_
    refine en_s_aload_n rfl rfl ?_
    refine en_s_getI rfl rfl rfl ?_
    refine en_s_icmp_ge rfl (fun c4 => ?_) (fun c4 => ?_)
    · rw [if_pos c4] at h
      cases h
      exact hk (some (.inl v5)) (e6)
    · rw [if_neg c4] at h
      refine en_s_iload rfl rfl ?_
      refine en_s_iload_n rfl rfl ?_
      refine en_s_icmp_gt rfl (fun c5 => ?_) (fun c5 => ?_)
      · rw [if_pos c5] at h
        cases h
        exact hk (some (.inl v5)) (e6)
      · rw [if_neg c5] at h
        refine en_s_aload_n rfl rfl ?_
        refine en_s_iload rfl rfl ?_
        obtain ⟨t6, h7, h⟩ := en_b1_h h
        refine en_callV (as := [.inl v5]) (rest := []) (bc' := 0) (bs' := 0) hz rfl (s_lg_lateOf G hz (d + 0) h7) lk_4_52 mv_lg_lateOf rfl rfl rfl rfl rfl (fun _ h => h) (Nat.le_refl _) (Nat.le_refl _) ?_
        refine en_s_iload_n rfl rfl ?_
        refine en_s_isub rfl ?_
        refine en_s_istore (ls' := [some (.inr (.inl (some (6, g, 0)))), some (.inl v1), some (.inl v2), some (.inl v3), some (.inl v4), some (.inl v5), some (.inl (t6 - v3))]) rfl rfl rfl ?_
        refine en_s_iload rfl rfl ?_
        refine en_s_if_gt rfl (fun c8 => ?_) (fun c8 => ?_)
        · rw [if_pos c8] at h
          refine en_s_iinc (ls' := [some (.inr (.inl (some (6, g, 0)))), some (.inl v1), some (.inl v2), some (.inl v3), some (.inl (v4 + 1)), some (.inl v5), some (.inl (t6 - v3))]) rfl rfl rfl ?_
          refine en_s_iinc (ls' := [some (.inr (.inl (some (6, g, 0)))), some (.inl v1), some (.inl v2), some (.inl v3), some (.inl (v4 + 1)), some (.inl (v5 + 1)), some (.inl (t6 - v3))]) rfl rfl rfl ?_
          refine en_s_goto rfl ?_
          exact ih (e6 := some (.inl (t6 - v3))) h hk
        · rw [if_neg c8] at h
          refine en_s_iload rfl rfl ?_
          refine en_s_if_ne rfl (fun c9 => ?_) (fun c9 => ?_)
          · rw [if_neg c9] at h
            refine en_s_iinc (ls' := [some (.inr (.inl (some (6, g, 0)))), some (.inl v1), some (.inl v2), some (.inl v3), some (.inl v4), some (.inl (v5 + 1)), some (.inl (t6 - v3))]) rfl rfl rfl ?_
            refine en_s_goto rfl ?_
            exact ih (e6 := some (.inl (t6 - v3))) h hk
          · rw [if_pos c9] at h
            refine en_s_iload rfl rfl ?_
            refine en_s_iload_n rfl rfl ?_
            refine en_s_icmp_ge rfl (fun c10 => ?_) (fun c10 => ?_)
            · rw [if_pos c10] at h
              refine en_s_iinc (ls' := [some (.inr (.inl (some (6, g, 0)))), some (.inl v1), some (.inl v2), some (.inl v3), some (.inl v4), some (.inl (v5 + 1)), some (.inl (t6 - v3))]) rfl rfl rfl ?_
              refine en_s_goto rfl ?_
              exact ih (e6 := some (.inl (t6 - v3))) h hk
            · rw [if_neg c10] at h
              refine en_s_iinc (ls' := [some (.inr (.inl (some (6, g, 0)))), some (.inl v1), some (.inl v2), some (.inl v3), some (.inl (v4 + 1)), some (.inl v5), some (.inl (t6 - v3))]) rfl rfl rfl ?_
              refine en_s_iinc (ls' := [some (.inr (.inl (some (6, g, 0)))), some (.inl v1), some (.inl v2), some (.inl v3), some (.inl (v4 + 1)), some (.inl (v5 + 1)), some (.inl (t6 - v3))]) rfl rfl rfl ?_
              refine en_s_goto rfl ?_
              exact ih (e6 := some (.inl (t6 - v3))) h hk
set_option maxRecDepth 100000 in
set_option maxHeartbeats 4000000 in
theorem s_lg_rowByLate_2 (G : en_G) (hz : G.2.2.2.2.2.2.2.2 = none) {d : Nat} {r : en_P} {cs cs' : List en_A} {ρ' : en_R} {σ' : en_M} : ∀ (f0 : Nat) {g : Nat} {v1 : Int32} {v2 : Int32} {e3 e4 e5 e6 : Option en_V} {σ : en_M} {x9 : ((Int32) ⊕ (Unit))} , k_lg_rowByLate_2 f0 g v1 v2 σ = some x9 →
    (∀ a9, x9 = .inl a9 → r = .inr (some (.inl a9)) ∧ cs' = cs ∧ ρ' = en_rf ∧ σ' = σ) →
    (∀ (b9 : Unit), x9 = .inr b9 → ∀ (f2 : Option en_V) (f3 : Option en_V) (f4 : Option en_V) (f5 : Option en_V) (f6 : Option en_V), en_W G (d + 3) 0 0 M_lg_rowByLate r cs' ρ' σ' 0 0 86 [some (.inr (.inl (some (6, g, 0)))), some (.inl v1), f2, f3, f4, f5, f6] [] cs en_rf σ) → en_W G (d + 3) 0 0 M_lg_rowByLate r cs' ρ' σ' 0 0 2 [some (.inr (.inl (some (6, g, 0)))), some (.inl v1), some (.inl v2), e3, e4, e5, e6] [] cs en_rf σ := by
  intro f0
  induction f0 with
  | zero =>
    intros
    rename_i h _ _
    cases h
  | succ f9 ih =>
    intro g v1 v2 e3 e4 e5 e6 σ x9 h hr hk
    rw [k_lg_rowByLate_2] at h
    refine en_s_iload_n rfl rfl ?_
    refine en_s_aload_n rfl rfl ?_
    refine en_s_getI rfl rfl rfl ?_
    refine en_s_icmp_ge rfl (fun c1 => ?_) (fun c1 => ?_)
    · rw [if_pos c1] at h
      obtain rfl := Option.some.inj h
      exact hk _ rfl (some (.inl v2)) (e3) (e4) (e5) (e6)
    · rw [if_neg c1] at h
      refine en_s_aload_n rfl rfl ?_
      refine en_s_iload_n rfl rfl ?_
      obtain ⟨t2, h3, h⟩ := en_b1_h h
      refine en_callV (as := [.inl v2]) (rest := []) (bc' := 0) (bs' := 0) hz rfl (s_lg_lateOf G hz (d + 0) h3) lk_4_52 mv_lg_lateOf rfl rfl rfl rfl rfl (fun _ h => h) (Nat.le_refl _) (Nat.le_refl _) ?_
      refine en_s_istore_n (ls' := [some (.inr (.inl (some (6, g, 0)))), some (.inl v1), some (.inl v2), some (.inl t2), e4, e5, e6]) rfl rfl rfl ?_
      refine en_s_iconst rfl ?_
      refine en_s_istore (ls' := [some (.inr (.inl (some (6, g, 0)))), some (.inl v1), some (.inl v2), some (.inl t2), some (.inl 0), e5, e6]) rfl rfl rfl ?_
      refine en_s_iconst rfl ?_
      refine en_s_istore (ls' := [some (.inr (.inl (some (6, g, 0)))), some (.inl v1), some (.inl v2), some (.inl t2), some (.inl 0), some (.inl 0), e6]) rfl rfl rfl ?_
      obtain ⟨x11, h14, h⟩ := en_b1_h h
      refine s_lg_rowByLate_22 G hz en_fu (e6 := e6) h14 (fun f12 f13 => ?_)
      refine en_s_iload rfl rfl ?_
      refine en_s_iload_n rfl rfl ?_
      refine en_s_icmp_ne rfl (fun c15 => ?_) (fun c15 => ?_)
      · rw [if_neg c15] at h
        refine en_s_iinc (ls' := [some (.inr (.inl (some (6, g, 0)))), some (.inl v1), some (.inl (v2 + 1)), some (.inl t2), some (.inl x11), f12, f13]) rfl rfl rfl ?_
        refine en_s_goto rfl ?_
        exact ih (e3 := some (.inl t2)) (e4 := some (.inl x11)) (e5 := f12) (e6 := f13) h hr hk
      · rw [if_pos c15] at h
        refine en_s_iload_n rfl rfl ?_
        obtain rfl := Option.some.inj h
        obtain ⟨rfl, rfl, rfl, rfl⟩ := hr _ rfl
        exact en_s_iret rfl rfl
set_option maxRecDepth 100000 in
set_option maxHeartbeats 4000000 in
theorem s_lg_rowByLate (G : en_G) (hz : G.2.2.2.2.2.2.2.2 = none) (d : Nat) {cs : List en_A} {σ : en_M} {g : Nat} {v1 : Int32} {x0 : Int32}  (h : k_lg_rowByLate g v1 σ = some x0) : en_Mt G (d + 3) 0 0 M_lg_rowByLate [.inr (.inl (some (6, g, 0))), .inl v1] cs en_rf σ (.inr (some (.inl x0))) cs en_rf σ := by
  refine en_meth (ls := [some (.inr (.inl (some (6, g, 0)))), some (.inl v1), none, none, none, none, none]) md_lg_rowByLate rfl rfl rfl ?_
  unfold k_lg_rowByLate at h
  refine en_s_iconst rfl ?_
  refine en_s_istore_n (ls' := [some (.inr (.inl (some (6, g, 0)))), some (.inl v1), some (.inl 0), none, none, none, none]) rfl rfl rfl ?_
  rcases en_rx_h h with ⟨r22, h21, h⟩ | ⟨u24, h21, h⟩
  · obtain rfl := Option.some.inj h
    exact s_lg_rowByLate_2 G hz en_fu (e3 := none) (e4 := none) (e5 := none) (e6 := none) h21 (fun _ e9 => by cases e9; exact ⟨rfl, rfl, rfl, rfl⟩) (fun _ e9 => by cases e9)
  · refine s_lg_rowByLate_2 G hz en_fu (e3 := none) (e4 := none) (e5 := none) (e6 := none) h21 (fun _ e9 => by cases e9) (fun _ e9 f16 f17 f18 f19 f20 => ?_)
    cases e9
    refine en_s_iconst rfl ?_
    cases h
    exact en_s_iret rfl rfl
def k_lg_shareOf_7 (f0 : Nat) (g : Nat) (v1 : Int32) (v2 : Int32) (v3 : Int32) (v4 : Int32) (σ : en_M) : Option (Int32 × Int32) := match f0 with
  | 0 => none
  | f9 + 1 =>
    if (σ 6 g 0 2) ≤ v4 then
      some (v2, v3)
    else
      en_b1 (k_lg_at g v4 2 σ) fun t2 =>
      if t2 = v1 then
        en_b1 (k_lg_at g v4 3 σ) fun t7 =>
        en_b1 (k_lg_at g v4 3 σ) fun t9 =>
        k_lg_shareOf_7 f9 g v1 (v2 + t7) (v3 + t9) (v4 + 1) σ
      else
        en_b1 (k_lg_at g v4 3 σ) fun t5 =>
        k_lg_shareOf_7 f9 g v1 (v2 + 0) (v3 + t5) (v4 + 1) σ
def k_lg_shareOf (g : Nat) (v1 : Int32) (σ : en_M) : Option (Int32) :=
  en_b2 (k_lg_shareOf_7 en_fu g v1 0 0 0 σ) fun x11 x12 =>
  if 0 < x12 then
    en_b1 (en_dv (100 * x11) x12) fun t16 =>
    some t16
  else
    some 0
set_option maxRecDepth 100000 in
set_option maxHeartbeats 4000000 in
theorem s_lg_shareOf_7 (G : en_G) (hz : G.2.2.2.2.2.2.2.2 = none) {d : Nat} {r : en_P} {cs cs' : List en_A} {ρ' : en_R} {σ' : en_M} : ∀ (f0 : Nat) {g : Nat} {v1 : Int32} {v2 : Int32} {v3 : Int32} {v4 : Int32}  {σ : en_M} {x2 : Int32} {x3 : Int32} , k_lg_shareOf_7 f0 g v1 v2 v3 v4 σ = some (x2, x3) →
    (∀ (f4 : Option en_V), en_W G (d + 2) 0 0 M_lg_shareOf r cs' ρ' σ' 0 0 57 [some (.inr (.inl (some (6, g, 0)))), some (.inl v1), some (.inl x2), some (.inl x3), f4] [] cs en_rf σ) → en_W G (d + 2) 0 0 M_lg_shareOf r cs' ρ' σ' 0 0 7 [some (.inr (.inl (some (6, g, 0)))), some (.inl v1), some (.inl v2), some (.inl v3), some (.inl v4)] [] cs en_rf σ := by
  intro f0
  induction f0 with
  | zero =>
    intros
    rename_i h _
    cases h
  | succ f9 ih =>
    intro g v1 v2 v3 v4 σ x2 x3 h hk
    rw [k_lg_shareOf_7] at h
    refine en_s_iload rfl rfl ?_
    refine en_s_aload_n rfl rfl ?_
    refine en_s_getI rfl rfl rfl ?_
    refine en_s_icmp_ge rfl (fun c1 => ?_) (fun c1 => ?_)
    · rw [if_pos c1] at h
      cases h
      exact hk (some (.inl v4))
    · rw [if_neg c1] at h
      refine en_s_iload_n rfl rfl ?_
      refine en_s_aload_n rfl rfl ?_
      refine en_s_iload rfl rfl ?_
      refine en_s_iconst rfl ?_
      obtain ⟨t2, h3, h⟩ := en_b1_h h
      refine en_callV (as := [.inl v4, .inl 2]) (rest := [.inl v2]) (bc' := 0) (bs' := 0) hz rfl (s_lg_at G hz (d + 0) h3) lk_4_49 mv_lg_at rfl rfl rfl rfl rfl (fun _ h => h) (Nat.le_refl _) (Nat.le_refl _) ?_
      refine en_s_iload_n rfl rfl ?_
      refine en_s_icmp_ne rfl (fun c4 => ?_) (fun c4 => ?_)
      · rw [if_neg c4] at h
        refine en_s_iconst rfl ?_
        refine en_s_iadd rfl ?_
        refine en_s_istore_n (ls' := [some (.inr (.inl (some (6, g, 0)))), some (.inl v1), some (.inl (v2 + 0)), some (.inl v3), some (.inl v4)]) rfl rfl rfl ?_
        refine en_s_iload_n rfl rfl ?_
        refine en_s_aload_n rfl rfl ?_
        refine en_s_iload rfl rfl ?_
        refine en_s_iconst rfl ?_
        obtain ⟨t5, h6, h⟩ := en_b1_h h
        refine en_callV (as := [.inl v4, .inl 3]) (rest := [.inl v3]) (bc' := 0) (bs' := 0) hz rfl (s_lg_at G hz (d + 0) h6) lk_4_49 mv_lg_at rfl rfl rfl rfl rfl (fun _ h => h) (Nat.le_refl _) (Nat.le_refl _) ?_
        refine en_s_iadd rfl ?_
        refine en_s_istore_n (ls' := [some (.inr (.inl (some (6, g, 0)))), some (.inl v1), some (.inl (v2 + 0)), some (.inl (v3 + t5)), some (.inl v4)]) rfl rfl rfl ?_
        refine en_s_iinc (ls' := [some (.inr (.inl (some (6, g, 0)))), some (.inl v1), some (.inl (v2 + 0)), some (.inl (v3 + t5)), some (.inl (v4 + 1))]) rfl rfl rfl ?_
        refine en_s_goto rfl ?_
        exact ih  h hk
      · rw [if_pos c4] at h
        refine en_s_aload_n rfl rfl ?_
        refine en_s_iload rfl rfl ?_
        refine en_s_iconst rfl ?_
        obtain ⟨t7, h8, h⟩ := en_b1_h h
        refine en_callV (as := [.inl v4, .inl 3]) (rest := [.inl v2]) (bc' := 0) (bs' := 0) hz rfl (s_lg_at G hz (d + 0) h8) lk_4_49 mv_lg_at rfl rfl rfl rfl rfl (fun _ h => h) (Nat.le_refl _) (Nat.le_refl _) ?_
        refine en_s_goto rfl ?_
        refine en_s_iadd rfl ?_
        refine en_s_istore_n (ls' := [some (.inr (.inl (some (6, g, 0)))), some (.inl v1), some (.inl (v2 + t7)), some (.inl v3), some (.inl v4)]) rfl rfl rfl ?_
        refine en_s_iload_n rfl rfl ?_
        refine en_s_aload_n rfl rfl ?_
        refine en_s_iload rfl rfl ?_
        refine en_s_iconst rfl ?_
        obtain ⟨t9, h10, h⟩ := en_b1_h h
        refine en_callV (as := [.inl v4, .inl 3]) (rest := [.inl v3]) (bc' := 0) (bs' := 0) hz rfl (s_lg_at G hz (d + 0) h10) lk_4_49 mv_lg_at rfl rfl rfl rfl rfl (fun _ h => h) (Nat.le_refl _) (Nat.le_refl _) ?_
        refine en_s_iadd rfl ?_
        refine en_s_istore_n (ls' := [some (.inr (.inl (some (6, g, 0)))), some (.inl v1), some (.inl (v2 + t7)), some (.inl (v3 + t9)), some (.inl v4)]) rfl rfl rfl ?_
        refine en_s_iinc (ls' := [some (.inr (.inl (some (6, g, 0)))), some (.inl v1), some (.inl (v2 + t7)), some (.inl (v3 + t9)), some (.inl (v4 + 1))]) rfl rfl rfl ?_
        refine en_s_goto rfl ?_
        exact ih  h hk
set_option maxRecDepth 100000 in
set_option maxHeartbeats 4000000 in
theorem s_lg_shareOf (G : en_G) (hz : G.2.2.2.2.2.2.2.2 = none) (d : Nat) {cs : List en_A} {σ : en_M} {g : Nat} {v1 : Int32} {x0 : Int32}  (h : k_lg_shareOf g v1 σ = some x0) : en_Mt G (d + 2) 0 0 M_lg_shareOf [.inr (.inl (some (6, g, 0))), .inl v1] cs en_rf σ (.inr (some (.inl x0))) cs en_rf σ := by
  refine en_meth (ls := [some (.inr (.inl (some (6, g, 0)))), some (.inl v1), none, none, none]) md_lg_shareOf rfl rfl rfl ?_
  unfold k_lg_shareOf at h
  refine en_s_iconst rfl ?_
  refine en_s_istore_n (ls' := [some (.inr (.inl (some (6, g, 0)))), some (.inl v1), some (.inl 0), none, none]) rfl rfl rfl ?_
  refine en_s_iconst rfl ?_
  refine en_s_istore_n (ls' := [some (.inr (.inl (some (6, g, 0)))), some (.inl v1), some (.inl 0), some (.inl 0), none]) rfl rfl rfl ?_
  refine en_s_iconst rfl ?_
  refine en_s_istore (ls' := [some (.inr (.inl (some (6, g, 0)))), some (.inl v1), some (.inl 0), some (.inl 0), some (.inl 0)]) rfl rfl rfl ?_
  obtain ⟨x11, x12, h14, h⟩ := en_b2_h h
  refine s_lg_shareOf_7 G hz en_fu  h14 (fun f13 => ?_)
  refine en_s_iload_n rfl rfl ?_
  refine en_s_if_gt rfl (fun c15 => ?_) (fun c15 => ?_)
  · rw [if_pos c15] at h
    refine en_s_bipush rfl ?_
    refine en_s_iload_n rfl rfl ?_
    refine en_s_imul rfl ?_
    refine en_s_iload_n rfl rfl ?_
    obtain ⟨t16, h17, h⟩ := en_b1_h h
    refine en_p_idiv h17 rfl ?_
    cases h
    exact en_s_iret rfl rfl
  · rw [if_neg c15] at h
    refine en_s_iconst rfl ?_
    refine en_s_goto rfl ?_
    cases h
    exact en_s_iret rfl rfl
def k_cd_addFlow (g : Nat) (v1 : Int32) (v2 : Int32) (σ : en_M) : Option (en_M) :=
  if 6 ≤ (σ 0 g 0 12) then
    some σ
  else
    en_b1 (en_ix 6 (σ 0 g 0 12)) fun q2 =>
    en_b1 (k_fo_begin g q2 v1 v2 σ) fun s4 =>
    en_let (en_wr s4 0 g 0 12 ((s4 0 g 0 12) + 1)) fun s6 =>
    some s6
set_option maxRecDepth 100000 in
set_option maxHeartbeats 4000000 in
theorem s_cd_addFlow (G : en_G) (hz : G.2.2.2.2.2.2.2.2 = none) (d : Nat) {cs : List en_A} {σ : en_M} {g : Nat} {v1 : Int32} {v2 : Int32} {s0 : en_M}  (h : k_cd_addFlow g v1 v2 σ = some s0) : en_Mt G (d + 1) 0 0 M_cd_addFlow [.inr (.inl (some (0, g, 0))), .inl v1, .inl v2] cs en_rf σ (.inr (none)) cs en_rf s0 := by
  refine en_meth (ls := [some (.inr (.inl (some (0, g, 0)))), some (.inl v1), some (.inl v2)]) md_cd_addFlow rfl rfl rfl ?_
  unfold k_cd_addFlow at h
  refine en_s_aload_n rfl rfl ?_
  refine en_s_getI rfl rfl rfl ?_
  refine en_s_bipush rfl ?_
  refine en_s_icmp_ge rfl (fun c1 => ?_) (fun c1 => ?_)
  · rw [if_pos c1] at h
    cases h
    exact en_s_vret rfl rfl
  · rw [if_neg c1] at h
    refine en_s_aload_n rfl rfl ?_
    refine en_s_getR (w := some (1, g, 0)) rfl rfl rfl rfl ?_
    refine en_s_aload_n rfl rfl ?_
    refine en_s_getI rfl rfl rfl ?_
    obtain ⟨q2, h3, h⟩ := en_b1_h h
    refine en_p_aald (t := 0) (w := some (12, g, q2)) h3 rfl rfl (fun _ => rfl) rfl ?_
    refine en_s_iload_n rfl rfl ?_
    refine en_s_iload_n rfl rfl ?_
    obtain ⟨s4, h5, h⟩ := en_b1_h h
    refine en_callV (as := [.inl v1, .inl v2]) (rest := []) (bc' := 0) (bs' := 0) hz rfl (s_fo_begin G hz (d + 0) h5) lk_0_137 mv_fo_begin rfl rfl rfl rfl rfl (fun _ h => h) (Nat.le_refl _) (Nat.le_refl _) ?_
    refine en_s_aload_n rfl rfl ?_
    refine en_s_dup rfl rfl ?_
    refine en_s_getI rfl rfl rfl ?_
    refine en_s_iconst rfl ?_
    refine en_s_iadd rfl ?_
    obtain ⟨s6, e7, h⟩ := en_let_h h
    refine en_p_putI e7 rfl rfl rfl rfl rfl ?_
    cases h
    exact en_s_vret rfl rfl
def k_cd_copyFrom_2 (f0 : Nat) (g : Nat) (g1 : Nat) (v2 : Int32) (σ : en_M) : Option (en_M) := match f0 with
  | 0 => none
  | f9 + 1 =>
    if 6 ≤ v2 then
      some (σ)
    else
      en_b1 (en_ix 6 v2) fun q2 =>
      en_b1 (en_ix 6 v2) fun q4 =>
      en_b1 (k_fo_copyFrom g q2 g1 q4 σ) fun s6 =>
      k_cd_copyFrom_2 f9 g g1 (v2 + 1) s6
def k_cd_copyFrom_31 (f0 : Nat) (g : Nat) (g1 : Nat) (v2 : Int32) (σ : en_M) : Option (en_M) := match f0 with
  | 0 => none
  | f9 + 1 =>
    if 8 ≤ v2 then
      some (σ)
    else
      en_b1 (en_ix 8 v2) fun q12 =>
      en_b1 (en_ix 8 v2) fun q14 =>
      en_b1 (k_sd_copyFrom g q12 g1 q14 σ) fun s16 =>
      k_cd_copyFrom_31 f9 g g1 (v2 + 1) s16
def k_cd_copyFrom (g : Nat) (g1 : Nat) (σ : en_M) : Option (en_M) :=
  en_b1 (k_cd_copyFrom_2 en_fu g g1 0 σ) fun s9 =>
  en_b1 (k_cd_copyFrom_31 en_fu g g1 0 s9) fun s19 =>
  en_let (en_cp s19 3 g1 0 3 g 0 160) fun s21 =>
  en_let (en_cp s21 4 g1 0 4 g 0 160) fun s23 =>
  en_let (en_cp s23 5 g1 0 5 g 0 160) fun s25 =>
  en_b1 (k_lg_copyFrom g g1 s25) fun s27 =>
  en_b1 (k_fi_copyFrom g g1 s27) fun s29 =>
  en_b1 (k_ta_copyFrom g g1 s29) fun s31 =>
  en_let (en_wr s31 0 g 0 8 (s31 0 g1 0 8)) fun s33 =>
  en_let (en_wr s33 0 g 0 9 (s33 0 g1 0 9)) fun s35 =>
  en_let (en_wr s35 0 g 0 10 (s35 0 g1 0 10)) fun s37 =>
  en_let (en_wr s37 0 g 0 11 (s37 0 g1 0 11)) fun s39 =>
  en_let (en_wr s39 0 g 0 12 (s39 0 g1 0 12)) fun s41 =>
  en_let (en_wr s41 0 g 0 13 (s41 0 g1 0 13)) fun s43 =>
  en_let (en_wr s43 0 g 0 14 (s43 0 g1 0 14)) fun s45 =>
  en_let (en_wr s45 0 g 0 15 (s45 0 g1 0 15)) fun s47 =>
  en_let (en_wr s47 0 g 0 16 (s47 0 g1 0 16)) fun s49 =>
  some s49
set_option maxRecDepth 100000 in
set_option maxHeartbeats 4000000 in
theorem s_cd_copyFrom_2 (G : en_G) (hz : G.2.2.2.2.2.2.2.2 = none) {d : Nat} {r : en_P} {cs cs' : List en_A} {ρ' : en_R} {σ' : en_M} : ∀ (f0 : Nat) {g : Nat} {g1 : Nat} {v2 : Int32}  {σ : en_M} {s0 : en_M} , k_cd_copyFrom_2 f0 g g1 v2 σ = some (s0) →
    (∀ (f2 : Option en_V), en_W G (d + 2) 0 0 M_cd_copyFrom r cs' ρ' σ' 0 0 29 [some (.inr (.inl (some (0, g, 0)))), some (.inr (.inl (some (0, g1, 0)))), f2] [] cs en_rf s0) → en_W G (d + 2) 0 0 M_cd_copyFrom r cs' ρ' σ' 0 0 2 [some (.inr (.inl (some (0, g, 0)))), some (.inr (.inl (some (0, g1, 0)))), some (.inl v2)] [] cs en_rf σ := by
  intro f0
  induction f0 with
  | zero =>
    intros
    rename_i h _
    cases h
  | succ f9 ih =>
    intro g g1 v2 σ s0 h hk
    rw [k_cd_copyFrom_2] at h
    refine en_s_iload_n rfl rfl ?_
    refine en_s_bipush rfl ?_
    refine en_s_icmp_ge rfl (fun c1 => ?_) (fun c1 => ?_)
    · rw [if_pos c1] at h
      cases h
      exact hk (some (.inl v2))
    · rw [if_neg c1] at h
      refine en_s_aload_n rfl rfl ?_
      refine en_s_getR (w := some (1, g, 0)) rfl rfl rfl rfl ?_
      refine en_s_iload_n rfl rfl ?_
      obtain ⟨q2, h3, h⟩ := en_b1_h h
      refine en_p_aald (t := 0) (w := some (12, g, q2)) h3 rfl rfl (fun _ => rfl) rfl ?_
      refine en_s_aload_n rfl rfl ?_
      refine en_s_getR (w := some (1, g1, 0)) rfl rfl rfl rfl ?_
      refine en_s_iload_n rfl rfl ?_
      obtain ⟨q4, h5, h⟩ := en_b1_h h
      refine en_p_aald (t := 0) (w := some (12, g1, q4)) h5 rfl rfl (fun _ => rfl) rfl ?_
      obtain ⟨s6, h7, h⟩ := en_b1_h h
      refine en_callV (as := [.inr (.inl (some (12, g1, q4)))]) (rest := []) (bc' := 0) (bs' := 0) hz rfl (s_fo_copyFrom G hz (d + 1) h7) lk_0_93 mv_fo_copyFrom rfl rfl rfl rfl rfl (fun _ h => h) (Nat.le_refl _) (Nat.le_refl _) ?_
      refine en_s_iinc (ls' := [some (.inr (.inl (some (0, g, 0)))), some (.inr (.inl (some (0, g1, 0)))), some (.inl (v2 + 1))]) rfl rfl rfl ?_
      refine en_s_goto rfl ?_
      exact ih  h hk
set_option maxRecDepth 100000 in
set_option maxHeartbeats 4000000 in
theorem s_cd_copyFrom_31 (G : en_G) (hz : G.2.2.2.2.2.2.2.2 = none) {d : Nat} {r : en_P} {cs cs' : List en_A} {ρ' : en_R} {σ' : en_M} : ∀ (f0 : Nat) {g : Nat} {g1 : Nat} {v2 : Int32}  {σ : en_M} {s0 : en_M} , k_cd_copyFrom_31 f0 g g1 v2 σ = some (s0) →
    (∀ (f2 : Option en_V), en_W G (d + 2) 0 0 M_cd_copyFrom r cs' ρ' σ' 0 0 58 [some (.inr (.inl (some (0, g, 0)))), some (.inr (.inl (some (0, g1, 0)))), f2] [] cs en_rf s0) → en_W G (d + 2) 0 0 M_cd_copyFrom r cs' ρ' σ' 0 0 31 [some (.inr (.inl (some (0, g, 0)))), some (.inr (.inl (some (0, g1, 0)))), some (.inl v2)] [] cs en_rf σ := by
  intro f0
  induction f0 with
  | zero =>
    intros
    rename_i h _
    cases h
  | succ f9 ih =>
    intro g g1 v2 σ s0 h hk
    rw [k_cd_copyFrom_31] at h
    refine en_s_iload_n rfl rfl ?_
    refine en_s_bipush rfl ?_
    refine en_s_icmp_ge rfl (fun c11 => ?_) (fun c11 => ?_)
    · rw [if_pos c11] at h
      cases h
      exact hk (some (.inl v2))
    · rw [if_neg c11] at h
      refine en_s_aload_n rfl rfl ?_
      refine en_s_getR (w := some (2, g, 0)) rfl rfl rfl rfl ?_
      refine en_s_iload_n rfl rfl ?_
      obtain ⟨q12, h13, h⟩ := en_b1_h h
      refine en_p_aald (t := 1) (w := some (13, g, q12)) h13 rfl rfl (fun _ => rfl) rfl ?_
      refine en_s_aload_n rfl rfl ?_
      refine en_s_getR (w := some (2, g1, 0)) rfl rfl rfl rfl ?_
      refine en_s_iload_n rfl rfl ?_
      obtain ⟨q14, h15, h⟩ := en_b1_h h
      refine en_p_aald (t := 1) (w := some (13, g1, q14)) h15 rfl rfl (fun _ => rfl) rfl ?_
      obtain ⟨s16, h17, h⟩ := en_b1_h h
      refine en_callV (as := [.inr (.inl (some (13, g1, q14)))]) (rest := []) (bc' := 0) (bs' := 0) hz rfl (s_sd_copyFrom G hz (d + 1) h17) lk_0_97 mv_sd_copyFrom rfl rfl rfl rfl rfl (fun _ h => h) (Nat.le_refl _) (Nat.le_refl _) ?_
      refine en_s_iinc (ls' := [some (.inr (.inl (some (0, g, 0)))), some (.inr (.inl (some (0, g1, 0)))), some (.inl (v2 + 1))]) rfl rfl rfl ?_
      refine en_s_goto rfl ?_
      exact ih  h hk
set_option maxRecDepth 100000 in
set_option maxHeartbeats 4000000 in
theorem s_cd_copyFrom (G : en_G) (hz : G.2.2.2.2.2.2.2.2 = none) (d : Nat) {cs : List en_A} {σ : en_M} {g : Nat} {g1 : Nat} {s0 : en_M}  (h : k_cd_copyFrom g g1 σ = some s0) : en_Mt G (d + 2) 0 0 M_cd_copyFrom [.inr (.inl (some (0, g, 0))), .inr (.inl (some (0, g1, 0)))] cs en_rf σ (.inr (none)) cs en_rf s0 := by
  refine en_meth (ls := [some (.inr (.inl (some (0, g, 0)))), some (.inr (.inl (some (0, g1, 0)))), none]) md_cd_copyFrom rfl rfl rfl ?_
  unfold k_cd_copyFrom at h
  refine en_s_iconst rfl ?_
  refine en_s_istore_n (ls' := [some (.inr (.inl (some (0, g, 0)))), some (.inr (.inl (some (0, g1, 0)))), some (.inl 0)]) rfl rfl rfl ?_
  obtain ⟨s9, h10, h⟩ := en_b1_h h
  refine s_cd_copyFrom_2 G hz en_fu  h10 (fun f8 => ?_)
  refine en_s_iconst rfl ?_
  refine en_s_istore_n (ls' := [some (.inr (.inl (some (0, g, 0)))), some (.inr (.inl (some (0, g1, 0)))), some (.inl 0)]) rfl rfl rfl ?_
  obtain ⟨s19, h20, h⟩ := en_b1_h h
  refine s_cd_copyFrom_31 G hz en_fu  h20 (fun f18 => ?_)
  refine en_s_aload_n rfl rfl ?_
  refine en_s_getR (w := some (3, g1, 0)) rfl rfl rfl rfl ?_
  refine en_s_iconst rfl ?_
  refine en_s_aload_n rfl rfl ?_
  refine en_s_getR (w := some (3, g, 0)) rfl rfl rfl rfl ?_
  refine en_s_iconst rfl ?_
  refine en_s_sipush rfl ?_
  obtain ⟨s21, e22, h⟩ := en_let_h h
  refine en_s_copy e22 rfl (en_tw_of (i := 622) (by decide +kernel) (by decide +kernel)) rfl rfl (by decide) (by decide) rfl rfl rfl ?_
  refine en_s_aload_n rfl rfl ?_
  refine en_s_getR (w := some (4, g1, 0)) rfl rfl rfl rfl ?_
  refine en_s_iconst rfl ?_
  refine en_s_aload_n rfl rfl ?_
  refine en_s_getR (w := some (4, g, 0)) rfl rfl rfl rfl ?_
  refine en_s_iconst rfl ?_
  refine en_s_sipush rfl ?_
  obtain ⟨s23, e24, h⟩ := en_let_h h
  refine en_s_copy e24 rfl (en_tw_of (i := 622) (by decide +kernel) (by decide +kernel)) rfl rfl (by decide) (by decide) rfl rfl rfl ?_
  refine en_s_aload_n rfl rfl ?_
  refine en_s_getR (w := some (5, g1, 0)) rfl rfl rfl rfl ?_
  refine en_s_iconst rfl ?_
  refine en_s_aload_n rfl rfl ?_
  refine en_s_getR (w := some (5, g, 0)) rfl rfl rfl rfl ?_
  refine en_s_iconst rfl ?_
  refine en_s_sipush rfl ?_
  obtain ⟨s25, e26, h⟩ := en_let_h h
  refine en_s_copy e26 rfl (en_tw_of (i := 622) (by decide +kernel) (by decide +kernel)) rfl rfl (by decide) (by decide) rfl rfl rfl ?_
  refine en_s_aload_n rfl rfl ?_
  refine en_s_getR (w := some (6, g, 0)) rfl rfl rfl rfl ?_
  refine en_s_aload_n rfl rfl ?_
  refine en_s_getR (w := some (6, g1, 0)) rfl rfl rfl rfl ?_
  obtain ⟨s27, h28, h⟩ := en_b1_h h
  refine en_callV (as := [.inr (.inl (some (6, g1, 0)))]) (rest := []) (bc' := 0) (bs' := 0) hz rfl (s_lg_copyFrom G hz (d + 0) h28) lk_0_106 mv_lg_copyFrom rfl rfl rfl rfl rfl (fun _ h => h) (Nat.le_refl _) (Nat.le_refl _) ?_
  refine en_s_aload_n rfl rfl ?_
  refine en_s_getR (w := some (8, g, 0)) rfl rfl rfl rfl ?_
  refine en_s_aload_n rfl rfl ?_
  refine en_s_getR (w := some (8, g1, 0)) rfl rfl rfl rfl ?_
  obtain ⟨s29, h30, h⟩ := en_b1_h h
  refine en_callV (as := [.inr (.inl (some (8, g1, 0)))]) (rest := []) (bc' := 0) (bs' := 0) hz rfl (s_fi_copyFrom G hz (d + 0) h30) lk_0_109 mv_fi_copyFrom rfl rfl rfl rfl rfl (fun _ h => h) (Nat.le_refl _) (Nat.le_refl _) ?_
  refine en_s_aload_n rfl rfl ?_
  refine en_s_getR (w := some (11, g, 0)) rfl rfl rfl rfl ?_
  refine en_s_aload_n rfl rfl ?_
  refine en_s_getR (w := some (11, g1, 0)) rfl rfl rfl rfl ?_
  obtain ⟨s31, h32, h⟩ := en_b1_h h
  refine en_callV (as := [.inr (.inl (some (11, g1, 0)))]) (rest := []) (bc' := 0) (bs' := 0) hz rfl (s_ta_copyFrom G hz (d + 1) h32) lk_0_112 mv_ta_copyFrom rfl rfl rfl rfl rfl (fun _ h => h) (Nat.le_refl _) (Nat.le_refl _) ?_
  refine en_s_aload_n rfl rfl ?_
  refine en_s_aload_n rfl rfl ?_
  refine en_s_getI rfl rfl rfl ?_
  obtain ⟨s33, e34, h⟩ := en_let_h h
  refine en_p_putI e34 rfl rfl rfl rfl rfl ?_
  refine en_s_aload_n rfl rfl ?_
  refine en_s_aload_n rfl rfl ?_
  refine en_s_getI rfl rfl rfl ?_
  obtain ⟨s35, e36, h⟩ := en_let_h h
  refine en_p_putI e36 rfl rfl rfl rfl rfl ?_
  refine en_s_aload_n rfl rfl ?_
  refine en_s_aload_n rfl rfl ?_
  refine en_s_getI rfl rfl rfl ?_
  obtain ⟨s37, e38, h⟩ := en_let_h h
  refine en_p_putI e38 rfl rfl rfl rfl rfl ?_
  refine en_s_aload_n rfl rfl ?_
  refine en_s_aload_n rfl rfl ?_
  refine en_s_getI rfl rfl rfl ?_
  obtain ⟨s39, e40, h⟩ := en_let_h h
  refine en_p_putI e40 rfl rfl rfl rfl rfl ?_
  refine en_s_aload_n rfl rfl ?_
  refine en_s_aload_n rfl rfl ?_
  refine en_s_getI rfl rfl rfl ?_
  obtain ⟨s41, e42, h⟩ := en_let_h h
  refine en_p_putI e42 rfl rfl rfl rfl rfl ?_
  refine en_s_aload_n rfl rfl ?_
  refine en_s_aload_n rfl rfl ?_
  refine en_s_getI rfl rfl rfl ?_
  obtain ⟨s43, e44, h⟩ := en_let_h h
  refine en_p_putI e44 rfl rfl rfl rfl rfl ?_
  refine en_s_aload_n rfl rfl ?_
  refine en_s_aload_n rfl rfl ?_
  refine en_s_getI rfl rfl rfl ?_
  obtain ⟨s45, e46, h⟩ := en_let_h h
  refine en_p_putI e46 rfl rfl rfl rfl rfl ?_
  refine en_s_aload_n rfl rfl ?_
  refine en_s_aload_n rfl rfl ?_
  refine en_s_getI rfl rfl rfl ?_
  obtain ⟨s47, e48, h⟩ := en_let_h h
  refine en_p_putI e48 rfl rfl rfl rfl rfl ?_
  refine en_s_aload_n rfl rfl ?_
  refine en_s_aload_n rfl rfl ?_
  refine en_s_getI rfl rfl rfl ?_
  obtain ⟨s49, e50, h⟩ := en_let_h h
  refine en_p_putI e50 rfl rfl rfl rfl rfl ?_
  cases h
  exact en_s_vret rfl rfl
def k_cd_sendAt (g : Nat) (v1 : Int32) (σ : en_M) : Option (Option Nat) :=
  if v1 < 0 then
    some none
  else
    if (σ 0 g 0 13) ≤ v1 then
      some none
    else
      if ((σ 0 g 0 13) - 8) ≤ v1 then
        en_b1 (en_ix 8 (v1 - v1 / 8 * 8)) fun q4 =>
        some (some q4)
      else
        some none
set_option maxRecDepth 100000 in
set_option maxHeartbeats 4000000 in
theorem s_cd_sendAt (G : en_G) (hz : G.2.2.2.2.2.2.2.2 = none) (d : Nat) {cs : List en_A} {σ : en_M} {g : Nat} {v1 : Int32} {x0 : Option Nat}  (h : k_cd_sendAt g v1 σ = some x0) : en_Mt G (d + 0) 0 0 M_cd_sendAt [.inr (.inl (some (0, g, 0))), .inl v1] cs en_rf σ (.inr (some (.inr (.inl (x0.map (fun z9 => (13, g, z9))))))) cs en_rf σ := by
  refine en_meth (ls := [some (.inr (.inl (some (0, g, 0)))), some (.inl v1)]) md_cd_sendAt rfl rfl rfl ?_
  unfold k_cd_sendAt at h
  refine en_s_iload_n rfl rfl ?_
  refine en_s_if_lt rfl (fun c1 => ?_) (fun c1 => ?_)
  · rw [if_pos c1] at h
    refine en_s_null rfl ?_
    refine en_s_goto rfl ?_
    cases h
    exact en_s_aret rfl rfl
  · rw [if_neg c1] at h
    refine en_s_iload_n rfl rfl ?_
    refine en_s_aload_n rfl rfl ?_
    refine en_s_getI rfl rfl rfl ?_
    refine en_s_icmp_ge rfl (fun c2 => ?_) (fun c2 => ?_)
    · rw [if_pos c2] at h
      refine en_s_null rfl ?_
      refine en_s_goto rfl ?_
      cases h
      exact en_s_aret rfl rfl
    · rw [if_neg c2] at h
      refine en_s_iload_n rfl rfl ?_
      refine en_s_aload_n rfl rfl ?_
      refine en_s_getI rfl rfl rfl ?_
      refine en_s_bipush rfl ?_
      refine en_s_isub rfl ?_
      refine en_s_icmp_ge rfl (fun c3 => ?_) (fun c3 => ?_)
      · rw [if_pos c3] at h
        refine en_s_aload_n rfl rfl ?_
        refine en_s_getR (w := some (2, g, 0)) rfl rfl rfl rfl ?_
        refine en_s_iload_n rfl rfl ?_
        refine en_s_bipush rfl ?_
        refine en_s_irem rfl (by decide) ?_
        obtain ⟨q4, h5, h⟩ := en_b1_h h
        refine en_p_aald (t := 1) (w := some (13, g, q4)) h5 rfl rfl (fun _ => rfl) rfl ?_
        cases h
        exact en_s_aret rfl rfl
      · rw [if_neg c3] at h
        refine en_s_null rfl ?_
        refine en_s_goto rfl ?_
        cases h
        exact en_s_aret rfl rfl
def k_cc_within (v0 : Int32) (v1 : Int32) (v2 : Int32) : Int32 :=
  if v0 < v1 then
    0
  else
    if v2 < v0 then
      0
    else
      1
theorem z_cc_within {v0 : Int32} {v1 : Int32} {v2 : Int32} : k_cc_within v0 v1 v2 = 0 ∨ k_cc_within v0 v1 v2 = 1 := by
  unfold k_cc_within
  (repeat' split) <;> first | exact Or.inl rfl | exact Or.inr rfl
set_option maxRecDepth 100000 in
set_option maxHeartbeats 4000000 in
theorem s_cc_within (G : en_G) (hz : G.2.2.2.2.2.2.2.2 = none) (d : Nat) {cs : List en_A} {σ : en_M} {v0 : Int32} {v1 : Int32} {v2 : Int32} {x0 : Int32}  (h : k_cc_within v0 v1 v2 = x0) : en_Mt G (d + 0) 0 0 M_cc_within [.inl v0, .inl v1, .inl v2] cs en_rf σ (.inr (some (.inl x0))) cs en_rf σ := by
  refine en_meth (ls := [some (.inl v0), some (.inl v1), some (.inl v2)]) md_cc_within rfl rfl rfl ?_
  unfold k_cc_within at h
  refine en_s_iload_n rfl rfl ?_
  refine en_s_iload_n rfl rfl ?_
  refine en_s_icmp_lt rfl (fun c1 => ?_) (fun c1 => ?_)
  · rw [if_pos c1] at h
    refine en_s_iconst rfl ?_
    subst h
    exact en_s_zret rfl rfl (Or.inl rfl)
  · rw [if_neg c1] at h
    refine en_s_iload_n rfl rfl ?_
    refine en_s_iload_n rfl rfl ?_
    refine en_s_icmp_gt rfl (fun c2 => ?_) (fun c2 => ?_)
    · rw [if_pos c2] at h
      refine en_s_iconst rfl ?_
      subst h
      exact en_s_zret rfl rfl (Or.inl rfl)
    · rw [if_neg c2] at h
      refine en_s_iconst rfl ?_
      refine en_s_goto rfl ?_
      subst h
      exact en_s_zret rfl rfl (Or.inr rfl)
def k_cd_departingIn_45 (f0 : Nat) (g : Nat) (v1 : Int32) (v2 : Int32) (v3 : Int32) (v4 : Int32) (i5 : Nat) (v6 : Int32) (σ : en_M) : Option (Int32) := match f0 with
  | 0 => none
  | f9 + 1 =>
    if (σ 13 g i5 6) ≤ v6 then
      some (v3)
    else
      en_b1 (en_rd 160 (σ 3 g 0) (k_sd_indexOf g i5 v6 σ)) fun t7 =>
      if (k_cc_within t7 v1 (v2 - 1)) = 0 then
        k_cd_departingIn_45 f9 g v1 v2 (v3 + 0) v4 i5 (v6 + 1) σ
      else
        k_cd_departingIn_45 f9 g v1 v2 (v3 + 1) v4 i5 (v6 + 1) σ
def k_cd_departingIn_8 (f0 : Nat) (g : Nat) (v1 : Int32) (v2 : Int32) (v3 : Int32) (v4 : Int32) (σ : en_M) : Option (Int32) := match f0 with
  | 0 => none
  | f9 + 1 =>
    if (σ 0 g 0 13) ≤ v4 then
      some (v3)
    else
      en_b1 (k_cd_sendAt g v4 σ) fun t2 =>
      (match t2 with
      | none =>
        k_cd_departingIn_8 f9 g v1 v2 v3 (v4 + 1) σ
      | some z4 =>
        if (k_sd_waits g z4 σ) = 0 then
          k_cd_departingIn_8 f9 g v1 v2 v3 (v4 + 1) σ
        else
          en_b1 (k_cd_departingIn_45 en_fu g v1 v2 v3 v4 z4 (σ 13 g z4 7) σ) fun x10 =>
          k_cd_departingIn_8 f9 g v1 v2 x10 (v4 + 1) σ)
def k_cd_departingIn (g : Nat) (v1 : Int32) (v2 : Int32) (σ : en_M) : Option (Int32) :=
  en_b1 (k_cd_departingIn_8 en_fu g v1 v2 0 (σ 0 g 0 14) σ) fun x13 =>
  some x13
set_option maxRecDepth 100000 in
set_option maxHeartbeats 4000000 in
theorem s_cd_departingIn_45 (G : en_G) (hz : G.2.2.2.2.2.2.2.2 = none) {d : Nat} {r : en_P} {cs cs' : List en_A} {ρ' : en_R} {σ' : en_M} : ∀ (f0 : Nat) {g : Nat} {v1 : Int32} {v2 : Int32} {v3 : Int32} {v4 : Int32} {i5 : Nat} {v6 : Int32}  {σ : en_M} {x3 : Int32} , k_cd_departingIn_45 f0 g v1 v2 v3 v4 i5 v6 σ = some (x3) →
    (∀ (f6 : Option en_V), en_W G (d + 1) 0 0 M_cd_departingIn r cs' ρ' σ' 0 0 91 [some (.inr (.inl (some (0, g, 0)))), some (.inl v1), some (.inl v2), some (.inl x3), some (.inl v4), some (.inr (.inl (some (13, g, i5)))), f6] [] cs en_rf σ) → en_W G (d + 1) 0 0 M_cd_departingIn r cs' ρ' σ' 0 0 45 [some (.inr (.inl (some (0, g, 0)))), some (.inl v1), some (.inl v2), some (.inl v3), some (.inl v4), some (.inr (.inl (some (13, g, i5)))), some (.inl v6)] [] cs en_rf σ := by
  intro f0
  induction f0 with
  | zero =>
    intros
    rename_i h _
    cases h
  | succ f9 ih =>
    intro g v1 v2 v3 v4 i5 v6 σ x3 h hk
    rw [k_cd_departingIn_45] at h
    refine en_s_iload rfl rfl ?_
    refine en_s_aload rfl rfl ?_
    refine en_s_getI rfl rfl rfl ?_
    refine en_s_icmp_ge rfl (fun c6 => ?_) (fun c6 => ?_)
    · rw [if_pos c6] at h
      cases h
      exact hk (some (.inl v6))
    · rw [if_neg c6] at h
      refine en_s_iload_n rfl rfl ?_
      refine en_s_aload_n rfl rfl ?_
      refine en_s_getR (w := some (3, g, 0)) rfl rfl rfl rfl ?_
      refine en_s_aload rfl rfl ?_
      refine en_s_iload rfl rfl ?_
      refine en_callV (as := [.inl v6]) (rest := [.inr (.inl (some (3, g, 0))), .inl v3]) (bc' := 0) (bs' := 0) hz rfl (s_sd_indexOf G hz (d + 0) rfl) lk_0_179 mv_sd_indexOf rfl rfl rfl rfl rfl (fun _ h => h) (Nat.le_refl _) (Nat.le_refl _) ?_
      obtain ⟨t7, h8, h⟩ := en_b1_h h
      refine en_s_iald rfl rfl h8 ?_
      refine en_s_iload_n rfl rfl ?_
      refine en_s_iload_n rfl rfl ?_
      refine en_s_iconst rfl ?_
      refine en_s_isub rfl ?_
      refine en_callN (as := [.inl t7, .inl v1, .inl (v2 - 1)]) (rest := [.inl v3]) (bc' := 0) (bs' := 0) hz rfl (s_cc_within G hz (d + 0) rfl) lk_0_275 mv_cc_within rfl rfl rfl (fun _ h => h) (Nat.le_refl _) (Nat.le_refl _) ?_
      refine en_s_if_eq rfl (fun c9 => ?_) (fun c9 => ?_)
      · rw [if_pos c9] at h
        refine en_s_iconst rfl ?_
        refine en_s_iadd rfl ?_
        refine en_s_istore_n (ls' := [some (.inr (.inl (some (0, g, 0)))), some (.inl v1), some (.inl v2), some (.inl (v3 + 0)), some (.inl v4), some (.inr (.inl (some (13, g, i5)))), some (.inl v6)]) rfl rfl rfl ?_
        refine en_s_iinc (ls' := [some (.inr (.inl (some (0, g, 0)))), some (.inl v1), some (.inl v2), some (.inl (v3 + 0)), some (.inl v4), some (.inr (.inl (some (13, g, i5)))), some (.inl (v6 + 1))]) rfl rfl rfl ?_
        refine en_s_goto rfl ?_
        exact ih  h hk
      · rw [if_neg c9] at h
        refine en_s_iconst rfl ?_
        refine en_s_goto rfl ?_
        refine en_s_iadd rfl ?_
        refine en_s_istore_n (ls' := [some (.inr (.inl (some (0, g, 0)))), some (.inl v1), some (.inl v2), some (.inl (v3 + 1)), some (.inl v4), some (.inr (.inl (some (13, g, i5)))), some (.inl v6)]) rfl rfl rfl ?_
        refine en_s_iinc (ls' := [some (.inr (.inl (some (0, g, 0)))), some (.inl v1), some (.inl v2), some (.inl (v3 + 1)), some (.inl v4), some (.inr (.inl (some (13, g, i5)))), some (.inl (v6 + 1))]) rfl rfl rfl ?_
        refine en_s_goto rfl ?_
        exact ih  h hk
set_option maxRecDepth 100000 in
set_option maxHeartbeats 4000000 in
theorem s_cd_departingIn_8 (G : en_G) (hz : G.2.2.2.2.2.2.2.2 = none) {d : Nat} {r : en_P} {cs cs' : List en_A} {ρ' : en_R} {σ' : en_M} : ∀ (f0 : Nat) {g : Nat} {v1 : Int32} {v2 : Int32} {v3 : Int32} {v4 : Int32} {e5 e6 : Option en_V} {σ : en_M} {x3 : Int32} , k_cd_departingIn_8 f0 g v1 v2 v3 v4 σ = some (x3) →
    (∀ (f4 : Option en_V) (f5 : Option en_V) (f6 : Option en_V), en_W G (d + 1) 0 0 M_cd_departingIn r cs' ρ' σ' 0 0 97 [some (.inr (.inl (some (0, g, 0)))), some (.inl v1), some (.inl v2), some (.inl x3), f4, f5, f6] [] cs en_rf σ) → en_W G (d + 1) 0 0 M_cd_departingIn r cs' ρ' σ' 0 0 8 [some (.inr (.inl (some (0, g, 0)))), some (.inl v1), some (.inl v2), some (.inl v3), some (.inl v4), e5, e6] [] cs en_rf σ := by
  intro f0
  induction f0 with
  | zero =>
    intros
    rename_i h _
    cases h
  | succ f9 ih =>
    intro g v1 v2 v3 v4 e5 e6 σ x3 h hk
    rw [k_cd_departingIn_8] at h
    refine en_s_iload rfl rfl ?_
    refine en_s_aload_n rfl rfl ?_
    refine en_s_getI rfl rfl rfl ?_
    refine en_s_icmp_ge rfl (fun c1 => ?_) (fun c1 => ?_)
    · rw [if_pos c1] at h
      cases h
      exact hk (some (.inl v4)) (e5) (e6)
    · rw [if_neg c1] at h
      refine en_s_aload_n rfl rfl ?_
      refine en_s_iload rfl rfl ?_
      obtain ⟨t2, h3, h⟩ := en_b1_h h
      refine en_callV (as := [.inl v4]) (rest := []) (bc' := 0) (bs' := 0) hz rfl (s_cd_sendAt G hz (d + 0) h3) lk_0_115 mv_cd_sendAt rfl rfl rfl rfl rfl (fun _ h => h) (Nat.le_refl _) (Nat.le_refl _) ?_
      refine en_o_astore (ls' := [some (.inr (.inl (some (0, g, 0)))), some (.inl v1), some (.inl v2), some (.inl v3), some (.inl v4), some (.inr (.inl (t2.map (fun z9 => (13, g, z9))))), e6]) rfl rfl rfl ?_
      refine en_o_aload rfl rfl ?_
      cases t2 with
      | none =>
        dsimp only at h
        refine en_s_ifnullN rfl ?_
        refine en_s_iinc (ls' := [some (.inr (.inl (some (0, g, 0)))), some (.inl v1), some (.inl v2), some (.inl v3), some (.inl (v4 + 1)), some (.inr (.inl none)), e6]) rfl rfl rfl ?_
        refine en_s_goto rfl ?_
        exact ih (e5 := some (.inr (.inl none))) (e6 := e6) h hk
      | some z4 =>
        dsimp only at h
        refine en_s_ifnull rfl ?_
        refine en_s_aload rfl rfl ?_
        refine en_callV (as := []) (rest := []) (bc' := 0) (bs' := 0) hz rfl (s_sd_waits G hz (d + 0) rfl) lk_0_245 mv_sd_waits rfl rfl rfl rfl rfl (fun _ h => h) (Nat.le_refl _) (Nat.le_refl _) ?_
        refine en_s_if_eq rfl (fun c5 => ?_) (fun c5 => ?_)
        · rw [if_pos c5] at h
          refine en_s_iinc (ls' := [some (.inr (.inl (some (0, g, 0)))), some (.inl v1), some (.inl v2), some (.inl v3), some (.inl (v4 + 1)), some (.inr (.inl (some (13, g, z4)))), e6]) rfl rfl rfl ?_
          refine en_s_goto rfl ?_
          exact ih (e5 := some (.inr (.inl (some (13, g, z4))))) (e6 := e6) h hk
        · rw [if_neg c5] at h
          refine en_s_aload rfl rfl ?_
          refine en_s_getI rfl rfl rfl ?_
          refine en_s_istore (ls' := [some (.inr (.inl (some (0, g, 0)))), some (.inl v1), some (.inl v2), some (.inl v3), some (.inl v4), some (.inr (.inl (some (13, g, z4)))), some (.inl (σ 13 g z4 7))]) rfl rfl rfl ?_
          obtain ⟨x10, h12, h⟩ := en_b1_h h
          refine s_cd_departingIn_45 G hz en_fu  h12 (fun f11 => ?_)
          refine en_s_iinc (ls' := [some (.inr (.inl (some (0, g, 0)))), some (.inl v1), some (.inl v2), some (.inl x10), some (.inl (v4 + 1)), some (.inr (.inl (some (13, g, z4)))), f11]) rfl rfl rfl ?_
          refine en_s_goto rfl ?_
          exact ih (e5 := some (.inr (.inl (some (13, g, z4))))) (e6 := f11) h hk
set_option maxRecDepth 100000 in
set_option maxHeartbeats 4000000 in
theorem s_cd_departingIn (G : en_G) (hz : G.2.2.2.2.2.2.2.2 = none) (d : Nat) {cs : List en_A} {σ : en_M} {g : Nat} {v1 : Int32} {v2 : Int32} {x0 : Int32}  (h : k_cd_departingIn g v1 v2 σ = some x0) : en_Mt G (d + 1) 0 0 M_cd_departingIn [.inr (.inl (some (0, g, 0))), .inl v1, .inl v2] cs en_rf σ (.inr (some (.inl x0))) cs en_rf σ := by
  refine en_meth (ls := [some (.inr (.inl (some (0, g, 0)))), some (.inl v1), some (.inl v2), none, none, none, none]) md_cd_departingIn rfl rfl rfl ?_
  unfold k_cd_departingIn at h
  refine en_s_iconst rfl ?_
  refine en_s_istore_n (ls' := [some (.inr (.inl (some (0, g, 0)))), some (.inl v1), some (.inl v2), some (.inl 0), none, none, none]) rfl rfl rfl ?_
  refine en_s_aload_n rfl rfl ?_
  refine en_s_getI rfl rfl rfl ?_
  refine en_s_istore (ls' := [some (.inr (.inl (some (0, g, 0)))), some (.inl v1), some (.inl v2), some (.inl 0), some (.inl (σ 0 g 0 14)), none, none]) rfl rfl rfl ?_
  obtain ⟨x13, h17, h⟩ := en_b1_h h
  refine s_cd_departingIn_8 G hz en_fu (e5 := none) (e6 := none) h17 (fun f14 f15 f16 => ?_)
  refine en_s_iload_n rfl rfl ?_
  cases h
  exact en_s_iret rfl rfl
def k_cd_knownSend (g : Nat) (v1 : Int32) (σ : en_M) : Option (Option Nat) :=
  if ((σ 0 g 0 13) - (σ 0 g 0 8)) ≤ v1 then
    en_b1 (k_cd_sendAt g v1 σ) fun t2 =>
    some t2
  else
    some none
set_option maxRecDepth 100000 in
set_option maxHeartbeats 4000000 in
theorem s_cd_knownSend (G : en_G) (hz : G.2.2.2.2.2.2.2.2 = none) (d : Nat) {cs : List en_A} {σ : en_M} {g : Nat} {v1 : Int32} {x0 : Option Nat}  (h : k_cd_knownSend g v1 σ = some x0) : en_Mt G (d + 1) 0 0 M_cd_knownSend [.inr (.inl (some (0, g, 0))), .inl v1] cs en_rf σ (.inr (some (.inr (.inl (x0.map (fun z9 => (13, g, z9))))))) cs en_rf σ := by
  refine en_meth (ls := [some (.inr (.inl (some (0, g, 0)))), some (.inl v1)]) md_cd_knownSend rfl rfl rfl ?_
  unfold k_cd_knownSend at h
  refine en_s_iload_n rfl rfl ?_
  refine en_s_aload_n rfl rfl ?_
  refine en_s_getI rfl rfl rfl ?_
  refine en_s_aload_n rfl rfl ?_
  refine en_s_getI rfl rfl rfl ?_
  refine en_s_isub rfl ?_
  refine en_s_icmp_ge rfl (fun c1 => ?_) (fun c1 => ?_)
  · rw [if_pos c1] at h
    refine en_s_aload_n rfl rfl ?_
    refine en_s_iload_n rfl rfl ?_
    obtain ⟨t2, h3, h⟩ := en_b1_h h
    refine en_callV (as := [.inl v1]) (rest := []) (bc' := 0) (bs' := 0) hz rfl (s_cd_sendAt G hz (d + 0) h3) lk_0_115 mv_cd_sendAt rfl rfl rfl rfl rfl (fun _ h => h) (Nat.le_refl _) (Nat.le_refl _) ?_
    cases h
    exact en_s_aret rfl rfl
  · rw [if_neg c1] at h
    refine en_s_null rfl ?_
    refine en_s_goto rfl ?_
    cases h
    exact en_s_aret rfl rfl
def k_cd_flowAt (g : Nat) (v1 : Int32) (σ : en_M) : Option (Option Nat) :=
  if v1 < 0 then
    some none
  else
    if (σ 0 g 0 12) ≤ v1 then
      some none
    else
      if v1 < 6 then
        en_b1 (en_ix 6 v1) fun q4 =>
        some (some q4)
      else
        some none
set_option maxRecDepth 100000 in
set_option maxHeartbeats 4000000 in
theorem s_cd_flowAt (G : en_G) (hz : G.2.2.2.2.2.2.2.2 = none) (d : Nat) {cs : List en_A} {σ : en_M} {g : Nat} {v1 : Int32} {x0 : Option Nat}  (h : k_cd_flowAt g v1 σ = some x0) : en_Mt G (d + 0) 0 0 M_cd_flowAt [.inr (.inl (some (0, g, 0))), .inl v1] cs en_rf σ (.inr (some (.inr (.inl (x0.map (fun z9 => (12, g, z9))))))) cs en_rf σ := by
  refine en_meth (ls := [some (.inr (.inl (some (0, g, 0)))), some (.inl v1)]) md_cd_flowAt rfl rfl rfl ?_
  unfold k_cd_flowAt at h
  refine en_s_iload_n rfl rfl ?_
  refine en_s_if_lt rfl (fun c1 => ?_) (fun c1 => ?_)
  · rw [if_pos c1] at h
    refine en_s_null rfl ?_
    refine en_s_goto rfl ?_
    cases h
    exact en_s_aret rfl rfl
  · rw [if_neg c1] at h
    refine en_s_iload_n rfl rfl ?_
    refine en_s_aload_n rfl rfl ?_
    refine en_s_getI rfl rfl rfl ?_
    refine en_s_icmp_ge rfl (fun c2 => ?_) (fun c2 => ?_)
    · rw [if_pos c2] at h
      refine en_s_null rfl ?_
      refine en_s_goto rfl ?_
      cases h
      exact en_s_aret rfl rfl
    · rw [if_neg c2] at h
      refine en_s_iload_n rfl rfl ?_
      refine en_s_bipush rfl ?_
      refine en_s_icmp_lt rfl (fun c3 => ?_) (fun c3 => ?_)
      · rw [if_pos c3] at h
        refine en_s_aload_n rfl rfl ?_
        refine en_s_getR (w := some (1, g, 0)) rfl rfl rfl rfl ?_
        refine en_s_iload_n rfl rfl ?_
        obtain ⟨q4, h5, h⟩ := en_b1_h h
        refine en_p_aald (t := 0) (w := some (12, g, q4)) h5 rfl rfl (fun _ => rfl) rfl ?_
        cases h
        exact en_s_aret rfl rfl
      · rw [if_neg c3] at h
        refine en_s_null rfl ?_
        refine en_s_goto rfl ?_
        cases h
        exact en_s_aret rfl rfl
def k_cc_gapOf (v0 : Int32) (v1 : Int32) : Option (Int32) :=
  if 0 < v1 then
    en_b1 (en_dv (((10 * v0) + v1) - 1) v1) fun t2 =>
    some t2
  else
    some 0
set_option maxRecDepth 100000 in
set_option maxHeartbeats 4000000 in
theorem s_cc_gapOf (G : en_G) (hz : G.2.2.2.2.2.2.2.2 = none) (d : Nat) {cs : List en_A} {σ : en_M} {v0 : Int32} {v1 : Int32} {x0 : Int32}  (h : k_cc_gapOf v0 v1 = some x0) : en_Mt G (d + 0) 0 0 M_cc_gapOf [.inl v0, .inl v1] cs en_rf σ (.inr (some (.inl x0))) cs en_rf σ := by
  refine en_meth (ls := [some (.inl v0), some (.inl v1)]) md_cc_gapOf rfl rfl rfl ?_
  unfold k_cc_gapOf at h
  refine en_s_iload_n rfl rfl ?_
  refine en_s_if_gt rfl (fun c1 => ?_) (fun c1 => ?_)
  · rw [if_pos c1] at h
    refine en_s_bipush rfl ?_
    refine en_s_iload_n rfl rfl ?_
    refine en_s_imul rfl ?_
    refine en_s_iload_n rfl rfl ?_
    refine en_s_iadd rfl ?_
    refine en_s_iconst rfl ?_
    refine en_s_isub rfl ?_
    refine en_s_iload_n rfl rfl ?_
    obtain ⟨t2, h3, h⟩ := en_b1_h h
    refine en_p_idiv h3 rfl ?_
    cases h
    exact en_s_iret rfl rfl
  · rw [if_neg c1] at h
    refine en_s_iconst rfl ?_
    refine en_s_goto rfl ?_
    cases h
    exact en_s_iret rfl rfl

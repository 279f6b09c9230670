/-! By program: the methods as functions, and that they are these. -/
def k_mm_wordOf (v1 : Int32) (v2 : Int32) (v3 : Int32) (σ : en_M) : Option (Int32) :=
  en_b1 (k_mm_of v1 7 σ) fun t1 =>
  en_b1 (k_mm_of v1 2 σ) fun t3 =>
  if v3 = 0 then
    en_b1 (k_mm_sizeOf v1 v2 σ) fun t6 =>
    some t6
  else
  if v3 = 1 then
    some (((64 * v1) + v2) - ((64 * v1) + v2) / 65536 * 65536)
  else
  if v3 = 2 then
    some ((t1 + (v2 * t3)) / 65536)
  else
  if v3 = 3 then
    some ((t1 + (v2 * t3)) - (t1 + (v2 * t3)) / 65536 * 65536)
  else
  en_b1 (k_mm_of v1 0 σ) fun t11 =>
  if v2 = 0 then
    en_b1 (k_mm_piecesOf v1 σ) fun t17 =>
    if v2 = (t17 - 1) then
      some (((16 * t11) + 1) + 2)
    else
      some (((16 * t11) + 1) + 0)
  else
    en_b1 (k_mm_piecesOf v1 σ) fun t14 =>
    if v2 = (t14 - 1) then
      some (((16 * t11) + 0) + 2)
    else
      some (((16 * t11) + 0) + 0)
set_option maxRecDepth 100000 in
set_option maxHeartbeats 4000000 in
theorem s_mm_wordOf (G : en_G) (hz : G.2.2.2.2.2.2.2.2 = none) (d : Nat) {cs : List en_A} {σ : en_M} {v1 : Int32} {v2 : Int32} {v3 : Int32} {x0 : Int32}  (h : k_mm_wordOf v1 v2 v3 σ = some x0) : en_Mt G (d + 4) 0 0 M_mm_wordOf [.inr (.inl (some (24, 0, 0))), .inl v1, .inl v2, .inl v3] cs en_rf σ (.inr (some (.inl x0))) cs en_rf σ := by
  refine en_meth (ls := [some (.inr (.inl (some (24, 0, 0)))), some (.inl v1), some (.inl v2), some (.inl v3), none]) md_mm_wordOf rfl rfl rfl ?_
  unfold k_mm_wordOf at h
  refine en_s_aload_n rfl rfl ?_
  refine en_s_iload_n rfl rfl ?_
  refine en_s_bipush rfl ?_
  obtain ⟨t1, h2, h⟩ := en_b1_h h
  refine en_callV (as := [.inl v1, .inl 7]) (rest := []) (bc' := 0) (bs' := 0) hz rfl (s_mm_of G hz (d + 2) h2) lk_10_66 mv_mm_of rfl rfl rfl rfl rfl (fun _ h => h) (Nat.le_refl _) (Nat.le_refl _) ?_
  refine en_s_iload_n rfl rfl ?_
  refine en_s_aload_n rfl rfl ?_
  refine en_s_iload_n rfl rfl ?_
  refine en_s_iconst rfl ?_
  obtain ⟨t3, h4, h⟩ := en_b1_h h
  refine en_callV (as := [.inl v1, .inl 2]) (rest := [.inl v2, .inl t1]) (bc' := 0) (bs' := 0) hz rfl (s_mm_of G hz (d + 2) h4) lk_10_66 mv_mm_of rfl rfl rfl rfl rfl (fun _ h => h) (Nat.le_refl _) (Nat.le_refl _) ?_
  refine en_s_imul rfl ?_
  refine en_s_iadd rfl ?_
  refine en_s_istore (ls' := [some (.inr (.inl (some (24, 0, 0)))), some (.inl v1), some (.inl v2), some (.inl v3), some (.inl (t1 + (v2 * t3)))]) rfl rfl rfl ?_
  refine en_s_iload_n rfl rfl ?_
  by_cases c5 : v3 = 0
  · rw [if_pos c5] at h
    refine en_s_table [(0, 48), (1, 55), (2, 66), (3, 73)] rfl (by decide) (en_sw_hit c5) ?_
    refine en_s_aload_n rfl rfl ?_
    refine en_s_iload_n rfl rfl ?_
    refine en_s_iload_n rfl rfl ?_
    obtain ⟨t6, h7, h⟩ := en_b1_h h
    refine en_callV (as := [.inl v1, .inl v2]) (rest := []) (bc' := 0) (bs' := 0) hz rfl (s_mm_sizeOf G hz (d + 0) h7) lk_10_98 mv_mm_sizeOf rfl rfl rfl rfl rfl (fun _ h => h) (Nat.le_refl _) (Nat.le_refl _) ?_
    cases h
    exact en_s_iret rfl rfl
  rw [if_neg c5] at h
  by_cases c8 : v3 = 1
  · rw [if_pos c8] at h
    refine en_s_table [(0, 48), (1, 55), (2, 66), (3, 73)] rfl (by decide) (en_sw_miss c5 (en_sw_hit c8)) ?_
    refine en_s_bipush rfl ?_
    refine en_s_iload_n rfl rfl ?_
    refine en_s_imul rfl ?_
    refine en_s_iload_n rfl rfl ?_
    refine en_s_iadd rfl ?_
    refine en_s_ldcwI rfl (en_tw_of (i := 1774) (by decide +kernel) (by decide +kernel)) ?_
    refine en_s_irem rfl (by decide) ?_
    cases h
    exact en_s_iret rfl rfl
  rw [if_neg c8] at h
  by_cases c9 : v3 = 2
  · rw [if_pos c9] at h
    refine en_s_table [(0, 48), (1, 55), (2, 66), (3, 73)] rfl (by decide) (en_sw_miss c5 (en_sw_miss c8 (en_sw_hit c9))) ?_
    refine en_s_iload rfl rfl ?_
    refine en_s_ldcwI rfl (en_tw_of (i := 1774) (by decide +kernel) (by decide +kernel)) ?_
    refine en_s_idiv rfl (by decide) ?_
    cases h
    exact en_s_iret rfl rfl
  rw [if_neg c9] at h
  by_cases c10 : v3 = 3
  · rw [if_pos c10] at h
    refine en_s_table [(0, 48), (1, 55), (2, 66), (3, 73)] rfl (by decide) (en_sw_miss c5 (en_sw_miss c8 (en_sw_miss c9 (en_sw_hit c10)))) ?_
    refine en_s_iload rfl rfl ?_
    refine en_s_ldcwI rfl (en_tw_of (i := 1774) (by decide +kernel) (by decide +kernel)) ?_
    refine en_s_irem rfl (by decide) ?_
    cases h
    exact en_s_iret rfl rfl
  rw [if_neg c10] at h
  refine en_s_table [(0, 48), (1, 55), (2, 66), (3, 73)] rfl (by decide) (en_sw_miss c5 (en_sw_miss c8 (en_sw_miss c9 (en_sw_miss c10 en_sw_nil)))) ?_
  refine en_s_bipush rfl ?_
  refine en_s_aload_n rfl rfl ?_
  refine en_s_iload_n rfl rfl ?_
  refine en_s_iconst rfl ?_
  obtain ⟨t11, h12, h⟩ := en_b1_h h
  refine en_callV (as := [.inl v1, .inl 0]) (rest := [.inl 16]) (bc' := 0) (bs' := 0) hz rfl (s_mm_of G hz (d + 2) h12) lk_10_66 mv_mm_of rfl rfl rfl rfl rfl (fun _ h => h) (Nat.le_refl _) (Nat.le_refl _) ?_
  refine en_s_imul rfl ?_
  refine en_s_iload_n rfl rfl ?_
  refine en_s_if_ne rfl (fun c13 => ?_) (fun c13 => ?_)
  · rw [if_neg c13] at h
    refine en_s_iconst rfl ?_
    refine en_s_iadd rfl ?_
    refine en_s_iload_n rfl rfl ?_
    refine en_s_aload_n rfl rfl ?_
    refine en_s_iload_n rfl rfl ?_
    obtain ⟨t14, h15, h⟩ := en_b1_h h
    refine en_callV (as := [.inl v1]) (rest := [.inl v2, .inl ((16 * t11) + 0)]) (bc' := 0) (bs' := 0) hz rfl (s_mm_piecesOf G hz (d + 0) h15) lk_10_82 mv_mm_piecesOf rfl rfl rfl rfl rfl (fun _ h => h) (Nat.le_refl _) (Nat.le_refl _) ?_
    refine en_s_iconst rfl ?_
    refine en_s_isub rfl ?_
    refine en_s_icmp_ne rfl (fun c16 => ?_) (fun c16 => ?_)
    · rw [if_neg c16] at h
      refine en_s_iconst rfl ?_
      refine en_s_iadd rfl ?_
      cases h
      exact en_s_iret rfl rfl
    · rw [if_pos c16] at h
      refine en_s_iconst rfl ?_
      refine en_s_goto rfl ?_
      refine en_s_iadd rfl ?_
      cases h
      exact en_s_iret rfl rfl
  · rw [if_pos c13] at h
    refine en_s_iconst rfl ?_
    refine en_s_goto rfl ?_
    refine en_s_iadd rfl ?_
    refine en_s_iload_n rfl rfl ?_
    refine en_s_aload_n rfl rfl ?_
    refine en_s_iload_n rfl rfl ?_
    obtain ⟨t17, h18, h⟩ := en_b1_h h
    refine en_callV (as := [.inl v1]) (rest := [.inl v2, .inl ((16 * t11) + 1)]) (bc' := 0) (bs' := 0) hz rfl (s_mm_piecesOf G hz (d + 0) h18) lk_10_82 mv_mm_piecesOf rfl rfl rfl rfl rfl (fun _ h => h) (Nat.le_refl _) (Nat.le_refl _) ?_
    refine en_s_iconst rfl ?_
    refine en_s_isub rfl ?_
    refine en_s_icmp_ne rfl (fun c19 => ?_) (fun c19 => ?_)
    · rw [if_neg c19] at h
      refine en_s_iconst rfl ?_
      refine en_s_iadd rfl ?_
      cases h
      exact en_s_iret rfl rfl
    · rw [if_pos c19] at h
      refine en_s_iconst rfl ?_
      refine en_s_goto rfl ?_
      refine en_s_iadd rfl ?_
      cases h
      exact en_s_iret rfl rfl
def k_mm_sumOf_5 (f0 : Nat) (v1 : Int32) (v2 : Int32) (v3 : Int32) (v4 : Int32) (σ : en_M) : Option (Int32) := match f0 with
  | 0 => none
  | f9 + 1 =>
    if 5 ≤ v4 then
      some (v3)
    else
      en_b1 (k_mm_wordOf v1 v2 v4 σ) fun t2 =>
      k_mm_sumOf_5 f9 v1 v2 (v3 + t2) (v4 + 1) σ
def k_mm_sumOf_41 (f0 : Nat) (v1 : Int32) (v2 : Int32) (v3 : Int32) (v4 : Int32) (v5 : Int32) (σ : en_M) : Option (Int32) := match f0 with
  | 0 => none
  | f9 + 1 =>
    en_b1 (k_mm_bytesOf v1 v2 σ) fun t9 =>
    if t9 ≤ v5 then
      some (v3)
    else
      if (v5 - v5 / 2 * 2) = 0 then
        en_b1 (k_mm_byteOf v1 (v4 + v5) σ) fun t15 =>
        k_mm_sumOf_41 f9 v1 v2 (v3 + (256 * t15)) v4 (v5 + 1) σ
      else
        en_b1 (k_mm_byteOf v1 (v4 + v5) σ) fun t13 =>
        k_mm_sumOf_41 f9 v1 v2 (v3 + t13) v4 (v5 + 1) σ
def k_mm_sumOf_95 (f0 : Nat) (v3 : Int32) (σ : en_M) : Option (Int32) := match f0 with
  | 0 => none
  | f9 + 1 =>
    if v3 ≤ 65535 then
      some (v3)
    else
      k_mm_sumOf_95 f9 ((v3 / 65536) + (v3 - v3 / 65536 * 65536)) σ
def k_mm_sumOf (v1 : Int32) (v2 : Int32) (σ : en_M) : Option (Int32) :=
  en_b1 (k_mm_sumOf_5 en_fu v1 v2 0 0 σ) fun x4 =>
  en_b1 (k_mm_of v1 2 σ) fun t7 =>
  en_b1 (k_mm_sumOf_41 en_fu v1 v2 x4 (v2 * t7) 0 σ) fun x17 =>
  en_b1 (k_mm_sumOf_95 en_fu x17 σ) fun x21 =>
  some (65535 - x21)
set_option maxRecDepth 100000 in
set_option maxHeartbeats 4000000 in
theorem s_mm_sumOf_5 (G : en_G) (hz : G.2.2.2.2.2.2.2.2 = none) {d : Nat} {r : en_P} {cs cs' : List en_A} {ρ' : en_R} {σ' : en_M} : ∀ (f0 : Nat) {v1 : Int32} {v2 : Int32} {v3 : Int32} {v4 : Int32} {e5 : Option en_V} {σ : en_M} {x3 : Int32} , k_mm_sumOf_5 f0 v1 v2 v3 v4 σ = some (x3) →
    (∀ (f4 : Option en_V), en_W G (d + 5) 0 0 M_mm_sumOf r cs' ρ' σ' 0 0 28 [some (.inr (.inl (some (24, 0, 0)))), some (.inl v1), some (.inl v2), some (.inl x3), f4, e5] [] cs en_rf σ) → en_W G (d + 5) 0 0 M_mm_sumOf r cs' ρ' σ' 0 0 5 [some (.inr (.inl (some (24, 0, 0)))), some (.inl v1), some (.inl v2), some (.inl v3), some (.inl v4), e5] [] cs en_rf σ := by
  intro f0
  induction f0 with
  | zero =>
    intros
    rename_i h _
    cases h
  | succ f9 ih =>
    intro v1 v2 v3 v4 e5 σ x3 h hk
    rw [k_mm_sumOf_5] at h
    refine en_s_iload rfl rfl ?_
    refine en_s_iconst rfl ?_
    refine en_s_icmp_ge rfl (fun c1 => ?_) (fun c1 => ?_)
    · rw [if_pos c1] at h
      cases h
      exact hk (some (.inl v4))
    · rw [if_neg c1] at h
      refine en_s_iload_n rfl rfl ?_
      refine en_s_aload_n rfl rfl ?_
      refine en_s_iload_n rfl rfl ?_
      refine en_s_iload_n rfl rfl ?_
      refine en_s_iload rfl rfl ?_
      obtain ⟨t2, h3, h⟩ := en_b1_h h
      refine en_callV (as := [.inl v1, .inl v2, .inl v4]) (rest := [.inl v3]) (bc' := 0) (bs' := 0) hz rfl (s_mm_wordOf G hz (d + 0) h3) lk_10_278 mv_mm_wordOf rfl rfl rfl rfl rfl (fun _ h => h) (Nat.le_refl _) (Nat.le_refl _) ?_
      refine en_s_iadd rfl ?_
      refine en_s_istore_n (ls' := [some (.inr (.inl (some (24, 0, 0)))), some (.inl v1), some (.inl v2), some (.inl (v3 + t2)), some (.inl v4), e5]) rfl rfl rfl ?_
      refine en_s_iinc (ls' := [some (.inr (.inl (some (24, 0, 0)))), some (.inl v1), some (.inl v2), some (.inl (v3 + t2)), some (.inl (v4 + 1)), e5]) rfl rfl rfl ?_
      refine en_s_goto rfl ?_
      exact ih (e5 := e5) h hk
set_option maxRecDepth 100000 in
set_option maxHeartbeats 4000000 in
theorem s_mm_sumOf_41 (G : en_G) (hz : G.2.2.2.2.2.2.2.2 = none) {d : Nat} {r : en_P} {cs cs' : List en_A} {ρ' : en_R} {σ' : en_M} : ∀ (f0 : Nat) {v1 : Int32} {v2 : Int32} {v3 : Int32} {v4 : Int32} {v5 : Int32}  {σ : en_M} {x3 : Int32} , k_mm_sumOf_41 f0 v1 v2 v3 v4 v5 σ = some (x3) →
    (∀ (f5 : Option en_V), en_W G (d + 5) 0 0 M_mm_sumOf r cs' ρ' σ' 0 0 95 [some (.inr (.inl (some (24, 0, 0)))), some (.inl v1), some (.inl v2), some (.inl x3), some (.inl v4), f5] [] cs en_rf σ) → en_W G (d + 5) 0 0 M_mm_sumOf r cs' ρ' σ' 0 0 41 [some (.inr (.inl (some (24, 0, 0)))), some (.inl v1), some (.inl v2), some (.inl v3), some (.inl v4), some (.inl v5)] [] cs en_rf σ := by
  intro f0
  induction f0 with
  | zero =>
    intros
    rename_i h _
    cases h
  | succ f9 ih =>
    intro v1 v2 v3 v4 v5 σ x3 h hk
    rw [k_mm_sumOf_41] at h
    refine en_s_iload rfl rfl ?_
    refine en_s_aload_n rfl rfl ?_
    refine en_s_iload_n rfl rfl ?_
    refine en_s_iload_n rfl rfl ?_
    obtain ⟨t9, h10, h⟩ := en_b1_h h
    refine en_callV (as := [.inl v1, .inl v2]) (rest := [.inl v5]) (bc' := 0) (bs' := 0) hz rfl (s_mm_bytesOf G hz (d + 2) h10) lk_10_75 mv_mm_bytesOf rfl rfl rfl rfl rfl (fun _ h => h) (Nat.le_refl _) (Nat.le_refl _) ?_
    refine en_s_icmp_ge rfl (fun c11 => ?_) (fun c11 => ?_)
    · rw [if_pos c11] at h
      cases h
      exact hk (some (.inl v5))
    · rw [if_neg c11] at h
      refine en_s_iload_n rfl rfl ?_
      refine en_s_iload rfl rfl ?_
      refine en_s_iconst rfl ?_
      refine en_s_irem rfl (by decide) ?_
      refine en_s_if_ne rfl (fun c12 => ?_) (fun c12 => ?_)
      · rw [if_neg c12] at h
        refine en_s_aload_n rfl rfl ?_
        refine en_s_iload_n rfl rfl ?_
        refine en_s_iload rfl rfl ?_
        refine en_s_iload rfl rfl ?_
        refine en_s_iadd rfl ?_
        obtain ⟨t13, h14, h⟩ := en_b1_h h
        refine en_callV (as := [.inl v1, .inl (v4 + v5)]) (rest := [.inl v3]) (bc' := 0) (bs' := 0) hz rfl (s_mm_byteOf G hz (d + 2) h14) lk_10_281 mv_mm_byteOf rfl rfl rfl rfl rfl (fun _ h => h) (Nat.le_refl _) (Nat.le_refl _) ?_
        refine en_s_iadd rfl ?_
        refine en_s_istore_n (ls' := [some (.inr (.inl (some (24, 0, 0)))), some (.inl v1), some (.inl v2), some (.inl (v3 + t13)), some (.inl v4), some (.inl v5)]) rfl rfl rfl ?_
        refine en_s_iinc (ls' := [some (.inr (.inl (some (24, 0, 0)))), some (.inl v1), some (.inl v2), some (.inl (v3 + t13)), some (.inl v4), some (.inl (v5 + 1))]) rfl rfl rfl ?_
        refine en_s_goto rfl ?_
        exact ih  h hk
      · rw [if_pos c12] at h
        refine en_s_sipush rfl ?_
        refine en_s_aload_n rfl rfl ?_
        refine en_s_iload_n rfl rfl ?_
        refine en_s_iload rfl rfl ?_
        refine en_s_iload rfl rfl ?_
        refine en_s_iadd rfl ?_
        obtain ⟨t15, h16, h⟩ := en_b1_h h
        refine en_callV (as := [.inl v1, .inl (v4 + v5)]) (rest := [.inl 256, .inl v3]) (bc' := 0) (bs' := 0) hz rfl (s_mm_byteOf G hz (d + 2) h16) lk_10_281 mv_mm_byteOf rfl rfl rfl rfl rfl (fun _ h => h) (Nat.le_refl _) (Nat.le_refl _) ?_
        refine en_s_imul rfl ?_
        refine en_s_goto rfl ?_
        refine en_s_iadd rfl ?_
        refine en_s_istore_n (ls' := [some (.inr (.inl (some (24, 0, 0)))), some (.inl v1), some (.inl v2), some (.inl (v3 + (256 * t15))), some (.inl v4), some (.inl v5)]) rfl rfl rfl ?_
        refine en_s_iinc (ls' := [some (.inr (.inl (some (24, 0, 0)))), some (.inl v1), some (.inl v2), some (.inl (v3 + (256 * t15))), some (.inl v4), some (.inl (v5 + 1))]) rfl rfl rfl ?_
        refine en_s_goto rfl ?_
        exact ih  h hk
set_option maxRecDepth 100000 in
set_option maxHeartbeats 4000000 in
theorem s_mm_sumOf_95 (G : en_G) (hz : G.2.2.2.2.2.2.2.2 = none) {d : Nat} {r : en_P} {cs cs' : List en_A} {ρ' : en_R} {σ' : en_M} : ∀ (f0 : Nat) {v3 : Int32} {e0 e1 e2 e4 e5 : Option en_V} {σ : en_M} {x3 : Int32} , k_mm_sumOf_95 f0 v3 σ = some (x3) →
    (∀ (_ : Unit), en_W G (d + 5) 0 0 M_mm_sumOf r cs' ρ' σ' 0 0 117 [e0, e1, e2, some (.inl x3), e4, e5] [] cs en_rf σ) → en_W G (d + 5) 0 0 M_mm_sumOf r cs' ρ' σ' 0 0 95 [e0, e1, e2, some (.inl v3), e4, e5] [] cs en_rf σ := by
  intro f0
  induction f0 with
  | zero =>
    intros
    rename_i h _
    cases h
  | succ f9 ih =>
    intro v3 e0 e1 e2 e4 e5 σ x3 h hk
    rw [k_mm_sumOf_95] at h
    refine en_s_iload_n rfl rfl ?_
    refine en_s_ldcwI rfl (en_tw_of (i := 1779) (by decide +kernel) (by decide +kernel)) ?_
    refine en_s_icmp_le rfl (fun c20 => ?_) (fun c20 => ?_)
    · rw [if_pos c20] at h
      cases h
      exact hk ()
    · rw [if_neg c20] at h
      refine en_s_iload_n rfl rfl ?_
      refine en_s_ldcwI rfl (en_tw_of (i := 1774) (by decide +kernel) (by decide +kernel)) ?_
      refine en_s_idiv rfl (by decide) ?_
      refine en_s_iload_n rfl rfl ?_
      refine en_s_ldcwI rfl (en_tw_of (i := 1774) (by decide +kernel) (by decide +kernel)) ?_
      refine en_s_irem rfl (by decide) ?_
      refine en_s_iadd rfl ?_
      refine en_s_istore_n (ls' := [e0, e1, e2, some (.inl ((v3 / 65536) + (v3 - v3 / 65536 * 65536))), e4, e5]) rfl rfl rfl ?_
      refine en_s_goto rfl ?_
      exact ih (e0 := e0) (e1 := e1) (e2 := e2) (e4 := e4) (e5 := e5) h hk
set_option maxRecDepth 100000 in
set_option maxHeartbeats 4000000 in
theorem s_mm_sumOf (G : en_G) (hz : G.2.2.2.2.2.2.2.2 = none) (d : Nat) {cs : List en_A} {σ : en_M} {v1 : Int32} {v2 : Int32} {x0 : Int32}  (h : k_mm_sumOf v1 v2 σ = some x0) : en_Mt G (d + 5) 0 0 M_mm_sumOf [.inr (.inl (some (24, 0, 0))), .inl v1, .inl v2] cs en_rf σ (.inr (some (.inl x0))) cs en_rf σ := by
  refine en_meth (ls := [some (.inr (.inl (some (24, 0, 0)))), some (.inl v1), some (.inl v2), none, none, none]) md_mm_sumOf rfl rfl rfl ?_
  unfold k_mm_sumOf at h
  refine en_s_iconst rfl ?_
  refine en_s_istore_n (ls' := [some (.inr (.inl (some (24, 0, 0)))), some (.inl v1), some (.inl v2), some (.inl 0), none, none]) rfl rfl rfl ?_
  refine en_s_iconst rfl ?_
  refine en_s_istore (ls' := [some (.inr (.inl (some (24, 0, 0)))), some (.inl v1), some (.inl v2), some (.inl 0), some (.inl 0), none]) rfl rfl rfl ?_
  obtain ⟨x4, h6, h⟩ := en_b1_h h
  refine s_mm_sumOf_5 G hz en_fu (e5 := none) h6 (fun f5 => ?_)
  refine en_s_iload_n rfl rfl ?_
  refine en_s_aload_n rfl rfl ?_
  refine en_s_iload_n rfl rfl ?_
  refine en_s_iconst rfl ?_
  obtain ⟨t7, h8, h⟩ := en_b1_h h
  refine en_callV (as := [.inl v1, .inl 2]) (rest := [.inl v2]) (bc' := 0) (bs' := 0) hz rfl (s_mm_of G hz (d + 3) h8) lk_10_66 mv_mm_of rfl rfl rfl rfl rfl (fun _ h => h) (Nat.le_refl _) (Nat.le_refl _) ?_
  refine en_s_imul rfl ?_
  refine en_s_istore (ls' := [some (.inr (.inl (some (24, 0, 0)))), some (.inl v1), some (.inl v2), some (.inl x4), some (.inl (v2 * t7)), none]) rfl rfl rfl ?_
  refine en_s_iconst rfl ?_
  refine en_s_istore (ls' := [some (.inr (.inl (some (24, 0, 0)))), some (.inl v1), some (.inl v2), some (.inl x4), some (.inl (v2 * t7)), some (.inl 0)]) rfl rfl rfl ?_
  obtain ⟨x17, h19, h⟩ := en_b1_h h
  refine s_mm_sumOf_41 G hz en_fu  h19 (fun f18 => ?_)
  obtain ⟨x21, h22, h⟩ := en_b1_h h
  refine s_mm_sumOf_95 G hz en_fu (e0 := some (.inr (.inl (some (24, 0, 0))))) (e1 := some (.inl v1)) (e2 := some (.inl v2)) (e4 := some (.inl (v2 * t7))) (e5 := f18) h22 (fun _ => ?_)
  refine en_s_ldcwI rfl (en_tw_of (i := 1779) (by decide +kernel) (by decide +kernel)) ?_
  refine en_s_iload_n rfl rfl ?_
  refine en_s_isub rfl ?_
  cases h
  exact en_s_iret rfl rfl
def k_mm_byteIn (v1 : Int32) (v2 : Int32) (v3 : Int32) (σ : en_M) : Option (Int32) :=
  if v3 < 12 then
    if (v3 / 2) = 5 then
      en_b1 (k_mm_sumOf v1 v2 σ) fun t6 =>
      if (v3 - v3 / 2 * 2) = 0 then
        some (t6 / 256)
      else
        some (t6 - t6 / 256 * 256)
    else
      en_b1 (k_mm_wordOf v1 v2 (v3 / 2) σ) fun t3 =>
      if (v3 - v3 / 2 * 2) = 0 then
        some (t3 / 256)
      else
        some (t3 - t3 / 256 * 256)
  else
    en_b1 (k_mm_of v1 2 σ) fun t9 =>
    en_b1 (k_mm_byteOf v1 (((v2 * t9) + v3) - 12) σ) fun t11 =>
    some t11
set_option maxRecDepth 100000 in
set_option maxHeartbeats 4000000 in
theorem s_mm_byteIn (G : en_G) (hz : G.2.2.2.2.2.2.2.2 = none) (d : Nat) {cs : List en_A} {σ : en_M} {v1 : Int32} {v2 : Int32} {v3 : Int32} {x0 : Int32}  (h : k_mm_byteIn v1 v2 v3 σ = some x0) : en_Mt G (d + 6) 0 0 M_mm_byteIn [.inr (.inl (some (24, 0, 0))), .inl v1, .inl v2, .inl v3] cs en_rf σ (.inr (some (.inl x0))) cs en_rf σ := by
  refine en_meth (ls := [some (.inr (.inl (some (24, 0, 0)))), some (.inl v1), some (.inl v2), some (.inl v3), none]) md_mm_byteIn rfl rfl rfl ?_
  unfold k_mm_byteIn at h
  refine en_s_iload_n rfl rfl ?_
  refine en_s_bipush rfl ?_
  refine en_s_icmp_lt rfl (fun c1 => ?_) (fun c1 => ?_)
  · rw [if_pos c1] at h
    refine en_s_iload_n rfl rfl ?_
    refine en_s_iconst rfl ?_
    refine en_s_idiv rfl (by decide) ?_
    refine en_s_iconst rfl ?_
    refine en_s_icmp_ne rfl (fun c2 => ?_) (fun c2 => ?_)
    · rw [if_neg c2] at h
      refine en_s_aload_n rfl rfl ?_
      refine en_s_iload_n rfl rfl ?_
      refine en_s_iload_n rfl rfl ?_
      refine en_s_iload_n rfl rfl ?_
      refine en_s_iconst rfl ?_
      refine en_s_idiv rfl (by decide) ?_
      obtain ⟨t3, h4, h⟩ := en_b1_h h
      refine en_callV (as := [.inl v1, .inl v2, .inl (v3 / 2)]) (rest := []) (bc' := 0) (bs' := 0) hz rfl (s_mm_wordOf G hz (d + 1) h4) lk_10_278 mv_mm_wordOf rfl rfl rfl rfl rfl (fun _ h => h) (Nat.le_refl _) (Nat.le_refl _) ?_
      refine en_s_istore (ls' := [some (.inr (.inl (some (24, 0, 0)))), some (.inl v1), some (.inl v2), some (.inl v3), some (.inl t3)]) rfl rfl rfl ?_
      refine en_s_iload_n rfl rfl ?_
      refine en_s_iconst rfl ?_
      refine en_s_irem rfl (by decide) ?_
      refine en_s_if_ne rfl (fun c5 => ?_) (fun c5 => ?_)
      · rw [if_neg c5] at h
        refine en_s_iload rfl rfl ?_
        refine en_s_sipush rfl ?_
        refine en_s_irem rfl (by decide) ?_
        cases h
        exact en_s_iret rfl rfl
      · rw [if_pos c5] at h
        refine en_s_iload rfl rfl ?_
        refine en_s_sipush rfl ?_
        refine en_s_idiv rfl (by decide) ?_
        refine en_s_goto rfl ?_
        cases h
        exact en_s_iret rfl rfl
    · rw [if_pos c2] at h
      refine en_s_aload_n rfl rfl ?_
      refine en_s_iload_n rfl rfl ?_
      refine en_s_iload_n rfl rfl ?_
      obtain ⟨t6, h7, h⟩ := en_b1_h h
      refine en_callV (as := [.inl v1, .inl v2]) (rest := []) (bc' := 0) (bs' := 0) hz rfl (s_mm_sumOf G hz (d + 0) h7) lk_10_288 mv_mm_sumOf rfl rfl rfl rfl rfl (fun _ h => h) (Nat.le_refl _) (Nat.le_refl _) ?_
      refine en_s_goto rfl ?_
      refine en_s_istore (ls' := [some (.inr (.inl (some (24, 0, 0)))), some (.inl v1), some (.inl v2), some (.inl v3), some (.inl t6)]) rfl rfl rfl ?_
      refine en_s_iload_n rfl rfl ?_
      refine en_s_iconst rfl ?_
      refine en_s_irem rfl (by decide) ?_
      refine en_s_if_ne rfl (fun c8 => ?_) (fun c8 => ?_)
      · rw [if_neg c8] at h
        refine en_s_iload rfl rfl ?_
        refine en_s_sipush rfl ?_
        refine en_s_irem rfl (by decide) ?_
        cases h
        exact en_s_iret rfl rfl
      · rw [if_pos c8] at h
        refine en_s_iload rfl rfl ?_
        refine en_s_sipush rfl ?_
        refine en_s_idiv rfl (by decide) ?_
        refine en_s_goto rfl ?_
        cases h
        exact en_s_iret rfl rfl
  · rw [if_neg c1] at h
    refine en_s_aload_n rfl rfl ?_
    refine en_s_iload_n rfl rfl ?_
    refine en_s_iload_n rfl rfl ?_
    refine en_s_aload_n rfl rfl ?_
    refine en_s_iload_n rfl rfl ?_
    refine en_s_iconst rfl ?_
    obtain ⟨t9, h10, h⟩ := en_b1_h h
    refine en_callV (as := [.inl v1, .inl 2]) (rest := [.inl v2, .inl v1, .inr (.inl (some (24, 0, 0)))]) (bc' := 0) (bs' := 0) hz rfl (s_mm_of G hz (d + 4) h10) lk_10_66 mv_mm_of rfl rfl rfl rfl rfl (fun _ h => h) (Nat.le_refl _) (Nat.le_refl _) ?_
    refine en_s_imul rfl ?_
    refine en_s_iload_n rfl rfl ?_
    refine en_s_iadd rfl ?_
    refine en_s_bipush rfl ?_
    refine en_s_isub rfl ?_
    obtain ⟨t11, h12, h⟩ := en_b1_h h
    refine en_callV (as := [.inl v1, .inl (((v2 * t9) + v3) - 12)]) (rest := []) (bc' := 0) (bs' := 0) hz rfl (s_mm_byteOf G hz (d + 3) h12) lk_10_281 mv_mm_byteOf rfl rfl rfl rfl rfl (fun _ h => h) (Nat.le_refl _) (Nat.le_refl _) ?_
    cases h
    exact en_s_iret rfl rfl
def k_mm_pairAt (v1 : Int32) (v2 : Int32) (v3 : Int32) (σ : en_M) : Option (Int32) :=
  en_b1 (k_mm_byteIn v1 v2 (2 * v3) σ) fun t1 =>
  en_b1 (k_mm_byteIn v1 v2 ((2 * v3) + 1) σ) fun t3 =>
  some ((256 * t1) + t3)
set_option maxRecDepth 100000 in
set_option maxHeartbeats 4000000 in
theorem s_mm_pairAt (G : en_G) (hz : G.2.2.2.2.2.2.2.2 = none) (d : Nat) {cs : List en_A} {σ : en_M} {v1 : Int32} {v2 : Int32} {v3 : Int32} {x0 : Int32}  (h : k_mm_pairAt v1 v2 v3 σ = some x0) : en_Mt G (d + 7) 0 0 M_mm_pairAt [.inr (.inl (some (24, 0, 0))), .inl v1, .inl v2, .inl v3] cs en_rf σ (.inr (some (.inl x0))) cs en_rf σ := by
  refine en_meth (ls := [some (.inr (.inl (some (24, 0, 0)))), some (.inl v1), some (.inl v2), some (.inl v3)]) md_mm_pairAt rfl rfl rfl ?_
  unfold k_mm_pairAt at h
  refine en_s_sipush rfl ?_
  refine en_s_aload_n rfl rfl ?_
  refine en_s_iload_n rfl rfl ?_
  refine en_s_iload_n rfl rfl ?_
  refine en_s_iconst rfl ?_
  refine en_s_iload_n rfl rfl ?_
  refine en_s_imul rfl ?_
  obtain ⟨t1, h2, h⟩ := en_b1_h h
  refine en_callV (as := [.inl v1, .inl v2, .inl (2 * v3)]) (rest := [.inl 256]) (bc' := 0) (bs' := 0) hz rfl (s_mm_byteIn G hz (d + 0) h2) lk_10_291 mv_mm_byteIn rfl rfl rfl rfl rfl (fun _ h => h) (Nat.le_refl _) (Nat.le_refl _) ?_
  refine en_s_imul rfl ?_
  refine en_s_aload_n rfl rfl ?_
  refine en_s_iload_n rfl rfl ?_
  refine en_s_iload_n rfl rfl ?_
  refine en_s_iconst rfl ?_
  refine en_s_iload_n rfl rfl ?_
  refine en_s_imul rfl ?_
  refine en_s_iconst rfl ?_
  refine en_s_iadd rfl ?_
  obtain ⟨t3, h4, h⟩ := en_b1_h h
  refine en_callV (as := [.inl v1, .inl v2, .inl ((2 * v3) + 1)]) (rest := [.inl (256 * t1)]) (bc' := 0) (bs' := 0) hz rfl (s_mm_byteIn G hz (d + 0) h4) lk_10_291 mv_mm_byteIn rfl rfl rfl rfl rfl (fun _ h => h) (Nat.le_refl _) (Nat.le_refl _) ?_
  refine en_s_iadd rfl ?_
  cases h
  exact en_s_iret rfl rfl
def k_mm_blind_48 (f0 : Nat) (v1 : Int32) (v2 : Int32) (v3 : Int32) (v4 : Int32) (v5 : Int32) (σ : en_M) : Option (Int32) := match f0 with
  | 0 => none
  | f9 + 1 =>
    if v4 ≤ v5 then
      some (v3)
    else
      if v4 = 5 then
        k_mm_blind_48 f9 v1 v2 v3 v4 (v5 + 1) σ
      else
        if v5 = 5 then
          k_mm_blind_48 f9 v1 v2 v3 v4 (v5 + 1) σ
        else
          en_b1 (k_mm_pairAt v1 v2 v4 σ) fun t13 =>
          en_b1 (k_mm_pairAt v1 v2 v5 σ) fun t15 =>
          if t13 = t15 then
            k_mm_blind_48 f9 v1 v2 (v3 + 0) v4 (v5 + 1) σ
          else
            k_mm_blind_48 f9 v1 v2 (v3 + 1) v4 (v5 + 1) σ
def k_mm_blind_32 (f0 : Nat) (v1 : Int32) (v2 : Int32) (v3 : Int32) (v4 : Int32) (σ : en_M) : Option (Int32) := match f0 with
  | 0 => none
  | f9 + 1 =>
    en_b1 (k_mm_sizeOf v1 v2 σ) fun t7 =>
    if (t7 / 2) ≤ v4 then
      some (v3)
    else
      en_b1 (k_mm_blind_48 en_fu v1 v2 v3 v4 0 σ) fun x18 =>
      k_mm_blind_32 f9 v1 v2 x18 (v4 + 1) σ
def k_mm_blind (v1 : Int32) (v2 : Int32) (σ : en_M) : Option (Int32 × en_M) :=
  en_b1 (k_mm_isPiece v1 v2 σ) fun t1 =>
  if t1 = 0 then
    en_let (en_wr σ 24 0 0 0 1) fun s4 =>
    if (s4 24 0 0 0) ≤ 0 then
      en_b1 (k_mm_blind_32 en_fu v1 v2 0 0 s4) fun x21 =>
      some (x21, s4)
    else
      some (0, s4)
  else
    en_let (en_wr σ 24 0 0 0 0) fun s25 =>
    if (s25 24 0 0 0) ≤ 0 then
      en_b1 (k_mm_blind_32 en_fu v1 v2 0 0 s25) fun x28 =>
      some (x28, s25)
    else
      some (0, s25)
set_option maxRecDepth 100000 in
set_option maxHeartbeats 4000000 in
theorem s_mm_blind_48 (G : en_G) (hz : G.2.2.2.2.2.2.2.2 = none) {d : Nat} {r : en_P} {cs cs' : List en_A} {ρ' : en_R} {σ' : en_M} : ∀ (f0 : Nat) {v1 : Int32} {v2 : Int32} {v3 : Int32} {v4 : Int32} {v5 : Int32}  {σ : en_M} {x3 : Int32} , k_mm_blind_48 f0 v1 v2 v3 v4 v5 σ = some (x3) →
    (∀ (f5 : Option en_V), en_W G (d + 8) 0 0 M_mm_blind r cs' ρ' σ' 0 0 103 [some (.inr (.inl (some (24, 0, 0)))), some (.inl v1), some (.inl v2), some (.inl x3), some (.inl v4), f5] [] cs en_rf σ) → en_W G (d + 8) 0 0 M_mm_blind r cs' ρ' σ' 0 0 48 [some (.inr (.inl (some (24, 0, 0)))), some (.inl v1), some (.inl v2), some (.inl v3), some (.inl v4), some (.inl v5)] [] cs en_rf σ := by
  intro f0
  induction f0 with
  | zero =>
    intros
    rename_i h _
    cases h
  | succ f9 ih =>
    intro v1 v2 v3 v4 v5 σ x3 h hk
    rw [k_mm_blind_48] at h
    refine en_s_iload rfl rfl ?_
    refine en_s_iload rfl rfl ?_
    refine en_s_icmp_ge rfl (fun c10 => ?_) (fun c10 => ?_)
    · rw [if_pos c10] at h
      cases h
      exact hk (some (.inl v5))
    · rw [if_neg c10] at h
      refine en_s_iload rfl rfl ?_
      refine en_s_iconst rfl ?_
      refine en_s_icmp_eq rfl (fun c11 => ?_) (fun c11 => ?_)
      · rw [if_pos c11] at h
        refine en_s_iinc (ls' := [some (.inr (.inl (some (24, 0, 0)))), some (.inl v1), some (.inl v2), some (.inl v3), some (.inl v4), some (.inl (v5 + 1))]) rfl rfl rfl ?_
        refine en_s_goto rfl ?_
        exact ih  h hk
      · rw [if_neg c11] at h
        refine en_s_iload rfl rfl ?_
        refine en_s_iconst rfl ?_
        refine en_s_icmp_ne rfl (fun c12 => ?_) (fun c12 => ?_)
        · rw [if_neg c12] at h
          refine en_s_iload_n rfl rfl ?_
          refine en_s_aload_n rfl rfl ?_
          refine en_s_iload_n rfl rfl ?_
          refine en_s_iload_n rfl rfl ?_
          refine en_s_iload rfl rfl ?_
          obtain ⟨t13, h14, h⟩ := en_b1_h h
          refine en_callV (as := [.inl v1, .inl v2, .inl v4]) (rest := [.inl v3]) (bc' := 0) (bs' := 0) hz rfl (s_mm_pairAt G hz (d + 0) h14) lk_10_310 mv_mm_pairAt rfl rfl rfl rfl rfl (fun _ h => h) (Nat.le_refl _) (Nat.le_refl _) ?_
          refine en_s_aload_n rfl rfl ?_
          refine en_s_iload_n rfl rfl ?_
          refine en_s_iload_n rfl rfl ?_
          refine en_s_iload rfl rfl ?_
          obtain ⟨t15, h16, h⟩ := en_b1_h h
          refine en_callV (as := [.inl v1, .inl v2, .inl v5]) (rest := [.inl t13, .inl v3]) (bc' := 0) (bs' := 0) hz rfl (s_mm_pairAt G hz (d + 0) h16) lk_10_310 mv_mm_pairAt rfl rfl rfl rfl rfl (fun _ h => h) (Nat.le_refl _) (Nat.le_refl _) ?_
          refine en_s_icmp_eq rfl (fun c17 => ?_) (fun c17 => ?_)
          · rw [if_pos c17] at h
            refine en_s_iconst rfl ?_
            refine en_s_iadd rfl ?_
            refine en_s_istore_n (ls' := [some (.inr (.inl (some (24, 0, 0)))), some (.inl v1), some (.inl v2), some (.inl (v3 + 0)), some (.inl v4), some (.inl v5)]) rfl rfl rfl ?_
            refine en_s_iinc (ls' := [some (.inr (.inl (some (24, 0, 0)))), some (.inl v1), some (.inl v2), some (.inl (v3 + 0)), some (.inl v4), some (.inl (v5 + 1))]) rfl rfl rfl ?_
            refine en_s_goto rfl ?_
            exact ih  h hk
          · rw [if_neg c17] at h
            refine en_s_iconst rfl ?_
            refine en_s_goto rfl ?_
            refine en_s_iadd rfl ?_
            refine en_s_istore_n (ls' := [some (.inr (.inl (some (24, 0, 0)))), some (.inl v1), some (.inl v2), some (.inl (v3 + 1)), some (.inl v4), some (.inl v5)]) rfl rfl rfl ?_
            refine en_s_iinc (ls' := [some (.inr (.inl (some (24, 0, 0)))), some (.inl v1), some (.inl v2), some (.inl (v3 + 1)), some (.inl v4), some (.inl (v5 + 1))]) rfl rfl rfl ?_
            refine en_s_goto rfl ?_
            exact ih  h hk
        · rw [if_pos c12] at h
          refine en_s_goto rfl ?_
          refine en_s_iinc (ls' := [some (.inr (.inl (some (24, 0, 0)))), some (.inl v1), some (.inl v2), some (.inl v3), some (.inl v4), some (.inl (v5 + 1))]) rfl rfl rfl ?_
          refine en_s_goto rfl ?_
          exact ih  h hk
set_option maxRecDepth 100000 in
set_option maxHeartbeats 4000000 in
theorem s_mm_blind_32 (G : en_G) (hz : G.2.2.2.2.2.2.2.2 = none) {d : Nat} {r : en_P} {cs cs' : List en_A} {ρ' : en_R} {σ' : en_M} : ∀ (f0 : Nat) {v1 : Int32} {v2 : Int32} {v3 : Int32} {v4 : Int32} {e5 : Option en_V} {σ : en_M} {x3 : Int32} , k_mm_blind_32 f0 v1 v2 v3 v4 σ = some (x3) →
    (∀ (f4 : Option en_V) (f5 : Option en_V), en_W G (d + 8) 0 0 M_mm_blind r cs' ρ' σ' 0 0 109 [some (.inr (.inl (some (24, 0, 0)))), some (.inl v1), some (.inl v2), some (.inl x3), f4, f5] [] cs en_rf σ) → en_W G (d + 8) 0 0 M_mm_blind r cs' ρ' σ' 0 0 32 [some (.inr (.inl (some (24, 0, 0)))), some (.inl v1), some (.inl v2), some (.inl v3), some (.inl v4), e5] [] cs en_rf σ := by
  intro f0
  induction f0 with
  | zero =>
    intros
    rename_i h _
    cases h
  | succ f9 ih =>
    intro v1 v2 v3 v4 e5 σ x3 h hk
    rw [k_mm_blind_32] at h
    refine en_s_iload rfl rfl ?_
    refine en_s_aload_n rfl rfl ?_
    refine en_s_iload_n rfl rfl ?_
    refine en_s_iload_n rfl rfl ?_
    obtain ⟨t7, h8, h⟩ := en_b1_h h
    refine en_callV (as := [.inl v1, .inl v2]) (rest := [.inl v4]) (bc' := 0) (bs' := 0) hz rfl (s_mm_sizeOf G hz (d + 4) h8) lk_10_98 mv_mm_sizeOf rfl rfl rfl rfl rfl (fun _ h => h) (Nat.le_refl _) (Nat.le_refl _) ?_
    refine en_s_iconst rfl ?_
    refine en_s_idiv rfl (by decide) ?_
    refine en_s_icmp_ge rfl (fun c9 => ?_) (fun c9 => ?_)
    · rw [if_pos c9] at h
      cases h
      exact hk (some (.inl v4)) (e5)
    · rw [if_neg c9] at h
      refine en_s_iconst rfl ?_
      refine en_s_istore (ls' := [some (.inr (.inl (some (24, 0, 0)))), some (.inl v1), some (.inl v2), some (.inl v3), some (.inl v4), some (.inl 0)]) rfl rfl rfl ?_
      obtain ⟨x18, h20, h⟩ := en_b1_h h
      refine s_mm_blind_48 G hz en_fu  h20 (fun f19 => ?_)
      refine en_s_iinc (ls' := [some (.inr (.inl (some (24, 0, 0)))), some (.inl v1), some (.inl v2), some (.inl x18), some (.inl (v4 + 1)), f19]) rfl rfl rfl ?_
      refine en_s_goto rfl ?_
      exact ih (e5 := f19) h hk
set_option maxRecDepth 100000 in
set_option maxHeartbeats 4000000 in
theorem s_mm_blind (G : en_G) (hz : G.2.2.2.2.2.2.2.2 = none) (d : Nat) {cs : List en_A} {σ : en_M} {v1 : Int32} {v2 : Int32} {x0 : Int32} {s0 : en_M}  (h : k_mm_blind v1 v2 σ = some (x0, s0)) : en_Mt G (d + 8) 0 0 M_mm_blind [.inr (.inl (some (24, 0, 0))), .inl v1, .inl v2] cs en_rf σ (.inr (some (.inl x0))) cs en_rf s0 := by
  refine en_meth (ls := [some (.inr (.inl (some (24, 0, 0)))), some (.inl v1), some (.inl v2), none, none, none]) md_mm_blind rfl rfl rfl ?_
  unfold k_mm_blind at h
  refine en_s_aload_n rfl rfl ?_
  refine en_s_aload_n rfl rfl ?_
  refine en_s_iload_n rfl rfl ?_
  refine en_s_iload_n rfl rfl ?_
  obtain ⟨t1, h2, h⟩ := en_b1_h h
  refine en_callV (as := [.inl v1, .inl v2]) (rest := [.inr (.inl (some (24, 0, 0)))]) (bc' := 0) (bs' := 0) hz rfl (s_mm_isPiece G hz (d + 3) h2) lk_10_285 mv_mm_isPiece rfl rfl rfl rfl rfl (fun _ h => h) (Nat.le_refl _) (Nat.le_refl _) ?_
  refine en_s_if_eq rfl (fun c3 => ?_) (fun c3 => ?_)
  · rw [if_pos c3] at h
    refine en_s_iconst rfl ?_
    obtain ⟨s4, e5, h⟩ := en_let_h h
    refine en_p_putI e5 rfl rfl rfl rfl rfl ?_
    refine en_s_aload_n rfl rfl ?_
    refine en_s_getI rfl rfl rfl ?_
    refine en_s_if_le rfl (fun c6 => ?_) (fun c6 => ?_)
    · rw [if_pos c6] at h
      refine en_s_iconst rfl ?_
      refine en_s_istore_n (ls' := [some (.inr (.inl (some (24, 0, 0)))), some (.inl v1), some (.inl v2), some (.inl 0), none, none]) rfl rfl rfl ?_
      refine en_s_iconst rfl ?_
      refine en_s_istore (ls' := [some (.inr (.inl (some (24, 0, 0)))), some (.inl v1), some (.inl v2), some (.inl 0), some (.inl 0), none]) rfl rfl rfl ?_
      obtain ⟨x21, h24, h⟩ := en_b1_h h
      refine s_mm_blind_32 G hz en_fu (e5 := none) h24 (fun f22 f23 => ?_)
      refine en_s_iload_n rfl rfl ?_
      cases h
      exact en_s_iret rfl rfl
    · rw [if_neg c6] at h
      refine en_s_iconst rfl ?_
      cases h
      exact en_s_iret rfl rfl
  · rw [if_neg c3] at h
    refine en_s_iconst rfl ?_
    refine en_s_goto rfl ?_
    obtain ⟨s25, e26, h⟩ := en_let_h h
    refine en_p_putI e26 rfl rfl rfl rfl rfl ?_
    refine en_s_aload_n rfl rfl ?_
    refine en_s_getI rfl rfl rfl ?_
    refine en_s_if_le rfl (fun c27 => ?_) (fun c27 => ?_)
    · rw [if_pos c27] at h
      refine en_s_iconst rfl ?_
      refine en_s_istore_n (ls' := [some (.inr (.inl (some (24, 0, 0)))), some (.inl v1), some (.inl v2), some (.inl 0), none, none]) rfl rfl rfl ?_
      refine en_s_iconst rfl ?_
      refine en_s_istore (ls' := [some (.inr (.inl (some (24, 0, 0)))), some (.inl v1), some (.inl v2), some (.inl 0), some (.inl 0), none]) rfl rfl rfl ?_
      obtain ⟨x28, h31, h⟩ := en_b1_h h
      refine s_mm_blind_32 G hz en_fu (e5 := none) h31 (fun f29 f30 => ?_)
      refine en_s_iload_n rfl rfl ?_
      cases h
      exact en_s_iret rfl rfl
    · rw [if_neg c27] at h
      refine en_s_iconst rfl ?_
      cases h
      exact en_s_iret rfl rfl
def k_mm_both (v0 : Int32) (v1 : Int32) (v2 : Int32) (v3 : Int32) : Int32 :=
  k_mm_greater 0 ((k_mm_lesser v1 v3) - (k_mm_greater v0 v2))
set_option maxRecDepth 100000 in
set_option maxHeartbeats 4000000 in
theorem s_mm_both (G : en_G) (hz : G.2.2.2.2.2.2.2.2 = none) (d : Nat) {cs : List en_A} {σ : en_M} {v0 : Int32} {v1 : Int32} {v2 : Int32} {v3 : Int32} {x0 : Int32}  (h : k_mm_both v0 v1 v2 v3 = x0) : en_Mt G (d + 1) 0 0 M_mm_both [.inl v0, .inl v1, .inl v2, .inl v3] cs en_rf σ (.inr (some (.inl x0))) cs en_rf σ := by
  refine en_meth (ls := [some (.inl v0), some (.inl v1), some (.inl v2), some (.inl v3)]) md_mm_both rfl rfl rfl ?_
  unfold k_mm_both at h
  refine en_s_iconst rfl ?_
  refine en_s_iload_n rfl rfl ?_
  refine en_s_iload_n rfl rfl ?_
  refine en_callS (as := [.inl v1, .inl v3]) (rest := [.inl 0]) (bc' := 0) (bs' := 0) hz rfl (s_mm_lesser G hz (d + 0) rfl) lk_10_72 mv_mm_lesser rfl rfl rfl (fun _ h => h) (Nat.le_refl _) (Nat.le_refl _) ?_
  refine en_s_iload_n rfl rfl ?_
  refine en_s_iload_n rfl rfl ?_
  refine en_callS (as := [.inl v0, .inl v2]) (rest := [.inl (k_mm_lesser v1 v3), .inl 0]) (bc' := 0) (bs' := 0) hz rfl (s_mm_greater G hz (d + 0) rfl) lk_10_62 mv_mm_greater rfl rfl rfl (fun _ h => h) (Nat.le_refl _) (Nat.le_refl _) ?_
  refine en_s_isub rfl ?_
  refine en_callS (as := [.inl 0, .inl ((k_mm_lesser v1 v3) - (k_mm_greater v0 v2))]) (rest := []) (bc' := 0) (bs' := 0) hz rfl (s_mm_greater G hz (d + 0) rfl) lk_10_62 mv_mm_greater rfl rfl rfl (fun _ h => h) (Nat.le_refl _) (Nat.le_refl _) ?_
  subst h
  exact en_s_iret rfl rfl
def k_mm_logAt (v1 : Int32) (v2 : Int32) (σ : en_M) : Option (Int32) :=
  en_b1 (en_rd 938 (σ 25 0 0) ((618 + (7 * v1)) + v2)) fun t1 =>
  some t1
set_option maxRecDepth 100000 in
set_option maxHeartbeats 4000000 in
theorem s_mm_logAt (G : en_G) (hz : G.2.2.2.2.2.2.2.2 = none) (d : Nat) {cs : List en_A} {σ : en_M} {v1 : Int32} {v2 : Int32} {x0 : Int32}  (h : k_mm_logAt v1 v2 σ = some x0) : en_Mt G (d + 0) 0 0 M_mm_logAt [.inr (.inl (some (24, 0, 0))), .inl v1, .inl v2] cs en_rf σ (.inr (some (.inl x0))) cs en_rf σ := by
  refine en_meth (ls := [some (.inr (.inl (some (24, 0, 0)))), some (.inl v1), some (.inl v2)]) md_mm_logAt rfl rfl rfl ?_
  unfold k_mm_logAt at h
  refine en_s_aload_n rfl rfl ?_
  refine en_s_getR (w := some (25, 0, 0)) rfl rfl rfl rfl ?_
  refine en_s_sipush rfl ?_
  refine en_s_bipush rfl ?_
  refine en_s_iload_n rfl rfl ?_
  refine en_s_imul rfl ?_
  refine en_s_iadd rfl ?_
  refine en_s_iload_n rfl rfl ?_
  refine en_s_iadd rfl ?_
  obtain ⟨t1, h2, h⟩ := en_b1_h h
  refine en_s_iald rfl rfl h2 ?_
  cases h
  exact en_s_iret rfl rfl
def k_mm_sizesFrom_6 (f0 : Nat) (v1 : Int32) (v2 : Int32) (v3 : Int32) (v4 : Int32) (v5 : Int32) (σ : en_M) : Option (Int32) := match f0 with
  | 0 => none
  | f9 + 1 =>
    if (σ 25 0 0 18) ≤ v5 then
      some (v4)
    else
      en_b1 (k_mm_logAt v5 2 σ) fun t2 =>
      if t2 = v1 then
        en_b1 (k_mm_logAt v5 5 σ) fun t5 =>
        if (k_mm_isIn t5 v2 ((v2 + v3) - 1)) = 0 then
          k_mm_sizesFrom_6 f9 v1 v2 v3 (v4 + 0) (v5 + 1) σ
        else
          en_b1 (k_mm_logAt v5 3 σ) fun t8 =>
          k_mm_sizesFrom_6 f9 v1 v2 v3 (v4 + t8) (v5 + 1) σ
      else
        k_mm_sizesFrom_6 f9 v1 v2 v3 (v4 + 0) (v5 + 1) σ
def k_mm_sizesFrom (v1 : Int32) (v2 : Int32) (v3 : Int32) (σ : en_M) : Option (Int32) :=
  en_b1 (k_mm_sizesFrom_6 en_fu v1 v2 v3 0 0 σ) fun x10 =>
  some x10
set_option maxRecDepth 100000 in
set_option maxHeartbeats 4000000 in
theorem s_mm_sizesFrom_6 (G : en_G) (hz : G.2.2.2.2.2.2.2.2 = none) {d : Nat} {r : en_P} {cs cs' : List en_A} {ρ' : en_R} {σ' : en_M} : ∀ (f0 : Nat) {v1 : Int32} {v2 : Int32} {v3 : Int32} {v4 : Int32} {v5 : Int32}  {σ : en_M} {x4 : Int32} , k_mm_sizesFrom_6 f0 v1 v2 v3 v4 v5 σ = some (x4) →
    (∀ (f5 : Option en_V), en_W G (d + 1) 0 0 M_mm_sizesFrom r cs' ρ' σ' 0 0 70 [some (.inr (.inl (some (24, 0, 0)))), some (.inl v1), some (.inl v2), some (.inl v3), some (.inl x4), f5] [] cs en_rf σ) → en_W G (d + 1) 0 0 M_mm_sizesFrom r cs' ρ' σ' 0 0 6 [some (.inr (.inl (some (24, 0, 0)))), some (.inl v1), some (.inl v2), some (.inl v3), some (.inl v4), some (.inl v5)] [] cs en_rf σ := by
  intro f0
  induction f0 with
  | zero =>
    intros
    rename_i h _
    cases h
  | succ f9 ih =>
    intro v1 v2 v3 v4 v5 σ x4 h hk
    rw [k_mm_sizesFrom_6] at h
    refine en_s_iload rfl rfl ?_
    refine en_s_aload_n rfl rfl ?_
    refine en_s_getR (w := some (25, 0, 0)) rfl rfl rfl rfl ?_
    refine en_s_bipush rfl ?_
    refine en_c_iald (q := 18) rfl rfl (by decide) (by decide) ?_
    refine en_s_icmp_ge rfl (fun c1 => ?_) (fun c1 => ?_)
    · rw [if_pos c1] at h
      cases h
      exact hk (some (.inl v5))
    · rw [if_neg c1] at h
      refine en_s_iload rfl rfl ?_
      refine en_s_aload_n rfl rfl ?_
      refine en_s_iload rfl rfl ?_
      refine en_s_iconst rfl ?_
      obtain ⟨t2, h3, h⟩ := en_b1_h h
      refine en_callV (as := [.inl v5, .inl 2]) (rest := [.inl v4]) (bc' := 0) (bs' := 0) hz rfl (s_mm_logAt G hz (d + 0) h3) lk_10_294 mv_mm_logAt rfl rfl rfl rfl rfl (fun _ h => h) (Nat.le_refl _) (Nat.le_refl _) ?_
      refine en_s_iload_n rfl rfl ?_
      refine en_s_icmp_ne rfl (fun c4 => ?_) (fun c4 => ?_)
      · rw [if_neg c4] at h
        refine en_s_iconst rfl ?_
        refine en_s_iadd rfl ?_
        refine en_s_istore (ls' := [some (.inr (.inl (some (24, 0, 0)))), some (.inl v1), some (.inl v2), some (.inl v3), some (.inl (v4 + 0)), some (.inl v5)]) rfl rfl rfl ?_
        refine en_s_iinc (ls' := [some (.inr (.inl (some (24, 0, 0)))), some (.inl v1), some (.inl v2), some (.inl v3), some (.inl (v4 + 0)), some (.inl (v5 + 1))]) rfl rfl rfl ?_
        refine en_s_goto rfl ?_
        exact ih  h hk
      · rw [if_pos c4] at h
        refine en_s_aload_n rfl rfl ?_
        refine en_s_iload rfl rfl ?_
        refine en_s_iconst rfl ?_
        obtain ⟨t5, h6, h⟩ := en_b1_h h
        refine en_callV (as := [.inl v5, .inl 5]) (rest := [.inl v4]) (bc' := 0) (bs' := 0) hz rfl (s_mm_logAt G hz (d + 0) h6) lk_10_294 mv_mm_logAt rfl rfl rfl rfl rfl (fun _ h => h) (Nat.le_refl _) (Nat.le_refl _) ?_
        refine en_s_iload_n rfl rfl ?_
        refine en_s_iload_n rfl rfl ?_
        refine en_s_iload_n rfl rfl ?_
        refine en_s_iadd rfl ?_
        refine en_s_iconst rfl ?_
        refine en_s_isub rfl ?_
        refine en_callS (as := [.inl t5, .inl v2, .inl ((v2 + v3) - 1)]) (rest := [.inl v4]) (bc' := 0) (bs' := 0) hz rfl (s_mm_isIn G hz (d + 0) rfl) lk_10_54 mv_mm_isIn rfl rfl rfl (fun _ h => h) (Nat.le_refl _) (Nat.le_refl _) ?_
        refine en_s_if_eq rfl (fun c7 => ?_) (fun c7 => ?_)
        · rw [if_pos c7] at h
          refine en_s_iconst rfl ?_
          refine en_s_iadd rfl ?_
          refine en_s_istore (ls' := [some (.inr (.inl (some (24, 0, 0)))), some (.inl v1), some (.inl v2), some (.inl v3), some (.inl (v4 + 0)), some (.inl v5)]) rfl rfl rfl ?_
          refine en_s_iinc (ls' := [some (.inr (.inl (some (24, 0, 0)))), some (.inl v1), some (.inl v2), some (.inl v3), some (.inl (v4 + 0)), some (.inl (v5 + 1))]) rfl rfl rfl ?_
          refine en_s_goto rfl ?_
          exact ih  h hk
        · rw [if_neg c7] at h
          refine en_s_aload_n rfl rfl ?_
          refine en_s_iload rfl rfl ?_
          refine en_s_iconst rfl ?_
          obtain ⟨t8, h9, h⟩ := en_b1_h h
          refine en_callV (as := [.inl v5, .inl 3]) (rest := [.inl v4]) (bc' := 0) (bs' := 0) hz rfl (s_mm_logAt G hz (d + 0) h9) lk_10_294 mv_mm_logAt rfl rfl rfl rfl rfl (fun _ h => h) (Nat.le_refl _) (Nat.le_refl _) ?_
          refine en_s_goto rfl ?_
          refine en_s_iadd rfl ?_
          refine en_s_istore (ls' := [some (.inr (.inl (some (24, 0, 0)))), some (.inl v1), some (.inl v2), some (.inl v3), some (.inl (v4 + t8)), some (.inl v5)]) rfl rfl rfl ?_
          refine en_s_iinc (ls' := [some (.inr (.inl (some (24, 0, 0)))), some (.inl v1), some (.inl v2), some (.inl v3), some (.inl (v4 + t8)), some (.inl (v5 + 1))]) rfl rfl rfl ?_
          refine en_s_goto rfl ?_
          exact ih  h hk
set_option maxRecDepth 100000 in
set_option maxHeartbeats 4000000 in
theorem s_mm_sizesFrom (G : en_G) (hz : G.2.2.2.2.2.2.2.2 = none) (d : Nat) {cs : List en_A} {σ : en_M} {v1 : Int32} {v2 : Int32} {v3 : Int32} {x0 : Int32}  (h : k_mm_sizesFrom v1 v2 v3 σ = some x0) : en_Mt G (d + 1) 0 0 M_mm_sizesFrom [.inr (.inl (some (24, 0, 0))), .inl v1, .inl v2, .inl v3] cs en_rf σ (.inr (some (.inl x0))) cs en_rf σ := by
  refine en_meth (ls := [some (.inr (.inl (some (24, 0, 0)))), some (.inl v1), some (.inl v2), some (.inl v3), none, none]) md_mm_sizesFrom rfl rfl rfl ?_
  unfold k_mm_sizesFrom at h
  refine en_s_iconst rfl ?_
  refine en_s_istore (ls' := [some (.inr (.inl (some (24, 0, 0)))), some (.inl v1), some (.inl v2), some (.inl v3), some (.inl 0), none]) rfl rfl rfl ?_
  refine en_s_iconst rfl ?_
  refine en_s_istore (ls' := [some (.inr (.inl (some (24, 0, 0)))), some (.inl v1), some (.inl v2), some (.inl v3), some (.inl 0), some (.inl 0)]) rfl rfl rfl ?_
  obtain ⟨x10, h12, h⟩ := en_b1_h h
  refine s_mm_sizesFrom_6 G hz en_fu  h12 (fun f11 => ?_)
  refine en_s_iload rfl rfl ?_
  cases h
  exact en_s_iret rfl rfl
def k_mm_burst_45 (f0 : Nat) (v1 : Int32) (v2 : Int32) (v3 : Int32) (v4 : Int32) (σ : en_M) : Option (Int32) := match f0 with
  | 0 => none
  | f9 + 1 =>
    if (σ 25 0 0 18) ≤ v4 then
      some (v3)
    else
      en_b1 (k_mm_logAt v4 5 σ) fun t7 =>
      en_b1 (k_mm_sizesFrom v1 t7 v2 σ) fun t9 =>
      k_mm_burst_45 f9 v1 v2 (k_mm_greater v3 t9) (v4 + 1) σ
def k_mm_burst (v1 : Int32) (v2 : Int32) (σ : en_M) : Option (Int32 × en_M) :=
  if (k_mm_isFlow v1 σ) = 0 then
    en_let (en_wr σ 24 0 0 0 1) fun s20 =>
    if (s20 24 0 0 0) ≤ 0 then
      en_b1 (k_mm_burst_45 en_fu v1 v2 0 0 s20) fun x23 =>
      some (x23, s20)
    else
      some (0, s20)
  else
    if (k_mm_isIn v2 1 99) = 0 then
      en_let (en_wr σ 24 0 0 0 2) fun s14 =>
      if (s14 24 0 0 0) ≤ 0 then
        en_b1 (k_mm_burst_45 en_fu v1 v2 0 0 s14) fun x17 =>
        some (x17, s14)
      else
        some (0, s14)
    else
      en_let (en_wr σ 24 0 0 0 0) fun s3 =>
      if (s3 24 0 0 0) ≤ 0 then
        en_b1 (k_mm_burst_45 en_fu v1 v2 0 0 s3) fun x11 =>
        some (x11, s3)
      else
        some (0, s3)
set_option maxRecDepth 100000 in
set_option maxHeartbeats 4000000 in
theorem s_mm_burst_45 (G : en_G) (hz : G.2.2.2.2.2.2.2.2 = none) {d : Nat} {r : en_P} {cs cs' : List en_A} {ρ' : en_R} {σ' : en_M} : ∀ (f0 : Nat) {v1 : Int32} {v2 : Int32} {v3 : Int32} {v4 : Int32}  {σ : en_M} {x3 : Int32} , k_mm_burst_45 f0 v1 v2 v3 v4 σ = some (x3) →
    (∀ (f4 : Option en_V), en_W G (d + 2) 0 0 M_mm_burst r cs' ρ' σ' 0 0 81 [some (.inr (.inl (some (24, 0, 0)))), some (.inl v1), some (.inl v2), some (.inl x3), f4] [] cs en_rf σ) → en_W G (d + 2) 0 0 M_mm_burst r cs' ρ' σ' 0 0 45 [some (.inr (.inl (some (24, 0, 0)))), some (.inl v1), some (.inl v2), some (.inl v3), some (.inl v4)] [] cs en_rf σ := by
  intro f0
  induction f0 with
  | zero =>
    intros
    rename_i h _
    cases h
  | succ f9 ih =>
    intro v1 v2 v3 v4 σ x3 h hk
    rw [k_mm_burst_45] at h
    refine en_s_iload rfl rfl ?_
    refine en_s_aload_n rfl rfl ?_
    refine en_s_getR (w := some (25, 0, 0)) rfl rfl rfl rfl ?_
    refine en_s_bipush rfl ?_
    refine en_c_iald (q := 18) rfl rfl (by decide) (by decide) ?_
    refine en_s_icmp_ge rfl (fun c6 => ?_) (fun c6 => ?_)
    · rw [if_pos c6] at h
      cases h
      exact hk (some (.inl v4))
    · rw [if_neg c6] at h
      refine en_s_iload_n rfl rfl ?_
      refine en_s_aload_n rfl rfl ?_
      refine en_s_iload_n rfl rfl ?_
      refine en_s_aload_n rfl rfl ?_
      refine en_s_iload rfl rfl ?_
      refine en_s_iconst rfl ?_
      obtain ⟨t7, h8, h⟩ := en_b1_h h
      refine en_callV (as := [.inl v4, .inl 5]) (rest := [.inl v1, .inr (.inl (some (24, 0, 0))), .inl v3]) (bc' := 0) (bs' := 0) hz rfl (s_mm_logAt G hz (d + 1) h8) lk_10_294 mv_mm_logAt rfl rfl rfl rfl rfl (fun _ h => h) (Nat.le_refl _) (Nat.le_refl _) ?_
      refine en_s_iload_n rfl rfl ?_
      obtain ⟨t9, h10, h⟩ := en_b1_h h
      refine en_callV (as := [.inl v1, .inl t7, .inl v2]) (rest := [.inl v3]) (bc' := 0) (bs' := 0) hz rfl (s_mm_sizesFrom G hz (d + 0) h10) lk_10_300 mv_mm_sizesFrom rfl rfl rfl rfl rfl (fun _ h => h) (Nat.le_refl _) (Nat.le_refl _) ?_
      refine en_callS (as := [.inl v3, .inl t9]) (rest := []) (bc' := 0) (bs' := 0) hz rfl (s_mm_greater G hz (d + 1) rfl) lk_10_62 mv_mm_greater rfl rfl rfl (fun _ h => h) (Nat.le_refl _) (Nat.le_refl _) ?_
      refine en_s_istore_n (ls' := [some (.inr (.inl (some (24, 0, 0)))), some (.inl v1), some (.inl v2), some (.inl (k_mm_greater v3 t9)), some (.inl v4)]) rfl rfl rfl ?_
      refine en_s_iinc (ls' := [some (.inr (.inl (some (24, 0, 0)))), some (.inl v1), some (.inl v2), some (.inl (k_mm_greater v3 t9)), some (.inl (v4 + 1))]) rfl rfl rfl ?_
      refine en_s_goto rfl ?_
      exact ih  h hk
set_option maxRecDepth 100000 in
set_option maxHeartbeats 4000000 in
theorem s_mm_burst (G : en_G) (hz : G.2.2.2.2.2.2.2.2 = none) (d : Nat) {cs : List en_A} {σ : en_M} {v1 : Int32} {v2 : Int32} {x0 : Int32} {s0 : en_M}  (h : k_mm_burst v1 v2 σ = some (x0, s0)) : en_Mt G (d + 2) 0 0 M_mm_burst [.inr (.inl (some (24, 0, 0))), .inl v1, .inl v2] cs en_rf σ (.inr (some (.inl x0))) cs en_rf s0 := by
  refine en_meth (ls := [some (.inr (.inl (some (24, 0, 0)))), some (.inl v1), some (.inl v2), none, none]) md_mm_burst rfl rfl rfl ?_
  unfold k_mm_burst at h
  refine en_s_aload_n rfl rfl ?_
  refine en_s_aload_n rfl rfl ?_
  refine en_s_iload_n rfl rfl ?_
  refine en_callV (as := [.inl v1]) (rest := [.inr (.inl (some (24, 0, 0)))]) (bc' := 0) (bs' := 0) hz rfl (s_mm_isFlow G hz (d + 0) rfl) lk_10_101 mv_mm_isFlow rfl rfl rfl rfl rfl (fun _ h => h) (Nat.le_refl _) (Nat.le_refl _) ?_
  refine en_s_if_ne rfl (fun c1 => ?_) (fun c1 => ?_)
  · rw [if_neg c1] at h
    refine en_s_iload_n rfl rfl ?_
    refine en_s_iconst rfl ?_
    refine en_s_bipush rfl ?_
    refine en_callS (as := [.inl v2, .inl 1, .inl 99]) (rest := [.inr (.inl (some (24, 0, 0)))]) (bc' := 0) (bs' := 0) hz rfl (s_mm_isIn G hz (d + 1) rfl) lk_10_54 mv_mm_isIn rfl rfl rfl (fun _ h => h) (Nat.le_refl _) (Nat.le_refl _) ?_
    refine en_s_if_ne rfl (fun c2 => ?_) (fun c2 => ?_)
    · rw [if_neg c2] at h
      refine en_s_iconst rfl ?_
      obtain ⟨s3, e4, h⟩ := en_let_h h
      refine en_p_putI e4 rfl rfl rfl rfl rfl ?_
      refine en_s_aload_n rfl rfl ?_
      refine en_s_getI rfl rfl rfl ?_
      refine en_s_if_le rfl (fun c5 => ?_) (fun c5 => ?_)
      · rw [if_pos c5] at h
        refine en_s_iconst rfl ?_
        refine en_s_istore_n (ls' := [some (.inr (.inl (some (24, 0, 0)))), some (.inl v1), some (.inl v2), some (.inl 0), none]) rfl rfl rfl ?_
        refine en_s_iconst rfl ?_
        refine en_s_istore (ls' := [some (.inr (.inl (some (24, 0, 0)))), some (.inl v1), some (.inl v2), some (.inl 0), some (.inl 0)]) rfl rfl rfl ?_
        obtain ⟨x11, h13, h⟩ := en_b1_h h
        refine s_mm_burst_45 G hz en_fu  h13 (fun f12 => ?_)
        refine en_s_iload_n rfl rfl ?_
        cases h
        exact en_s_iret rfl rfl
      · rw [if_neg c5] at h
        refine en_s_iconst rfl ?_
        cases h
        exact en_s_iret rfl rfl
    · rw [if_pos c2] at h
      refine en_s_iconst rfl ?_
      refine en_s_goto rfl ?_
      obtain ⟨s14, e15, h⟩ := en_let_h h
      refine en_p_putI e15 rfl rfl rfl rfl rfl ?_
      refine en_s_aload_n rfl rfl ?_
      refine en_s_getI rfl rfl rfl ?_
      refine en_s_if_le rfl (fun c16 => ?_) (fun c16 => ?_)
      · rw [if_pos c16] at h
        refine en_s_iconst rfl ?_
        refine en_s_istore_n (ls' := [some (.inr (.inl (some (24, 0, 0)))), some (.inl v1), some (.inl v2), some (.inl 0), none]) rfl rfl rfl ?_
        refine en_s_iconst rfl ?_
        refine en_s_istore (ls' := [some (.inr (.inl (some (24, 0, 0)))), some (.inl v1), some (.inl v2), some (.inl 0), some (.inl 0)]) rfl rfl rfl ?_
        obtain ⟨x17, h19, h⟩ := en_b1_h h
        refine s_mm_burst_45 G hz en_fu  h19 (fun f18 => ?_)
        refine en_s_iload_n rfl rfl ?_
        cases h
        exact en_s_iret rfl rfl
      · rw [if_neg c16] at h
        refine en_s_iconst rfl ?_
        cases h
        exact en_s_iret rfl rfl
  · rw [if_pos c1] at h
    refine en_s_iconst rfl ?_
    refine en_s_goto rfl ?_
    obtain ⟨s20, e21, h⟩ := en_let_h h
    refine en_p_putI e21 rfl rfl rfl rfl rfl ?_
    refine en_s_aload_n rfl rfl ?_
    refine en_s_getI rfl rfl rfl ?_
    refine en_s_if_le rfl (fun c22 => ?_) (fun c22 => ?_)
    · rw [if_pos c22] at h
      refine en_s_iconst rfl ?_
      refine en_s_istore_n (ls' := [some (.inr (.inl (some (24, 0, 0)))), some (.inl v1), some (.inl v2), some (.inl 0), none]) rfl rfl rfl ?_
      refine en_s_iconst rfl ?_
      refine en_s_istore (ls' := [some (.inr (.inl (some (24, 0, 0)))), some (.inl v1), some (.inl v2), some (.inl 0), some (.inl 0)]) rfl rfl rfl ?_
      obtain ⟨x23, h25, h⟩ := en_b1_h h
      refine s_mm_burst_45 G hz en_fu  h25 (fun f24 => ?_)
      refine en_s_iload_n rfl rfl ?_
      cases h
      exact en_s_iret rfl rfl
    · rw [if_neg c22] at h
      refine en_s_iconst rfl ?_
      cases h
      exact en_s_iret rfl rfl
def k_mm_calendar_94 (f0 : Nat) (v1 : Int32) (v2 : Int32) (v3 : Int32) (v4 : Int32) (v5 : Int32) (v6 : Int32) (σ : en_M) : Option (Int32) := match f0 with
  | 0 => none
  | f9 + 1 =>
    en_b1 (k_mm_piecesOf v5 σ) fun t11 =>
    if t11 ≤ v6 then
      some (v4)
    else
      en_b1 (en_rd 160 (σ 30 0 0) (k_mm_placeIn v5 v6)) fun t14 =>
      en_b1 (k_mm_hasLeft v5 v6 σ) fun t16 =>
      if t16 = 0 then
        if v2 = 0 then
          if (v3 + v1) ≤ t14 then
            k_mm_calendar_94 f9 v1 v2 v3 (v4 + 0) v5 (v6 + 1) σ
          else
            k_mm_calendar_94 f9 v1 v2 v3 (v4 + 1) v5 (v6 + 1) σ
        else
          if t14 < v3 then
            k_mm_calendar_94 f9 v1 v2 v3 (v4 + 0) v5 (v6 + 1) σ
          else
            if (v3 + v1) ≤ t14 then
              k_mm_calendar_94 f9 v1 v2 v3 (v4 + 0) v5 (v6 + 1) σ
            else
              k_mm_calendar_94 f9 v1 v2 v3 (v4 + 1) v5 (v6 + 1) σ
      else
        k_mm_calendar_94 f9 v1 v2 v3 (v4 + 0) v5 (v6 + 1) σ
def k_mm_calendar_66 (f0 : Nat) (v1 : Int32) (v2 : Int32) (v3 : Int32) (v4 : Int32) (v5 : Int32) (σ : en_M) : Option (Int32) := match f0 with
  | 0 => none
  | f9 + 1 =>
    if (σ 25 0 0 5) ≤ v5 then
      some (v4)
    else
      en_b1 (k_mm_of v5 4 σ) fun t8 =>
      if t8 = 1 then
        en_b1 (k_mm_calendar_94 en_fu v1 v2 v3 v4 v5 0 σ) fun x23 =>
        k_mm_calendar_66 f9 v1 v2 v3 x23 (v5 + 1) σ
      else
        k_mm_calendar_66 f9 v1 v2 v3 v4 (v5 + 1) σ
def k_mm_calendar (v1 : Int32) (v2 : Int32) (σ : en_M) : Option (Int32 × en_M) :=
  if (k_mm_isIn v1 1 99) = 0 then
    en_let (en_wr σ 24 0 0 0 1) fun s2 =>
    if (s2 24 0 0 0) ≤ 0 then
      en_b1 (k_mm_times s2) fun s5 =>
      en_b1 (k_mm_calendar_66 en_fu v1 v2 ((s5 25 0 0 4) + (v2 * v1)) 0 (s5 25 0 0 6) s5) fun x27 =>
      some (x27, s5)
    else
      some (0, s2)
  else
    if (k_mm_isIn v2 0 9999) = 0 then
      en_let (en_wr σ 24 0 0 0 1) fun s33 =>
      if (s33 24 0 0 0) ≤ 0 then
        en_b1 (k_mm_times s33) fun s36 =>
        en_b1 (k_mm_calendar_66 en_fu v1 v2 ((s36 25 0 0 4) + (v2 * v1)) 0 (s36 25 0 0 6) s36) fun x38 =>
        some (x38, s36)
      else
        some (0, s33)
    else
      en_let (en_wr σ 24 0 0 0 0) fun s43 =>
      if (s43 24 0 0 0) ≤ 0 then
        en_b1 (k_mm_times s43) fun s46 =>
        en_b1 (k_mm_calendar_66 en_fu v1 v2 ((s46 25 0 0 4) + (v2 * v1)) 0 (s46 25 0 0 6) s46) fun x48 =>
        some (x48, s46)
      else
        some (0, s43)
set_option maxRecDepth 100000 in
set_option maxHeartbeats 4000000 in
theorem s_mm_calendar_94 (G : en_G) (hz : G.2.2.2.2.2.2.2.2 = none) {d : Nat} {r : en_P} {cs cs' : List en_A} {ρ' : en_R} {σ' : en_M} : ∀ (f0 : Nat) {v1 : Int32} {v2 : Int32} {v3 : Int32} {v4 : Int32} {v5 : Int32} {v6 : Int32} {e7 : Option en_V} {σ : en_M} {x4 : Int32} , k_mm_calendar_94 f0 v1 v2 v3 v4 v5 v6 σ = some (x4) →
    (∀ (f6 : Option en_V) (f7 : Option en_V), en_W G (d + 5) 0 0 M_mm_calendar r cs' ρ' σ' 0 0 164 [some (.inr (.inl (some (24, 0, 0)))), some (.inl v1), some (.inl v2), some (.inl v3), some (.inl x4), some (.inl v5), f6, f7] [] cs en_rf σ) → en_W G (d + 5) 0 0 M_mm_calendar r cs' ρ' σ' 0 0 94 [some (.inr (.inl (some (24, 0, 0)))), some (.inl v1), some (.inl v2), some (.inl v3), some (.inl v4), some (.inl v5), some (.inl v6), e7] [] cs en_rf σ := by
  intro f0
  induction f0 with
  | zero =>
    intros
    rename_i h _
    cases h
  | succ f9 ih =>
    intro v1 v2 v3 v4 v5 v6 e7 σ x4 h hk
    rw [k_mm_calendar_94] at h
    refine en_s_iload rfl rfl ?_
    refine en_s_aload_n rfl rfl ?_
    refine en_s_iload rfl rfl ?_
    obtain ⟨t11, h12, h⟩ := en_b1_h h
    refine en_callV (as := [.inl v5]) (rest := [.inl v6]) (bc' := 0) (bs' := 0) hz rfl (s_mm_piecesOf G hz (d + 1) h12) lk_10_82 mv_mm_piecesOf rfl rfl rfl rfl rfl (fun _ h => h) (Nat.le_refl _) (Nat.le_refl _) ?_
    refine en_s_icmp_ge rfl (fun c13 => ?_) (fun c13 => ?_)
    · rw [if_pos c13] at h
      cases h
      exact hk (some (.inl v6)) (e7)
    · rw [if_neg c13] at h
      refine en_s_aload_n rfl rfl ?_
      refine en_s_getR (w := some (30, 0, 0)) rfl rfl rfl rfl ?_
      refine en_s_iload rfl rfl ?_
      refine en_s_iload rfl rfl ?_
      refine en_callS (as := [.inl v5, .inl v6]) (rest := [.inr (.inl (some (30, 0, 0)))]) (bc' := 0) (bs' := 0) hz rfl (s_mm_placeIn G hz (d + 4) rfl) lk_10_95 mv_mm_placeIn rfl rfl rfl (fun _ h => h) (Nat.le_refl _) (Nat.le_refl _) ?_
      obtain ⟨t14, h15, h⟩ := en_b1_h h
      refine en_s_iald rfl rfl h15 ?_
      refine en_s_istore (ls' := [some (.inr (.inl (some (24, 0, 0)))), some (.inl v1), some (.inl v2), some (.inl v3), some (.inl v4), some (.inl v5), some (.inl v6), some (.inl t14)]) rfl rfl rfl ?_
      refine en_s_iload rfl rfl ?_
      refine en_s_aload_n rfl rfl ?_
      refine en_s_iload rfl rfl ?_
      refine en_s_iload rfl rfl ?_
      obtain ⟨t16, h17, h⟩ := en_b1_h h
      refine en_callV (as := [.inl v5, .inl v6]) (rest := [.inl v4]) (bc' := 0) (bs' := 0) hz rfl (s_mm_hasLeft G hz (d + 2) h17) lk_10_85 mv_mm_hasLeft rfl rfl rfl rfl rfl (fun _ h => h) (Nat.le_refl _) (Nat.le_refl _) ?_
      refine en_s_if_ne rfl (fun c18 => ?_) (fun c18 => ?_)
      · rw [if_neg c18] at h
        refine en_s_iconst rfl ?_
        refine en_s_iadd rfl ?_
        refine en_s_istore (ls' := [some (.inr (.inl (some (24, 0, 0)))), some (.inl v1), some (.inl v2), some (.inl v3), some (.inl (v4 + 0)), some (.inl v5), some (.inl v6), some (.inl t14)]) rfl rfl rfl ?_
        refine en_s_iinc (ls' := [some (.inr (.inl (some (24, 0, 0)))), some (.inl v1), some (.inl v2), some (.inl v3), some (.inl (v4 + 0)), some (.inl v5), some (.inl (v6 + 1)), some (.inl t14)]) rfl rfl rfl ?_
        refine en_s_goto rfl ?_
        exact ih (e7 := some (.inl t14)) h hk
      · rw [if_pos c18] at h
        refine en_s_iload_n rfl rfl ?_
        refine en_s_if_eq rfl (fun c19 => ?_) (fun c19 => ?_)
        · rw [if_pos c19] at h
          refine en_s_iload rfl rfl ?_
          refine en_s_iload_n rfl rfl ?_
          refine en_s_iload_n rfl rfl ?_
          refine en_s_iadd rfl ?_
          refine en_s_icmp_ge rfl (fun c20 => ?_) (fun c20 => ?_)
          · rw [if_pos c20] at h
            refine en_s_iconst rfl ?_
            refine en_s_iadd rfl ?_
            refine en_s_istore (ls' := [some (.inr (.inl (some (24, 0, 0)))), some (.inl v1), some (.inl v2), some (.inl v3), some (.inl (v4 + 0)), some (.inl v5), some (.inl v6), some (.inl t14)]) rfl rfl rfl ?_
            refine en_s_iinc (ls' := [some (.inr (.inl (some (24, 0, 0)))), some (.inl v1), some (.inl v2), some (.inl v3), some (.inl (v4 + 0)), some (.inl v5), some (.inl (v6 + 1)), some (.inl t14)]) rfl rfl rfl ?_
            refine en_s_goto rfl ?_
            exact ih (e7 := some (.inl t14)) h hk
          · rw [if_neg c20] at h
            refine en_s_iconst rfl ?_
            refine en_s_goto rfl ?_
            refine en_s_iadd rfl ?_
            refine en_s_istore (ls' := [some (.inr (.inl (some (24, 0, 0)))), some (.inl v1), some (.inl v2), some (.inl v3), some (.inl (v4 + 1)), some (.inl v5), some (.inl v6), some (.inl t14)]) rfl rfl rfl ?_
            refine en_s_iinc (ls' := [some (.inr (.inl (some (24, 0, 0)))), some (.inl v1), some (.inl v2), some (.inl v3), some (.inl (v4 + 1)), some (.inl v5), some (.inl (v6 + 1)), some (.inl t14)]) rfl rfl rfl ?_
            refine en_s_goto rfl ?_
            exact ih (e7 := some (.inl t14)) h hk
        · rw [if_neg c19] at h
          refine en_s_iload rfl rfl ?_
          refine en_s_iload_n rfl rfl ?_
          refine en_s_icmp_lt rfl (fun c21 => ?_) (fun c21 => ?_)
          · rw [if_pos c21] at h
            refine en_s_iconst rfl ?_
            refine en_s_iadd rfl ?_
            refine en_s_istore (ls' := [some (.inr (.inl (some (24, 0, 0)))), some (.inl v1), some (.inl v2), some (.inl v3), some (.inl (v4 + 0)), some (.inl v5), some (.inl v6), some (.inl t14)]) rfl rfl rfl ?_
            refine en_s_iinc (ls' := [some (.inr (.inl (some (24, 0, 0)))), some (.inl v1), some (.inl v2), some (.inl v3), some (.inl (v4 + 0)), some (.inl v5), some (.inl (v6 + 1)), some (.inl t14)]) rfl rfl rfl ?_
            refine en_s_goto rfl ?_
            exact ih (e7 := some (.inl t14)) h hk
          · rw [if_neg c21] at h
            refine en_s_iload rfl rfl ?_
            refine en_s_iload_n rfl rfl ?_
            refine en_s_iload_n rfl rfl ?_
            refine en_s_iadd rfl ?_
            refine en_s_icmp_ge rfl (fun c22 => ?_) (fun c22 => ?_)
            · rw [if_pos c22] at h
              refine en_s_iconst rfl ?_
              refine en_s_iadd rfl ?_
              refine en_s_istore (ls' := [some (.inr (.inl (some (24, 0, 0)))), some (.inl v1), some (.inl v2), some (.inl v3), some (.inl (v4 + 0)), some (.inl v5), some (.inl v6), some (.inl t14)]) rfl rfl rfl ?_
              refine en_s_iinc (ls' := [some (.inr (.inl (some (24, 0, 0)))), some (.inl v1), some (.inl v2), some (.inl v3), some (.inl (v4 + 0)), some (.inl v5), some (.inl (v6 + 1)), some (.inl t14)]) rfl rfl rfl ?_
              refine en_s_goto rfl ?_
              exact ih (e7 := some (.inl t14)) h hk
            · rw [if_neg c22] at h
              refine en_s_iconst rfl ?_
              refine en_s_goto rfl ?_
              refine en_s_iadd rfl ?_
              refine en_s_istore (ls' := [some (.inr (.inl (some (24, 0, 0)))), some (.inl v1), some (.inl v2), some (.inl v3), some (.inl (v4 + 1)), some (.inl v5), some (.inl v6), some (.inl t14)]) rfl rfl rfl ?_
              refine en_s_iinc (ls' := [some (.inr (.inl (some (24, 0, 0)))), some (.inl v1), some (.inl v2), some (.inl v3), some (.inl (v4 + 1)), some (.inl v5), some (.inl (v6 + 1)), some (.inl t14)]) rfl rfl rfl ?_
              refine en_s_goto rfl ?_
              exact ih (e7 := some (.inl t14)) h hk
set_option maxRecDepth 100000 in
set_option maxHeartbeats 4000000 in
theorem s_mm_calendar_66 (G : en_G) (hz : G.2.2.2.2.2.2.2.2 = none) {d : Nat} {r : en_P} {cs cs' : List en_A} {ρ' : en_R} {σ' : en_M} : ∀ (f0 : Nat) {v1 : Int32} {v2 : Int32} {v3 : Int32} {v4 : Int32} {v5 : Int32} {e6 e7 : Option en_V} {σ : en_M} {x4 : Int32} , k_mm_calendar_66 f0 v1 v2 v3 v4 v5 σ = some (x4) →
    (∀ (f5 : Option en_V) (f6 : Option en_V) (f7 : Option en_V), en_W G (d + 5) 0 0 M_mm_calendar r cs' ρ' σ' 0 0 170 [some (.inr (.inl (some (24, 0, 0)))), some (.inl v1), some (.inl v2), some (.inl v3), some (.inl x4), f5, f6, f7] [] cs en_rf σ) → en_W G (d + 5) 0 0 M_mm_calendar r cs' ρ' σ' 0 0 66 [some (.inr (.inl (some (24, 0, 0)))), some (.inl v1), some (.inl v2), some (.inl v3), some (.inl v4), some (.inl v5), e6, e7] [] cs en_rf σ := by
  intro f0
  induction f0 with
  | zero =>
    intros
    rename_i h _
    cases h
  | succ f9 ih =>
    intro v1 v2 v3 v4 v5 e6 e7 σ x4 h hk
    rw [k_mm_calendar_66] at h
    refine en_s_iload rfl rfl ?_
    refine en_s_aload_n rfl rfl ?_
    refine en_s_getR (w := some (25, 0, 0)) rfl rfl rfl rfl ?_
    refine en_s_iconst rfl ?_
    refine en_c_iald (q := 5) rfl rfl (by decide) (by decide) ?_
    refine en_s_icmp_ge rfl (fun c7 => ?_) (fun c7 => ?_)
    · rw [if_pos c7] at h
      cases h
      exact hk (some (.inl v5)) (e6) (e7)
    · rw [if_neg c7] at h
      refine en_s_aload_n rfl rfl ?_
      refine en_s_iload rfl rfl ?_
      refine en_s_iconst rfl ?_
      obtain ⟨t8, h9, h⟩ := en_b1_h h
      refine en_callV (as := [.inl v5, .inl 4]) (rest := []) (bc' := 0) (bs' := 0) hz rfl (s_mm_of G hz (d + 3) h9) lk_10_66 mv_mm_of rfl rfl rfl rfl rfl (fun _ h => h) (Nat.le_refl _) (Nat.le_refl _) ?_
      refine en_s_iconst rfl ?_
      refine en_s_icmp_eq rfl (fun c10 => ?_) (fun c10 => ?_)
      · rw [if_pos c10] at h
        refine en_s_iconst rfl ?_
        refine en_s_istore (ls' := [some (.inr (.inl (some (24, 0, 0)))), some (.inl v1), some (.inl v2), some (.inl v3), some (.inl v4), some (.inl v5), some (.inl 0), e7]) rfl rfl rfl ?_
        obtain ⟨x23, h26, h⟩ := en_b1_h h
        refine s_mm_calendar_94 G hz en_fu (e7 := e7) h26 (fun f24 f25 => ?_)
        refine en_s_iinc (ls' := [some (.inr (.inl (some (24, 0, 0)))), some (.inl v1), some (.inl v2), some (.inl v3), some (.inl x23), some (.inl (v5 + 1)), f24, f25]) rfl rfl rfl ?_
        refine en_s_goto rfl ?_
        exact ih (e6 := f24) (e7 := f25) h hk
      · rw [if_neg c10] at h
        refine en_s_goto rfl ?_
        refine en_s_iinc (ls' := [some (.inr (.inl (some (24, 0, 0)))), some (.inl v1), some (.inl v2), some (.inl v3), some (.inl v4), some (.inl (v5 + 1)), e6, e7]) rfl rfl rfl ?_
        refine en_s_goto rfl ?_
        exact ih (e6 := e6) (e7 := e7) h hk
set_option maxRecDepth 100000 in
set_option maxHeartbeats 4000000 in
theorem s_mm_calendar (G : en_G) (hz : G.2.2.2.2.2.2.2.2 = none) (d : Nat) {cs : List en_A} {σ : en_M} {v1 : Int32} {v2 : Int32} {x0 : Int32} {s0 : en_M}  (h : k_mm_calendar v1 v2 σ = some (x0, s0)) : en_Mt G (d + 5) 0 0 M_mm_calendar [.inr (.inl (some (24, 0, 0))), .inl v1, .inl v2] cs en_rf σ (.inr (some (.inl x0))) cs en_rf s0 := by
  refine en_meth (ls := [some (.inr (.inl (some (24, 0, 0)))), some (.inl v1), some (.inl v2), none, none, none, none, none]) md_mm_calendar rfl rfl rfl ?_
  unfold k_mm_calendar at h
  refine en_s_aload_n rfl rfl ?_
  refine en_s_iload_n rfl rfl ?_
  refine en_s_iconst rfl ?_
  refine en_s_bipush rfl ?_
  refine en_callS (as := [.inl v1, .inl 1, .inl 99]) (rest := [.inr (.inl (some (24, 0, 0)))]) (bc' := 0) (bs' := 0) hz rfl (s_mm_isIn G hz (d + 4) rfl) lk_10_54 mv_mm_isIn rfl rfl rfl (fun _ h => h) (Nat.le_refl _) (Nat.le_refl _) ?_
  refine en_s_if_eq rfl (fun c1 => ?_) (fun c1 => ?_)
  · rw [if_pos c1] at h
    refine en_s_iconst rfl ?_
    obtain ⟨s2, e3, h⟩ := en_let_h h
    refine en_p_putI e3 rfl rfl rfl rfl rfl ?_
    refine en_s_aload_n rfl rfl ?_
    refine en_s_getI rfl rfl rfl ?_
    refine en_s_if_le rfl (fun c4 => ?_) (fun c4 => ?_)
    · rw [if_pos c4] at h
      refine en_s_aload_n rfl rfl ?_
      obtain ⟨s5, h6, h⟩ := en_b1_h h
      refine en_callV (as := []) (rest := []) (bc' := 0) (bs' := 0) hz rfl (s_mm_times G hz (d + 0) h6) lk_10_144 mv_mm_times rfl rfl rfl rfl rfl (fun _ h => h) (Nat.le_refl _) (Nat.le_refl _) ?_
      refine en_s_aload_n rfl rfl ?_
      refine en_s_getR (w := some (25, 0, 0)) rfl rfl rfl rfl ?_
      refine en_s_iconst rfl ?_
      refine en_c_iald (q := 4) rfl rfl (by decide) (by decide) ?_
      refine en_s_iload_n rfl rfl ?_
      refine en_s_iload_n rfl rfl ?_
      refine en_s_imul rfl ?_
      refine en_s_iadd rfl ?_
      refine en_s_istore_n (ls' := [some (.inr (.inl (some (24, 0, 0)))), some (.inl v1), some (.inl v2), some (.inl ((s5 25 0 0 4) + (v2 * v1))), none, none, none, none]) rfl rfl rfl ?_
      refine en_s_iconst rfl ?_
      refine en_s_istore (ls' := [some (.inr (.inl (some (24, 0, 0)))), some (.inl v1), some (.inl v2), some (.inl ((s5 25 0 0 4) + (v2 * v1))), some (.inl 0), none, none, none]) rfl rfl rfl ?_
      refine en_s_aload_n rfl rfl ?_
      refine en_s_getR (w := some (25, 0, 0)) rfl rfl rfl rfl ?_
      refine en_s_bipush rfl ?_
      refine en_c_iald (q := 6) rfl rfl (by decide) (by decide) ?_
      refine en_s_istore (ls' := [some (.inr (.inl (some (24, 0, 0)))), some (.inl v1), some (.inl v2), some (.inl ((s5 25 0 0 4) + (v2 * v1))), some (.inl 0), some (.inl (s5 25 0 0 6)), none, none]) rfl rfl rfl ?_
      obtain ⟨x27, h31, h⟩ := en_b1_h h
      refine s_mm_calendar_66 G hz en_fu (e6 := none) (e7 := none) h31 (fun f28 f29 f30 => ?_)
      refine en_s_iload rfl rfl ?_
      cases h
      exact en_s_iret rfl rfl
    · rw [if_neg c4] at h
      refine en_s_iconst rfl ?_
      cases h
      exact en_s_iret rfl rfl
  · rw [if_neg c1] at h
    refine en_s_iload_n rfl rfl ?_
    refine en_s_iconst rfl ?_
    refine en_s_sipush rfl ?_
    refine en_callS (as := [.inl v2, .inl 0, .inl 9999]) (rest := [.inr (.inl (some (24, 0, 0)))]) (bc' := 0) (bs' := 0) hz rfl (s_mm_isIn G hz (d + 4) rfl) lk_10_54 mv_mm_isIn rfl rfl rfl (fun _ h => h) (Nat.le_refl _) (Nat.le_refl _) ?_
    refine en_s_if_eq rfl (fun c32 => ?_) (fun c32 => ?_)
    · rw [if_pos c32] at h
      refine en_s_iconst rfl ?_
      obtain ⟨s33, e34, h⟩ := en_let_h h
      refine en_p_putI e34 rfl rfl rfl rfl rfl ?_
      refine en_s_aload_n rfl rfl ?_
      refine en_s_getI rfl rfl rfl ?_
      refine en_s_if_le rfl (fun c35 => ?_) (fun c35 => ?_)
      · rw [if_pos c35] at h
        refine en_s_aload_n rfl rfl ?_
        obtain ⟨s36, h37, h⟩ := en_b1_h h
        refine en_callV (as := []) (rest := []) (bc' := 0) (bs' := 0) hz rfl (s_mm_times G hz (d + 0) h37) lk_10_144 mv_mm_times rfl rfl rfl rfl rfl (fun _ h => h) (Nat.le_refl _) (Nat.le_refl _) ?_
        refine en_s_aload_n rfl rfl ?_
        refine en_s_getR (w := some (25, 0, 0)) rfl rfl rfl rfl ?_
        refine en_s_iconst rfl ?_
        refine en_c_iald (q := 4) rfl rfl (by decide) (by decide) ?_
        refine en_s_iload_n rfl rfl ?_
        refine en_s_iload_n rfl rfl ?_
        refine en_s_imul rfl ?_
        refine en_s_iadd rfl ?_
        refine en_s_istore_n (ls' := [some (.inr (.inl (some (24, 0, 0)))), some (.inl v1), some (.inl v2), some (.inl ((s36 25 0 0 4) + (v2 * v1))), none, none, none, none]) rfl rfl rfl ?_
        refine en_s_iconst rfl ?_
        refine en_s_istore (ls' := [some (.inr (.inl (some (24, 0, 0)))), some (.inl v1), some (.inl v2), some (.inl ((s36 25 0 0 4) + (v2 * v1))), some (.inl 0), none, none, none]) rfl rfl rfl ?_
        refine en_s_aload_n rfl rfl ?_
        refine en_s_getR (w := some (25, 0, 0)) rfl rfl rfl rfl ?_
        refine en_s_bipush rfl ?_
        refine en_c_iald (q := 6) rfl rfl (by decide) (by decide) ?_
        refine en_s_istore (ls' := [some (.inr (.inl (some (24, 0, 0)))), some (.inl v1), some (.inl v2), some (.inl ((s36 25 0 0 4) + (v2 * v1))), some (.inl 0), some (.inl (s36 25 0 0 6)), none, none]) rfl rfl rfl ?_
        obtain ⟨x38, h42, h⟩ := en_b1_h h
        refine s_mm_calendar_66 G hz en_fu (e6 := none) (e7 := none) h42 (fun f39 f40 f41 => ?_)
        refine en_s_iload rfl rfl ?_
        cases h
        exact en_s_iret rfl rfl
      · rw [if_neg c35] at h
        refine en_s_iconst rfl ?_
        cases h
        exact en_s_iret rfl rfl
    · rw [if_neg c32] at h
      refine en_s_iconst rfl ?_
      refine en_s_goto rfl ?_
      obtain ⟨s43, e44, h⟩ := en_let_h h
      refine en_p_putI e44 rfl rfl rfl rfl rfl ?_
      refine en_s_aload_n rfl rfl ?_
      refine en_s_getI rfl rfl rfl ?_
      refine en_s_if_le rfl (fun c45 => ?_) (fun c45 => ?_)
      · rw [if_pos c45] at h
        refine en_s_aload_n rfl rfl ?_
        obtain ⟨s46, h47, h⟩ := en_b1_h h
        refine en_callV (as := []) (rest := []) (bc' := 0) (bs' := 0) hz rfl (s_mm_times G hz (d + 0) h47) lk_10_144 mv_mm_times rfl rfl rfl rfl rfl (fun _ h => h) (Nat.le_refl _) (Nat.le_refl _) ?_
        refine en_s_aload_n rfl rfl ?_
        refine en_s_getR (w := some (25, 0, 0)) rfl rfl rfl rfl ?_
        refine en_s_iconst rfl ?_
        refine en_c_iald (q := 4) rfl rfl (by decide) (by decide) ?_
        refine en_s_iload_n rfl rfl ?_
        refine en_s_iload_n rfl rfl ?_
        refine en_s_imul rfl ?_
        refine en_s_iadd rfl ?_
        refine en_s_istore_n (ls' := [some (.inr (.inl (some (24, 0, 0)))), some (.inl v1), some (.inl v2), some (.inl ((s46 25 0 0 4) + (v2 * v1))), none, none, none, none]) rfl rfl rfl ?_
        refine en_s_iconst rfl ?_
        refine en_s_istore (ls' := [some (.inr (.inl (some (24, 0, 0)))), some (.inl v1), some (.inl v2), some (.inl ((s46 25 0 0 4) + (v2 * v1))), some (.inl 0), none, none, none]) rfl rfl rfl ?_
        refine en_s_aload_n rfl rfl ?_
        refine en_s_getR (w := some (25, 0, 0)) rfl rfl rfl rfl ?_
        refine en_s_bipush rfl ?_
        refine en_c_iald (q := 6) rfl rfl (by decide) (by decide) ?_
        refine en_s_istore (ls' := [some (.inr (.inl (some (24, 0, 0)))), some (.inl v1), some (.inl v2), some (.inl ((s46 25 0 0 4) + (v2 * v1))), some (.inl 0), some (.inl (s46 25 0 0 6)), none, none]) rfl rfl rfl ?_
        obtain ⟨x48, h52, h⟩ := en_b1_h h
        refine s_mm_calendar_66 G hz en_fu (e6 := none) (e7 := none) h52 (fun f49 f50 f51 => ?_)
        refine en_s_iload rfl rfl ?_
        cases h
        exact en_s_iret rfl rfl
      · rw [if_neg c45] at h
        refine en_s_iconst rfl ?_
        cases h
        exact en_s_iret rfl rfl
def k_mm_held_10 (f0 : Nat) (v1 : Int32) (v2 : Int32) (σ : en_M) : Option (Int32) := match f0 with
  | 0 => none
  | f9 + 1 =>
    if (σ 25 0 0 5) ≤ v2 then
      some (v1)
    else
      en_b1 (k_mm_of v2 4 σ) fun t2 =>
      if t2 = 2 then
        k_mm_held_10 f9 (v1 + 1) (v2 + 1) σ
      else
        k_mm_held_10 f9 (v1 + 0) (v2 + 1) σ
def k_mm_held  (σ : en_M) : Option (Int32) :=
  en_b1 (k_mm_held_10 en_fu 0 (σ 25 0 0 6) σ) fun x5 =>
  some x5
set_option maxRecDepth 100000 in
set_option maxHeartbeats 4000000 in
theorem s_mm_held_10 (G : en_G) (hz : G.2.2.2.2.2.2.2.2 = none) {d : Nat} {r : en_P} {cs cs' : List en_A} {ρ' : en_R} {σ' : en_M} : ∀ (f0 : Nat) {v1 : Int32} {v2 : Int32}  {σ : en_M} {x1 : Int32} , k_mm_held_10 f0 v1 v2 σ = some (x1) →
    (∀ (f2 : Option en_V), en_W G (d + 2) 0 0 M_mm_held r cs' ρ' σ' 0 0 44 [some (.inr (.inl (some (24, 0, 0)))), some (.inl x1), f2] [] cs en_rf σ) → en_W G (d + 2) 0 0 M_mm_held r cs' ρ' σ' 0 0 10 [some (.inr (.inl (some (24, 0, 0)))), some (.inl v1), some (.inl v2)] [] cs en_rf σ := by
  intro f0
  induction f0 with
  | zero =>
    intros
    rename_i h _
    cases h
  | succ f9 ih =>
    intro v1 v2 σ x1 h hk
    rw [k_mm_held_10] at h
    refine en_s_iload_n rfl rfl ?_
    refine en_s_aload_n rfl rfl ?_
    refine en_s_getR (w := some (25, 0, 0)) rfl rfl rfl rfl ?_
    refine en_s_iconst rfl ?_
    refine en_c_iald (q := 5) rfl rfl (by decide) (by decide) ?_
    refine en_s_icmp_ge rfl (fun c1 => ?_) (fun c1 => ?_)
    · rw [if_pos c1] at h
      cases h
      exact hk (some (.inl v2))
    · rw [if_neg c1] at h
      refine en_s_iload_n rfl rfl ?_
      refine en_s_aload_n rfl rfl ?_
      refine en_s_iload_n rfl rfl ?_
      refine en_s_iconst rfl ?_
      obtain ⟨t2, h3, h⟩ := en_b1_h h
      refine en_callV (as := [.inl v2, .inl 4]) (rest := [.inl v1]) (bc' := 0) (bs' := 0) hz rfl (s_mm_of G hz (d + 0) h3) lk_10_66 mv_mm_of rfl rfl rfl rfl rfl (fun _ h => h) (Nat.le_refl _) (Nat.le_refl _) ?_
      refine en_s_iconst rfl ?_
      refine en_s_icmp_ne rfl (fun c4 => ?_) (fun c4 => ?_)
      · rw [if_neg c4] at h
        refine en_s_iconst rfl ?_
        refine en_s_iadd rfl ?_
        refine en_s_istore_n (ls' := [some (.inr (.inl (some (24, 0, 0)))), some (.inl (v1 + 0)), some (.inl v2)]) rfl rfl rfl ?_
        refine en_s_iinc (ls' := [some (.inr (.inl (some (24, 0, 0)))), some (.inl (v1 + 0)), some (.inl (v2 + 1))]) rfl rfl rfl ?_
        refine en_s_goto rfl ?_
        exact ih  h hk
      · rw [if_pos c4] at h
        refine en_s_iconst rfl ?_
        refine en_s_goto rfl ?_
        refine en_s_iadd rfl ?_
        refine en_s_istore_n (ls' := [some (.inr (.inl (some (24, 0, 0)))), some (.inl (v1 + 1)), some (.inl v2)]) rfl rfl rfl ?_
        refine en_s_iinc (ls' := [some (.inr (.inl (some (24, 0, 0)))), some (.inl (v1 + 1)), some (.inl (v2 + 1))]) rfl rfl rfl ?_
        refine en_s_goto rfl ?_
        exact ih  h hk
set_option maxRecDepth 100000 in
set_option maxHeartbeats 4000000 in
theorem s_mm_held (G : en_G) (hz : G.2.2.2.2.2.2.2.2 = none) (d : Nat) {cs : List en_A} {σ : en_M}  {x0 : Int32}  (h : k_mm_held  σ = some x0) : en_Mt G (d + 2) 0 0 M_mm_held [.inr (.inl (some (24, 0, 0)))] cs en_rf σ (.inr (some (.inl x0))) cs en_rf σ := by
  refine en_meth (ls := [some (.inr (.inl (some (24, 0, 0)))), none, none]) md_mm_held rfl rfl rfl ?_
  unfold k_mm_held at h
  refine en_s_iconst rfl ?_
  refine en_s_istore_n (ls' := [some (.inr (.inl (some (24, 0, 0)))), some (.inl 0), none]) rfl rfl rfl ?_
  refine en_s_aload_n rfl rfl ?_
  refine en_s_getR (w := some (25, 0, 0)) rfl rfl rfl rfl ?_
  refine en_s_bipush rfl ?_
  refine en_c_iald (q := 6) rfl rfl (by decide) (by decide) ?_
  refine en_s_istore_n (ls' := [some (.inr (.inl (some (24, 0, 0)))), some (.inl 0), some (.inl (σ 25 0 0 6))]) rfl rfl rfl ?_
  obtain ⟨x5, h7, h⟩ := en_b1_h h
  refine s_mm_held_10 G hz en_fu  h7 (fun f6 => ?_)
  refine en_s_iload_n rfl rfl ?_
  cases h
  exact en_s_iret rfl rfl
def k_mm_count (v1 : Int32) (σ : en_M) : Option (Int32 × en_M) :=
  en_let (en_wr σ 24 0 0 0 0) fun s1 =>
  if v1 = 0 then
    some (s1 25 0 0 0, s1)
  else
  if v1 = 1 then
    some (s1 25 0 0 1, s1)
  else
  if v1 = 2 then
    some (s1 25 0 0 2, s1)
  else
  if v1 = 3 then
    some (s1 25 0 0 3, s1)
  else
  if v1 = 4 then
    some (s1 25 0 0 4, s1)
  else
  if v1 = 5 then
    some (s1 25 0 0 5, s1)
  else
  if v1 = 6 then
    some (s1 25 0 0 6, s1)
  else
  if v1 = 7 then
    en_b1 (k_mm_waiting s1) fun t11 =>
    some (t11, s1)
  else
  if v1 = 8 then
    some (s1 25 0 0 7, s1)
  else
  if v1 = 9 then
    some ((s1 25 0 0 8) - (s1 25 0 0 9), s1)
  else
  if v1 = 10 then
    some (s1 25 0 0 10, s1)
  else
  if v1 = 11 then
    some (s1 25 0 0 11, s1)
  else
  if v1 = 12 then
    en_b1 (k_mm_held s1) fun t18 =>
    some (t18, s1)
  else
  if v1 = 13 then
    some (s1 25 0 0 12, s1)
  else
  if v1 = 14 then
    some (s1 25 0 0 13, s1)
  else
  if v1 = 15 then
    some (s1 25 0 0 14, s1)
  else
  if v1 = 16 then
    some (s1 25 0 0 18, s1)
  else
  if v1 = 17 then
    if (s1 25 0 0 17) ≤ 0 then
      some (0, s1)
    else
      some (1, s1)
  else
  if v1 = 18 then
    some (s1 24 0 0 5, s1)
  else
  some ((-1), s1)
set_option maxRecDepth 100000 in
set_option maxHeartbeats 4000000 in
theorem s_mm_count (G : en_G) (hz : G.2.2.2.2.2.2.2.2 = none) (d : Nat) {cs : List en_A} {σ : en_M} {v1 : Int32} {x0 : Int32} {s0 : en_M}  (h : k_mm_count v1 σ = some (x0, s0)) : en_Mt G (d + 3) 0 0 M_mm_count [.inr (.inl (some (24, 0, 0))), .inl v1] cs en_rf σ (.inr (some (.inl x0))) cs en_rf s0 := by
  refine en_meth (ls := [some (.inr (.inl (some (24, 0, 0)))), some (.inl v1)]) md_mm_count rfl rfl rfl ?_
  unfold k_mm_count at h
  refine en_s_aload_n rfl rfl ?_
  refine en_s_iconst rfl ?_
  obtain ⟨s1, e2, h⟩ := en_let_h h
  refine en_p_putI e2 rfl rfl rfl rfl rfl ?_
  refine en_s_iload_n rfl rfl ?_
  by_cases c3 : v1 = 0
  · rw [if_pos c3] at h
    refine en_s_table [(0, 96), (1, 103), (2, 110), (3, 117), (4, 124), (5, 131), (6, 138), (7, 146), (8, 151), (9, 159), (10, 175), (11, 183), (12, 191), (13, 196), (14, 204), (15, 212), (16, 220), (17, 228), (18, 244)] rfl (by decide) (en_sw_hit c3) ?_
    refine en_s_aload_n rfl rfl ?_
    refine en_s_getR (w := some (25, 0, 0)) rfl rfl rfl rfl ?_
    refine en_s_iconst rfl ?_
    refine en_c_iald (q := 0) rfl rfl (by decide) (by decide) ?_
    cases h
    exact en_s_iret rfl rfl
  rw [if_neg c3] at h
  by_cases c4 : v1 = 1
  · rw [if_pos c4] at h
    refine en_s_table [(0, 96), (1, 103), (2, 110), (3, 117), (4, 124), (5, 131), (6, 138), (7, 146), (8, 151), (9, 159), (10, 175), (11, 183), (12, 191), (13, 196), (14, 204), (15, 212), (16, 220), (17, 228), (18, 244)] rfl (by decide) (en_sw_miss c3 (en_sw_hit c4)) ?_
    refine en_s_aload_n rfl rfl ?_
    refine en_s_getR (w := some (25, 0, 0)) rfl rfl rfl rfl ?_
    refine en_s_iconst rfl ?_
    refine en_c_iald (q := 1) rfl rfl (by decide) (by decide) ?_
    cases h
    exact en_s_iret rfl rfl
  rw [if_neg c4] at h
  by_cases c5 : v1 = 2
  · rw [if_pos c5] at h
    refine en_s_table [(0, 96), (1, 103), (2, 110), (3, 117), (4, 124), (5, 131), (6, 138), (7, 146), (8, 151), (9, 159), (10, 175), (11, 183), (12, 191), (13, 196), (14, 204), (15, 212), (16, 220), (17, 228), (18, 244)] rfl (by decide) (en_sw_miss c3 (en_sw_miss c4 (en_sw_hit c5))) ?_
    refine en_s_aload_n rfl rfl ?_
    refine en_s_getR (w := some (25, 0, 0)) rfl rfl rfl rfl ?_
    refine en_s_iconst rfl ?_
    refine en_c_iald (q := 2) rfl rfl (by decide) (by decide) ?_
    cases h
    exact en_s_iret rfl rfl
  rw [if_neg c5] at h
  by_cases c6 : v1 = 3
  · rw [if_pos c6] at h
    refine en_s_table [(0, 96), (1, 103), (2, 110), (3, 117), (4, 124), (5, 131), (6, 138), (7, 146), (8, 151), (9, 159), (10, 175), (11, 183), (12, 191), (13, 196), (14, 204), (15, 212), (16, 220), (17, 228), (18, 244)] rfl (by decide) (en_sw_miss c3 (en_sw_miss c4 (en_sw_miss c5 (en_sw_hit c6)))) ?_
    refine en_s_aload_n rfl rfl ?_
    refine en_s_getR (w := some (25, 0, 0)) rfl rfl rfl rfl ?_
    refine en_s_iconst rfl ?_
    refine en_c_iald (q := 3) rfl rfl (by decide) (by decide) ?_
    cases h
    exact en_s_iret rfl rfl
  rw [if_neg c6] at h
  by_cases c7 : v1 = 4
  · rw [if_pos c7] at h
    refine en_s_table [(0, 96), (1, 103), (2, 110), (3, 117), (4, 124), (5, 131), (6, 138), (7, 146), (8, 151), (9, 159), (10, 175), (11, 183), (12, 191), (13, 196), (14, 204), (15, 212), (16, 220), (17, 228), (18, 244)] rfl (by decide) (en_sw_miss c3 (en_sw_miss c4 (en_sw_miss c5 (en_sw_miss c6 (en_sw_hit c7))))) ?_
    refine en_s_aload_n rfl rfl ?_
    refine en_s_getR (w := some (25, 0, 0)) rfl rfl rfl rfl ?_
    refine en_s_iconst rfl ?_
    refine en_c_iald (q := 4) rfl rfl (by decide) (by decide) ?_
    cases h
    exact en_s_iret rfl rfl
  rw [if_neg c7] at h
  by_cases c8 : v1 = 5
  · rw [if_pos c8] at h
    refine en_s_table [(0, 96), (1, 103), (2, 110), (3, 117), (4, 124), (5, 131), (6, 138), (7, 146), (8, 151), (9, 159), (10, 175), (11, 183), (12, 191), (13, 196), (14, 204), (15, 212), (16, 220), (17, 228), (18, 244)] rfl (by decide) (en_sw_miss c3 (en_sw_miss c4 (en_sw_miss c5 (en_sw_miss c6 (en_sw_miss c7 (en_sw_hit c8)))))) ?_
    refine en_s_aload_n rfl rfl ?_
    refine en_s_getR (w := some (25, 0, 0)) rfl rfl rfl rfl ?_
    refine en_s_iconst rfl ?_
    refine en_c_iald (q := 5) rfl rfl (by decide) (by decide) ?_
    cases h
    exact en_s_iret rfl rfl
  rw [if_neg c8] at h
  by_cases c9 : v1 = 6
  · rw [if_pos c9] at h
    refine en_s_table [(0, 96), (1, 103), (2, 110), (3, 117), (4, 124), (5, 131), (6, 138), (7, 146), (8, 151), (9, 159), (10, 175), (11, 183), (12, 191), (13, 196), (14, 204), (15, 212), (16, 220), (17, 228), (18, 244)] rfl (by decide) (en_sw_miss c3 (en_sw_miss c4 (en_sw_miss c5 (en_sw_miss c6 (en_sw_miss c7 (en_sw_miss c8 (en_sw_hit c9))))))) ?_
    refine en_s_aload_n rfl rfl ?_
    refine en_s_getR (w := some (25, 0, 0)) rfl rfl rfl rfl ?_
    refine en_s_bipush rfl ?_
    refine en_c_iald (q := 6) rfl rfl (by decide) (by decide) ?_
    cases h
    exact en_s_iret rfl rfl
  rw [if_neg c9] at h
  by_cases c10 : v1 = 7
  · rw [if_pos c10] at h
    refine en_s_table [(0, 96), (1, 103), (2, 110), (3, 117), (4, 124), (5, 131), (6, 138), (7, 146), (8, 151), (9, 159), (10, 175), (11, 183), (12, 191), (13, 196), (14, 204), (15, 212), (16, 220), (17, 228), (18, 244)] rfl (by decide) (en_sw_miss c3 (en_sw_miss c4 (en_sw_miss c5 (en_sw_miss c6 (en_sw_miss c7 (en_sw_miss c8 (en_sw_miss c9 (en_sw_hit c10)))))))) ?_
    refine en_s_aload_n rfl rfl ?_
    obtain ⟨t11, h12, h⟩ := en_b1_h h
    refine en_callV (as := []) (rest := []) (bc' := 0) (bs' := 0) hz rfl (s_mm_waiting G hz (d + 0) h12) lk_10_105 mv_mm_waiting rfl rfl rfl rfl rfl (fun _ h => h) (Nat.le_refl _) (Nat.le_refl _) ?_
    cases h
    exact en_s_iret rfl rfl
  rw [if_neg c10] at h
  by_cases c13 : v1 = 8
  · rw [if_pos c13] at h
    refine en_s_table [(0, 96), (1, 103), (2, 110), (3, 117), (4, 124), (5, 131), (6, 138), (7, 146), (8, 151), (9, 159), (10, 175), (11, 183), (12, 191), (13, 196), (14, 204), (15, 212), (16, 220), (17, 228), (18, 244)] rfl (by decide) (en_sw_miss c3 (en_sw_miss c4 (en_sw_miss c5 (en_sw_miss c6 (en_sw_miss c7 (en_sw_miss c8 (en_sw_miss c9 (en_sw_miss c10 (en_sw_hit c13))))))))) ?_
    refine en_s_aload_n rfl rfl ?_
    refine en_s_getR (w := some (25, 0, 0)) rfl rfl rfl rfl ?_
    refine en_s_bipush rfl ?_
    refine en_c_iald (q := 7) rfl rfl (by decide) (by decide) ?_
    cases h
    exact en_s_iret rfl rfl
  rw [if_neg c13] at h
  by_cases c14 : v1 = 9
  · rw [if_pos c14] at h
    refine en_s_table [(0, 96), (1, 103), (2, 110), (3, 117), (4, 124), (5, 131), (6, 138), (7, 146), (8, 151), (9, 159), (10, 175), (11, 183), (12, 191), (13, 196), (14, 204), (15, 212), (16, 220), (17, 228), (18, 244)] rfl (by decide) (en_sw_miss c3 (en_sw_miss c4 (en_sw_miss c5 (en_sw_miss c6 (en_sw_miss c7 (en_sw_miss c8 (en_sw_miss c9 (en_sw_miss c10 (en_sw_miss c13 (en_sw_hit c14)))))))))) ?_
    refine en_s_aload_n rfl rfl ?_
    refine en_s_getR (w := some (25, 0, 0)) rfl rfl rfl rfl ?_
    refine en_s_bipush rfl ?_
    refine en_c_iald (q := 8) rfl rfl (by decide) (by decide) ?_
    refine en_s_aload_n rfl rfl ?_
    refine en_s_getR (w := some (25, 0, 0)) rfl rfl rfl rfl ?_
    refine en_s_bipush rfl ?_
    refine en_c_iald (q := 9) rfl rfl (by decide) (by decide) ?_
    refine en_s_isub rfl ?_
    cases h
    exact en_s_iret rfl rfl
  rw [if_neg c14] at h
  by_cases c15 : v1 = 10
  · rw [if_pos c15] at h
    refine en_s_table [(0, 96), (1, 103), (2, 110), (3, 117), (4, 124), (5, 131), (6, 138), (7, 146), (8, 151), (9, 159), (10, 175), (11, 183), (12, 191), (13, 196), (14, 204), (15, 212), (16, 220), (17, 228), (18, 244)] rfl (by decide) (en_sw_miss c3 (en_sw_miss c4 (en_sw_miss c5 (en_sw_miss c6 (en_sw_miss c7 (en_sw_miss c8 (en_sw_miss c9 (en_sw_miss c10 (en_sw_miss c13 (en_sw_miss c14 (en_sw_hit c15))))))))))) ?_
    refine en_s_aload_n rfl rfl ?_
    refine en_s_getR (w := some (25, 0, 0)) rfl rfl rfl rfl ?_
    refine en_s_bipush rfl ?_
    refine en_c_iald (q := 10) rfl rfl (by decide) (by decide) ?_
    cases h
    exact en_s_iret rfl rfl
  rw [if_neg c15] at h
  by_cases c16 : v1 = 11
  · rw [if_pos c16] at h
    refine en_s_table [(0, 96), (1, 103), (2, 110), (3, 117), (4, 124), (5, 131), (6, 138), (7, 146), (8, 151), (9, 159), (10, 175), (11, 183), (12, 191), (13, 196), (14, 204), (15, 212), (16, 220), (17, 228), (18, 244)] rfl (by decide) (en_sw_miss c3 (en_sw_miss c4 (en_sw_miss c5 (en_sw_miss c6 (en_sw_miss c7 (en_sw_miss c8 (en_sw_miss c9 (en_sw_miss c10 (en_sw_miss c13 (en_sw_miss c14 (en_sw_miss c15 (en_sw_hit c16)))))))))))) ?_
    refine en_s_aload_n rfl rfl ?_
    refine en_s_getR (w := some (25, 0, 0)) rfl rfl rfl rfl ?_
    refine en_s_bipush rfl ?_
    refine en_c_iald (q := 11) rfl rfl (by decide) (by decide) ?_
    cases h
    exact en_s_iret rfl rfl
  rw [if_neg c16] at h
  by_cases c17 : v1 = 12
  · rw [if_pos c17] at h
    refine en_s_table [(0, 96), (1, 103), (2, 110), (3, 117), (4, 124), (5, 131), (6, 138), (7, 146), (8, 151), (9, 159), (10, 175), (11, 183), (12, 191), (13, 196), (14, 204), (15, 212), (16, 220), (17, 228), (18, 244)] rfl (by decide) (en_sw_miss c3 (en_sw_miss c4 (en_sw_miss c5 (en_sw_miss c6 (en_sw_miss c7 (en_sw_miss c8 (en_sw_miss c9 (en_sw_miss c10 (en_sw_miss c13 (en_sw_miss c14 (en_sw_miss c15 (en_sw_miss c16 (en_sw_hit c17))))))))))))) ?_
    refine en_s_aload_n rfl rfl ?_
    obtain ⟨t18, h19, h⟩ := en_b1_h h
    refine en_callV (as := []) (rest := []) (bc' := 0) (bs' := 0) hz rfl (s_mm_held G hz (d + 0) h19) lk_10_338 mv_mm_held rfl rfl rfl rfl rfl (fun _ h => h) (Nat.le_refl _) (Nat.le_refl _) ?_
    cases h
    exact en_s_iret rfl rfl
  rw [if_neg c17] at h
  by_cases c20 : v1 = 13
  · rw [if_pos c20] at h
    refine en_s_table [(0, 96), (1, 103), (2, 110), (3, 117), (4, 124), (5, 131), (6, 138), (7, 146), (8, 151), (9, 159), (10, 175), (11, 183), (12, 191), (13, 196), (14, 204), (15, 212), (16, 220), (17, 228), (18, 244)] rfl (by decide) (en_sw_miss c3 (en_sw_miss c4 (en_sw_miss c5 (en_sw_miss c6 (en_sw_miss c7 (en_sw_miss c8 (en_sw_miss c9 (en_sw_miss c10 (en_sw_miss c13 (en_sw_miss c14 (en_sw_miss c15 (en_sw_miss c16 (en_sw_miss c17 (en_sw_hit c20)))))))))))))) ?_
    refine en_s_aload_n rfl rfl ?_
    refine en_s_getR (w := some (25, 0, 0)) rfl rfl rfl rfl ?_
    refine en_s_bipush rfl ?_
    refine en_c_iald (q := 12) rfl rfl (by decide) (by decide) ?_
    cases h
    exact en_s_iret rfl rfl
  rw [if_neg c20] at h
  by_cases c21 : v1 = 14
  · rw [if_pos c21] at h
    refine en_s_table [(0, 96), (1, 103), (2, 110), (3, 117), (4, 124), (5, 131), (6, 138), (7, 146), (8, 151), (9, 159), (10, 175), (11, 183), (12, 191), (13, 196), (14, 204), (15, 212), (16, 220), (17, 228), (18, 244)] rfl (by decide) (en_sw_miss c3 (en_sw_miss c4 (en_sw_miss c5 (en_sw_miss c6 (en_sw_miss c7 (en_sw_miss c8 (en_sw_miss c9 (en_sw_miss c10 (en_sw_miss c13 (en_sw_miss c14 (en_sw_miss c15 (en_sw_miss c16 (en_sw_miss c17 (en_sw_miss c20 (en_sw_hit c21))))))))))))))) ?_
    refine en_s_aload_n rfl rfl ?_
    refine en_s_getR (w := some (25, 0, 0)) rfl rfl rfl rfl ?_
    refine en_s_bipush rfl ?_
    refine en_c_iald (q := 13) rfl rfl (by decide) (by decide) ?_
    cases h
    exact en_s_iret rfl rfl
  rw [if_neg c21] at h
  by_cases c22 : v1 = 15
  · rw [if_pos c22] at h
    refine en_s_table [(0, 96), (1, 103), (2, 110), (3, 117), (4, 124), (5, 131), (6, 138), (7, 146), (8, 151), (9, 159), (10, 175), (11, 183), (12, 191), (13, 196), (14, 204), (15, 212), (16, 220), (17, 228), (18, 244)] rfl (by decide) (en_sw_miss c3 (en_sw_miss c4 (en_sw_miss c5 (en_sw_miss c6 (en_sw_miss c7 (en_sw_miss c8 (en_sw_miss c9 (en_sw_miss c10 (en_sw_miss c13 (en_sw_miss c14 (en_sw_miss c15 (en_sw_miss c16 (en_sw_miss c17 (en_sw_miss c20 (en_sw_miss c21 (en_sw_hit c22)))))))))))))))) ?_
    refine en_s_aload_n rfl rfl ?_
    refine en_s_getR (w := some (25, 0, 0)) rfl rfl rfl rfl ?_
    refine en_s_bipush rfl ?_
    refine en_c_iald (q := 14) rfl rfl (by decide) (by decide) ?_
    cases h
    exact en_s_iret rfl rfl
  rw [if_neg c22] at h
  by_cases c23 : v1 = 16
  · rw [if_pos c23] at h
    refine en_s_table [(0, 96), (1, 103), (2, 110), (3, 117), (4, 124), (5, 131), (6, 138), (7, 146), (8, 151), (9, 159), (10, 175), (11, 183), (12, 191), (13, 196), (14, 204), (15, 212), (16, 220), (17, 228), (18, 244)] rfl (by decide) (en_sw_miss c3 (en_sw_miss c4 (en_sw_miss c5 (en_sw_miss c6 (en_sw_miss c7 (en_sw_miss c8 (en_sw_miss c9 (en_sw_miss c10 (en_sw_miss c13 (en_sw_miss c14 (en_sw_miss c15 (en_sw_miss c16 (en_sw_miss c17 (en_sw_miss c20 (en_sw_miss c21 (en_sw_miss c22 (en_sw_hit c23))))))))))))))))) ?_
    refine en_s_aload_n rfl rfl ?_
    refine en_s_getR (w := some (25, 0, 0)) rfl rfl rfl rfl ?_
    refine en_s_bipush rfl ?_
    refine en_c_iald (q := 18) rfl rfl (by decide) (by decide) ?_
    cases h
    exact en_s_iret rfl rfl
  rw [if_neg c23] at h
  by_cases c24 : v1 = 17
  · rw [if_pos c24] at h
    refine en_s_table [(0, 96), (1, 103), (2, 110), (3, 117), (4, 124), (5, 131), (6, 138), (7, 146), (8, 151), (9, 159), (10, 175), (11, 183), (12, 191), (13, 196), (14, 204), (15, 212), (16, 220), (17, 228), (18, 244)] rfl (by decide) (en_sw_miss c3 (en_sw_miss c4 (en_sw_miss c5 (en_sw_miss c6 (en_sw_miss c7 (en_sw_miss c8 (en_sw_miss c9 (en_sw_miss c10 (en_sw_miss c13 (en_sw_miss c14 (en_sw_miss c15 (en_sw_miss c16 (en_sw_miss c17 (en_sw_miss c20 (en_sw_miss c21 (en_sw_miss c22 (en_sw_miss c23 (en_sw_hit c24)))))))))))))))))) ?_
    refine en_s_aload_n rfl rfl ?_
    refine en_s_getR (w := some (25, 0, 0)) rfl rfl rfl rfl ?_
    refine en_s_bipush rfl ?_
    refine en_c_iald (q := 17) rfl rfl (by decide) (by decide) ?_
    refine en_s_if_le rfl (fun c25 => ?_) (fun c25 => ?_)
    · rw [if_pos c25] at h
      refine en_s_iconst rfl ?_
      cases h
      exact en_s_iret rfl rfl
    · rw [if_neg c25] at h
      refine en_s_iconst rfl ?_
      refine en_s_goto rfl ?_
      cases h
      exact en_s_iret rfl rfl
  rw [if_neg c24] at h
  by_cases c26 : v1 = 18
  · rw [if_pos c26] at h
    refine en_s_table [(0, 96), (1, 103), (2, 110), (3, 117), (4, 124), (5, 131), (6, 138), (7, 146), (8, 151), (9, 159), (10, 175), (11, 183), (12, 191), (13, 196), (14, 204), (15, 212), (16, 220), (17, 228), (18, 244)] rfl (by decide) (en_sw_miss c3 (en_sw_miss c4 (en_sw_miss c5 (en_sw_miss c6 (en_sw_miss c7 (en_sw_miss c8 (en_sw_miss c9 (en_sw_miss c10 (en_sw_miss c13 (en_sw_miss c14 (en_sw_miss c15 (en_sw_miss c16 (en_sw_miss c17 (en_sw_miss c20 (en_sw_miss c21 (en_sw_miss c22 (en_sw_miss c23 (en_sw_miss c24 (en_sw_hit c26))))))))))))))))))) ?_
    refine en_s_aload_n rfl rfl ?_
    refine en_s_getI rfl rfl rfl ?_
    cases h
    exact en_s_iret rfl rfl
  rw [if_neg c26] at h
  refine en_s_table [(0, 96), (1, 103), (2, 110), (3, 117), (4, 124), (5, 131), (6, 138), (7, 146), (8, 151), (9, 159), (10, 175), (11, 183), (12, 191), (13, 196), (14, 204), (15, 212), (16, 220), (17, 228), (18, 244)] rfl (by decide) (en_sw_miss c3 (en_sw_miss c4 (en_sw_miss c5 (en_sw_miss c6 (en_sw_miss c7 (en_sw_miss c8 (en_sw_miss c9 (en_sw_miss c10 (en_sw_miss c13 (en_sw_miss c14 (en_sw_miss c15 (en_sw_miss c16 (en_sw_miss c17 (en_sw_miss c20 (en_sw_miss c21 (en_sw_miss c22 (en_sw_miss c23 (en_sw_miss c24 (en_sw_miss c26 en_sw_nil))))))))))))))))))) ?_
  refine en_s_iconst rfl ?_
  cases h
  exact en_s_iret rfl rfl
def k_mm_lateOf (v1 : Int32) (σ : en_M) : Option (Int32) :=
  en_b1 (k_mm_logAt v1 5 σ) fun t1 =>
  en_b1 (k_mm_logAt v1 4 σ) fun t3 =>
  some (t1 - t3)
set_option maxRecDepth 100000 in
set_option maxHeartbeats 4000000 in
theorem s_mm_lateOf (G : en_G) (hz : G.2.2.2.2.2.2.2.2 = none) (d : Nat) {cs : List en_A} {σ : en_M} {v1 : Int32} {x0 : Int32}  (h : k_mm_lateOf v1 σ = some x0) : en_Mt G (d + 1) 0 0 M_mm_lateOf [.inr (.inl (some (24, 0, 0))), .inl v1] cs en_rf σ (.inr (some (.inl x0))) cs en_rf σ := by
  refine en_meth (ls := [some (.inr (.inl (some (24, 0, 0)))), some (.inl v1)]) md_mm_lateOf rfl rfl rfl ?_
  unfold k_mm_lateOf at h
  refine en_s_aload_n rfl rfl ?_
  refine en_s_iload_n rfl rfl ?_
  refine en_s_iconst rfl ?_
  obtain ⟨t1, h2, h⟩ := en_b1_h h
  refine en_callV (as := [.inl v1, .inl 5]) (rest := []) (bc' := 0) (bs' := 0) hz rfl (s_mm_logAt G hz (d + 0) h2) lk_10_294 mv_mm_logAt rfl rfl rfl rfl rfl (fun _ h => h) (Nat.le_refl _) (Nat.le_refl _) ?_
  refine en_s_aload_n rfl rfl ?_
  refine en_s_iload_n rfl rfl ?_
  refine en_s_iconst rfl ?_
  obtain ⟨t3, h4, h⟩ := en_b1_h h
  refine en_callV (as := [.inl v1, .inl 4]) (rest := [.inl t1]) (bc' := 0) (bs' := 0) hz rfl (s_mm_logAt G hz (d + 0) h4) lk_10_294 mv_mm_logAt rfl rfl rfl rfl rfl (fun _ h => h) (Nat.le_refl _) (Nat.le_refl _) ?_
  refine en_s_isub rfl ?_
  cases h
  exact en_s_iret rfl rfl
def k_mm_delay_33 (f0 : Nat) (v1 : Int32) (v2 : Int32) (v3 : Int32) (v4 : Int32) (σ : en_M) : Option (Int32 × Int32) := match f0 with
  | 0 => none
  | f9 + 1 =>
    if (σ 25 0 0 18) ≤ v4 then
      some (v2, v3)
    else
      en_b1 (k_mm_logAt v4 2 σ) fun t6 =>
      if t6 = v1 then
        en_b1 (k_mm_lateOf v4 σ) fun t9 =>
        k_mm_delay_33 f9 v1 (v2 + t9) (v3 + 1) (v4 + 1) σ
      else
        k_mm_delay_33 f9 v1 v2 v3 (v4 + 1) σ
def k_mm_delay (v1 : Int32) (σ : en_M) : Option (Int32 × en_M) :=
  if (k_mm_isFlow v1 σ) = 0 then
    en_let (en_wr σ 24 0 0 0 1) fun s2 =>
    if (s2 24 0 0 0) ≤ 0 then
      en_b2 (k_mm_delay_33 en_fu v1 0 0 0 s2) fun x11 x12 =>
      if x12 = 0 then
        some ((-1), s2)
      else
        en_b1 (en_dv (100 * x11) x12) fun t16 =>
        some (t16, s2)
    else
      some (0, s2)
  else
    en_let (en_wr σ 24 0 0 0 0) fun s18 =>
    if (s18 24 0 0 0) ≤ 0 then
      en_b2 (k_mm_delay_33 en_fu v1 0 0 0 s18) fun x21 x22 =>
      if x22 = 0 then
        some ((-1), s18)
      else
        en_b1 (en_dv (100 * x21) x22) fun t26 =>
        some (t26, s18)
    else
      some (0, s18)
set_option maxRecDepth 100000 in
set_option maxHeartbeats 4000000 in
theorem s_mm_delay_33 (G : en_G) (hz : G.2.2.2.2.2.2.2.2 = none) {d : Nat} {r : en_P} {cs cs' : List en_A} {ρ' : en_R} {σ' : en_M} : ∀ (f0 : Nat) {v1 : Int32} {v2 : Int32} {v3 : Int32} {v4 : Int32}  {σ : en_M} {x2 : Int32} {x3 : Int32} , k_mm_delay_33 f0 v1 v2 v3 v4 σ = some (x2, x3) →
    (∀ (f4 : Option en_V), en_W G (d + 2) 0 0 M_mm_delay r cs' ρ' σ' 0 0 77 [some (.inr (.inl (some (24, 0, 0)))), some (.inl v1), some (.inl x2), some (.inl x3), f4] [] cs en_rf σ) → en_W G (d + 2) 0 0 M_mm_delay r cs' ρ' σ' 0 0 33 [some (.inr (.inl (some (24, 0, 0)))), some (.inl v1), some (.inl v2), some (.inl v3), some (.inl v4)] [] cs en_rf σ := by
  intro f0
  induction f0 with
  | zero =>
    intros
    rename_i h _
    cases h
  | succ f9 ih =>
    intro v1 v2 v3 v4 σ x2 x3 h hk
    rw [k_mm_delay_33] at h
    refine en_s_iload rfl rfl ?_
    refine en_s_aload_n rfl rfl ?_
    refine en_s_getR (w := some (25, 0, 0)) rfl rfl rfl rfl ?_
    refine en_s_bipush rfl ?_
    refine en_c_iald (q := 18) rfl rfl (by decide) (by decide) ?_
    refine en_s_icmp_ge rfl (fun c5 => ?_) (fun c5 => ?_)
    · rw [if_pos c5] at h
      cases h
      exact hk (some (.inl v4))
    · rw [if_neg c5] at h
      refine en_s_aload_n rfl rfl ?_
      refine en_s_iload rfl rfl ?_
      refine en_s_iconst rfl ?_
      obtain ⟨t6, h7, h⟩ := en_b1_h h
      refine en_callV (as := [.inl v4, .inl 2]) (rest := []) (bc' := 0) (bs' := 0) hz rfl (s_mm_logAt G hz (d + 1) h7) lk_10_294 mv_mm_logAt rfl rfl rfl rfl rfl (fun _ h => h) (Nat.le_refl _) (Nat.le_refl _) ?_
      refine en_s_iload_n rfl rfl ?_
      refine en_s_icmp_eq rfl (fun c8 => ?_) (fun c8 => ?_)
      · rw [if_pos c8] at h
        refine en_s_iload_n rfl rfl ?_
        refine en_s_aload_n rfl rfl ?_
        refine en_s_iload rfl rfl ?_
        obtain ⟨t9, h10, h⟩ := en_b1_h h
        refine en_callV (as := [.inl v4]) (rest := [.inl v2]) (bc' := 0) (bs' := 0) hz rfl (s_mm_lateOf G hz (d + 0) h10) lk_10_303 mv_mm_lateOf rfl rfl rfl rfl rfl (fun _ h => h) (Nat.le_refl _) (Nat.le_refl _) ?_
        refine en_s_iadd rfl ?_
        refine en_s_istore_n (ls' := [some (.inr (.inl (some (24, 0, 0)))), some (.inl v1), some (.inl (v2 + t9)), some (.inl v3), some (.inl v4)]) rfl rfl rfl ?_
        refine en_s_iinc (ls' := [some (.inr (.inl (some (24, 0, 0)))), some (.inl v1), some (.inl (v2 + t9)), some (.inl (v3 + 1)), some (.inl v4)]) rfl rfl rfl ?_
        refine en_s_iinc (ls' := [some (.inr (.inl (some (24, 0, 0)))), some (.inl v1), some (.inl (v2 + t9)), some (.inl (v3 + 1)), some (.inl (v4 + 1))]) rfl rfl rfl ?_
        refine en_s_goto rfl ?_
        exact ih  h hk
      · rw [if_neg c8] at h
        refine en_s_goto rfl ?_
        refine en_s_iinc (ls' := [some (.inr (.inl (some (24, 0, 0)))), some (.inl v1), some (.inl v2), some (.inl v3), some (.inl (v4 + 1))]) rfl rfl rfl ?_
        refine en_s_goto rfl ?_
        exact ih  h hk
set_option maxRecDepth 100000 in
set_option maxHeartbeats 4000000 in
theorem s_mm_delay (G : en_G) (hz : G.2.2.2.2.2.2.2.2 = none) (d : Nat) {cs : List en_A} {σ : en_M} {v1 : Int32} {x0 : Int32} {s0 : en_M}  (h : k_mm_delay v1 σ = some (x0, s0)) : en_Mt G (d + 2) 0 0 M_mm_delay [.inr (.inl (some (24, 0, 0))), .inl v1] cs en_rf σ (.inr (some (.inl x0))) cs en_rf s0 := by
  refine en_meth (ls := [some (.inr (.inl (some (24, 0, 0)))), some (.inl v1), none, none, none]) md_mm_delay rfl rfl rfl ?_
  unfold k_mm_delay at h
  refine en_s_aload_n rfl rfl ?_
  refine en_s_aload_n rfl rfl ?_
  refine en_s_iload_n rfl rfl ?_
  refine en_callV (as := [.inl v1]) (rest := [.inr (.inl (some (24, 0, 0)))]) (bc' := 0) (bs' := 0) hz rfl (s_mm_isFlow G hz (d + 0) rfl) lk_10_101 mv_mm_isFlow rfl rfl rfl rfl rfl (fun _ h => h) (Nat.le_refl _) (Nat.le_refl _) ?_
  refine en_s_if_eq rfl (fun c1 => ?_) (fun c1 => ?_)
  · rw [if_pos c1] at h
    refine en_s_iconst rfl ?_
    obtain ⟨s2, e3, h⟩ := en_let_h h
    refine en_p_putI e3 rfl rfl rfl rfl rfl ?_
    refine en_s_aload_n rfl rfl ?_
    refine en_s_getI rfl rfl rfl ?_
    refine en_s_if_le rfl (fun c4 => ?_) (fun c4 => ?_)
    · rw [if_pos c4] at h
      refine en_s_iconst rfl ?_
      refine en_s_istore_n (ls' := [some (.inr (.inl (some (24, 0, 0)))), some (.inl v1), some (.inl 0), none, none]) rfl rfl rfl ?_
      refine en_s_iconst rfl ?_
      refine en_s_istore_n (ls' := [some (.inr (.inl (some (24, 0, 0)))), some (.inl v1), some (.inl 0), some (.inl 0), none]) rfl rfl rfl ?_
      refine en_s_iconst rfl ?_
      refine en_s_istore (ls' := [some (.inr (.inl (some (24, 0, 0)))), some (.inl v1), some (.inl 0), some (.inl 0), some (.inl 0)]) rfl rfl rfl ?_
      obtain ⟨x11, x12, h14, h⟩ := en_b2_h h
      refine s_mm_delay_33 G hz en_fu  h14 (fun f13 => ?_)
      refine en_s_iload_n rfl rfl ?_
      refine en_s_if_ne rfl (fun c15 => ?_) (fun c15 => ?_)
      · rw [if_neg c15] at h
        refine en_s_bipush rfl ?_
        refine en_s_iload_n rfl rfl ?_
        refine en_s_imul rfl ?_
        refine en_s_iload_n rfl rfl ?_
        obtain ⟨t16, h17, h⟩ := en_b1_h h
        refine en_p_idiv h17 rfl ?_
        cases h
        exact en_s_iret rfl rfl
      · rw [if_pos c15] at h
        refine en_s_iconst rfl ?_
        refine en_s_goto rfl ?_
        cases h
        exact en_s_iret rfl rfl
    · rw [if_neg c4] at h
      refine en_s_iconst rfl ?_
      cases h
      exact en_s_iret rfl rfl
  · rw [if_neg c1] at h
    refine en_s_iconst rfl ?_
    refine en_s_goto rfl ?_
    obtain ⟨s18, e19, h⟩ := en_let_h h
    refine en_p_putI e19 rfl rfl rfl rfl rfl ?_
    refine en_s_aload_n rfl rfl ?_
    refine en_s_getI rfl rfl rfl ?_
    refine en_s_if_le rfl (fun c20 => ?_) (fun c20 => ?_)
    · rw [if_pos c20] at h
      refine en_s_iconst rfl ?_
      refine en_s_istore_n (ls' := [some (.inr (.inl (some (24, 0, 0)))), some (.inl v1), some (.inl 0), none, none]) rfl rfl rfl ?_
      refine en_s_iconst rfl ?_
      refine en_s_istore_n (ls' := [some (.inr (.inl (some (24, 0, 0)))), some (.inl v1), some (.inl 0), some (.inl 0), none]) rfl rfl rfl ?_
      refine en_s_iconst rfl ?_
      refine en_s_istore (ls' := [some (.inr (.inl (some (24, 0, 0)))), some (.inl v1), some (.inl 0), some (.inl 0), some (.inl 0)]) rfl rfl rfl ?_
      obtain ⟨x21, x22, h24, h⟩ := en_b2_h h
      refine s_mm_delay_33 G hz en_fu  h24 (fun f23 => ?_)
      refine en_s_iload_n rfl rfl ?_
      refine en_s_if_ne rfl (fun c25 => ?_) (fun c25 => ?_)
      · rw [if_neg c25] at h
        refine en_s_bipush rfl ?_
        refine en_s_iload_n rfl rfl ?_
        refine en_s_imul rfl ?_
        refine en_s_iload_n rfl rfl ?_
        obtain ⟨t26, h27, h⟩ := en_b1_h h
        refine en_p_idiv h27 rfl ?_
        cases h
        exact en_s_iret rfl rfl
      · rw [if_pos c25] at h
        refine en_s_iconst rfl ?_
        refine en_s_goto rfl ?_
        cases h
        exact en_s_iret rfl rfl
    · rw [if_neg c20] at h
      refine en_s_iconst rfl ?_
      cases h
      exact en_s_iret rfl rfl
def k_mm_done (v1 : Int32) (v2 : Int32) (σ : en_M) : Option (Int32 × en_M) :=
  en_let (en_wr σ 24 0 0 0 0) fun s1 =>
  if (k_mm_isIn v1 0 ((s1 25 0 0 19) - 1)) = 0 then
    some ((-1), s1)
  else
    if v2 = 0 then
      en_b1 (en_rd 938 (s1 25 0 0) ((898 + (2 * (((s1 25 0 0 19) - 1) - v1))) + 0)) fun t5 =>
      some (t5, s1)
    else
      en_b1 (en_rd 938 (s1 25 0 0) ((898 + (2 * (((s1 25 0 0 19) - 1) - v1))) + 1)) fun t7 =>
      some (t7, s1)
set_option maxRecDepth 100000 in
set_option maxHeartbeats 4000000 in
theorem s_mm_done (G : en_G) (hz : G.2.2.2.2.2.2.2.2 = none) (d : Nat) {cs : List en_A} {σ : en_M} {v1 : Int32} {v2 : Int32} {x0 : Int32} {s0 : en_M}  (h : k_mm_done v1 v2 σ = some (x0, s0)) : en_Mt G (d + 1) 0 0 M_mm_done [.inr (.inl (some (24, 0, 0))), .inl v1, .inl v2] cs en_rf σ (.inr (some (.inl x0))) cs en_rf s0 := by
  refine en_meth (ls := [some (.inr (.inl (some (24, 0, 0)))), some (.inl v1), some (.inl v2)]) md_mm_done rfl rfl rfl ?_
  unfold k_mm_done at h
  refine en_s_aload_n rfl rfl ?_
  refine en_s_iconst rfl ?_
  obtain ⟨s1, e2, h⟩ := en_let_h h
  refine en_p_putI e2 rfl rfl rfl rfl rfl ?_
  refine en_s_iload_n rfl rfl ?_
  refine en_s_iconst rfl ?_
  refine en_s_aload_n rfl rfl ?_
  refine en_s_getR (w := some (25, 0, 0)) rfl rfl rfl rfl ?_
  refine en_s_bipush rfl ?_
  refine en_c_iald (q := 19) rfl rfl (by decide) (by decide) ?_
  refine en_s_iconst rfl ?_
  refine en_s_isub rfl ?_
  refine en_callS (as := [.inl v1, .inl 0, .inl ((s1 25 0 0 19) - 1)]) (rest := []) (bc' := 0) (bs' := 0) hz rfl (s_mm_isIn G hz (d + 0) rfl) lk_10_54 mv_mm_isIn rfl rfl rfl (fun _ h => h) (Nat.le_refl _) (Nat.le_refl _) ?_
  refine en_s_if_ne rfl (fun c3 => ?_) (fun c3 => ?_)
  · rw [if_neg c3] at h
    refine en_s_aload_n rfl rfl ?_
    refine en_s_getR (w := some (25, 0, 0)) rfl rfl rfl rfl ?_
    refine en_s_sipush rfl ?_
    refine en_s_iconst rfl ?_
    refine en_s_aload_n rfl rfl ?_
    refine en_s_getR (w := some (25, 0, 0)) rfl rfl rfl rfl ?_
    refine en_s_bipush rfl ?_
    refine en_c_iald (q := 19) rfl rfl (by decide) (by decide) ?_
    refine en_s_iconst rfl ?_
    refine en_s_isub rfl ?_
    refine en_s_iload_n rfl rfl ?_
    refine en_s_isub rfl ?_
    refine en_s_imul rfl ?_
    refine en_s_iadd rfl ?_
    refine en_s_iload_n rfl rfl ?_
    refine en_s_if_eq rfl (fun c4 => ?_) (fun c4 => ?_)
    · rw [if_pos c4] at h
      refine en_s_iconst rfl ?_
      refine en_s_iadd rfl ?_
      obtain ⟨t5, h6, h⟩ := en_b1_h h
      refine en_s_iald rfl rfl h6 ?_
      cases h
      exact en_s_iret rfl rfl
    · rw [if_neg c4] at h
      refine en_s_iconst rfl ?_
      refine en_s_goto rfl ?_
      refine en_s_iadd rfl ?_
      obtain ⟨t7, h8, h⟩ := en_b1_h h
      refine en_s_iald rfl rfl h8 ?_
      cases h
      exact en_s_iret rfl rfl
  · rw [if_pos c3] at h
    refine en_s_iconst rfl ?_
    cases h
    exact en_s_iret rfl rfl
def k_mm_drop (v1 : Int32) (σ : en_M) : Option (Int32 × en_M) :=
  en_b1 (k_mm_putsAside σ) fun s1 =>
  if (k_mm_isIn v1 (s1 25 0 0 6) ((s1 25 0 0 5) - 1)) = 0 then
    en_b2 (k_mm_drop0 v1 s1) fun t4 s5 =>
    en_b2 (k_mm_isTold t4 1 s5) fun t7 s8 =>
    if t7 = 0 then
      some (0, s8)
    else
      some (0, s8)
  else
    en_b1 (k_mm_piecesOf v1 s1) fun t11 =>
    en_b2 (k_mm_drop0 v1 s1) fun t13 s14 =>
    en_b2 (k_mm_isTold t13 1 s14) fun t16 s17 =>
    if t16 = 0 then
      some (0, s17)
    else
      some (t11, s17)
set_option maxRecDepth 100000 in
set_option maxHeartbeats 4000000 in
theorem s_mm_drop (G : en_G) (hz : G.2.2.2.2.2.2.2.2 = none) (d : Nat) {cs : List en_A} {σ : en_M} {v1 : Int32} {x0 : Int32} {s0 : en_M}  (h : k_mm_drop v1 σ = some (x0, s0)) : en_Mt G (d + 6) 0 0 M_mm_drop [.inr (.inl (some (24, 0, 0))), .inl v1] cs en_rf σ (.inr (some (.inl x0))) cs en_rf s0 := by
  refine en_meth (ls := [some (.inr (.inl (some (24, 0, 0)))), some (.inl v1), none]) md_mm_drop rfl rfl rfl ?_
  unfold k_mm_drop at h
  refine en_s_aload_n rfl rfl ?_
  obtain ⟨s1, h2, h⟩ := en_b1_h h
  refine en_callV (as := []) (rest := []) (bc' := 0) (bs' := 0) hz rfl (s_mm_putsAside G hz (d + 5) h2) lk_10_262 mv_mm_putsAside rfl rfl rfl rfl rfl (fun _ h => h) (Nat.le_refl _) (Nat.le_refl _) ?_
  refine en_s_iload_n rfl rfl ?_
  refine en_s_aload_n rfl rfl ?_
  refine en_s_getR (w := some (25, 0, 0)) rfl rfl rfl rfl ?_
  refine en_s_bipush rfl ?_
  refine en_c_iald (q := 6) rfl rfl (by decide) (by decide) ?_
  refine en_s_aload_n rfl rfl ?_
  refine en_s_getR (w := some (25, 0, 0)) rfl rfl rfl rfl ?_
  refine en_s_iconst rfl ?_
  refine en_c_iald (q := 5) rfl rfl (by decide) (by decide) ?_
  refine en_s_iconst rfl ?_
  refine en_s_isub rfl ?_
  refine en_callS (as := [.inl v1, .inl (s1 25 0 0 6), .inl ((s1 25 0 0 5) - 1)]) (rest := []) (bc' := 0) (bs' := 0) hz rfl (s_mm_isIn G hz (d + 5) rfl) lk_10_54 mv_mm_isIn rfl rfl rfl (fun _ h => h) (Nat.le_refl _) (Nat.le_refl _) ?_
  refine en_s_if_eq rfl (fun c3 => ?_) (fun c3 => ?_)
  · rw [if_pos c3] at h
    refine en_s_iconst rfl ?_
    refine en_s_istore_n (ls' := [some (.inr (.inl (some (24, 0, 0)))), some (.inl v1), some (.inl 0)]) rfl rfl rfl ?_
    refine en_s_aload_n rfl rfl ?_
    refine en_s_aload_n rfl rfl ?_
    refine en_s_iload_n rfl rfl ?_
    obtain ⟨t4, s5, h6, h⟩ := en_b2_h h
    refine en_callV (as := [.inl v1]) (rest := [.inr (.inl (some (24, 0, 0)))]) (bc' := 0) (bs' := 0) hz rfl (s_mm_drop0 G hz (d + 0) h6) lk_10_242 mv_mm_drop0 rfl rfl rfl rfl rfl (fun _ h => h) (Nat.le_refl _) (Nat.le_refl _) ?_
    refine en_s_iconst rfl ?_
    obtain ⟨t7, s8, h9, h⟩ := en_b2_h h
    refine en_callV (as := [.inl t4, .inl 1]) (rest := []) (bc' := 0) (bs' := 0) hz rfl (s_mm_isTold G hz (d + 4) h9) lk_10_268 mv_mm_isTold rfl rfl rfl rfl rfl (fun _ h => h) (Nat.le_refl _) (Nat.le_refl _) ?_
    refine en_s_if_eq rfl (fun c10 => ?_) (fun c10 => ?_)
    · rw [if_pos c10] at h
      refine en_s_iconst rfl ?_
      cases h
      exact en_s_iret rfl rfl
    · rw [if_neg c10] at h
      refine en_s_iload_n rfl rfl ?_
      refine en_s_goto rfl ?_
      cases h
      exact en_s_iret rfl rfl
  · rw [if_neg c3] at h
    refine en_s_aload_n rfl rfl ?_
    refine en_s_iload_n rfl rfl ?_
    obtain ⟨t11, h12, h⟩ := en_b1_h h
    refine en_callV (as := [.inl v1]) (rest := []) (bc' := 0) (bs' := 0) hz rfl (s_mm_piecesOf G hz (d + 2) h12) lk_10_82 mv_mm_piecesOf rfl rfl rfl rfl rfl (fun _ h => h) (Nat.le_refl _) (Nat.le_refl _) ?_
    refine en_s_goto rfl ?_
    refine en_s_istore_n (ls' := [some (.inr (.inl (some (24, 0, 0)))), some (.inl v1), some (.inl t11)]) rfl rfl rfl ?_
    refine en_s_aload_n rfl rfl ?_
    refine en_s_aload_n rfl rfl ?_
    refine en_s_iload_n rfl rfl ?_
    obtain ⟨t13, s14, h15, h⟩ := en_b2_h h
    refine en_callV (as := [.inl v1]) (rest := [.inr (.inl (some (24, 0, 0)))]) (bc' := 0) (bs' := 0) hz rfl (s_mm_drop0 G hz (d + 0) h15) lk_10_242 mv_mm_drop0 rfl rfl rfl rfl rfl (fun _ h => h) (Nat.le_refl _) (Nat.le_refl _) ?_
    refine en_s_iconst rfl ?_
    obtain ⟨t16, s17, h18, h⟩ := en_b2_h h
    refine en_callV (as := [.inl t13, .inl 1]) (rest := []) (bc' := 0) (bs' := 0) hz rfl (s_mm_isTold G hz (d + 4) h18) lk_10_268 mv_mm_isTold rfl rfl rfl rfl rfl (fun _ h => h) (Nat.le_refl _) (Nat.le_refl _) ?_
    refine en_s_if_eq rfl (fun c19 => ?_) (fun c19 => ?_)
    · rw [if_pos c19] at h
      refine en_s_iconst rfl ?_
      cases h
      exact en_s_iret rfl rfl
    · rw [if_neg c19] at h
      refine en_s_iload_n rfl rfl ?_
      refine en_s_goto rfl ?_
      cases h
      exact en_s_iret rfl rfl
def k_mm_end (v1 : Int32) (σ : en_M) : Option (Int32 × en_M) :=
  en_let (en_wr σ 24 0 0 0 0) fun s1 =>
  if (k_mm_isIn v1 0 (s1 24 0 0 9)) = 0 then
    some (0, s1)
  else
    en_let (en_wr s1 24 0 0 9 v1) fun s4 =>
    some (1, s4)
set_option maxRecDepth 100000 in
set_option maxHeartbeats 4000000 in
theorem s_mm_end (G : en_G) (hz : G.2.2.2.2.2.2.2.2 = none) (d : Nat) {cs : List en_A} {σ : en_M} {v1 : Int32} {x0 : Int32} {s0 : en_M}  (h : k_mm_end v1 σ = some (x0, s0)) : en_Mt G (d + 1) 0 0 M_mm_end [.inr (.inl (some (24, 0, 0))), .inl v1] cs en_rf σ (.inr (some (.inl x0))) cs en_rf s0 := by
  refine en_meth (ls := [some (.inr (.inl (some (24, 0, 0)))), some (.inl v1)]) md_mm_end rfl rfl rfl ?_
  unfold k_mm_end at h
  refine en_s_aload_n rfl rfl ?_
  refine en_s_iconst rfl ?_
  obtain ⟨s1, e2, h⟩ := en_let_h h
  refine en_p_putI e2 rfl rfl rfl rfl rfl ?_
  refine en_s_iload_n rfl rfl ?_
  refine en_s_iconst rfl ?_
  refine en_s_aload_n rfl rfl ?_
  refine en_s_getI rfl rfl rfl ?_
  refine en_callS (as := [.inl v1, .inl 0, .inl (s1 24 0 0 9)]) (rest := []) (bc' := 0) (bs' := 0) hz rfl (s_mm_isIn G hz (d + 0) rfl) lk_10_54 mv_mm_isIn rfl rfl rfl (fun _ h => h) (Nat.le_refl _) (Nat.le_refl _) ?_
  refine en_s_if_ne rfl (fun c3 => ?_) (fun c3 => ?_)
  · rw [if_neg c3] at h
    refine en_s_aload_n rfl rfl ?_
    refine en_s_iload_n rfl rfl ?_
    obtain ⟨s4, e5, h⟩ := en_let_h h
    refine en_p_putI e5 rfl rfl rfl rfl rfl ?_
    refine en_s_iconst rfl ?_
    cases h
    exact en_s_zret rfl rfl (Or.inr rfl)
  · rw [if_pos c3] at h
    refine en_s_iconst rfl ?_
    cases h
    exact en_s_zret rfl rfl (Or.inl rfl)
def k_mm_endOf_4 (f0 : Nat) (v1 : Int32) (v2 : Int32) (v3 : Int32) (σ : en_M) : Option ((Int32) ⊕ (Int32)) := match f0 with
  | 0 => none
  | f9 + 1 =>
    en_b1 (k_mm_piecesOf v1 σ) fun t1 =>
    if t1 ≤ v3 then
      some (.inr (v2))
    else
      en_b1 (en_rd 160 (σ 33 0 0) (k_mm_placeIn v1 v3)) fun t4 =>
      if t4 = (-1) then
        some (.inl ((-1)))
      else
        k_mm_endOf_4 f9 v1 (k_mm_greater v2 t4) (v3 + 1) σ
def k_mm_endOf (v1 : Int32) (σ : en_M) : Option (Int32) :=
  en_rx (k_mm_endOf_4 en_fu v1 (-1) 0 σ) (fun r11 => some r11) (fun x7 =>
  some x7)
set_option maxRecDepth 100000 in
set_option maxHeartbeats 4000000 in
theorem s_mm_endOf_4 (G : en_G) (hz : G.2.2.2.2.2.2.2.2 = none) {d : Nat} {r : en_P} {cs cs' : List en_A} {ρ' : en_R} {σ' : en_M} : ∀ (f0 : Nat) {v1 : Int32} {v2 : Int32} {v3 : Int32} {e4 : Option en_V} {σ : en_M} {x9 : ((Int32) ⊕ (Int32))} , k_mm_endOf_4 f0 v1 v2 v3 σ = some x9 →
    (∀ a9, x9 = .inl a9 → r = .inr (some (.inl a9)) ∧ cs' = cs ∧ ρ' = en_rf ∧ σ' = σ) →
    (∀ (x2 : Int32), x9 = .inr x2 → ∀ (f3 : Option en_V) (f4 : Option en_V), en_W G (d + 4) 0 0 M_mm_endOf r cs' ρ' σ' 0 0 46 [some (.inr (.inl (some (24, 0, 0)))), some (.inl v1), some (.inl x2), f3, f4] [] cs en_rf σ) → en_W G (d + 4) 0 0 M_mm_endOf r cs' ρ' σ' 0 0 4 [some (.inr (.inl (some (24, 0, 0)))), some (.inl v1), some (.inl v2), some (.inl v3), e4] [] cs en_rf σ := by
  intro f0
  induction f0 with
  | zero =>
    intros
    rename_i h _ _
    cases h
  | succ f9 ih =>
    intro v1 v2 v3 e4 σ x9 h hr hk
    rw [k_mm_endOf_4] at h
    refine en_s_iload_n rfl rfl ?_
    refine en_s_aload_n rfl rfl ?_
    refine en_s_iload_n rfl rfl ?_
    obtain ⟨t1, h2, h⟩ := en_b1_h h
    refine en_callV (as := [.inl v1]) (rest := [.inl v3]) (bc' := 0) (bs' := 0) hz rfl (s_mm_piecesOf G hz (d + 0) h2) lk_10_82 mv_mm_piecesOf rfl rfl rfl rfl rfl (fun _ h => h) (Nat.le_refl _) (Nat.le_refl _) ?_
    refine en_s_icmp_ge rfl (fun c3 => ?_) (fun c3 => ?_)
    · rw [if_pos c3] at h
      obtain rfl := Option.some.inj h
      exact hk _ rfl (some (.inl v3)) (e4)
    · rw [if_neg c3] at h
      refine en_s_aload_n rfl rfl ?_
      refine en_s_getR (w := some (33, 0, 0)) rfl rfl rfl rfl ?_
      refine en_s_iload_n rfl rfl ?_
      refine en_s_iload_n rfl rfl ?_
      refine en_callS (as := [.inl v1, .inl v3]) (rest := [.inr (.inl (some (33, 0, 0)))]) (bc' := 0) (bs' := 0) hz rfl (s_mm_placeIn G hz (d + 3) rfl) lk_10_95 mv_mm_placeIn rfl rfl rfl (fun _ h => h) (Nat.le_refl _) (Nat.le_refl _) ?_
      obtain ⟨t4, h5, h⟩ := en_b1_h h
      refine en_s_iald rfl rfl h5 ?_
      refine en_s_istore (ls' := [some (.inr (.inl (some (24, 0, 0)))), some (.inl v1), some (.inl v2), some (.inl v3), some (.inl t4)]) rfl rfl rfl ?_
      refine en_s_iload rfl rfl ?_
      refine en_s_iconst rfl ?_
      refine en_s_icmp_ne rfl (fun c6 => ?_) (fun c6 => ?_)
      · rw [if_neg c6] at h
        refine en_s_iload_n rfl rfl ?_
        refine en_s_iload rfl rfl ?_
        refine en_callS (as := [.inl v2, .inl t4]) (rest := []) (bc' := 0) (bs' := 0) hz rfl (s_mm_greater G hz (d + 3) rfl) lk_10_62 mv_mm_greater rfl rfl rfl (fun _ h => h) (Nat.le_refl _) (Nat.le_refl _) ?_
        refine en_s_istore_n (ls' := [some (.inr (.inl (some (24, 0, 0)))), some (.inl v1), some (.inl (k_mm_greater v2 t4)), some (.inl v3), some (.inl t4)]) rfl rfl rfl ?_
        refine en_s_iinc (ls' := [some (.inr (.inl (some (24, 0, 0)))), some (.inl v1), some (.inl (k_mm_greater v2 t4)), some (.inl (v3 + 1)), some (.inl t4)]) rfl rfl rfl ?_
        refine en_s_goto rfl ?_
        exact ih (e4 := some (.inl t4)) h hr hk
      · rw [if_pos c6] at h
        refine en_s_iconst rfl ?_
        obtain rfl := Option.some.inj h
        obtain ⟨rfl, rfl, rfl, rfl⟩ := hr _ rfl
        exact en_s_iret rfl rfl
set_option maxRecDepth 100000 in
set_option maxHeartbeats 4000000 in
theorem s_mm_endOf (G : en_G) (hz : G.2.2.2.2.2.2.2.2 = none) (d : Nat) {cs : List en_A} {σ : en_M} {v1 : Int32} {x0 : Int32}  (h : k_mm_endOf v1 σ = some x0) : en_Mt G (d + 4) 0 0 M_mm_endOf [.inr (.inl (some (24, 0, 0))), .inl v1] cs en_rf σ (.inr (some (.inl x0))) cs en_rf σ := by
  refine en_meth (ls := [some (.inr (.inl (some (24, 0, 0)))), some (.inl v1), none, none, none]) md_mm_endOf rfl rfl rfl ?_
  unfold k_mm_endOf at h
  refine en_s_iconst rfl ?_
  refine en_s_istore_n (ls' := [some (.inr (.inl (some (24, 0, 0)))), some (.inl v1), some (.inl ((-1))), none, none]) rfl rfl rfl ?_
  refine en_s_iconst rfl ?_
  refine en_s_istore_n (ls' := [some (.inr (.inl (some (24, 0, 0)))), some (.inl v1), some (.inl ((-1))), some (.inl 0), none]) rfl rfl rfl ?_
  rcases en_rx_h h with ⟨r11, h10, h⟩ | ⟨x7, h10, h⟩
  · obtain rfl := Option.some.inj h
    exact s_mm_endOf_4 G hz en_fu (e4 := none) h10 (fun _ e9 => by cases e9; exact ⟨rfl, rfl, rfl, rfl⟩) (fun _ e9 => by cases e9)
  · refine s_mm_endOf_4 G hz en_fu (e4 := none) h10 (fun _ e9 => by cases e9) (fun _ e9 f8 f9 => ?_)
    cases e9
    refine en_s_iload_n rfl rfl ?_
    cases h
    exact en_s_iret rfl rfl
def k_mm_isSortedAhead (v1 : Int32) (v2 : Int32) (σ : en_M) : Option (Int32) :=
  en_b1 (en_rd 160 (σ 30 0 0) (k_mm_placeIn (v1 / 64) (v1 - v1 / 64 * 64))) fun t1 =>
  en_b1 (en_rd 160 (σ 30 0 0) (k_mm_placeIn (v2 / 64) (v2 - v2 / 64 * 64))) fun t3 =>
  some (k_mm_isAhead t1 (v1 / 64) (v1 - v1 / 64 * 64) t3 (v2 / 64) (v2 - v2 / 64 * 64))
set_option maxRecDepth 100000 in
set_option maxHeartbeats 4000000 in
theorem s_mm_isSortedAhead (G : en_G) (hz : G.2.2.2.2.2.2.2.2 = none) (d : Nat) {cs : List en_A} {σ : en_M} {v1 : Int32} {v2 : Int32} {x0 : Int32}  (h : k_mm_isSortedAhead v1 v2 σ = some x0) : en_Mt G (d + 1) 0 0 M_mm_isSortedAhead [.inr (.inl (some (24, 0, 0))), .inl v1, .inl v2] cs en_rf σ (.inr (some (.inl x0))) cs en_rf σ := by
  refine en_meth (ls := [some (.inr (.inl (some (24, 0, 0)))), some (.inl v1), some (.inl v2), none, none]) md_mm_isSortedAhead rfl rfl rfl ?_
  unfold k_mm_isSortedAhead at h
  refine en_s_iload_n rfl rfl ?_
  refine en_s_bipush rfl ?_
  refine en_s_idiv rfl (by decide) ?_
  refine en_s_istore_n (ls' := [some (.inr (.inl (some (24, 0, 0)))), some (.inl v1), some (.inl v2), some (.inl (v1 / 64)), none]) rfl rfl rfl ?_
  refine en_s_iload_n rfl rfl ?_
  refine en_s_bipush rfl ?_
  refine en_s_idiv rfl (by decide) ?_
  refine en_s_istore (ls' := [some (.inr (.inl (some (24, 0, 0)))), some (.inl v1), some (.inl v2), some (.inl (v1 / 64)), some (.inl (v2 / 64))]) rfl rfl rfl ?_
  refine en_s_aload_n rfl rfl ?_
  refine en_s_aload_n rfl rfl ?_
  refine en_s_getR (w := some (30, 0, 0)) rfl rfl rfl rfl ?_
  refine en_s_iload_n rfl rfl ?_
  refine en_s_iload_n rfl rfl ?_
  refine en_s_bipush rfl ?_
  refine en_s_irem rfl (by decide) ?_
  refine en_callS (as := [.inl (v1 / 64), .inl (v1 - v1 / 64 * 64)]) (rest := [.inr (.inl (some (30, 0, 0))), .inr (.inl (some (24, 0, 0)))]) (bc' := 0) (bs' := 0) hz rfl (s_mm_placeIn G hz (d + 0) rfl) lk_10_95 mv_mm_placeIn rfl rfl rfl (fun _ h => h) (Nat.le_refl _) (Nat.le_refl _) ?_
  obtain ⟨t1, h2, h⟩ := en_b1_h h
  refine en_s_iald rfl rfl h2 ?_
  refine en_s_iload_n rfl rfl ?_
  refine en_s_iload_n rfl rfl ?_
  refine en_s_bipush rfl ?_
  refine en_s_irem rfl (by decide) ?_
  refine en_s_aload_n rfl rfl ?_
  refine en_s_getR (w := some (30, 0, 0)) rfl rfl rfl rfl ?_
  refine en_s_iload rfl rfl ?_
  refine en_s_iload_n rfl rfl ?_
  refine en_s_bipush rfl ?_
  refine en_s_irem rfl (by decide) ?_
  refine en_callS (as := [.inl (v2 / 64), .inl (v2 - v2 / 64 * 64)]) (rest := [.inr (.inl (some (30, 0, 0))), .inl (v1 - v1 / 64 * 64), .inl (v1 / 64), .inl t1, .inr (.inl (some (24, 0, 0)))]) (bc' := 0) (bs' := 0) hz rfl (s_mm_placeIn G hz (d + 0) rfl) lk_10_95 mv_mm_placeIn rfl rfl rfl (fun _ h => h) (Nat.le_refl _) (Nat.le_refl _) ?_
  obtain ⟨t3, h4, h⟩ := en_b1_h h
  refine en_s_iald rfl rfl h4 ?_
  refine en_s_iload rfl rfl ?_
  refine en_s_iload_n rfl rfl ?_
  refine en_s_bipush rfl ?_
  refine en_s_irem rfl (by decide) ?_
  refine en_callV (as := [.inl t1, .inl (v1 / 64), .inl (v1 - v1 / 64 * 64), .inl t3, .inl (v2 / 64), .inl (v2 - v2 / 64 * 64)]) (rest := []) (bc' := 0) (bs' := 0) hz rfl (s_mm_isAhead G hz (d + 0) rfl) lk_10_124 mv_mm_isAhead rfl rfl rfl rfl rfl (fun _ h => h) (Nat.le_refl _) (Nat.le_refl _) ?_
  cases h
  exact en_s_zret rfl rfl z_mm_isAhead
def k_mm_sorts_83 (f0 : Nat) (v1 : Int32) (v2 : Int32) (v3 : Int32) (σ : en_M) : Option (Int32 × en_M) := match f0 with
  | 0 => none
  | f9 + 1 =>
    if v3 ≤ 0 then
      some (v3, σ)
    else
      en_b1 (en_rd 160 (σ 32 0 0) (v3 - 1)) fun t21 =>
      en_b1 (k_mm_isSortedAhead ((64 * v1) + v2) t21 σ) fun t23 =>
      if t23 = 0 then
        some (v3, σ)
      else
        en_b1 (en_rd 160 (σ 32 0 0) (v3 - 1)) fun t26 =>
        en_b1 (en_wa 160 σ 32 0 0 v3 t26) fun s28 =>
        k_mm_sorts_83 f9 v1 v2 (v3 + (-1)) s28
def k_mm_sorts_57 (f0 : Nat) (v1 : Int32) (v2 : Int32) (σ : en_M) : Option (en_M) := match f0 with
  | 0 => none
  | f9 + 1 =>
    en_b1 (k_mm_piecesOf v1 σ) fun t14 =>
    if t14 ≤ v2 then
      some (σ)
    else
      en_b1 (k_mm_hasLeft v1 v2 σ) fun t17 =>
      if t17 = 0 then
        en_b2 (k_mm_sorts_83 en_fu v1 v2 (σ 24 0 0 16) σ) fun x30 s31 =>
        en_b1 (en_wa 160 s31 32 0 0 x30 ((64 * v1) + v2)) fun s33 =>
        en_let (en_wr s33 24 0 0 16 ((s33 24 0 0 16) + 1)) fun s35 =>
        k_mm_sorts_57 f9 v1 (v2 + 1) s35
      else
        k_mm_sorts_57 f9 v1 (v2 + 1) σ
def k_mm_sorts_17 (f0 : Nat) (v1 : Int32) (σ : en_M) : Option (en_M) := match f0 with
  | 0 => none
  | f9 + 1 =>
    if (σ 25 0 0 5) ≤ v1 then
      some (σ)
    else
      en_b1 (k_mm_of v1 4 σ) fun t6 =>
      if t6 = 1 then
        en_b1 (k_mm_of v1 0 σ) fun t9 =>
        en_b1 (k_mm_flowAt t9 2 σ) fun t11 =>
        if t11 = 1 then
          k_mm_sorts_17 f9 (v1 + 1) σ
        else
          en_b1 (k_mm_sorts_57 en_fu v1 0 σ) fun s39 =>
          k_mm_sorts_17 f9 (v1 + 1) s39
      else
        k_mm_sorts_17 f9 (v1 + 1) σ
def k_mm_sorts  (σ : en_M) : Option (en_M) :=
  en_b1 (k_mm_times σ) fun s1 =>
  en_let (en_wr s1 24 0 0 16 0) fun s3 =>
  en_b1 (k_mm_sorts_17 en_fu (s3 25 0 0 6) s3) fun s44 =>
  some s44
set_option maxRecDepth 100000 in
set_option maxHeartbeats 4000000 in
theorem s_mm_sorts_83 (G : en_G) (hz : G.2.2.2.2.2.2.2.2 = none) {d : Nat} {r : en_P} {cs cs' : List en_A} {ρ' : en_R} {σ' : en_M} : ∀ (f0 : Nat) {v1 : Int32} {v2 : Int32} {v3 : Int32}  {σ : en_M} {x3 : Int32} {s0 : en_M} , k_mm_sorts_83 f0 v1 v2 v3 σ = some (x3, s0) →
    (∀ (_ : Unit), en_W G (d + 5) 0 0 M_mm_sorts r cs' ρ' σ' 0 0 128 [some (.inr (.inl (some (24, 0, 0)))), some (.inl v1), some (.inl v2), some (.inl x3)] [] cs en_rf s0) → en_W G (d + 5) 0 0 M_mm_sorts r cs' ρ' σ' 0 0 83 [some (.inr (.inl (some (24, 0, 0)))), some (.inl v1), some (.inl v2), some (.inl v3)] [] cs en_rf σ := by
  intro f0
  induction f0 with
  | zero =>
    intros
    rename_i h _
    cases h
  | succ f9 ih =>
    intro v1 v2 v3 σ x3 s0 h hk
    rw [k_mm_sorts_83] at h
    refine en_s_iload_n rfl rfl ?_
    refine en_s_if_le rfl (fun c20 => ?_) (fun c20 => ?_)
    · rw [if_pos c20] at h
      cases h
      exact hk ()
    · rw [if_neg c20] at h
      refine en_s_aload_n rfl rfl ?_
      refine en_s_bipush rfl ?_
      refine en_s_iload_n rfl rfl ?_
      refine en_s_imul rfl ?_
      refine en_s_iload_n rfl rfl ?_
      refine en_s_iadd rfl ?_
      refine en_s_aload_n rfl rfl ?_
      refine en_s_getR (w := some (32, 0, 0)) rfl rfl rfl rfl ?_
      refine en_s_iload_n rfl rfl ?_
      refine en_s_iconst rfl ?_
      refine en_s_isub rfl ?_
      obtain ⟨t21, h22, h⟩ := en_b1_h h
      refine en_s_iald rfl rfl h22 ?_
      obtain ⟨t23, h24, h⟩ := en_b1_h h
      refine en_callV (as := [.inl ((64 * v1) + v2), .inl t21]) (rest := []) (bc' := 0) (bs' := 0) hz rfl (s_mm_isSortedAhead G hz (d + 3) h24) lk_10_316 mv_mm_isSortedAhead rfl rfl rfl rfl rfl (fun _ h => h) (Nat.le_refl _) (Nat.le_refl _) ?_
      refine en_s_if_eq rfl (fun c25 => ?_) (fun c25 => ?_)
      · rw [if_pos c25] at h
        cases h
        exact hk ()
      · rw [if_neg c25] at h
        refine en_s_aload_n rfl rfl ?_
        refine en_s_getR (w := some (32, 0, 0)) rfl rfl rfl rfl ?_
        refine en_s_iload_n rfl rfl ?_
        refine en_s_aload_n rfl rfl ?_
        refine en_s_getR (w := some (32, 0, 0)) rfl rfl rfl rfl ?_
        refine en_s_iload_n rfl rfl ?_
        refine en_s_iconst rfl ?_
        refine en_s_isub rfl ?_
        obtain ⟨t26, h27, h⟩ := en_b1_h h
        refine en_s_iald rfl rfl h27 ?_
        obtain ⟨s28, e29, h⟩ := en_b1_h h
        refine en_s_iast rfl rfl e29 ?_
        refine en_s_iinc (ls' := [some (.inr (.inl (some (24, 0, 0)))), some (.inl v1), some (.inl v2), some (.inl (v3 + (-1)))]) rfl rfl rfl ?_
        refine en_s_goto rfl ?_
        exact ih  h hk
set_option maxRecDepth 100000 in
set_option maxHeartbeats 4000000 in
theorem s_mm_sorts_57 (G : en_G) (hz : G.2.2.2.2.2.2.2.2 = none) {d : Nat} {r : en_P} {cs cs' : List en_A} {ρ' : en_R} {σ' : en_M} : ∀ (f0 : Nat) {v1 : Int32} {v2 : Int32} {e3 : Option en_V} {σ : en_M} {s0 : en_M} , k_mm_sorts_57 f0 v1 v2 σ = some (s0) →
    (∀ (f2 : Option en_V) (f3 : Option en_V), en_W G (d + 5) 0 0 M_mm_sorts r cs' ρ' σ' 0 0 156 [some (.inr (.inl (some (24, 0, 0)))), some (.inl v1), f2, f3] [] cs en_rf s0) → en_W G (d + 5) 0 0 M_mm_sorts r cs' ρ' σ' 0 0 57 [some (.inr (.inl (some (24, 0, 0)))), some (.inl v1), some (.inl v2), e3] [] cs en_rf σ := by
  intro f0
  induction f0 with
  | zero =>
    intros
    rename_i h _
    cases h
  | succ f9 ih =>
    intro v1 v2 e3 σ s0 h hk
    rw [k_mm_sorts_57] at h
    refine en_s_iload_n rfl rfl ?_
    refine en_s_aload_n rfl rfl ?_
    refine en_s_iload_n rfl rfl ?_
    obtain ⟨t14, h15, h⟩ := en_b1_h h
    refine en_callV (as := [.inl v1]) (rest := [.inl v2]) (bc' := 0) (bs' := 0) hz rfl (s_mm_piecesOf G hz (d + 1) h15) lk_10_82 mv_mm_piecesOf rfl rfl rfl rfl rfl (fun _ h => h) (Nat.le_refl _) (Nat.le_refl _) ?_
    refine en_s_icmp_ge rfl (fun c16 => ?_) (fun c16 => ?_)
    · rw [if_pos c16] at h
      cases h
      exact hk (some (.inl v2)) (e3)
    · rw [if_neg c16] at h
      refine en_s_aload_n rfl rfl ?_
      refine en_s_iload_n rfl rfl ?_
      refine en_s_iload_n rfl rfl ?_
      obtain ⟨t17, h18, h⟩ := en_b1_h h
      refine en_callV (as := [.inl v1, .inl v2]) (rest := []) (bc' := 0) (bs' := 0) hz rfl (s_mm_hasLeft G hz (d + 2) h18) lk_10_85 mv_mm_hasLeft rfl rfl rfl rfl rfl (fun _ h => h) (Nat.le_refl _) (Nat.le_refl _) ?_
      refine en_s_if_eq rfl (fun c19 => ?_) (fun c19 => ?_)
      · rw [if_pos c19] at h
        refine en_s_aload_n rfl rfl ?_
        refine en_s_getI rfl rfl rfl ?_
        refine en_s_istore_n (ls' := [some (.inr (.inl (some (24, 0, 0)))), some (.inl v1), some (.inl v2), some (.inl (σ 24 0 0 16))]) rfl rfl rfl ?_
        obtain ⟨x30, s31, h32, h⟩ := en_b2_h h
        refine s_mm_sorts_83 G hz en_fu  h32 (fun _ => ?_)
        refine en_s_aload_n rfl rfl ?_
        refine en_s_getR (w := some (32, 0, 0)) rfl rfl rfl rfl ?_
        refine en_s_iload_n rfl rfl ?_
        refine en_s_bipush rfl ?_
        refine en_s_iload_n rfl rfl ?_
        refine en_s_imul rfl ?_
        refine en_s_iload_n rfl rfl ?_
        refine en_s_iadd rfl ?_
        obtain ⟨s33, e34, h⟩ := en_b1_h h
        refine en_s_iast rfl rfl e34 ?_
        refine en_s_aload_n rfl rfl ?_
        refine en_s_dup rfl rfl ?_
        refine en_s_getI rfl rfl rfl ?_
        refine en_s_iconst rfl ?_
        refine en_s_iadd rfl ?_
        obtain ⟨s35, e36, h⟩ := en_let_h h
        refine en_p_putI e36 rfl rfl rfl rfl rfl ?_
        refine en_s_iinc (ls' := [some (.inr (.inl (some (24, 0, 0)))), some (.inl v1), some (.inl (v2 + 1)), some (.inl x30)]) rfl rfl rfl ?_
        refine en_s_goto rfl ?_
        exact ih (e3 := some (.inl x30)) h hk
      · rw [if_neg c19] at h
        refine en_s_goto rfl ?_
        refine en_s_iinc (ls' := [some (.inr (.inl (some (24, 0, 0)))), some (.inl v1), some (.inl (v2 + 1)), e3]) rfl rfl rfl ?_
        refine en_s_goto rfl ?_
        exact ih (e3 := e3) h hk
set_option maxRecDepth 100000 in
set_option maxHeartbeats 4000000 in
theorem s_mm_sorts_17 (G : en_G) (hz : G.2.2.2.2.2.2.2.2 = none) {d : Nat} {r : en_P} {cs cs' : List en_A} {ρ' : en_R} {σ' : en_M} : ∀ (f0 : Nat) {v1 : Int32} {e2 e3 : Option en_V} {σ : en_M} {s0 : en_M} , k_mm_sorts_17 f0 v1 σ = some (s0) →
    (∀ (f1 : Option en_V) (f2 : Option en_V) (f3 : Option en_V), en_W G (d + 5) 0 0 M_mm_sorts r cs' ρ' σ' 0 0 162 [some (.inr (.inl (some (24, 0, 0)))), f1, f2, f3] [] cs en_rf s0) → en_W G (d + 5) 0 0 M_mm_sorts r cs' ρ' σ' 0 0 17 [some (.inr (.inl (some (24, 0, 0)))), some (.inl v1), e2, e3] [] cs en_rf σ := by
  intro f0
  induction f0 with
  | zero =>
    intros
    rename_i h _
    cases h
  | succ f9 ih =>
    intro v1 e2 e3 σ s0 h hk
    rw [k_mm_sorts_17] at h
    refine en_s_iload_n rfl rfl ?_
    refine en_s_aload_n rfl rfl ?_
    refine en_s_getR (w := some (25, 0, 0)) rfl rfl rfl rfl ?_
    refine en_s_iconst rfl ?_
    refine en_c_iald (q := 5) rfl rfl (by decide) (by decide) ?_
    refine en_s_icmp_ge rfl (fun c5 => ?_) (fun c5 => ?_)
    · rw [if_pos c5] at h
      cases h
      exact hk (some (.inl v1)) (e2) (e3)
    · rw [if_neg c5] at h
      refine en_s_aload_n rfl rfl ?_
      refine en_s_iload_n rfl rfl ?_
      refine en_s_iconst rfl ?_
      obtain ⟨t6, h7, h⟩ := en_b1_h h
      refine en_callV (as := [.inl v1, .inl 4]) (rest := []) (bc' := 0) (bs' := 0) hz rfl (s_mm_of G hz (d + 3) h7) lk_10_66 mv_mm_of rfl rfl rfl rfl rfl (fun _ h => h) (Nat.le_refl _) (Nat.le_refl _) ?_
      refine en_s_iconst rfl ?_
      refine en_s_icmp_ne rfl (fun c8 => ?_) (fun c8 => ?_)
      · rw [if_neg c8] at h
        refine en_s_iinc (ls' := [some (.inr (.inl (some (24, 0, 0)))), some (.inl (v1 + 1)), e2, e3]) rfl rfl rfl ?_
        refine en_s_goto rfl ?_
        exact ih (e2 := e2) (e3 := e3) h hk
      · rw [if_pos c8] at h
        refine en_s_aload_n rfl rfl ?_
        refine en_s_aload_n rfl rfl ?_
        refine en_s_iload_n rfl rfl ?_
        refine en_s_iconst rfl ?_
        obtain ⟨t9, h10, h⟩ := en_b1_h h
        refine en_callV (as := [.inl v1, .inl 0]) (rest := [.inr (.inl (some (24, 0, 0)))]) (bc' := 0) (bs' := 0) hz rfl (s_mm_of G hz (d + 3) h10) lk_10_66 mv_mm_of rfl rfl rfl rfl rfl (fun _ h => h) (Nat.le_refl _) (Nat.le_refl _) ?_
        refine en_s_iconst rfl ?_
        obtain ⟨t11, h12, h⟩ := en_b1_h h
        refine en_callV (as := [.inl t9, .inl 2]) (rest := []) (bc' := 0) (bs' := 0) hz rfl (s_mm_flowAt G hz (d + 4) h12) lk_10_89 mv_mm_flowAt rfl rfl rfl rfl rfl (fun _ h => h) (Nat.le_refl _) (Nat.le_refl _) ?_
        refine en_s_iconst rfl ?_
        refine en_s_icmp_ne rfl (fun c13 => ?_) (fun c13 => ?_)
        · rw [if_neg c13] at h
          refine en_s_iconst rfl ?_
          refine en_s_istore_n (ls' := [some (.inr (.inl (some (24, 0, 0)))), some (.inl v1), some (.inl 0), e3]) rfl rfl rfl ?_
          obtain ⟨s39, h40, h⟩ := en_b1_h h
          refine s_mm_sorts_57 G hz en_fu (e3 := e3) h40 (fun f37 f38 => ?_)
          refine en_s_iinc (ls' := [some (.inr (.inl (some (24, 0, 0)))), some (.inl (v1 + 1)), f37, f38]) rfl rfl rfl ?_
          refine en_s_goto rfl ?_
          exact ih (e2 := f37) (e3 := f38) h hk
        · rw [if_pos c13] at h
          refine en_s_goto rfl ?_
          refine en_s_iinc (ls' := [some (.inr (.inl (some (24, 0, 0)))), some (.inl (v1 + 1)), e2, e3]) rfl rfl rfl ?_
          refine en_s_goto rfl ?_
          exact ih (e2 := e2) (e3 := e3) h hk
set_option maxRecDepth 100000 in
set_option maxHeartbeats 4000000 in
theorem s_mm_sorts (G : en_G) (hz : G.2.2.2.2.2.2.2.2 = none) (d : Nat) {cs : List en_A} {σ : en_M}  {s0 : en_M}  (h : k_mm_sorts  σ = some s0) : en_Mt G (d + 5) 0 0 M_mm_sorts [.inr (.inl (some (24, 0, 0)))] cs en_rf σ (.inr (none)) cs en_rf s0 := by
  refine en_meth (ls := [some (.inr (.inl (some (24, 0, 0)))), none, none, none]) md_mm_sorts rfl rfl rfl ?_
  unfold k_mm_sorts at h
  refine en_s_aload_n rfl rfl ?_
  obtain ⟨s1, h2, h⟩ := en_b1_h h
  refine en_callV (as := []) (rest := []) (bc' := 0) (bs' := 0) hz rfl (s_mm_times G hz (d + 0) h2) lk_10_144 mv_mm_times rfl rfl rfl rfl rfl (fun _ h => h) (Nat.le_refl _) (Nat.le_refl _) ?_
  refine en_s_aload_n rfl rfl ?_
  refine en_s_iconst rfl ?_
  obtain ⟨s3, e4, h⟩ := en_let_h h
  refine en_p_putI e4 rfl rfl rfl rfl rfl ?_
  refine en_s_aload_n rfl rfl ?_
  refine en_s_getR (w := some (25, 0, 0)) rfl rfl rfl rfl ?_
  refine en_s_bipush rfl ?_
  refine en_c_iald (q := 6) rfl rfl (by decide) (by decide) ?_
  refine en_s_istore_n (ls' := [some (.inr (.inl (some (24, 0, 0)))), some (.inl (s3 25 0 0 6)), none, none]) rfl rfl rfl ?_
  obtain ⟨s44, h45, h⟩ := en_b1_h h
  refine s_mm_sorts_17 G hz en_fu (e2 := none) (e3 := none) h45 (fun f41 f42 f43 => ?_)
  cases h
  exact en_s_vret rfl rfl
def k_mm_plays_24 (f0 : Nat) (v1 : Int32) (v2 : Int32) (σ : en_M) : Option (en_M) := match f0 with
  | 0 => none
  | f9 + 1 =>
    en_b1 (k_mm_piecesOf v1 σ) fun t4 =>
    if t4 ≤ v2 then
      some (σ)
    else
      en_b1 (en_rd 938 (σ 25 0 0) (k_mm_pieceAt v1 v2 2)) fun t7 =>
      en_b1 (en_wa 160 σ 33 0 0 (k_mm_placeIn v1 v2) t7) fun s9 =>
      k_mm_plays_24 f9 v1 (v2 + 1) s9
def k_mm_plays_12 (f0 : Nat) (v1 : Int32) (σ : en_M) : Option (en_M) := match f0 with
  | 0 => none
  | f9 + 1 =>
    if (σ 25 0 0 5) ≤ v1 then
      some (σ)
    else
      en_b1 (k_mm_plays_24 en_fu v1 0 σ) fun s12 =>
      k_mm_plays_12 f9 (v1 + 1) s12
def k_mm_plays_123 (f0 : Nat) (v1 : Int32) (v2 : Int32) (σ : en_M) : Option (en_M) := match f0 with
  | 0 => none
  | f9 + 1 =>
    if (σ 24 0 0 16) ≤ v2 then
      some (σ)
    else
      en_b1 (en_rd 160 (σ 32 0 0) v2) fun t20 =>
      en_b1 (en_rd 160 (σ 32 0 0) v2) fun t22 =>
      en_b1 (en_rd 160 (σ 30 0 0) (k_mm_placeIn (t20 / 64) (t22 - t22 / 64 * 64))) fun t24 =>
      en_b1 (en_wa 160 σ 34 0 0 v2 (k_mm_greater v1 t24)) fun s26 =>
      en_b1 (en_rd 160 (s26 34 0 0) v2) fun t28 =>
      en_b1 (k_mm_sizeOf (t20 / 64) (t22 - t22 / 64 * 64) s26) fun t30 =>
      en_b1 (k_mm_ticksOf t30 s26) fun t32 =>
      if 9999 < (t28 + t32) then
        en_b1 (en_wa 160 s26 33 0 0 (k_mm_placeIn (t20 / 64) (t22 - t22 / 64 * 64)) (-1)) fun s35 =>
        k_mm_plays_123 f9 (t28 + t32) (v2 + 1) s35
      else
        en_b1 (en_wa 160 s26 33 0 0 (k_mm_placeIn (t20 / 64) (t22 - t22 / 64 * 64)) (t28 + t32)) fun s37 =>
        k_mm_plays_123 f9 (t28 + t32) (v2 + 1) s37
def k_mm_plays  (σ : en_M) : Option (en_M) :=
  en_b1 (k_mm_sorts σ) fun s1 =>
  en_b1 (k_mm_plays_12 en_fu (s1 25 0 0 6) s1) fun s16 =>
  if (s16 25 0 0 17) ≤ 0 then
    en_b1 (k_mm_plays_123 en_fu ((s16 25 0 0 4) + (s16 25 0 0 17)) 0 s16) fun s43 =>
    some s43
  else
    if 9999 < ((s16 25 0 0 4) + (s16 25 0 0 17)) then
      en_b1 (k_mm_plays_123 en_fu ((s16 25 0 0 4) + (s16 25 0 0 17)) 0 s16) fun s50 =>
      some s50
    else
      en_b1 (en_wa 160 s16 33 0 0 (k_mm_placeIn (s16 25 0 0 15) (s16 25 0 0 16)) ((s16 25 0 0 4) + (s16 25 0 0 17))) fun s52 =>
      en_b1 (k_mm_plays_123 en_fu ((s16 25 0 0 4) + (s16 25 0 0 17)) 0 s52) fun s58 =>
      some s58
set_option maxRecDepth 100000 in
set_option maxHeartbeats 4000000 in
theorem s_mm_plays_24 (G : en_G) (hz : G.2.2.2.2.2.2.2.2 = none) {d : Nat} {r : en_P} {cs cs' : List en_A} {ρ' : en_R} {σ' : en_M} : ∀ (f0 : Nat) {v1 : Int32} {v2 : Int32} {e3 e4 : Option en_V} {σ : en_M} {s0 : en_M} , k_mm_plays_24 f0 v1 v2 σ = some (s0) →
    (∀ (f2 : Option en_V), en_W G (d + 6) 0 0 M_mm_plays r cs' ρ' σ' 0 0 60 [some (.inr (.inl (some (24, 0, 0)))), some (.inl v1), f2, e3, e4] [] cs en_rf s0) → en_W G (d + 6) 0 0 M_mm_plays r cs' ρ' σ' 0 0 24 [some (.inr (.inl (some (24, 0, 0)))), some (.inl v1), some (.inl v2), e3, e4] [] cs en_rf σ := by
  intro f0
  induction f0 with
  | zero =>
    intros
    rename_i h _
    cases h
  | succ f9 ih =>
    intro v1 v2 e3 e4 σ s0 h hk
    rw [k_mm_plays_24] at h
    refine en_s_iload_n rfl rfl ?_
    refine en_s_aload_n rfl rfl ?_
    refine en_s_iload_n rfl rfl ?_
    obtain ⟨t4, h5, h⟩ := en_b1_h h
    refine en_callV (as := [.inl v1]) (rest := [.inl v2]) (bc' := 0) (bs' := 0) hz rfl (s_mm_piecesOf G hz (d + 2) h5) lk_10_82 mv_mm_piecesOf rfl rfl rfl rfl rfl (fun _ h => h) (Nat.le_refl _) (Nat.le_refl _) ?_
    refine en_s_icmp_ge rfl (fun c6 => ?_) (fun c6 => ?_)
    · rw [if_pos c6] at h
      cases h
      exact hk (some (.inl v2))
    · rw [if_neg c6] at h
      refine en_s_aload_n rfl rfl ?_
      refine en_s_getR (w := some (33, 0, 0)) rfl rfl rfl rfl ?_
      refine en_s_iload_n rfl rfl ?_
      refine en_s_iload_n rfl rfl ?_
      refine en_callS (as := [.inl v1, .inl v2]) (rest := [.inr (.inl (some (33, 0, 0)))]) (bc' := 0) (bs' := 0) hz rfl (s_mm_placeIn G hz (d + 5) rfl) lk_10_95 mv_mm_placeIn rfl rfl rfl (fun _ h => h) (Nat.le_refl _) (Nat.le_refl _) ?_
      refine en_s_aload_n rfl rfl ?_
      refine en_s_getR (w := some (25, 0, 0)) rfl rfl rfl rfl ?_
      refine en_s_iload_n rfl rfl ?_
      refine en_s_iload_n rfl rfl ?_
      refine en_s_iconst rfl ?_
      refine en_callS (as := [.inl v1, .inl v2, .inl 2]) (rest := [.inr (.inl (some (25, 0, 0))), .inl (k_mm_placeIn v1 v2), .inr (.inl (some (33, 0, 0)))]) (bc' := 0) (bs' := 0) hz rfl (s_mm_pieceAt G hz (d + 4) rfl) lk_10_78 mv_mm_pieceAt rfl rfl rfl (fun _ h => h) (Nat.le_refl _) (Nat.le_refl _) ?_
      obtain ⟨t7, h8, h⟩ := en_b1_h h
      refine en_s_iald rfl rfl h8 ?_
      obtain ⟨s9, e10, h⟩ := en_b1_h h
      refine en_s_iast rfl rfl e10 ?_
      refine en_s_iinc (ls' := [some (.inr (.inl (some (24, 0, 0)))), some (.inl v1), some (.inl (v2 + 1)), e3, e4]) rfl rfl rfl ?_
      refine en_s_goto rfl ?_
      exact ih (e3 := e3) (e4 := e4) h hk
set_option maxRecDepth 100000 in
set_option maxHeartbeats 4000000 in
theorem s_mm_plays_12 (G : en_G) (hz : G.2.2.2.2.2.2.2.2 = none) {d : Nat} {r : en_P} {cs cs' : List en_A} {ρ' : en_R} {σ' : en_M} : ∀ (f0 : Nat) {v1 : Int32} {e2 e3 e4 : Option en_V} {σ : en_M} {s0 : en_M} , k_mm_plays_12 f0 v1 σ = some (s0) →
    (∀ (f1 : Option en_V) (f2 : Option en_V), en_W G (d + 6) 0 0 M_mm_plays r cs' ρ' σ' 0 0 66 [some (.inr (.inl (some (24, 0, 0)))), f1, f2, e3, e4] [] cs en_rf s0) → en_W G (d + 6) 0 0 M_mm_plays r cs' ρ' σ' 0 0 12 [some (.inr (.inl (some (24, 0, 0)))), some (.inl v1), e2, e3, e4] [] cs en_rf σ := by
  intro f0
  induction f0 with
  | zero =>
    intros
    rename_i h _
    cases h
  | succ f9 ih =>
    intro v1 e2 e3 e4 σ s0 h hk
    rw [k_mm_plays_12] at h
    refine en_s_iload_n rfl rfl ?_
    refine en_s_aload_n rfl rfl ?_
    refine en_s_getR (w := some (25, 0, 0)) rfl rfl rfl rfl ?_
    refine en_s_iconst rfl ?_
    refine en_c_iald (q := 5) rfl rfl (by decide) (by decide) ?_
    refine en_s_icmp_ge rfl (fun c3 => ?_) (fun c3 => ?_)
    · rw [if_pos c3] at h
      cases h
      exact hk (some (.inl v1)) (e2)
    · rw [if_neg c3] at h
      refine en_s_iconst rfl ?_
      refine en_s_istore_n (ls' := [some (.inr (.inl (some (24, 0, 0)))), some (.inl v1), some (.inl 0), e3, e4]) rfl rfl rfl ?_
      obtain ⟨s12, h13, h⟩ := en_b1_h h
      refine s_mm_plays_24 G hz en_fu (e3 := e3) (e4 := e4) h13 (fun f11 => ?_)
      refine en_s_iinc (ls' := [some (.inr (.inl (some (24, 0, 0)))), some (.inl (v1 + 1)), f11, e3, e4]) rfl rfl rfl ?_
      refine en_s_goto rfl ?_
      exact ih (e2 := f11) (e3 := e3) (e4 := e4) h hk
set_option maxRecDepth 100000 in
set_option maxHeartbeats 4000000 in
theorem s_mm_plays_123 (G : en_G) (hz : G.2.2.2.2.2.2.2.2 = none) {d : Nat} {r : en_P} {cs cs' : List en_A} {ρ' : en_R} {σ' : en_M} : ∀ (f0 : Nat) {v1 : Int32} {v2 : Int32} {e3 e4 : Option en_V} {σ : en_M} {s0 : en_M} , k_mm_plays_123 f0 v1 v2 σ = some (s0) →
    (∀ (f1 : Option en_V) (f2 : Option en_V) (f3 : Option en_V) (f4 : Option en_V), en_W G (d + 6) 0 0 M_mm_plays r cs' ρ' σ' 0 0 221 [some (.inr (.inl (some (24, 0, 0)))), f1, f2, f3, f4] [] cs en_rf s0) → en_W G (d + 6) 0 0 M_mm_plays r cs' ρ' σ' 0 0 123 [some (.inr (.inl (some (24, 0, 0)))), some (.inl v1), some (.inl v2), e3, e4] [] cs en_rf σ := by
  intro f0
  induction f0 with
  | zero =>
    intros
    rename_i h _
    cases h
  | succ f9 ih =>
    intro v1 v2 e3 e4 σ s0 h hk
    rw [k_mm_plays_123] at h
    refine en_s_iload_n rfl rfl ?_
    refine en_s_aload_n rfl rfl ?_
    refine en_s_getI rfl rfl rfl ?_
    refine en_s_icmp_ge rfl (fun c19 => ?_) (fun c19 => ?_)
    · rw [if_pos c19] at h
      cases h
      exact hk (some (.inl v1)) (some (.inl v2)) (e3) (e4)
    · rw [if_neg c19] at h
      refine en_s_aload_n rfl rfl ?_
      refine en_s_getR (w := some (32, 0, 0)) rfl rfl rfl rfl ?_
      refine en_s_iload_n rfl rfl ?_
      obtain ⟨t20, h21, h⟩ := en_b1_h h
      refine en_s_iald rfl rfl h21 ?_
      refine en_s_bipush rfl ?_
      refine en_s_idiv rfl (by decide) ?_
      refine en_s_istore_n (ls' := [some (.inr (.inl (some (24, 0, 0)))), some (.inl v1), some (.inl v2), some (.inl (t20 / 64)), e4]) rfl rfl rfl ?_
      refine en_s_aload_n rfl rfl ?_
      refine en_s_getR (w := some (32, 0, 0)) rfl rfl rfl rfl ?_
      refine en_s_iload_n rfl rfl ?_
      obtain ⟨t22, h23, h⟩ := en_b1_h h
      refine en_s_iald rfl rfl h23 ?_
      refine en_s_bipush rfl ?_
      refine en_s_irem rfl (by decide) ?_
      refine en_s_istore (ls' := [some (.inr (.inl (some (24, 0, 0)))), some (.inl v1), some (.inl v2), some (.inl (t20 / 64)), some (.inl (t22 - t22 / 64 * 64))]) rfl rfl rfl ?_
      refine en_s_aload_n rfl rfl ?_
      refine en_s_getR (w := some (34, 0, 0)) rfl rfl rfl rfl ?_
      refine en_s_iload_n rfl rfl ?_
      refine en_s_iload_n rfl rfl ?_
      refine en_s_aload_n rfl rfl ?_
      refine en_s_getR (w := some (30, 0, 0)) rfl rfl rfl rfl ?_
      refine en_s_iload_n rfl rfl ?_
      refine en_s_iload rfl rfl ?_
      refine en_callS (as := [.inl (t20 / 64), .inl (t22 - t22 / 64 * 64)]) (rest := [.inr (.inl (some (30, 0, 0))), .inl v1, .inl v2, .inr (.inl (some (34, 0, 0)))]) (bc' := 0) (bs' := 0) hz rfl (s_mm_placeIn G hz (d + 5) rfl) lk_10_95 mv_mm_placeIn rfl rfl rfl (fun _ h => h) (Nat.le_refl _) (Nat.le_refl _) ?_
      obtain ⟨t24, h25, h⟩ := en_b1_h h
      refine en_s_iald rfl rfl h25 ?_
      refine en_callS (as := [.inl v1, .inl t24]) (rest := [.inl v2, .inr (.inl (some (34, 0, 0)))]) (bc' := 0) (bs' := 0) hz rfl (s_mm_greater G hz (d + 5) rfl) lk_10_62 mv_mm_greater rfl rfl rfl (fun _ h => h) (Nat.le_refl _) (Nat.le_refl _) ?_
      obtain ⟨s26, e27, h⟩ := en_b1_h h
      refine en_s_iast rfl rfl e27 ?_
      refine en_s_aload_n rfl rfl ?_
      refine en_s_getR (w := some (34, 0, 0)) rfl rfl rfl rfl ?_
      refine en_s_iload_n rfl rfl ?_
      obtain ⟨t28, h29, h⟩ := en_b1_h h
      refine en_s_iald rfl rfl h29 ?_
      refine en_s_aload_n rfl rfl ?_
      refine en_s_aload_n rfl rfl ?_
      refine en_s_iload_n rfl rfl ?_
      refine en_s_iload rfl rfl ?_
      obtain ⟨t30, h31, h⟩ := en_b1_h h
      refine en_callV (as := [.inl (t20 / 64), .inl (t22 - t22 / 64 * 64)]) (rest := [.inr (.inl (some (24, 0, 0))), .inl t28]) (bc' := 0) (bs' := 0) hz rfl (s_mm_sizeOf G hz (d + 2) h31) lk_10_98 mv_mm_sizeOf rfl rfl rfl rfl rfl (fun _ h => h) (Nat.le_refl _) (Nat.le_refl _) ?_
      obtain ⟨t32, h33, h⟩ := en_b1_h h
      refine en_callV (as := [.inl t30]) (rest := [.inl t28]) (bc' := 0) (bs' := 0) hz rfl (s_mm_ticksOf G hz (d + 5) h33) lk_10_128 mv_mm_ticksOf rfl rfl rfl rfl rfl (fun _ h => h) (Nat.le_refl _) (Nat.le_refl _) ?_
      refine en_s_iadd rfl ?_
      refine en_s_istore_n (ls' := [some (.inr (.inl (some (24, 0, 0)))), some (.inl (t28 + t32)), some (.inl v2), some (.inl (t20 / 64)), some (.inl (t22 - t22 / 64 * 64))]) rfl rfl rfl ?_
      refine en_s_aload_n rfl rfl ?_
      refine en_s_getR (w := some (33, 0, 0)) rfl rfl rfl rfl ?_
      refine en_s_iload_n rfl rfl ?_
      refine en_s_iload rfl rfl ?_
      refine en_callS (as := [.inl (t20 / 64), .inl (t22 - t22 / 64 * 64)]) (rest := [.inr (.inl (some (33, 0, 0)))]) (bc' := 0) (bs' := 0) hz rfl (s_mm_placeIn G hz (d + 5) rfl) lk_10_95 mv_mm_placeIn rfl rfl rfl (fun _ h => h) (Nat.le_refl _) (Nat.le_refl _) ?_
      refine en_s_iload_n rfl rfl ?_
      refine en_s_sipush rfl ?_
      refine en_s_icmp_gt rfl (fun c34 => ?_) (fun c34 => ?_)
      · rw [if_pos c34] at h
        refine en_s_iconst rfl ?_
        obtain ⟨s35, e36, h⟩ := en_b1_h h
        refine en_s_iast rfl rfl e36 ?_
        refine en_s_iinc (ls' := [some (.inr (.inl (some (24, 0, 0)))), some (.inl (t28 + t32)), some (.inl (v2 + 1)), some (.inl (t20 / 64)), some (.inl (t22 - t22 / 64 * 64))]) rfl rfl rfl ?_
        refine en_s_goto rfl ?_
        exact ih (e3 := some (.inl (t20 / 64))) (e4 := some (.inl (t22 - t22 / 64 * 64))) h hk
      · rw [if_neg c34] at h
        refine en_s_iload_n rfl rfl ?_
        refine en_s_goto rfl ?_
        obtain ⟨s37, e38, h⟩ := en_b1_h h
        refine en_s_iast rfl rfl e38 ?_
        refine en_s_iinc (ls' := [some (.inr (.inl (some (24, 0, 0)))), some (.inl (t28 + t32)), some (.inl (v2 + 1)), some (.inl (t20 / 64)), some (.inl (t22 - t22 / 64 * 64))]) rfl rfl rfl ?_
        refine en_s_goto rfl ?_
        exact ih (e3 := some (.inl (t20 / 64))) (e4 := some (.inl (t22 - t22 / 64 * 64))) h hk
set_option maxRecDepth 100000 in
set_option maxHeartbeats 4000000 in
theorem s_mm_plays (G : en_G) (hz : G.2.2.2.2.2.2.2.2 = none) (d : Nat) {cs : List en_A} {σ : en_M}  {s0 : en_M}  (h : k_mm_plays  σ = some s0) : en_Mt G (d + 6) 0 0 M_mm_plays [.inr (.inl (some (24, 0, 0)))] cs en_rf σ (.inr (none)) cs en_rf s0 := by
  refine en_meth (ls := [some (.inr (.inl (some (24, 0, 0)))), none, none, none, none]) md_mm_plays rfl rfl rfl ?_
  unfold k_mm_plays at h
  refine en_s_aload_n rfl rfl ?_
  obtain ⟨s1, h2, h⟩ := en_b1_h h
  refine en_callV (as := []) (rest := []) (bc' := 0) (bs' := 0) hz rfl (s_mm_sorts G hz (d + 0) h2) lk_10_319 mv_mm_sorts rfl rfl rfl rfl rfl (fun _ h => h) (Nat.le_refl _) (Nat.le_refl _) ?_
  refine en_s_aload_n rfl rfl ?_
  refine en_s_getR (w := some (25, 0, 0)) rfl rfl rfl rfl ?_
  refine en_s_bipush rfl ?_
  refine en_c_iald (q := 6) rfl rfl (by decide) (by decide) ?_
  refine en_s_istore_n (ls' := [some (.inr (.inl (some (24, 0, 0)))), some (.inl (s1 25 0 0 6)), none, none, none]) rfl rfl rfl ?_
  obtain ⟨s16, h17, h⟩ := en_b1_h h
  refine s_mm_plays_12 G hz en_fu (e2 := none) (e3 := none) (e4 := none) h17 (fun f14 f15 => ?_)
  refine en_s_aload_n rfl rfl ?_
  refine en_s_getR (w := some (25, 0, 0)) rfl rfl rfl rfl ?_
  refine en_s_iconst rfl ?_
  refine en_c_iald (q := 4) rfl rfl (by decide) (by decide) ?_
  refine en_s_aload_n rfl rfl ?_
  refine en_s_getR (w := some (25, 0, 0)) rfl rfl rfl rfl ?_
  refine en_s_bipush rfl ?_
  refine en_c_iald (q := 17) rfl rfl (by decide) (by decide) ?_
  refine en_s_iadd rfl ?_
  refine en_s_istore_n (ls' := [some (.inr (.inl (some (24, 0, 0)))), some (.inl ((s16 25 0 0 4) + (s16 25 0 0 17))), f15, none, none]) rfl rfl rfl ?_
  refine en_s_aload_n rfl rfl ?_
  refine en_s_getR (w := some (25, 0, 0)) rfl rfl rfl rfl ?_
  refine en_s_bipush rfl ?_
  refine en_c_iald (q := 17) rfl rfl (by decide) (by decide) ?_
  refine en_s_if_le rfl (fun c18 => ?_) (fun c18 => ?_)
  · rw [if_pos c18] at h
    refine en_s_iconst rfl ?_
    refine en_s_istore_n (ls' := [some (.inr (.inl (some (24, 0, 0)))), some (.inl ((s16 25 0 0 4) + (s16 25 0 0 17))), some (.inl 0), none, none]) rfl rfl rfl ?_
    obtain ⟨s43, h44, h⟩ := en_b1_h h
    refine s_mm_plays_123 G hz en_fu (e3 := none) (e4 := none) h44 (fun f39 f40 f41 f42 => ?_)
    cases h
    exact en_s_vret rfl rfl
  · rw [if_neg c18] at h
    refine en_s_iload_n rfl rfl ?_
    refine en_s_sipush rfl ?_
    refine en_s_icmp_gt rfl (fun c45 => ?_) (fun c45 => ?_)
    · rw [if_pos c45] at h
      refine en_s_iconst rfl ?_
      refine en_s_istore_n (ls' := [some (.inr (.inl (some (24, 0, 0)))), some (.inl ((s16 25 0 0 4) + (s16 25 0 0 17))), some (.inl 0), none, none]) rfl rfl rfl ?_
      obtain ⟨s50, h51, h⟩ := en_b1_h h
      refine s_mm_plays_123 G hz en_fu (e3 := none) (e4 := none) h51 (fun f46 f47 f48 f49 => ?_)
      cases h
      exact en_s_vret rfl rfl
    · rw [if_neg c45] at h
      refine en_s_aload_n rfl rfl ?_
      refine en_s_getR (w := some (33, 0, 0)) rfl rfl rfl rfl ?_
      refine en_s_aload_n rfl rfl ?_
      refine en_s_getR (w := some (25, 0, 0)) rfl rfl rfl rfl ?_
      refine en_s_bipush rfl ?_
      refine en_c_iald (q := 15) rfl rfl (by decide) (by decide) ?_
      refine en_s_aload_n rfl rfl ?_
      refine en_s_getR (w := some (25, 0, 0)) rfl rfl rfl rfl ?_
      refine en_s_bipush rfl ?_
      refine en_c_iald (q := 16) rfl rfl (by decide) (by decide) ?_
      refine en_callS (as := [.inl (s16 25 0 0 15), .inl (s16 25 0 0 16)]) (rest := [.inr (.inl (some (33, 0, 0)))]) (bc' := 0) (bs' := 0) hz rfl (s_mm_placeIn G hz (d + 5) rfl) lk_10_95 mv_mm_placeIn rfl rfl rfl (fun _ h => h) (Nat.le_refl _) (Nat.le_refl _) ?_
      refine en_s_iload_n rfl rfl ?_
      obtain ⟨s52, e53, h⟩ := en_b1_h h
      refine en_s_iast rfl rfl e53 ?_
      refine en_s_iconst rfl ?_
      refine en_s_istore_n (ls' := [some (.inr (.inl (some (24, 0, 0)))), some (.inl ((s16 25 0 0 4) + (s16 25 0 0 17))), some (.inl 0), none, none]) rfl rfl rfl ?_
      obtain ⟨s58, h59, h⟩ := en_b1_h h
      refine s_mm_plays_123 G hz en_fu (e3 := none) (e4 := none) h59 (fun f54 f55 f56 f57 => ?_)
      cases h
      exact en_s_vret rfl rfl
def k_mm_ends (v1 : Int32) (σ : en_M) : Option (Int32 × en_M) :=
  if (k_mm_isKnown v1 σ) = 0 then
    en_let (en_wr σ 24 0 0 0 1) fun s2 =>
    if (s2 24 0 0 0) ≤ 0 then
      en_b1 (k_mm_of v1 4 s2) fun t5 =>
      if t5 = 2 then
        en_b1 (k_mm_of v1 6 s2) fun t15 =>
        some (t15, s2)
      else
        en_b1 (k_mm_of v1 4 s2) fun t8 =>
        if t8 = 1 then
          en_b1 (k_mm_plays s2) fun s11 =>
          en_b1 (k_mm_endOf v1 s11) fun t13 =>
          some (t13, s11)
        else
          some ((-1), s2)
    else
      some (0, s2)
  else
    en_let (en_wr σ 24 0 0 0 0) fun s17 =>
    if (s17 24 0 0 0) ≤ 0 then
      en_b1 (k_mm_of v1 4 s17) fun t20 =>
      if t20 = 2 then
        en_b1 (k_mm_of v1 6 s17) fun t30 =>
        some (t30, s17)
      else
        en_b1 (k_mm_of v1 4 s17) fun t23 =>
        if t23 = 1 then
          en_b1 (k_mm_plays s17) fun s26 =>
          en_b1 (k_mm_endOf v1 s26) fun t28 =>
          some (t28, s26)
        else
          some ((-1), s17)
    else
      some (0, s17)
set_option maxRecDepth 100000 in
set_option maxHeartbeats 4000000 in
theorem s_mm_ends (G : en_G) (hz : G.2.2.2.2.2.2.2.2 = none) (d : Nat) {cs : List en_A} {σ : en_M} {v1 : Int32} {x0 : Int32} {s0 : en_M}  (h : k_mm_ends v1 σ = some (x0, s0)) : en_Mt G (d + 7) 0 0 M_mm_ends [.inr (.inl (some (24, 0, 0))), .inl v1] cs en_rf σ (.inr (some (.inl x0))) cs en_rf s0 := by
  refine en_meth (ls := [some (.inr (.inl (some (24, 0, 0)))), some (.inl v1)]) md_mm_ends rfl rfl rfl ?_
  unfold k_mm_ends at h
  refine en_s_aload_n rfl rfl ?_
  refine en_s_aload_n rfl rfl ?_
  refine en_s_iload_n rfl rfl ?_
  refine en_callV (as := [.inl v1]) (rest := [.inr (.inl (some (24, 0, 0)))]) (bc' := 0) (bs' := 0) hz rfl (s_mm_isKnown G hz (d + 5) rfl) lk_10_274 mv_mm_isKnown rfl rfl rfl rfl rfl (fun _ h => h) (Nat.le_refl _) (Nat.le_refl _) ?_
  refine en_s_if_eq rfl (fun c1 => ?_) (fun c1 => ?_)
  · rw [if_pos c1] at h
    refine en_s_iconst rfl ?_
    obtain ⟨s2, e3, h⟩ := en_let_h h
    refine en_p_putI e3 rfl rfl rfl rfl rfl ?_
    refine en_s_aload_n rfl rfl ?_
    refine en_s_getI rfl rfl rfl ?_
    refine en_s_if_le rfl (fun c4 => ?_) (fun c4 => ?_)
    · rw [if_pos c4] at h
      refine en_s_aload_n rfl rfl ?_
      refine en_s_iload_n rfl rfl ?_
      refine en_s_iconst rfl ?_
      obtain ⟨t5, h6, h⟩ := en_b1_h h
      refine en_callV (as := [.inl v1, .inl 4]) (rest := []) (bc' := 0) (bs' := 0) hz rfl (s_mm_of G hz (d + 5) h6) lk_10_66 mv_mm_of rfl rfl rfl rfl rfl (fun _ h => h) (Nat.le_refl _) (Nat.le_refl _) ?_
      refine en_s_iconst rfl ?_
      refine en_s_icmp_ne rfl (fun c7 => ?_) (fun c7 => ?_)
      · rw [if_neg c7] at h
        refine en_s_aload_n rfl rfl ?_
        refine en_s_iload_n rfl rfl ?_
        refine en_s_iconst rfl ?_
        obtain ⟨t8, h9, h⟩ := en_b1_h h
        refine en_callV (as := [.inl v1, .inl 4]) (rest := []) (bc' := 0) (bs' := 0) hz rfl (s_mm_of G hz (d + 5) h9) lk_10_66 mv_mm_of rfl rfl rfl rfl rfl (fun _ h => h) (Nat.le_refl _) (Nat.le_refl _) ?_
        refine en_s_iconst rfl ?_
        refine en_s_icmp_eq rfl (fun c10 => ?_) (fun c10 => ?_)
        · rw [if_pos c10] at h
          refine en_s_aload_n rfl rfl ?_
          obtain ⟨s11, h12, h⟩ := en_b1_h h
          refine en_callV (as := []) (rest := []) (bc' := 0) (bs' := 0) hz rfl (s_mm_plays G hz (d + 0) h12) lk_10_322 mv_mm_plays rfl rfl rfl rfl rfl (fun _ h => h) (Nat.le_refl _) (Nat.le_refl _) ?_
          refine en_s_aload_n rfl rfl ?_
          refine en_s_iload_n rfl rfl ?_
          obtain ⟨t13, h14, h⟩ := en_b1_h h
          refine en_callV (as := [.inl v1]) (rest := []) (bc' := 0) (bs' := 0) hz rfl (s_mm_endOf G hz (d + 2) h14) lk_10_325 mv_mm_endOf rfl rfl rfl rfl rfl (fun _ h => h) (Nat.le_refl _) (Nat.le_refl _) ?_
          cases h
          exact en_s_iret rfl rfl
        · rw [if_neg c10] at h
          refine en_s_iconst rfl ?_
          cases h
          exact en_s_iret rfl rfl
      · rw [if_pos c7] at h
        refine en_s_aload_n rfl rfl ?_
        refine en_s_iload_n rfl rfl ?_
        refine en_s_bipush rfl ?_
        obtain ⟨t15, h16, h⟩ := en_b1_h h
        refine en_callV (as := [.inl v1, .inl 6]) (rest := []) (bc' := 0) (bs' := 0) hz rfl (s_mm_of G hz (d + 5) h16) lk_10_66 mv_mm_of rfl rfl rfl rfl rfl (fun _ h => h) (Nat.le_refl _) (Nat.le_refl _) ?_
        cases h
        exact en_s_iret rfl rfl
    · rw [if_neg c4] at h
      refine en_s_iconst rfl ?_
      cases h
      exact en_s_iret rfl rfl
  · rw [if_neg c1] at h
    refine en_s_iconst rfl ?_
    refine en_s_goto rfl ?_
    obtain ⟨s17, e18, h⟩ := en_let_h h
    refine en_p_putI e18 rfl rfl rfl rfl rfl ?_
    refine en_s_aload_n rfl rfl ?_
    refine en_s_getI rfl rfl rfl ?_
    refine en_s_if_le rfl (fun c19 => ?_) (fun c19 => ?_)
    · rw [if_pos c19] at h
      refine en_s_aload_n rfl rfl ?_
      refine en_s_iload_n rfl rfl ?_
      refine en_s_iconst rfl ?_
      obtain ⟨t20, h21, h⟩ := en_b1_h h
      refine en_callV (as := [.inl v1, .inl 4]) (rest := []) (bc' := 0) (bs' := 0) hz rfl (s_mm_of G hz (d + 5) h21) lk_10_66 mv_mm_of rfl rfl rfl rfl rfl (fun _ h => h) (Nat.le_refl _) (Nat.le_refl _) ?_
      refine en_s_iconst rfl ?_
      refine en_s_icmp_ne rfl (fun c22 => ?_) (fun c22 => ?_)
      · rw [if_neg c22] at h
        refine en_s_aload_n rfl rfl ?_
        refine en_s_iload_n rfl rfl ?_
        refine en_s_iconst rfl ?_
        obtain ⟨t23, h24, h⟩ := en_b1_h h
        refine en_callV (as := [.inl v1, .inl 4]) (rest := []) (bc' := 0) (bs' := 0) hz rfl (s_mm_of G hz (d + 5) h24) lk_10_66 mv_mm_of rfl rfl rfl rfl rfl (fun _ h => h) (Nat.le_refl _) (Nat.le_refl _) ?_
        refine en_s_iconst rfl ?_
        refine en_s_icmp_eq rfl (fun c25 => ?_) (fun c25 => ?_)
        · rw [if_pos c25] at h
          refine en_s_aload_n rfl rfl ?_
          obtain ⟨s26, h27, h⟩ := en_b1_h h
          refine en_callV (as := []) (rest := []) (bc' := 0) (bs' := 0) hz rfl (s_mm_plays G hz (d + 0) h27) lk_10_322 mv_mm_plays rfl rfl rfl rfl rfl (fun _ h => h) (Nat.le_refl _) (Nat.le_refl _) ?_
          refine en_s_aload_n rfl rfl ?_
          refine en_s_iload_n rfl rfl ?_
          obtain ⟨t28, h29, h⟩ := en_b1_h h
          refine en_callV (as := [.inl v1]) (rest := []) (bc' := 0) (bs' := 0) hz rfl (s_mm_endOf G hz (d + 2) h29) lk_10_325 mv_mm_endOf rfl rfl rfl rfl rfl (fun _ h => h) (Nat.le_refl _) (Nat.le_refl _) ?_
          cases h
          exact en_s_iret rfl rfl
        · rw [if_neg c25] at h
          refine en_s_iconst rfl ?_
          cases h
          exact en_s_iret rfl rfl
      · rw [if_pos c22] at h
        refine en_s_aload_n rfl rfl ?_
        refine en_s_iload_n rfl rfl ?_
        refine en_s_bipush rfl ?_
        obtain ⟨t30, h31, h⟩ := en_b1_h h
        refine en_callV (as := [.inl v1, .inl 6]) (rest := []) (bc' := 0) (bs' := 0) hz rfl (s_mm_of G hz (d + 5) h31) lk_10_66 mv_mm_of rfl rfl rfl rfl rfl (fun _ h => h) (Nat.le_refl _) (Nat.le_refl _) ?_
        cases h
        exact en_s_iret rfl rfl
    · rw [if_neg c19] at h
      refine en_s_iconst rfl ?_
      cases h
      exact en_s_iret rfl rfl
def k_mm_fault  (σ : en_M) : Option (Int32 × en_M) :=
  en_let (en_wr σ 24 0 0 0 0) fun s1 =>
  some (s1 24 0 0 12, s1)
set_option maxRecDepth 100000 in
set_option maxHeartbeats 4000000 in
theorem s_mm_fault (G : en_G) (hz : G.2.2.2.2.2.2.2.2 = none) (d : Nat) {cs : List en_A} {σ : en_M}  {x0 : Int32} {s0 : en_M}  (h : k_mm_fault  σ = some (x0, s0)) : en_Mt G (d + 0) 0 0 M_mm_fault [.inr (.inl (some (24, 0, 0)))] cs en_rf σ (.inr (some (.inl x0))) cs en_rf s0 := by
  refine en_meth (ls := [some (.inr (.inl (some (24, 0, 0))))]) md_mm_fault rfl rfl rfl ?_
  unfold k_mm_fault at h
  refine en_s_aload_n rfl rfl ?_
  refine en_s_iconst rfl ?_
  obtain ⟨s1, e2, h⟩ := en_let_h h
  refine en_p_putI e2 rfl rfl rfl rfl rfl ?_
  refine en_s_aload_n rfl rfl ?_
  refine en_s_getI rfl rfl rfl ?_
  cases h
  exact en_s_iret rfl rfl
def k_mm_feed_23 (f0 : Nat) (v1 : Int32) (v2 : Int32) (v3 : Int32) (v4 : Int32) (v5 : Int32) (v6 : Int32) (σ : en_M) : Option (en_M) := match f0 with
  | 0 => none
  | f9 + 1 =>
    if 20 ≤ v6 then
      some (σ)
    else
      if 4 ≤ v6 then
        if 8 ≤ v6 then
          if 12 ≤ v6 then
            if 16 ≤ v6 then
              en_b1 (en_wa 400 σ 29 0 0 (σ 24 0 0 9) (((v5.toUInt32 >>> ((24 - (8 * (v6 - v6 / 4 * 4))).toUInt32 &&& Int32.toUInt32 31)).toInt32) &&& 255)) fun s9 =>
              en_let (en_wr s9 24 0 0 9 ((s9 24 0 0 9) + 1)) fun s11 =>
              k_mm_feed_23 f9 v1 v2 v3 v4 v5 (v6 + 1) s11
            else
              en_b1 (en_wa 400 σ 29 0 0 (σ 24 0 0 9) (((v4.toUInt32 >>> ((24 - (8 * (v6 - v6 / 4 * 4))).toUInt32 &&& Int32.toUInt32 31)).toInt32) &&& 255)) fun s13 =>
              en_let (en_wr s13 24 0 0 9 ((s13 24 0 0 9) + 1)) fun s15 =>
              k_mm_feed_23 f9 v1 v2 v3 v4 v5 (v6 + 1) s15
          else
            en_b1 (en_wa 400 σ 29 0 0 (σ 24 0 0 9) (((v3.toUInt32 >>> ((24 - (8 * (v6 - v6 / 4 * 4))).toUInt32 &&& Int32.toUInt32 31)).toInt32) &&& 255)) fun s17 =>
            en_let (en_wr s17 24 0 0 9 ((s17 24 0 0 9) + 1)) fun s19 =>
            k_mm_feed_23 f9 v1 v2 v3 v4 v5 (v6 + 1) s19
        else
          en_b1 (en_wa 400 σ 29 0 0 (σ 24 0 0 9) (((v2.toUInt32 >>> ((24 - (8 * (v6 - v6 / 4 * 4))).toUInt32 &&& Int32.toUInt32 31)).toInt32) &&& 255)) fun s21 =>
          en_let (en_wr s21 24 0 0 9 ((s21 24 0 0 9) + 1)) fun s23 =>
          k_mm_feed_23 f9 v1 v2 v3 v4 v5 (v6 + 1) s23
      else
        en_b1 (en_wa 400 σ 29 0 0 (σ 24 0 0 9) (((v1.toUInt32 >>> ((24 - (8 * (v6 - v6 / 4 * 4))).toUInt32 &&& Int32.toUInt32 31)).toInt32) &&& 255)) fun s25 =>
        en_let (en_wr s25 24 0 0 9 ((s25 24 0 0 9) + 1)) fun s27 =>
        k_mm_feed_23 f9 v1 v2 v3 v4 v5 (v6 + 1) s27
def k_mm_feed (v1 : Int32) (v2 : Int32) (v3 : Int32) (v4 : Int32) (v5 : Int32) (σ : en_M) : Option (Int32 × en_M) :=
  en_let (en_wr σ 24 0 0 0 0) fun s1 =>
  if ((s1 24 0 0 9) + 20) ≤ 400 then
    en_b1 (k_mm_feed_23 en_fu v1 v2 v3 v4 v5 0 s1) fun s31 =>
    some (s31 24 0 0 9, s31)
  else
    some ((-1), s1)
set_option maxRecDepth 100000 in
set_option maxHeartbeats 4000000 in
theorem s_mm_feed_23 (G : en_G) (hz : G.2.2.2.2.2.2.2.2 = none) {d : Nat} {r : en_P} {cs cs' : List en_A} {ρ' : en_R} {σ' : en_M} : ∀ (f0 : Nat) {v1 : Int32} {v2 : Int32} {v3 : Int32} {v4 : Int32} {v5 : Int32} {v6 : Int32} {e7 : Option en_V} {σ : en_M} {s0 : en_M} , k_mm_feed_23 f0 v1 v2 v3 v4 v5 v6 σ = some (s0) →
    (∀ (f6 : Option en_V) (f7 : Option en_V), en_W G (d + 0) 0 0 M_mm_feed r cs' ρ' σ' 0 0 120 [some (.inr (.inl (some (24, 0, 0)))), some (.inl v1), some (.inl v2), some (.inl v3), some (.inl v4), some (.inl v5), f6, f7] [] cs en_rf s0) → en_W G (d + 0) 0 0 M_mm_feed r cs' ρ' σ' 0 0 23 [some (.inr (.inl (some (24, 0, 0)))), some (.inl v1), some (.inl v2), some (.inl v3), some (.inl v4), some (.inl v5), some (.inl v6), e7] [] cs en_rf σ := by
  intro f0
  induction f0 with
  | zero =>
    intros
    rename_i h _
    cases h
  | succ f9 ih =>
    intro v1 v2 v3 v4 v5 v6 e7 σ s0 h hk
    rw [k_mm_feed_23] at h
    refine en_s_iload rfl rfl ?_
    refine en_s_bipush rfl ?_
    refine en_s_icmp_ge rfl (fun c4 => ?_) (fun c4 => ?_)
    · rw [if_pos c4] at h
      cases h
      exact hk (some (.inl v6)) (e7)
    · rw [if_neg c4] at h
      refine en_s_iload rfl rfl ?_
      refine en_s_iconst rfl ?_
      refine en_s_icmp_ge rfl (fun c5 => ?_) (fun c5 => ?_)
      · rw [if_pos c5] at h
        refine en_s_iload rfl rfl ?_
        refine en_s_bipush rfl ?_
        refine en_s_icmp_ge rfl (fun c6 => ?_) (fun c6 => ?_)
        · rw [if_pos c6] at h
          refine en_s_iload rfl rfl ?_
          refine en_s_bipush rfl ?_
          refine en_s_icmp_ge rfl (fun c7 => ?_) (fun c7 => ?_)
          · rw [if_pos c7] at h
            refine en_s_iload rfl rfl ?_
            refine en_s_bipush rfl ?_
            refine en_s_icmp_ge rfl (fun c8 => ?_) (fun c8 => ?_)
            · rw [if_pos c8] at h
              refine en_s_iload rfl rfl ?_
              refine en_s_istore (ls' := [some (.inr (.inl (some (24, 0, 0)))), some (.inl v1), some (.inl v2), some (.inl v3), some (.inl v4), some (.inl v5), some (.inl v6), some (.inl v5)]) rfl rfl rfl ?_
              refine en_s_aload_n rfl rfl ?_
              refine en_s_getR (w := some (29, 0, 0)) rfl rfl rfl rfl ?_
              refine en_s_aload_n rfl rfl ?_
              refine en_s_getI rfl rfl rfl ?_
              refine en_s_iload rfl rfl ?_
              refine en_s_bipush rfl ?_
              refine en_s_bipush rfl ?_
              refine en_s_iload rfl rfl ?_
              refine en_s_iconst rfl ?_
              refine en_s_irem rfl (by decide) ?_
              refine en_s_imul rfl ?_
              refine en_s_isub rfl ?_
              refine en_s_iushr rfl ?_
              refine en_s_sipush rfl ?_
              refine en_s_iand rfl ?_
              obtain ⟨s9, e10, h⟩ := en_b1_h h
              refine en_s_iast rfl rfl e10 ?_
              refine en_s_aload_n rfl rfl ?_
              refine en_s_dup rfl rfl ?_
              refine en_s_getI rfl rfl rfl ?_
              refine en_s_iconst rfl ?_
              refine en_s_iadd rfl ?_
              obtain ⟨s11, e12, h⟩ := en_let_h h
              refine en_p_putI e12 rfl rfl rfl rfl rfl ?_
              refine en_s_iinc (ls' := [some (.inr (.inl (some (24, 0, 0)))), some (.inl v1), some (.inl v2), some (.inl v3), some (.inl v4), some (.inl v5), some (.inl (v6 + 1)), some (.inl v5)]) rfl rfl rfl ?_
              refine en_s_goto rfl ?_
              exact ih (e7 := some (.inl v5)) h hk
            · rw [if_neg c8] at h
              refine en_s_iload rfl rfl ?_
              refine en_s_goto rfl ?_
              refine en_s_istore (ls' := [some (.inr (.inl (some (24, 0, 0)))), some (.inl v1), some (.inl v2), some (.inl v3), some (.inl v4), some (.inl v5), some (.inl v6), some (.inl v4)]) rfl rfl rfl ?_
              refine en_s_aload_n rfl rfl ?_
              refine en_s_getR (w := some (29, 0, 0)) rfl rfl rfl rfl ?_
              refine en_s_aload_n rfl rfl ?_
              refine en_s_getI rfl rfl rfl ?_
              refine en_s_iload rfl rfl ?_
              refine en_s_bipush rfl ?_
              refine en_s_bipush rfl ?_
              refine en_s_iload rfl rfl ?_
              refine en_s_iconst rfl ?_
              refine en_s_irem rfl (by decide) ?_
              refine en_s_imul rfl ?_
              refine en_s_isub rfl ?_
              refine en_s_iushr rfl ?_
              refine en_s_sipush rfl ?_
              refine en_s_iand rfl ?_
              obtain ⟨s13, e14, h⟩ := en_b1_h h
              refine en_s_iast rfl rfl e14 ?_
              refine en_s_aload_n rfl rfl ?_
              refine en_s_dup rfl rfl ?_
              refine en_s_getI rfl rfl rfl ?_
              refine en_s_iconst rfl ?_
              refine en_s_iadd rfl ?_
              obtain ⟨s15, e16, h⟩ := en_let_h h
              refine en_p_putI e16 rfl rfl rfl rfl rfl ?_
              refine en_s_iinc (ls' := [some (.inr (.inl (some (24, 0, 0)))), some (.inl v1), some (.inl v2), some (.inl v3), some (.inl v4), some (.inl v5), some (.inl (v6 + 1)), some (.inl v4)]) rfl rfl rfl ?_
              refine en_s_goto rfl ?_
              exact ih (e7 := some (.inl v4)) h hk
          · rw [if_neg c7] at h
            refine en_s_iload_n rfl rfl ?_
            refine en_s_goto rfl ?_
            refine en_s_istore (ls' := [some (.inr (.inl (some (24, 0, 0)))), some (.inl v1), some (.inl v2), some (.inl v3), some (.inl v4), some (.inl v5), some (.inl v6), some (.inl v3)]) rfl rfl rfl ?_
            refine en_s_aload_n rfl rfl ?_
            refine en_s_getR (w := some (29, 0, 0)) rfl rfl rfl rfl ?_
            refine en_s_aload_n rfl rfl ?_
            refine en_s_getI rfl rfl rfl ?_
            refine en_s_iload rfl rfl ?_
            refine en_s_bipush rfl ?_
            refine en_s_bipush rfl ?_
            refine en_s_iload rfl rfl ?_
            refine en_s_iconst rfl ?_
            refine en_s_irem rfl (by decide) ?_
            refine en_s_imul rfl ?_
            refine en_s_isub rfl ?_
            refine en_s_iushr rfl ?_
            refine en_s_sipush rfl ?_
            refine en_s_iand rfl ?_
            obtain ⟨s17, e18, h⟩ := en_b1_h h
            refine en_s_iast rfl rfl e18 ?_
            refine en_s_aload_n rfl rfl ?_
            refine en_s_dup rfl rfl ?_
            refine en_s_getI rfl rfl rfl ?_
            refine en_s_iconst rfl ?_
            refine en_s_iadd rfl ?_
            obtain ⟨s19, e20, h⟩ := en_let_h h
            refine en_p_putI e20 rfl rfl rfl rfl rfl ?_
            refine en_s_iinc (ls' := [some (.inr (.inl (some (24, 0, 0)))), some (.inl v1), some (.inl v2), some (.inl v3), some (.inl v4), some (.inl v5), some (.inl (v6 + 1)), some (.inl v3)]) rfl rfl rfl ?_
            refine en_s_goto rfl ?_
            exact ih (e7 := some (.inl v3)) h hk
        · rw [if_neg c6] at h
          refine en_s_iload_n rfl rfl ?_
          refine en_s_goto rfl ?_
          refine en_s_istore (ls' := [some (.inr (.inl (some (24, 0, 0)))), some (.inl v1), some (.inl v2), some (.inl v3), some (.inl v4), some (.inl v5), some (.inl v6), some (.inl v2)]) rfl rfl rfl ?_
          refine en_s_aload_n rfl rfl ?_
          refine en_s_getR (w := some (29, 0, 0)) rfl rfl rfl rfl ?_
          refine en_s_aload_n rfl rfl ?_
          refine en_s_getI rfl rfl rfl ?_
          refine en_s_iload rfl rfl ?_
          refine en_s_bipush rfl ?_
          refine en_s_bipush rfl ?_
          refine en_s_iload rfl rfl ?_
          refine en_s_iconst rfl ?_
          refine en_s_irem rfl (by decide) ?_
          refine en_s_imul rfl ?_
          refine en_s_isub rfl ?_
          refine en_s_iushr rfl ?_
          refine en_s_sipush rfl ?_
          refine en_s_iand rfl ?_
          obtain ⟨s21, e22, h⟩ := en_b1_h h
          refine en_s_iast rfl rfl e22 ?_
          refine en_s_aload_n rfl rfl ?_
          refine en_s_dup rfl rfl ?_
          refine en_s_getI rfl rfl rfl ?_
          refine en_s_iconst rfl ?_
          refine en_s_iadd rfl ?_
          obtain ⟨s23, e24, h⟩ := en_let_h h
          refine en_p_putI e24 rfl rfl rfl rfl rfl ?_
          refine en_s_iinc (ls' := [some (.inr (.inl (some (24, 0, 0)))), some (.inl v1), some (.inl v2), some (.inl v3), some (.inl v4), some (.inl v5), some (.inl (v6 + 1)), some (.inl v2)]) rfl rfl rfl ?_
          refine en_s_goto rfl ?_
          exact ih (e7 := some (.inl v2)) h hk
      · rw [if_neg c5] at h
        refine en_s_iload_n rfl rfl ?_
        refine en_s_goto rfl ?_
        refine en_s_istore (ls' := [some (.inr (.inl (some (24, 0, 0)))), some (.inl v1), some (.inl v2), some (.inl v3), some (.inl v4), some (.inl v5), some (.inl v6), some (.inl v1)]) rfl rfl rfl ?_
        refine en_s_aload_n rfl rfl ?_
        refine en_s_getR (w := some (29, 0, 0)) rfl rfl rfl rfl ?_
        refine en_s_aload_n rfl rfl ?_
        refine en_s_getI rfl rfl rfl ?_
        refine en_s_iload rfl rfl ?_
        refine en_s_bipush rfl ?_
        refine en_s_bipush rfl ?_
        refine en_s_iload rfl rfl ?_
        refine en_s_iconst rfl ?_
        refine en_s_irem rfl (by decide) ?_
        refine en_s_imul rfl ?_
        refine en_s_isub rfl ?_
        refine en_s_iushr rfl ?_
        refine en_s_sipush rfl ?_
        refine en_s_iand rfl ?_
        obtain ⟨s25, e26, h⟩ := en_b1_h h
        refine en_s_iast rfl rfl e26 ?_
        refine en_s_aload_n rfl rfl ?_
        refine en_s_dup rfl rfl ?_
        refine en_s_getI rfl rfl rfl ?_
        refine en_s_iconst rfl ?_
        refine en_s_iadd rfl ?_
        obtain ⟨s27, e28, h⟩ := en_let_h h
        refine en_p_putI e28 rfl rfl rfl rfl rfl ?_
        refine en_s_iinc (ls' := [some (.inr (.inl (some (24, 0, 0)))), some (.inl v1), some (.inl v2), some (.inl v3), some (.inl v4), some (.inl v5), some (.inl (v6 + 1)), some (.inl v1)]) rfl rfl rfl ?_
        refine en_s_goto rfl ?_
        exact ih (e7 := some (.inl v1)) h hk
set_option maxRecDepth 100000 in
set_option maxHeartbeats 4000000 in
theorem s_mm_feed (G : en_G) (hz : G.2.2.2.2.2.2.2.2 = none) (d : Nat) {cs : List en_A} {σ : en_M} {v1 : Int32} {v2 : Int32} {v3 : Int32} {v4 : Int32} {v5 : Int32} {x0 : Int32} {s0 : en_M}  (h : k_mm_feed v1 v2 v3 v4 v5 σ = some (x0, s0)) : en_Mt G (d + 0) 0 0 M_mm_feed [.inr (.inl (some (24, 0, 0))), .inl v1, .inl v2, .inl v3, .inl v4, .inl v5] cs en_rf σ (.inr (some (.inl x0))) cs en_rf s0 := by
  refine en_meth (ls := [some (.inr (.inl (some (24, 0, 0)))), some (.inl v1), some (.inl v2), some (.inl v3), some (.inl v4), some (.inl v5), none, none]) md_mm_feed rfl rfl rfl ?_
  unfold k_mm_feed at h
  refine en_s_aload_n rfl rfl ?_
  refine en_s_iconst rfl ?_
  obtain ⟨s1, e2, h⟩ := en_let_h h
  refine en_p_putI e2 rfl rfl rfl rfl rfl ?_
  refine en_s_aload_n rfl rfl ?_
  refine en_s_getI rfl rfl rfl ?_
  refine en_s_bipush rfl ?_
  refine en_s_iadd rfl ?_
  refine en_s_sipush rfl ?_
  refine en_s_icmp_le rfl (fun c3 => ?_) (fun c3 => ?_)
  · rw [if_pos c3] at h
    refine en_s_iconst rfl ?_
    refine en_s_istore (ls' := [some (.inr (.inl (some (24, 0, 0)))), some (.inl v1), some (.inl v2), some (.inl v3), some (.inl v4), some (.inl v5), some (.inl 0), none]) rfl rfl rfl ?_
    obtain ⟨s31, h32, h⟩ := en_b1_h h
    refine s_mm_feed_23 G hz en_fu (e7 := none) h32 (fun f29 f30 => ?_)
    refine en_s_aload_n rfl rfl ?_
    refine en_s_getI rfl rfl rfl ?_
    cases h
    exact en_s_iret rfl rfl
  · rw [if_neg c3] at h
    refine en_s_iconst rfl ?_
    cases h
    exact en_s_iret rfl rfl
def k_mm_finds2_65 (f0 : Nat) (v1 : Int32) (v2 : Int32) (v3 : Int32) (v4 : Int32) (v5 : Int32) (v6 : Int32) (σ : en_M) : Option (Int32) := match f0 with
  | 0 => none
  | f9 + 1 =>
    en_b1 (k_mm_sizeOf v1 v2 σ) fun t7 =>
    if t7 ≤ v6 then
      some (v5)
    else
      if v6 = v3 then
        if (v6 - v6 / 2 * 2) = 0 then
          k_mm_finds2_65 f9 v1 v2 v3 v4 (v5 + (256 * v4)) (v6 + 1) σ
        else
          k_mm_finds2_65 f9 v1 v2 v3 v4 (v5 + v4) (v6 + 1) σ
      else
        en_b1 (k_mm_byteIn v1 v2 v6 σ) fun t11 =>
        if (v6 - v6 / 2 * 2) = 0 then
          k_mm_finds2_65 f9 v1 v2 v3 v4 (v5 + (256 * t11)) (v6 + 1) σ
        else
          k_mm_finds2_65 f9 v1 v2 v3 v4 (v5 + t11) (v6 + 1) σ
def k_mm_finds2_126 (f0 : Nat) (v5 : Int32) (σ : en_M) : Option (Int32) := match f0 with
  | 0 => none
  | f9 + 1 =>
    if v5 ≤ 65535 then
      some (v5)
    else
      k_mm_finds2_126 f9 ((v5 / 65536) + (v5 - v5 / 65536 * 65536)) σ
def k_mm_finds2 (v1 : Int32) (v2 : Int32) (v3 : Int32) (v4 : Int32) (σ : en_M) : Option (Int32 × en_M) :=
  en_b1 (k_mm_isPiece v1 v2 σ) fun t1 =>
  if t1 = 0 then
    en_let (en_wr σ 24 0 0 0 1) fun s4 =>
    if (s4 24 0 0 0) ≤ 0 then
      en_b1 (k_mm_finds2_65 en_fu v1 v2 v3 v4 0 0 s4) fun x15 =>
      en_b1 (k_mm_finds2_126 en_fu x15 s4) fun x20 =>
      if x20 = 65535 then
        some (0, s4)
      else
        some (1, s4)
    else
      some (0, s4)
  else
    en_b1 (k_mm_sizeOf v1 v2 σ) fun t23 =>
    if (k_mm_isIn v3 0 (t23 - 1)) = 0 then
      en_let (en_wr σ 24 0 0 0 1) fun s47 =>
      if (s47 24 0 0 0) ≤ 0 then
        en_b1 (k_mm_finds2_65 en_fu v1 v2 v3 v4 0 0 s47) fun x50 =>
        en_b1 (k_mm_finds2_126 en_fu x50 s47) fun x54 =>
        if x54 = 65535 then
          some (0, s47)
        else
          some (1, s47)
      else
        some (0, s47)
    else
      if (k_mm_isIn v4 0 255) = 0 then
        en_let (en_wr σ 24 0 0 0 2) fun s37 =>
        if (s37 24 0 0 0) ≤ 0 then
          en_b1 (k_mm_finds2_65 en_fu v1 v2 v3 v4 0 0 s37) fun x40 =>
          en_b1 (k_mm_finds2_126 en_fu x40 s37) fun x44 =>
          if x44 = 65535 then
            some (0, s37)
          else
            some (1, s37)
        else
          some (0, s37)
      else
        en_let (en_wr σ 24 0 0 0 0) fun s27 =>
        if (s27 24 0 0 0) ≤ 0 then
          en_b1 (k_mm_finds2_65 en_fu v1 v2 v3 v4 0 0 s27) fun x30 =>
          en_b1 (k_mm_finds2_126 en_fu x30 s27) fun x34 =>
          if x34 = 65535 then
            some (0, s27)
          else
            some (1, s27)
        else
          some (0, s27)
set_option maxRecDepth 100000 in
set_option maxHeartbeats 4000000 in
theorem s_mm_finds2_65 (G : en_G) (hz : G.2.2.2.2.2.2.2.2 = none) {d : Nat} {r : en_P} {cs cs' : List en_A} {ρ' : en_R} {σ' : en_M} : ∀ (f0 : Nat) {v1 : Int32} {v2 : Int32} {v3 : Int32} {v4 : Int32} {v5 : Int32} {v6 : Int32} {e7 : Option en_V} {σ : en_M} {x5 : Int32} , k_mm_finds2_65 f0 v1 v2 v3 v4 v5 v6 σ = some (x5) →
    (∀ (f6 : Option en_V) (f7 : Option en_V), en_W G (d + 7) 0 0 M_mm_finds2 r cs' ρ' σ' 0 0 126 [some (.inr (.inl (some (24, 0, 0)))), some (.inl v1), some (.inl v2), some (.inl v3), some (.inl v4), some (.inl x5), f6, f7] [] cs en_rf σ) → en_W G (d + 7) 0 0 M_mm_finds2 r cs' ρ' σ' 0 0 65 [some (.inr (.inl (some (24, 0, 0)))), some (.inl v1), some (.inl v2), some (.inl v3), some (.inl v4), some (.inl v5), some (.inl v6), e7] [] cs en_rf σ := by
  intro f0
  induction f0 with
  | zero =>
    intros
    rename_i h _
    cases h
  | succ f9 ih =>
    intro v1 v2 v3 v4 v5 v6 e7 σ x5 h hk
    rw [k_mm_finds2_65] at h
    refine en_s_iload rfl rfl ?_
    refine en_s_aload_n rfl rfl ?_
    refine en_s_iload_n rfl rfl ?_
    refine en_s_iload_n rfl rfl ?_
    obtain ⟨t7, h8, h⟩ := en_b1_h h
    refine en_callV (as := [.inl v1, .inl v2]) (rest := [.inl v6]) (bc' := 0) (bs' := 0) hz rfl (s_mm_sizeOf G hz (d + 3) h8) lk_10_98 mv_mm_sizeOf rfl rfl rfl rfl rfl (fun _ h => h) (Nat.le_refl _) (Nat.le_refl _) ?_
    refine en_s_icmp_ge rfl (fun c9 => ?_) (fun c9 => ?_)
    · rw [if_pos c9] at h
      cases h
      exact hk (some (.inl v6)) (e7)
    · rw [if_neg c9] at h
      refine en_s_iload rfl rfl ?_
      refine en_s_iload_n rfl rfl ?_
      refine en_s_icmp_ne rfl (fun c10 => ?_) (fun c10 => ?_)
      · rw [if_neg c10] at h
        refine en_s_aload_n rfl rfl ?_
        refine en_s_iload_n rfl rfl ?_
        refine en_s_iload_n rfl rfl ?_
        refine en_s_iload rfl rfl ?_
        obtain ⟨t11, h12, h⟩ := en_b1_h h
        refine en_callV (as := [.inl v1, .inl v2, .inl v6]) (rest := []) (bc' := 0) (bs' := 0) hz rfl (s_mm_byteIn G hz (d + 0) h12) lk_10_291 mv_mm_byteIn rfl rfl rfl rfl rfl (fun _ h => h) (Nat.le_refl _) (Nat.le_refl _) ?_
        refine en_s_istore (ls' := [some (.inr (.inl (some (24, 0, 0)))), some (.inl v1), some (.inl v2), some (.inl v3), some (.inl v4), some (.inl v5), some (.inl v6), some (.inl t11)]) rfl rfl rfl ?_
        refine en_s_iload rfl rfl ?_
        refine en_s_iload rfl rfl ?_
        refine en_s_iconst rfl ?_
        refine en_s_irem rfl (by decide) ?_
        refine en_s_if_ne rfl (fun c13 => ?_) (fun c13 => ?_)
        · rw [if_neg c13] at h
          refine en_s_iload rfl rfl ?_
          refine en_s_iadd rfl ?_
          refine en_s_istore (ls' := [some (.inr (.inl (some (24, 0, 0)))), some (.inl v1), some (.inl v2), some (.inl v3), some (.inl v4), some (.inl (v5 + t11)), some (.inl v6), some (.inl t11)]) rfl rfl rfl ?_
          refine en_s_iinc (ls' := [some (.inr (.inl (some (24, 0, 0)))), some (.inl v1), some (.inl v2), some (.inl v3), some (.inl v4), some (.inl (v5 + t11)), some (.inl (v6 + 1)), some (.inl t11)]) rfl rfl rfl ?_
          refine en_s_goto rfl ?_
          exact ih (e7 := some (.inl t11)) h hk
        · rw [if_pos c13] at h
          refine en_s_sipush rfl ?_
          refine en_s_iload rfl rfl ?_
          refine en_s_imul rfl ?_
          refine en_s_goto rfl ?_
          refine en_s_iadd rfl ?_
          refine en_s_istore (ls' := [some (.inr (.inl (some (24, 0, 0)))), some (.inl v1), some (.inl v2), some (.inl v3), some (.inl v4), some (.inl (v5 + (256 * t11))), some (.inl v6), some (.inl t11)]) rfl rfl rfl ?_
          refine en_s_iinc (ls' := [some (.inr (.inl (some (24, 0, 0)))), some (.inl v1), some (.inl v2), some (.inl v3), some (.inl v4), some (.inl (v5 + (256 * t11))), some (.inl (v6 + 1)), some (.inl t11)]) rfl rfl rfl ?_
          refine en_s_goto rfl ?_
          exact ih (e7 := some (.inl t11)) h hk
      · rw [if_pos c10] at h
        refine en_s_iload rfl rfl ?_
        refine en_s_goto rfl ?_
        refine en_s_istore (ls' := [some (.inr (.inl (some (24, 0, 0)))), some (.inl v1), some (.inl v2), some (.inl v3), some (.inl v4), some (.inl v5), some (.inl v6), some (.inl v4)]) rfl rfl rfl ?_
        refine en_s_iload rfl rfl ?_
        refine en_s_iload rfl rfl ?_
        refine en_s_iconst rfl ?_
        refine en_s_irem rfl (by decide) ?_
        refine en_s_if_ne rfl (fun c14 => ?_) (fun c14 => ?_)
        · rw [if_neg c14] at h
          refine en_s_iload rfl rfl ?_
          refine en_s_iadd rfl ?_
          refine en_s_istore (ls' := [some (.inr (.inl (some (24, 0, 0)))), some (.inl v1), some (.inl v2), some (.inl v3), some (.inl v4), some (.inl (v5 + v4)), some (.inl v6), some (.inl v4)]) rfl rfl rfl ?_
          refine en_s_iinc (ls' := [some (.inr (.inl (some (24, 0, 0)))), some (.inl v1), some (.inl v2), some (.inl v3), some (.inl v4), some (.inl (v5 + v4)), some (.inl (v6 + 1)), some (.inl v4)]) rfl rfl rfl ?_
          refine en_s_goto rfl ?_
          exact ih (e7 := some (.inl v4)) h hk
        · rw [if_pos c14] at h
          refine en_s_sipush rfl ?_
          refine en_s_iload rfl rfl ?_
          refine en_s_imul rfl ?_
          refine en_s_goto rfl ?_
          refine en_s_iadd rfl ?_
          refine en_s_istore (ls' := [some (.inr (.inl (some (24, 0, 0)))), some (.inl v1), some (.inl v2), some (.inl v3), some (.inl v4), some (.inl (v5 + (256 * v4))), some (.inl v6), some (.inl v4)]) rfl rfl rfl ?_
          refine en_s_iinc (ls' := [some (.inr (.inl (some (24, 0, 0)))), some (.inl v1), some (.inl v2), some (.inl v3), some (.inl v4), some (.inl (v5 + (256 * v4))), some (.inl (v6 + 1)), some (.inl v4)]) rfl rfl rfl ?_
          refine en_s_goto rfl ?_
          exact ih (e7 := some (.inl v4)) h hk
set_option maxRecDepth 100000 in
set_option maxHeartbeats 4000000 in
theorem s_mm_finds2_126 (G : en_G) (hz : G.2.2.2.2.2.2.2.2 = none) {d : Nat} {r : en_P} {cs cs' : List en_A} {ρ' : en_R} {σ' : en_M} : ∀ (f0 : Nat) {v5 : Int32} {e0 e1 e2 e3 e4 e6 e7 : Option en_V} {σ : en_M} {x5 : Int32} , k_mm_finds2_126 f0 v5 σ = some (x5) →
    (∀ (_ : Unit), en_W G (d + 7) 0 0 M_mm_finds2 r cs' ρ' σ' 0 0 152 [e0, e1, e2, e3, e4, some (.inl x5), e6, e7] [] cs en_rf σ) → en_W G (d + 7) 0 0 M_mm_finds2 r cs' ρ' σ' 0 0 126 [e0, e1, e2, e3, e4, some (.inl v5), e6, e7] [] cs en_rf σ := by
  intro f0
  induction f0 with
  | zero =>
    intros
    rename_i h _
    cases h
  | succ f9 ih =>
    intro v5 e0 e1 e2 e3 e4 e6 e7 σ x5 h hk
    rw [k_mm_finds2_126] at h
    refine en_s_iload rfl rfl ?_
    refine en_s_ldcwI rfl (en_tw_of (i := 1779) (by decide +kernel) (by decide +kernel)) ?_
    refine en_s_icmp_le rfl (fun c19 => ?_) (fun c19 => ?_)
    · rw [if_pos c19] at h
      cases h
      exact hk ()
    · rw [if_neg c19] at h
      refine en_s_iload rfl rfl ?_
      refine en_s_ldcwI rfl (en_tw_of (i := 1774) (by decide +kernel) (by decide +kernel)) ?_
      refine en_s_idiv rfl (by decide) ?_
      refine en_s_iload rfl rfl ?_
      refine en_s_ldcwI rfl (en_tw_of (i := 1774) (by decide +kernel) (by decide +kernel)) ?_
      refine en_s_irem rfl (by decide) ?_
      refine en_s_iadd rfl ?_
      refine en_s_istore (ls' := [e0, e1, e2, e3, e4, some (.inl ((v5 / 65536) + (v5 - v5 / 65536 * 65536))), e6, e7]) rfl rfl rfl ?_
      refine en_s_goto rfl ?_
      exact ih (e0 := e0) (e1 := e1) (e2 := e2) (e3 := e3) (e4 := e4) (e6 := e6) (e7 := e7) h hk
set_option maxRecDepth 100000 in
set_option maxHeartbeats 4000000 in
theorem s_mm_finds2 (G : en_G) (hz : G.2.2.2.2.2.2.2.2 = none) (d : Nat) {cs : List en_A} {σ : en_M} {v1 : Int32} {v2 : Int32} {v3 : Int32} {v4 : Int32} {x0 : Int32} {s0 : en_M}  (h : k_mm_finds2 v1 v2 v3 v4 σ = some (x0, s0)) : en_Mt G (d + 7) 0 0 M_mm_finds2 [.inr (.inl (some (24, 0, 0))), .inl v1, .inl v2, .inl v3, .inl v4] cs en_rf σ (.inr (some (.inl x0))) cs en_rf s0 := by
  refine en_meth (ls := [some (.inr (.inl (some (24, 0, 0)))), some (.inl v1), some (.inl v2), some (.inl v3), some (.inl v4), none, none, none]) md_mm_finds2 rfl rfl rfl ?_
  unfold k_mm_finds2 at h
  refine en_s_aload_n rfl rfl ?_
  refine en_s_aload_n rfl rfl ?_
  refine en_s_iload_n rfl rfl ?_
  refine en_s_iload_n rfl rfl ?_
  obtain ⟨t1, h2, h⟩ := en_b1_h h
  refine en_callV (as := [.inl v1, .inl v2]) (rest := [.inr (.inl (some (24, 0, 0)))]) (bc' := 0) (bs' := 0) hz rfl (s_mm_isPiece G hz (d + 2) h2) lk_10_285 mv_mm_isPiece rfl rfl rfl rfl rfl (fun _ h => h) (Nat.le_refl _) (Nat.le_refl _) ?_
  refine en_s_if_eq rfl (fun c3 => ?_) (fun c3 => ?_)
  · rw [if_pos c3] at h
    refine en_s_iconst rfl ?_
    refine en_s_goto rfl ?_
    obtain ⟨s4, e5, h⟩ := en_let_h h
    refine en_p_putI e5 rfl rfl rfl rfl rfl ?_
    refine en_s_aload_n rfl rfl ?_
    refine en_s_getI rfl rfl rfl ?_
    refine en_s_if_le rfl (fun c6 => ?_) (fun c6 => ?_)
    · rw [if_pos c6] at h
      refine en_s_iconst rfl ?_
      refine en_s_istore (ls' := [some (.inr (.inl (some (24, 0, 0)))), some (.inl v1), some (.inl v2), some (.inl v3), some (.inl v4), some (.inl 0), none, none]) rfl rfl rfl ?_
      refine en_s_iconst rfl ?_
      refine en_s_istore (ls' := [some (.inr (.inl (some (24, 0, 0)))), some (.inl v1), some (.inl v2), some (.inl v3), some (.inl v4), some (.inl 0), some (.inl 0), none]) rfl rfl rfl ?_
      obtain ⟨x15, h18, h⟩ := en_b1_h h
      refine s_mm_finds2_65 G hz en_fu (e7 := none) h18 (fun f16 f17 => ?_)
      obtain ⟨x20, h21, h⟩ := en_b1_h h
      refine s_mm_finds2_126 G hz en_fu (e0 := some (.inr (.inl (some (24, 0, 0))))) (e1 := some (.inl v1)) (e2 := some (.inl v2)) (e3 := some (.inl v3)) (e4 := some (.inl v4)) (e6 := f16) (e7 := f17) h21 (fun _ => ?_)
      refine en_s_iload rfl rfl ?_
      refine en_s_ldcwI rfl (en_tw_of (i := 1779) (by decide +kernel) (by decide +kernel)) ?_
      refine en_s_icmp_eq rfl (fun c22 => ?_) (fun c22 => ?_)
      · rw [if_pos c22] at h
        refine en_s_iconst rfl ?_
        cases h
        exact en_s_zret rfl rfl (Or.inl rfl)
      · rw [if_neg c22] at h
        refine en_s_iconst rfl ?_
        refine en_s_goto rfl ?_
        cases h
        exact en_s_zret rfl rfl (Or.inr rfl)
    · rw [if_neg c6] at h
      refine en_s_iconst rfl ?_
      cases h
      exact en_s_zret rfl rfl (Or.inl rfl)
  · rw [if_neg c3] at h
    refine en_s_iload_n rfl rfl ?_
    refine en_s_iconst rfl ?_
    refine en_s_aload_n rfl rfl ?_
    refine en_s_iload_n rfl rfl ?_
    refine en_s_iload_n rfl rfl ?_
    obtain ⟨t23, h24, h⟩ := en_b1_h h
    refine en_callV (as := [.inl v1, .inl v2]) (rest := [.inl 0, .inl v3, .inr (.inl (some (24, 0, 0)))]) (bc' := 0) (bs' := 0) hz rfl (s_mm_sizeOf G hz (d + 3) h24) lk_10_98 mv_mm_sizeOf rfl rfl rfl rfl rfl (fun _ h => h) (Nat.le_refl _) (Nat.le_refl _) ?_
    refine en_s_iconst rfl ?_
    refine en_s_isub rfl ?_
    refine en_callS (as := [.inl v3, .inl 0, .inl (t23 - 1)]) (rest := [.inr (.inl (some (24, 0, 0)))]) (bc' := 0) (bs' := 0) hz rfl (s_mm_isIn G hz (d + 6) rfl) lk_10_54 mv_mm_isIn rfl rfl rfl (fun _ h => h) (Nat.le_refl _) (Nat.le_refl _) ?_
    refine en_s_if_ne rfl (fun c25 => ?_) (fun c25 => ?_)
    · rw [if_neg c25] at h
      refine en_s_iload rfl rfl ?_
      refine en_s_iconst rfl ?_
      refine en_s_sipush rfl ?_
      refine en_callS (as := [.inl v4, .inl 0, .inl 255]) (rest := [.inr (.inl (some (24, 0, 0)))]) (bc' := 0) (bs' := 0) hz rfl (s_mm_isIn G hz (d + 6) rfl) lk_10_54 mv_mm_isIn rfl rfl rfl (fun _ h => h) (Nat.le_refl _) (Nat.le_refl _) ?_
      refine en_s_if_ne rfl (fun c26 => ?_) (fun c26 => ?_)
      · rw [if_neg c26] at h
        refine en_s_iconst rfl ?_
        obtain ⟨s27, e28, h⟩ := en_let_h h
        refine en_p_putI e28 rfl rfl rfl rfl rfl ?_
        refine en_s_aload_n rfl rfl ?_
        refine en_s_getI rfl rfl rfl ?_
        refine en_s_if_le rfl (fun c29 => ?_) (fun c29 => ?_)
        · rw [if_pos c29] at h
          refine en_s_iconst rfl ?_
          refine en_s_istore (ls' := [some (.inr (.inl (some (24, 0, 0)))), some (.inl v1), some (.inl v2), some (.inl v3), some (.inl v4), some (.inl 0), none, none]) rfl rfl rfl ?_
          refine en_s_iconst rfl ?_
          refine en_s_istore (ls' := [some (.inr (.inl (some (24, 0, 0)))), some (.inl v1), some (.inl v2), some (.inl v3), some (.inl v4), some (.inl 0), some (.inl 0), none]) rfl rfl rfl ?_
          obtain ⟨x30, h33, h⟩ := en_b1_h h
          refine s_mm_finds2_65 G hz en_fu (e7 := none) h33 (fun f31 f32 => ?_)
          obtain ⟨x34, h35, h⟩ := en_b1_h h
          refine s_mm_finds2_126 G hz en_fu (e0 := some (.inr (.inl (some (24, 0, 0))))) (e1 := some (.inl v1)) (e2 := some (.inl v2)) (e3 := some (.inl v3)) (e4 := some (.inl v4)) (e6 := f31) (e7 := f32) h35 (fun _ => ?_)
          refine en_s_iload rfl rfl ?_
          refine en_s_ldcwI rfl (en_tw_of (i := 1779) (by decide +kernel) (by decide +kernel)) ?_
          refine en_s_icmp_eq rfl (fun c36 => ?_) (fun c36 => ?_)
          · rw [if_pos c36] at h
            refine en_s_iconst rfl ?_
            cases h
            exact en_s_zret rfl rfl (Or.inl rfl)
          · rw [if_neg c36] at h
            refine en_s_iconst rfl ?_
            refine en_s_goto rfl ?_
            cases h
            exact en_s_zret rfl rfl (Or.inr rfl)
        · rw [if_neg c29] at h
          refine en_s_iconst rfl ?_
          cases h
          exact en_s_zret rfl rfl (Or.inl rfl)
      · rw [if_pos c26] at h
        refine en_s_iconst rfl ?_
        refine en_s_goto rfl ?_
        obtain ⟨s37, e38, h⟩ := en_let_h h
        refine en_p_putI e38 rfl rfl rfl rfl rfl ?_
        refine en_s_aload_n rfl rfl ?_
        refine en_s_getI rfl rfl rfl ?_
        refine en_s_if_le rfl (fun c39 => ?_) (fun c39 => ?_)
        · rw [if_pos c39] at h
          refine en_s_iconst rfl ?_
          refine en_s_istore (ls' := [some (.inr (.inl (some (24, 0, 0)))), some (.inl v1), some (.inl v2), some (.inl v3), some (.inl v4), some (.inl 0), none, none]) rfl rfl rfl ?_
          refine en_s_iconst rfl ?_
          refine en_s_istore (ls' := [some (.inr (.inl (some (24, 0, 0)))), some (.inl v1), some (.inl v2), some (.inl v3), some (.inl v4), some (.inl 0), some (.inl 0), none]) rfl rfl rfl ?_
          obtain ⟨x40, h43, h⟩ := en_b1_h h
          refine s_mm_finds2_65 G hz en_fu (e7 := none) h43 (fun f41 f42 => ?_)
          obtain ⟨x44, h45, h⟩ := en_b1_h h
          refine s_mm_finds2_126 G hz en_fu (e0 := some (.inr (.inl (some (24, 0, 0))))) (e1 := some (.inl v1)) (e2 := some (.inl v2)) (e3 := some (.inl v3)) (e4 := some (.inl v4)) (e6 := f41) (e7 := f42) h45 (fun _ => ?_)
          refine en_s_iload rfl rfl ?_
          refine en_s_ldcwI rfl (en_tw_of (i := 1779) (by decide +kernel) (by decide +kernel)) ?_
          refine en_s_icmp_eq rfl (fun c46 => ?_) (fun c46 => ?_)
          · rw [if_pos c46] at h
            refine en_s_iconst rfl ?_
            cases h
            exact en_s_zret rfl rfl (Or.inl rfl)
          · rw [if_neg c46] at h
            refine en_s_iconst rfl ?_
            refine en_s_goto rfl ?_
            cases h
            exact en_s_zret rfl rfl (Or.inr rfl)
        · rw [if_neg c39] at h
          refine en_s_iconst rfl ?_
          cases h
          exact en_s_zret rfl rfl (Or.inl rfl)
    · rw [if_pos c25] at h
      refine en_s_iconst rfl ?_
      refine en_s_goto rfl ?_
      obtain ⟨s47, e48, h⟩ := en_let_h h
      refine en_p_putI e48 rfl rfl rfl rfl rfl ?_
      refine en_s_aload_n rfl rfl ?_
      refine en_s_getI rfl rfl rfl ?_
      refine en_s_if_le rfl (fun c49 => ?_) (fun c49 => ?_)
      · rw [if_pos c49] at h
        refine en_s_iconst rfl ?_
        refine en_s_istore (ls' := [some (.inr (.inl (some (24, 0, 0)))), some (.inl v1), some (.inl v2), some (.inl v3), some (.inl v4), some (.inl 0), none, none]) rfl rfl rfl ?_
        refine en_s_iconst rfl ?_
        refine en_s_istore (ls' := [some (.inr (.inl (some (24, 0, 0)))), some (.inl v1), some (.inl v2), some (.inl v3), some (.inl v4), some (.inl 0), some (.inl 0), none]) rfl rfl rfl ?_
        obtain ⟨x50, h53, h⟩ := en_b1_h h
        refine s_mm_finds2_65 G hz en_fu (e7 := none) h53 (fun f51 f52 => ?_)
        obtain ⟨x54, h55, h⟩ := en_b1_h h
        refine s_mm_finds2_126 G hz en_fu (e0 := some (.inr (.inl (some (24, 0, 0))))) (e1 := some (.inl v1)) (e2 := some (.inl v2)) (e3 := some (.inl v3)) (e4 := some (.inl v4)) (e6 := f51) (e7 := f52) h55 (fun _ => ?_)
        refine en_s_iload rfl rfl ?_
        refine en_s_ldcwI rfl (en_tw_of (i := 1779) (by decide +kernel) (by decide +kernel)) ?_
        refine en_s_icmp_eq rfl (fun c56 => ?_) (fun c56 => ?_)
        · rw [if_pos c56] at h
          refine en_s_iconst rfl ?_
          cases h
          exact en_s_zret rfl rfl (Or.inl rfl)
        · rw [if_neg c56] at h
          refine en_s_iconst rfl ?_
          refine en_s_goto rfl ?_
          cases h
          exact en_s_zret rfl rfl (Or.inr rfl)
      · rw [if_neg c49] at h
        refine en_s_iconst rfl ?_
        cases h
        exact en_s_zret rfl rfl (Or.inl rfl)
def k_mm_queueOf (v1 : Int32) (v2 : Int32) (σ : en_M) : Option (Int32 × en_M) :=
  en_b1 (k_mm_plays σ) fun s1 =>
  if (k_mm_isIn v1 0 ((s1 24 0 0 16) - 1)) = 0 then
    some ((-1), s1)
  else
    en_b1 (en_rd 160 (s1 34 0 0) v1) fun t4 =>
    if t4 < 9999 then
      if v2 = 0 then
        en_b1 (en_rd 160 (s1 32 0 0) v1) fun t8 =>
        some (t8, s1)
      else
        en_b1 (en_rd 160 (s1 34 0 0) v1) fun t10 =>
        some (t10, s1)
    else
      some ((-1), s1)
set_option maxRecDepth 100000 in
set_option maxHeartbeats 4000000 in
theorem s_mm_queueOf (G : en_G) (hz : G.2.2.2.2.2.2.2.2 = none) (d : Nat) {cs : List en_A} {σ : en_M} {v1 : Int32} {v2 : Int32} {x0 : Int32} {s0 : en_M}  (h : k_mm_queueOf v1 v2 σ = some (x0, s0)) : en_Mt G (d + 7) 0 0 M_mm_queueOf [.inr (.inl (some (24, 0, 0))), .inl v1, .inl v2] cs en_rf σ (.inr (some (.inl x0))) cs en_rf s0 := by
  refine en_meth (ls := [some (.inr (.inl (some (24, 0, 0)))), some (.inl v1), some (.inl v2)]) md_mm_queueOf rfl rfl rfl ?_
  unfold k_mm_queueOf at h
  refine en_s_aload_n rfl rfl ?_
  obtain ⟨s1, h2, h⟩ := en_b1_h h
  refine en_callV (as := []) (rest := []) (bc' := 0) (bs' := 0) hz rfl (s_mm_plays G hz (d + 0) h2) lk_10_322 mv_mm_plays rfl rfl rfl rfl rfl (fun _ h => h) (Nat.le_refl _) (Nat.le_refl _) ?_
  refine en_s_iload_n rfl rfl ?_
  refine en_s_iconst rfl ?_
  refine en_s_aload_n rfl rfl ?_
  refine en_s_getI rfl rfl rfl ?_
  refine en_s_iconst rfl ?_
  refine en_s_isub rfl ?_
  refine en_callS (as := [.inl v1, .inl 0, .inl ((s1 24 0 0 16) - 1)]) (rest := []) (bc' := 0) (bs' := 0) hz rfl (s_mm_isIn G hz (d + 6) rfl) lk_10_54 mv_mm_isIn rfl rfl rfl (fun _ h => h) (Nat.le_refl _) (Nat.le_refl _) ?_
  refine en_s_if_eq rfl (fun c3 => ?_) (fun c3 => ?_)
  · rw [if_pos c3] at h
    refine en_s_iconst rfl ?_
    cases h
    exact en_s_iret rfl rfl
  · rw [if_neg c3] at h
    refine en_s_aload_n rfl rfl ?_
    refine en_s_getR (w := some (34, 0, 0)) rfl rfl rfl rfl ?_
    refine en_s_iload_n rfl rfl ?_
    obtain ⟨t4, h5, h⟩ := en_b1_h h
    refine en_s_iald rfl rfl h5 ?_
    refine en_s_sipush rfl ?_
    refine en_s_icmp_lt rfl (fun c6 => ?_) (fun c6 => ?_)
    · rw [if_pos c6] at h
      refine en_s_iload_n rfl rfl ?_
      refine en_s_if_eq rfl (fun c7 => ?_) (fun c7 => ?_)
      · rw [if_pos c7] at h
        refine en_s_aload_n rfl rfl ?_
        refine en_s_getR (w := some (32, 0, 0)) rfl rfl rfl rfl ?_
        refine en_s_iload_n rfl rfl ?_
        obtain ⟨t8, h9, h⟩ := en_b1_h h
        refine en_s_iald rfl rfl h9 ?_
        cases h
        exact en_s_iret rfl rfl
      · rw [if_neg c7] at h
        refine en_s_aload_n rfl rfl ?_
        refine en_s_getR (w := some (34, 0, 0)) rfl rfl rfl rfl ?_
        refine en_s_iload_n rfl rfl ?_
        obtain ⟨t10, h11, h⟩ := en_b1_h h
        refine en_s_iald rfl rfl h11 ?_
        refine en_s_goto rfl ?_
        cases h
        exact en_s_iret rfl rfl
    · rw [if_neg c6] at h
      refine en_s_iconst rfl ?_
      cases h
      exact en_s_iret rfl rfl
def k_mm_first (v1 : Int32) (σ : en_M) : Option (Int32 × en_M) :=
  en_let (en_wr σ 24 0 0 0 0) fun s1 =>
  en_b2 (k_mm_queueOf 0 v1 s1) fun t3 s4 =>
  some (t3, s4)
set_option maxRecDepth 100000 in
set_option maxHeartbeats 4000000 in
theorem s_mm_first (G : en_G) (hz : G.2.2.2.2.2.2.2.2 = none) (d : Nat) {cs : List en_A} {σ : en_M} {v1 : Int32} {x0 : Int32} {s0 : en_M}  (h : k_mm_first v1 σ = some (x0, s0)) : en_Mt G (d + 8) 0 0 M_mm_first [.inr (.inl (some (24, 0, 0))), .inl v1] cs en_rf σ (.inr (some (.inl x0))) cs en_rf s0 := by
  refine en_meth (ls := [some (.inr (.inl (some (24, 0, 0)))), some (.inl v1)]) md_mm_first rfl rfl rfl ?_
  unfold k_mm_first at h
  refine en_s_aload_n rfl rfl ?_
  refine en_s_iconst rfl ?_
  obtain ⟨s1, e2, h⟩ := en_let_h h
  refine en_p_putI e2 rfl rfl rfl rfl rfl ?_
  refine en_s_aload_n rfl rfl ?_
  refine en_s_iconst rfl ?_
  refine en_s_iload_n rfl rfl ?_
  obtain ⟨t3, s4, h5, h⟩ := en_b2_h h
  refine en_callV (as := [.inl 0, .inl v1]) (rest := []) (bc' := 0) (bs' := 0) hz rfl (s_mm_queueOf G hz (d + 0) h5) lk_10_331 mv_mm_queueOf rfl rfl rfl rfl rfl (fun _ h => h) (Nat.le_refl _) (Nat.le_refl _) ?_
  cases h
  exact en_s_iret rfl rfl
def k_mm_leftBehind_46 (f0 : Nat) (v1 : Int32) (v2 : Int32) (v3 : Int32) (v4 : Int32) (σ : en_M) : Option (Int32) := match f0 with
  | 0 => none
  | f9 + 1 =>
    en_b1 (k_mm_piecesOf v3 σ) fun t8 =>
    if t8 ≤ v4 then
      some (v2)
    else
      en_b1 (k_mm_hasLeft v3 v4 σ) fun t11 =>
      if t11 = 0 then
        k_mm_leftBehind_46 f9 v1 (v2 + 1) v3 (v4 + 1) σ
      else
        k_mm_leftBehind_46 f9 v1 (v2 + 0) v3 (v4 + 1) σ
def k_mm_leftBehind_10 (f0 : Nat) (v1 : Int32) (v2 : Int32) (v3 : Int32) (σ : en_M) : Option (Int32) := match f0 with
  | 0 => none
  | f9 + 1 =>
    if (σ 25 0 0 5) ≤ v3 then
      some (v2)
    else
      en_b1 (k_mm_of v3 4 σ) fun t2 =>
      if t2 = 1 then
        en_b1 (k_mm_of v3 0 σ) fun t5 =>
        if t5 = v1 then
          en_b1 (k_mm_leftBehind_46 en_fu v1 v2 v3 0 σ) fun x14 =>
          k_mm_leftBehind_10 f9 v1 x14 (v3 + 1) σ
        else
          k_mm_leftBehind_10 f9 v1 v2 (v3 + 1) σ
      else
        k_mm_leftBehind_10 f9 v1 v2 (v3 + 1) σ
def k_mm_leftBehind (v1 : Int32) (σ : en_M) : Option (Int32) :=
  en_b1 (k_mm_leftBehind_10 en_fu v1 0 (σ 25 0 0 6) σ) fun x17 =>
  some x17
set_option maxRecDepth 100000 in
set_option maxHeartbeats 4000000 in
theorem s_mm_leftBehind_46 (G : en_G) (hz : G.2.2.2.2.2.2.2.2 = none) {d : Nat} {r : en_P} {cs cs' : List en_A} {ρ' : en_R} {σ' : en_M} : ∀ (f0 : Nat) {v1 : Int32} {v2 : Int32} {v3 : Int32} {v4 : Int32}  {σ : en_M} {x2 : Int32} , k_mm_leftBehind_46 f0 v1 v2 v3 v4 σ = some (x2) →
    (∀ (f4 : Option en_V), en_W G (d + 4) 0 0 M_mm_leftBehind r cs' ρ' σ' 0 0 80 [some (.inr (.inl (some (24, 0, 0)))), some (.inl v1), some (.inl x2), some (.inl v3), f4] [] cs en_rf σ) → en_W G (d + 4) 0 0 M_mm_leftBehind r cs' ρ' σ' 0 0 46 [some (.inr (.inl (some (24, 0, 0)))), some (.inl v1), some (.inl v2), some (.inl v3), some (.inl v4)] [] cs en_rf σ := by
  intro f0
  induction f0 with
  | zero =>
    intros
    rename_i h _
    cases h
  | succ f9 ih =>
    intro v1 v2 v3 v4 σ x2 h hk
    rw [k_mm_leftBehind_46] at h
    refine en_s_iload rfl rfl ?_
    refine en_s_aload_n rfl rfl ?_
    refine en_s_iload_n rfl rfl ?_
    obtain ⟨t8, h9, h⟩ := en_b1_h h
    refine en_callV (as := [.inl v3]) (rest := [.inl v4]) (bc' := 0) (bs' := 0) hz rfl (s_mm_piecesOf G hz (d + 0) h9) lk_10_82 mv_mm_piecesOf rfl rfl rfl rfl rfl (fun _ h => h) (Nat.le_refl _) (Nat.le_refl _) ?_
    refine en_s_icmp_ge rfl (fun c10 => ?_) (fun c10 => ?_)
    · rw [if_pos c10] at h
      cases h
      exact hk (some (.inl v4))
    · rw [if_neg c10] at h
      refine en_s_iload_n rfl rfl ?_
      refine en_s_aload_n rfl rfl ?_
      refine en_s_iload_n rfl rfl ?_
      refine en_s_iload rfl rfl ?_
      obtain ⟨t11, h12, h⟩ := en_b1_h h
      refine en_callV (as := [.inl v3, .inl v4]) (rest := [.inl v2]) (bc' := 0) (bs' := 0) hz rfl (s_mm_hasLeft G hz (d + 1) h12) lk_10_85 mv_mm_hasLeft rfl rfl rfl rfl rfl (fun _ h => h) (Nat.le_refl _) (Nat.le_refl _) ?_
      refine en_s_if_eq rfl (fun c13 => ?_) (fun c13 => ?_)
      · rw [if_pos c13] at h
        refine en_s_iconst rfl ?_
        refine en_s_iadd rfl ?_
        refine en_s_istore_n (ls' := [some (.inr (.inl (some (24, 0, 0)))), some (.inl v1), some (.inl (v2 + 1)), some (.inl v3), some (.inl v4)]) rfl rfl rfl ?_
        refine en_s_iinc (ls' := [some (.inr (.inl (some (24, 0, 0)))), some (.inl v1), some (.inl (v2 + 1)), some (.inl v3), some (.inl (v4 + 1))]) rfl rfl rfl ?_
        refine en_s_goto rfl ?_
        exact ih  h hk
      · rw [if_neg c13] at h
        refine en_s_iconst rfl ?_
        refine en_s_goto rfl ?_
        refine en_s_iadd rfl ?_
        refine en_s_istore_n (ls' := [some (.inr (.inl (some (24, 0, 0)))), some (.inl v1), some (.inl (v2 + 0)), some (.inl v3), some (.inl v4)]) rfl rfl rfl ?_
        refine en_s_iinc (ls' := [some (.inr (.inl (some (24, 0, 0)))), some (.inl v1), some (.inl (v2 + 0)), some (.inl v3), some (.inl (v4 + 1))]) rfl rfl rfl ?_
        refine en_s_goto rfl ?_
        exact ih  h hk
set_option maxRecDepth 100000 in
set_option maxHeartbeats 4000000 in
theorem s_mm_leftBehind_10 (G : en_G) (hz : G.2.2.2.2.2.2.2.2 = none) {d : Nat} {r : en_P} {cs cs' : List en_A} {ρ' : en_R} {σ' : en_M} : ∀ (f0 : Nat) {v1 : Int32} {v2 : Int32} {v3 : Int32} {e4 : Option en_V} {σ : en_M} {x2 : Int32} , k_mm_leftBehind_10 f0 v1 v2 v3 σ = some (x2) →
    (∀ (f3 : Option en_V) (f4 : Option en_V), en_W G (d + 4) 0 0 M_mm_leftBehind r cs' ρ' σ' 0 0 86 [some (.inr (.inl (some (24, 0, 0)))), some (.inl v1), some (.inl x2), f3, f4] [] cs en_rf σ) → en_W G (d + 4) 0 0 M_mm_leftBehind r cs' ρ' σ' 0 0 10 [some (.inr (.inl (some (24, 0, 0)))), some (.inl v1), some (.inl v2), some (.inl v3), e4] [] cs en_rf σ := by
  intro f0
  induction f0 with
  | zero =>
    intros
    rename_i h _
    cases h
  | succ f9 ih =>
    intro v1 v2 v3 e4 σ x2 h hk
    rw [k_mm_leftBehind_10] at h
    refine en_s_iload_n rfl rfl ?_
    refine en_s_aload_n rfl rfl ?_
    refine en_s_getR (w := some (25, 0, 0)) rfl rfl rfl rfl ?_
    refine en_s_iconst rfl ?_
    refine en_c_iald (q := 5) rfl rfl (by decide) (by decide) ?_
    refine en_s_icmp_ge rfl (fun c1 => ?_) (fun c1 => ?_)
    · rw [if_pos c1] at h
      cases h
      exact hk (some (.inl v3)) (e4)
    · rw [if_neg c1] at h
      refine en_s_aload_n rfl rfl ?_
      refine en_s_iload_n rfl rfl ?_
      refine en_s_iconst rfl ?_
      obtain ⟨t2, h3, h⟩ := en_b1_h h
      refine en_callV (as := [.inl v3, .inl 4]) (rest := []) (bc' := 0) (bs' := 0) hz rfl (s_mm_of G hz (d + 2) h3) lk_10_66 mv_mm_of rfl rfl rfl rfl rfl (fun _ h => h) (Nat.le_refl _) (Nat.le_refl _) ?_
      refine en_s_iconst rfl ?_
      refine en_s_icmp_ne rfl (fun c4 => ?_) (fun c4 => ?_)
      · rw [if_neg c4] at h
        refine en_s_iinc (ls' := [some (.inr (.inl (some (24, 0, 0)))), some (.inl v1), some (.inl v2), some (.inl (v3 + 1)), e4]) rfl rfl rfl ?_
        refine en_s_goto rfl ?_
        exact ih (e4 := e4) h hk
      · rw [if_pos c4] at h
        refine en_s_aload_n rfl rfl ?_
        refine en_s_iload_n rfl rfl ?_
        refine en_s_iconst rfl ?_
        obtain ⟨t5, h6, h⟩ := en_b1_h h
        refine en_callV (as := [.inl v3, .inl 0]) (rest := []) (bc' := 0) (bs' := 0) hz rfl (s_mm_of G hz (d + 2) h6) lk_10_66 mv_mm_of rfl rfl rfl rfl rfl (fun _ h => h) (Nat.le_refl _) (Nat.le_refl _) ?_
        refine en_s_iload_n rfl rfl ?_
        refine en_s_icmp_eq rfl (fun c7 => ?_) (fun c7 => ?_)
        · rw [if_pos c7] at h
          refine en_s_iconst rfl ?_
          refine en_s_istore (ls' := [some (.inr (.inl (some (24, 0, 0)))), some (.inl v1), some (.inl v2), some (.inl v3), some (.inl 0)]) rfl rfl rfl ?_
          obtain ⟨x14, h16, h⟩ := en_b1_h h
          refine s_mm_leftBehind_46 G hz en_fu  h16 (fun f15 => ?_)
          refine en_s_iinc (ls' := [some (.inr (.inl (some (24, 0, 0)))), some (.inl v1), some (.inl x14), some (.inl (v3 + 1)), f15]) rfl rfl rfl ?_
          refine en_s_goto rfl ?_
          exact ih (e4 := f15) h hk
        · rw [if_neg c7] at h
          refine en_s_goto rfl ?_
          refine en_s_iinc (ls' := [some (.inr (.inl (some (24, 0, 0)))), some (.inl v1), some (.inl v2), some (.inl (v3 + 1)), e4]) rfl rfl rfl ?_
          refine en_s_goto rfl ?_
          exact ih (e4 := e4) h hk
set_option maxRecDepth 100000 in
set_option maxHeartbeats 4000000 in
theorem s_mm_leftBehind (G : en_G) (hz : G.2.2.2.2.2.2.2.2 = none) (d : Nat) {cs : List en_A} {σ : en_M} {v1 : Int32} {x0 : Int32}  (h : k_mm_leftBehind v1 σ = some x0) : en_Mt G (d + 4) 0 0 M_mm_leftBehind [.inr (.inl (some (24, 0, 0))), .inl v1] cs en_rf σ (.inr (some (.inl x0))) cs en_rf σ := by
  refine en_meth (ls := [some (.inr (.inl (some (24, 0, 0)))), some (.inl v1), none, none, none]) md_mm_leftBehind rfl rfl rfl ?_
  unfold k_mm_leftBehind at h
  refine en_s_iconst rfl ?_
  refine en_s_istore_n (ls' := [some (.inr (.inl (some (24, 0, 0)))), some (.inl v1), some (.inl 0), none, none]) rfl rfl rfl ?_
  refine en_s_aload_n rfl rfl ?_
  refine en_s_getR (w := some (25, 0, 0)) rfl rfl rfl rfl ?_
  refine en_s_bipush rfl ?_
  refine en_c_iald (q := 6) rfl rfl (by decide) (by decide) ?_
  refine en_s_istore_n (ls' := [some (.inr (.inl (some (24, 0, 0)))), some (.inl v1), some (.inl 0), some (.inl (σ 25 0 0 6)), none]) rfl rfl rfl ?_
  obtain ⟨x17, h20, h⟩ := en_b1_h h
  refine s_mm_leftBehind_10 G hz en_fu (e4 := none) h20 (fun f18 f19 => ?_)
  refine en_s_iload_n rfl rfl ?_
  cases h
  exact en_s_iret rfl rfl
def k_mm_jitter_13 (f0 : Nat) (v1 : Int32) (v2 : Int32) (v3 : Int32) (v4 : Int32) (v5 : Int32) (v6 : Int32) (σ : en_M) : Option (Int32 × Int32 × Int32) := match f0 with
  | 0 => none
  | f9 + 1 =>
    if (σ 25 0 0 18) ≤ v6 then
      some (v3, v4, v5)
    else
      en_b1 (k_mm_logAt v6 2 σ) fun t2 =>
      if t2 = v1 then
        en_b1 (k_mm_logAt v6 5 σ) fun t5 =>
        if 2 ≤ (v3 + 1) then
          if (v3 + 1) = 2 then
            if (v3 + 1) = 2 then
              k_mm_jitter_13 f9 v1 t5 (v3 + 1) (t5 - v2) (t5 - v2) (v6 + 1) σ
            else
              k_mm_jitter_13 f9 v1 t5 (v3 + 1) (t5 - v2) (k_mm_greater v5 (t5 - v2)) (v6 + 1) σ
          else
            if (v3 + 1) = 2 then
              k_mm_jitter_13 f9 v1 t5 (v3 + 1) (k_mm_lesser v4 (t5 - v2)) (t5 - v2) (v6 + 1) σ
            else
              k_mm_jitter_13 f9 v1 t5 (v3 + 1) (k_mm_lesser v4 (t5 - v2)) (k_mm_greater v5 (t5 - v2)) (v6 + 1) σ
        else
          k_mm_jitter_13 f9 v1 t5 (v3 + 1) v4 v5 (v6 + 1) σ
      else
        k_mm_jitter_13 f9 v1 v2 v3 v4 v5 (v6 + 1) σ
def k_mm_jitter (v1 : Int32) (σ : en_M) : Option (Int32) :=
  en_b3 (k_mm_jitter_13 en_fu v1 (-1) 0 0 0 0 σ) fun x12 x13 x14 =>
  if 3 ≤ x12 then
    some (x14 - x13)
  else
    some (-1)
set_option maxRecDepth 100000 in
set_option maxHeartbeats 4000000 in
theorem s_mm_jitter_13 (G : en_G) (hz : G.2.2.2.2.2.2.2.2 = none) {d : Nat} {r : en_P} {cs cs' : List en_A} {ρ' : en_R} {σ' : en_M} : ∀ (f0 : Nat) {v1 : Int32} {v2 : Int32} {v3 : Int32} {v4 : Int32} {v5 : Int32} {v6 : Int32} {e7 e8 : Option en_V} {σ : en_M} {x3 : Int32} {x4 : Int32} {x5 : Int32} , k_mm_jitter_13 f0 v1 v2 v3 v4 v5 v6 σ = some (x3, x4, x5) →
    (∀ (f2 : Option en_V) (f6 : Option en_V) (f7 : Option en_V) (f8 : Option en_V), en_W G (d + 1) 0 0 M_mm_jitter r cs' ρ' σ' 0 0 112 [some (.inr (.inl (some (24, 0, 0)))), some (.inl v1), f2, some (.inl x3), some (.inl x4), some (.inl x5), f6, f7, f8] [] cs en_rf σ) → en_W G (d + 1) 0 0 M_mm_jitter r cs' ρ' σ' 0 0 13 [some (.inr (.inl (some (24, 0, 0)))), some (.inl v1), some (.inl v2), some (.inl v3), some (.inl v4), some (.inl v5), some (.inl v6), e7, e8] [] cs en_rf σ := by
  intro f0
  induction f0 with
  | zero =>
    intros
    rename_i h _
    cases h
  | succ f9 ih =>
    intro v1 v2 v3 v4 v5 v6 e7 e8 σ x3 x4 x5 h hk
    rw [k_mm_jitter_13] at h
    refine en_s_iload rfl rfl ?_
    refine en_s_aload_n rfl rfl ?_
    refine en_s_getR (w := some (25, 0, 0)) rfl rfl rfl rfl ?_
    refine en_s_bipush rfl ?_
    refine en_c_iald (q := 18) rfl rfl (by decide) (by decide) ?_
    refine en_s_icmp_ge rfl (fun c1 => ?_) (fun c1 => ?_)
    · rw [if_pos c1] at h
      cases h
      exact hk (some (.inl v2)) (some (.inl v6)) (e7) (e8)
    · rw [if_neg c1] at h
      refine en_s_aload_n rfl rfl ?_
      refine en_s_iload rfl rfl ?_
      refine en_s_iconst rfl ?_
      obtain ⟨t2, h3, h⟩ := en_b1_h h
      refine en_callV (as := [.inl v6, .inl 2]) (rest := []) (bc' := 0) (bs' := 0) hz rfl (s_mm_logAt G hz (d + 0) h3) lk_10_294 mv_mm_logAt rfl rfl rfl rfl rfl (fun _ h => h) (Nat.le_refl _) (Nat.le_refl _) ?_
      refine en_s_iload_n rfl rfl ?_
      refine en_s_icmp_eq rfl (fun c4 => ?_) (fun c4 => ?_)
      · rw [if_pos c4] at h
        refine en_s_aload_n rfl rfl ?_
        refine en_s_iload rfl rfl ?_
        refine en_s_iconst rfl ?_
        obtain ⟨t5, h6, h⟩ := en_b1_h h
        refine en_callV (as := [.inl v6, .inl 5]) (rest := []) (bc' := 0) (bs' := 0) hz rfl (s_mm_logAt G hz (d + 0) h6) lk_10_294 mv_mm_logAt rfl rfl rfl rfl rfl (fun _ h => h) (Nat.le_refl _) (Nat.le_refl _) ?_
        refine en_s_istore (ls' := [some (.inr (.inl (some (24, 0, 0)))), some (.inl v1), some (.inl v2), some (.inl v3), some (.inl v4), some (.inl v5), some (.inl v6), some (.inl t5), e8]) rfl rfl rfl ?_
        refine en_s_iinc (ls' := [some (.inr (.inl (some (24, 0, 0)))), some (.inl v1), some (.inl v2), some (.inl (v3 + 1)), some (.inl v4), some (.inl v5), some (.inl v6), some (.inl t5), e8]) rfl rfl rfl ?_
        refine en_s_iload rfl rfl ?_
        refine en_s_iload_n rfl rfl ?_
        refine en_s_isub rfl ?_
        refine en_s_istore (ls' := [some (.inr (.inl (some (24, 0, 0)))), some (.inl v1), some (.inl v2), some (.inl (v3 + 1)), some (.inl v4), some (.inl v5), some (.inl v6), some (.inl t5), some (.inl (t5 - v2))]) rfl rfl rfl ?_
        refine en_s_iload rfl rfl ?_
        refine en_s_istore_n (ls' := [some (.inr (.inl (some (24, 0, 0)))), some (.inl v1), some (.inl t5), some (.inl (v3 + 1)), some (.inl v4), some (.inl v5), some (.inl v6), some (.inl t5), some (.inl (t5 - v2))]) rfl rfl rfl ?_
        refine en_s_iload_n rfl rfl ?_
        refine en_s_iconst rfl ?_
        refine en_s_icmp_ge rfl (fun c7 => ?_) (fun c7 => ?_)
        · rw [if_pos c7] at h
          refine en_s_iload_n rfl rfl ?_
          refine en_s_iconst rfl ?_
          refine en_s_icmp_ne rfl (fun c8 => ?_) (fun c8 => ?_)
          · rw [if_neg c8] at h
            refine en_s_iload rfl rfl ?_
            refine en_s_iload rfl rfl ?_
            refine en_callS (as := [.inl v4, .inl (t5 - v2)]) (rest := []) (bc' := 0) (bs' := 0) hz rfl (s_mm_lesser G hz (d + 0) rfl) lk_10_72 mv_mm_lesser rfl rfl rfl (fun _ h => h) (Nat.le_refl _) (Nat.le_refl _) ?_
            refine en_s_istore (ls' := [some (.inr (.inl (some (24, 0, 0)))), some (.inl v1), some (.inl t5), some (.inl (v3 + 1)), some (.inl (k_mm_lesser v4 (t5 - v2))), some (.inl v5), some (.inl v6), some (.inl t5), some (.inl (t5 - v2))]) rfl rfl rfl ?_
            refine en_s_iload_n rfl rfl ?_
            refine en_s_iconst rfl ?_
            refine en_s_icmp_ne rfl (fun c9 => ?_) (fun c9 => ?_)
            · rw [if_neg c9] at h
              refine en_s_iload rfl rfl ?_
              refine en_s_iload rfl rfl ?_
              refine en_callS (as := [.inl v5, .inl (t5 - v2)]) (rest := []) (bc' := 0) (bs' := 0) hz rfl (s_mm_greater G hz (d + 0) rfl) lk_10_62 mv_mm_greater rfl rfl rfl (fun _ h => h) (Nat.le_refl _) (Nat.le_refl _) ?_
              refine en_s_istore (ls' := [some (.inr (.inl (some (24, 0, 0)))), some (.inl v1), some (.inl t5), some (.inl (v3 + 1)), some (.inl (k_mm_lesser v4 (t5 - v2))), some (.inl (k_mm_greater v5 (t5 - v2))), some (.inl v6), some (.inl t5), some (.inl (t5 - v2))]) rfl rfl rfl ?_
              refine en_s_iinc (ls' := [some (.inr (.inl (some (24, 0, 0)))), some (.inl v1), some (.inl t5), some (.inl (v3 + 1)), some (.inl (k_mm_lesser v4 (t5 - v2))), some (.inl (k_mm_greater v5 (t5 - v2))), some (.inl (v6 + 1)), some (.inl t5), some (.inl (t5 - v2))]) rfl rfl rfl ?_
              refine en_s_goto rfl ?_
              exact ih (e7 := some (.inl t5)) (e8 := some (.inl (t5 - v2))) h hk
            · rw [if_pos c9] at h
              refine en_s_iload rfl rfl ?_
              refine en_s_goto rfl ?_
              refine en_s_istore (ls' := [some (.inr (.inl (some (24, 0, 0)))), some (.inl v1), some (.inl t5), some (.inl (v3 + 1)), some (.inl (k_mm_lesser v4 (t5 - v2))), some (.inl (t5 - v2)), some (.inl v6), some (.inl t5), some (.inl (t5 - v2))]) rfl rfl rfl ?_
              refine en_s_iinc (ls' := [some (.inr (.inl (some (24, 0, 0)))), some (.inl v1), some (.inl t5), some (.inl (v3 + 1)), some (.inl (k_mm_lesser v4 (t5 - v2))), some (.inl (t5 - v2)), some (.inl (v6 + 1)), some (.inl t5), some (.inl (t5 - v2))]) rfl rfl rfl ?_
              refine en_s_goto rfl ?_
              exact ih (e7 := some (.inl t5)) (e8 := some (.inl (t5 - v2))) h hk
          · rw [if_pos c8] at h
            refine en_s_iload rfl rfl ?_
            refine en_s_goto rfl ?_
            refine en_s_istore (ls' := [some (.inr (.inl (some (24, 0, 0)))), some (.inl v1), some (.inl t5), some (.inl (v3 + 1)), some (.inl (t5 - v2)), some (.inl v5), some (.inl v6), some (.inl t5), some (.inl (t5 - v2))]) rfl rfl rfl ?_
            refine en_s_iload_n rfl rfl ?_
            refine en_s_iconst rfl ?_
            refine en_s_icmp_ne rfl (fun c10 => ?_) (fun c10 => ?_)
            · rw [if_neg c10] at h
              refine en_s_iload rfl rfl ?_
              refine en_s_iload rfl rfl ?_
              refine en_callS (as := [.inl v5, .inl (t5 - v2)]) (rest := []) (bc' := 0) (bs' := 0) hz rfl (s_mm_greater G hz (d + 0) rfl) lk_10_62 mv_mm_greater rfl rfl rfl (fun _ h => h) (Nat.le_refl _) (Nat.le_refl _) ?_
              refine en_s_istore (ls' := [some (.inr (.inl (some (24, 0, 0)))), some (.inl v1), some (.inl t5), some (.inl (v3 + 1)), some (.inl (t5 - v2)), some (.inl (k_mm_greater v5 (t5 - v2))), some (.inl v6), some (.inl t5), some (.inl (t5 - v2))]) rfl rfl rfl ?_
              refine en_s_iinc (ls' := [some (.inr (.inl (some (24, 0, 0)))), some (.inl v1), some (.inl t5), some (.inl (v3 + 1)), some (.inl (t5 - v2)), some (.inl (k_mm_greater v5 (t5 - v2))), some (.inl (v6 + 1)), some (.inl t5), some (.inl (t5 - v2))]) rfl rfl rfl ?_
              refine en_s_goto rfl ?_
              exact ih (e7 := some (.inl t5)) (e8 := some (.inl (t5 - v2))) h hk
            · rw [if_pos c10] at h
              refine en_s_iload rfl rfl ?_
              refine en_s_goto rfl ?_
              refine en_s_istore (ls' := [some (.inr (.inl (some (24, 0, 0)))), some (.inl v1), some (.inl t5), some (.inl (v3 + 1)), some (.inl (t5 - v2)), some (.inl (t5 - v2)), some (.inl v6), some (.inl t5), some (.inl (t5 - v2))]) rfl rfl rfl ?_
              refine en_s_iinc (ls' := [some (.inr (.inl (some (24, 0, 0)))), some (.inl v1), some (.inl t5), some (.inl (v3 + 1)), some (.inl (t5 - v2)), some (.inl (t5 - v2)), some (.inl (v6 + 1)), some (.inl t5), some (.inl (t5 - v2))]) rfl rfl rfl ?_
              refine en_s_goto rfl ?_
              exact ih (e7 := some (.inl t5)) (e8 := some (.inl (t5 - v2))) h hk
        · rw [if_neg c7] at h
          refine en_s_goto rfl ?_
          refine en_s_iinc (ls' := [some (.inr (.inl (some (24, 0, 0)))), some (.inl v1), some (.inl t5), some (.inl (v3 + 1)), some (.inl v4), some (.inl v5), some (.inl (v6 + 1)), some (.inl t5), some (.inl (t5 - v2))]) rfl rfl rfl ?_
          refine en_s_goto rfl ?_
          exact ih (e7 := some (.inl t5)) (e8 := some (.inl (t5 - v2))) h hk
      · rw [if_neg c4] at h
        refine en_s_goto rfl ?_
        refine en_s_iinc (ls' := [some (.inr (.inl (some (24, 0, 0)))), some (.inl v1), some (.inl v2), some (.inl v3), some (.inl v4), some (.inl v5), some (.inl (v6 + 1)), e7, e8]) rfl rfl rfl ?_
        refine en_s_goto rfl ?_
        exact ih (e7 := e7) (e8 := e8) h hk
set_option maxRecDepth 100000 in
set_option maxHeartbeats 4000000 in
theorem s_mm_jitter (G : en_G) (hz : G.2.2.2.2.2.2.2.2 = none) (d : Nat) {cs : List en_A} {σ : en_M} {v1 : Int32} {x0 : Int32}  (h : k_mm_jitter v1 σ = some x0) : en_Mt G (d + 1) 0 0 M_mm_jitter [.inr (.inl (some (24, 0, 0))), .inl v1] cs en_rf σ (.inr (some (.inl x0))) cs en_rf σ := by
  refine en_meth (ls := [some (.inr (.inl (some (24, 0, 0)))), some (.inl v1), none, none, none, none, none, none, none]) md_mm_jitter rfl rfl rfl ?_
  unfold k_mm_jitter at h
  refine en_s_iconst rfl ?_
  refine en_s_istore_n (ls' := [some (.inr (.inl (some (24, 0, 0)))), some (.inl v1), some (.inl ((-1))), none, none, none, none, none, none]) rfl rfl rfl ?_
  refine en_s_iconst rfl ?_
  refine en_s_istore_n (ls' := [some (.inr (.inl (some (24, 0, 0)))), some (.inl v1), some (.inl ((-1))), some (.inl 0), none, none, none, none, none]) rfl rfl rfl ?_
  refine en_s_iconst rfl ?_
  refine en_s_istore (ls' := [some (.inr (.inl (some (24, 0, 0)))), some (.inl v1), some (.inl ((-1))), some (.inl 0), some (.inl 0), none, none, none, none]) rfl rfl rfl ?_
  refine en_s_iconst rfl ?_
  refine en_s_istore (ls' := [some (.inr (.inl (some (24, 0, 0)))), some (.inl v1), some (.inl ((-1))), some (.inl 0), some (.inl 0), some (.inl 0), none, none, none]) rfl rfl rfl ?_
  refine en_s_iconst rfl ?_
  refine en_s_istore (ls' := [some (.inr (.inl (some (24, 0, 0)))), some (.inl v1), some (.inl ((-1))), some (.inl 0), some (.inl 0), some (.inl 0), some (.inl 0), none, none]) rfl rfl rfl ?_
  obtain ⟨x12, x13, x14, h18, h⟩ := en_b3_h h
  refine s_mm_jitter_13 G hz en_fu (e7 := none) (e8 := none) h18 (fun f11 f15 f16 f17 => ?_)
  refine en_s_iload_n rfl rfl ?_
  refine en_s_iconst rfl ?_
  refine en_s_icmp_ge rfl (fun c19 => ?_) (fun c19 => ?_)
  · rw [if_pos c19] at h
    refine en_s_iload rfl rfl ?_
    refine en_s_iload rfl rfl ?_
    refine en_s_isub rfl ?_
    cases h
    exact en_s_iret rfl rfl
  · rw [if_neg c19] at h
    refine en_s_iconst rfl ?_
    refine en_s_goto rfl ?_
    cases h
    exact en_s_iret rfl rfl
def k_mm_flow (v1 : Int32) (v2 : Int32) (σ : en_M) : Option (Int32 × en_M) :=
  if (k_mm_isFlow v1 σ) = 0 then
    en_let (en_wr σ 24 0 0 0 1) fun s59 =>
    if (s59 24 0 0 0) ≤ 0 then
      en_b1 (k_mm_times s59) fun s62 =>
      if v2 = 0 then
        en_b1 (k_mm_flowAt v1 0 s62) fun t65 =>
        some (t65, s62)
      else
      if v2 = 1 then
        en_b1 (k_mm_flowAt v1 1 s62) fun t68 =>
        some (t68, s62)
      else
      if v2 = 2 then
        en_b1 (k_mm_flowAt v1 2 s62) fun t71 =>
        some (t71, s62)
      else
      if v2 = 3 then
        en_b1 (k_mm_leftBehind v1 s62) fun t74 =>
        some (t74, s62)
      else
      if v2 = 4 then
        en_b1 (en_rd 6 (s62 31 0 0) v1) fun t77 =>
        some (t77, s62)
      else
      if v2 = 5 then
        en_b1 (k_mm_flowAt v1 7 s62) fun t80 =>
        some (t80, s62)
      else
      if v2 = 6 then
        en_b1 (k_mm_flowAt v1 8 s62) fun t83 =>
        some (t83, s62)
      else
      en_b1 (k_mm_jitter v1 s62) fun t85 =>
      some (t85, s62)
    else
      some (0, s59)
  else
    if (k_mm_isIn v2 0 7) = 0 then
      en_let (en_wr σ 24 0 0 0 2) fun s31 =>
      if (s31 24 0 0 0) ≤ 0 then
        en_b1 (k_mm_times s31) fun s34 =>
        if v2 = 0 then
          en_b1 (k_mm_flowAt v1 0 s34) fun t37 =>
          some (t37, s34)
        else
        if v2 = 1 then
          en_b1 (k_mm_flowAt v1 1 s34) fun t40 =>
          some (t40, s34)
        else
        if v2 = 2 then
          en_b1 (k_mm_flowAt v1 2 s34) fun t43 =>
          some (t43, s34)
        else
        if v2 = 3 then
          en_b1 (k_mm_leftBehind v1 s34) fun t46 =>
          some (t46, s34)
        else
        if v2 = 4 then
          en_b1 (en_rd 6 (s34 31 0 0) v1) fun t49 =>
          some (t49, s34)
        else
        if v2 = 5 then
          en_b1 (k_mm_flowAt v1 7 s34) fun t52 =>
          some (t52, s34)
        else
        if v2 = 6 then
          en_b1 (k_mm_flowAt v1 8 s34) fun t55 =>
          some (t55, s34)
        else
        en_b1 (k_mm_jitter v1 s34) fun t57 =>
        some (t57, s34)
      else
        some (0, s31)
    else
      en_let (en_wr σ 24 0 0 0 0) fun s3 =>
      if (s3 24 0 0 0) ≤ 0 then
        en_b1 (k_mm_times s3) fun s6 =>
        if v2 = 0 then
          en_b1 (k_mm_flowAt v1 0 s6) fun t9 =>
          some (t9, s6)
        else
        if v2 = 1 then
          en_b1 (k_mm_flowAt v1 1 s6) fun t12 =>
          some (t12, s6)
        else
        if v2 = 2 then
          en_b1 (k_mm_flowAt v1 2 s6) fun t15 =>
          some (t15, s6)
        else
        if v2 = 3 then
          en_b1 (k_mm_leftBehind v1 s6) fun t18 =>
          some (t18, s6)
        else
        if v2 = 4 then
          en_b1 (en_rd 6 (s6 31 0 0) v1) fun t21 =>
          some (t21, s6)
        else
        if v2 = 5 then
          en_b1 (k_mm_flowAt v1 7 s6) fun t24 =>
          some (t24, s6)
        else
        if v2 = 6 then
          en_b1 (k_mm_flowAt v1 8 s6) fun t27 =>
          some (t27, s6)
        else
        en_b1 (k_mm_jitter v1 s6) fun t29 =>
        some (t29, s6)
      else
        some (0, s3)
set_option maxRecDepth 100000 in
set_option maxHeartbeats 4000000 in
theorem s_mm_flow (G : en_G) (hz : G.2.2.2.2.2.2.2.2 = none) (d : Nat) {cs : List en_A} {σ : en_M} {v1 : Int32} {v2 : Int32} {x0 : Int32} {s0 : en_M}  (h : k_mm_flow v1 v2 σ = some (x0, s0)) : en_Mt G (d + 5) 0 0 M_mm_flow [.inr (.inl (some (24, 0, 0))), .inl v1, .inl v2] cs en_rf σ (.inr (some (.inl x0))) cs en_rf s0 := by
  refine en_meth (ls := [some (.inr (.inl (some (24, 0, 0)))), some (.inl v1), some (.inl v2)]) md_mm_flow rfl rfl rfl ?_
  unfold k_mm_flow at h
  refine en_s_aload_n rfl rfl ?_
  refine en_s_aload_n rfl rfl ?_
  refine en_s_iload_n rfl rfl ?_
  refine en_callV (as := [.inl v1]) (rest := [.inr (.inl (some (24, 0, 0)))]) (bc' := 0) (bs' := 0) hz rfl (s_mm_isFlow G hz (d + 3) rfl) lk_10_101 mv_mm_isFlow rfl rfl rfl rfl rfl (fun _ h => h) (Nat.le_refl _) (Nat.le_refl _) ?_
  refine en_s_if_ne rfl (fun c1 => ?_) (fun c1 => ?_)
  · rw [if_neg c1] at h
    refine en_s_iload_n rfl rfl ?_
    refine en_s_iconst rfl ?_
    refine en_s_bipush rfl ?_
    refine en_callS (as := [.inl v2, .inl 0, .inl 7]) (rest := [.inr (.inl (some (24, 0, 0)))]) (bc' := 0) (bs' := 0) hz rfl (s_mm_isIn G hz (d + 4) rfl) lk_10_54 mv_mm_isIn rfl rfl rfl (fun _ h => h) (Nat.le_refl _) (Nat.le_refl _) ?_
    refine en_s_if_ne rfl (fun c2 => ?_) (fun c2 => ?_)
    · rw [if_neg c2] at h
      refine en_s_iconst rfl ?_
      obtain ⟨s3, e4, h⟩ := en_let_h h
      refine en_p_putI e4 rfl rfl rfl rfl rfl ?_
      refine en_s_aload_n rfl rfl ?_
      refine en_s_getI rfl rfl rfl ?_
      refine en_s_if_le rfl (fun c5 => ?_) (fun c5 => ?_)
      · rw [if_pos c5] at h
        refine en_s_aload_n rfl rfl ?_
        obtain ⟨s6, h7, h⟩ := en_b1_h h
        refine en_callV (as := []) (rest := []) (bc' := 0) (bs' := 0) hz rfl (s_mm_times G hz (d + 0) h7) lk_10_144 mv_mm_times rfl rfl rfl rfl rfl (fun _ h => h) (Nat.le_refl _) (Nat.le_refl _) ?_
        refine en_s_iload_n rfl rfl ?_
        by_cases c8 : v2 = 0
        · rw [if_pos c8] at h
          refine en_s_table [(0, 88), (1, 95), (2, 102), (3, 109), (4, 115), (5, 122), (6, 130)] rfl (by decide) (en_sw_hit c8) ?_
          refine en_s_aload_n rfl rfl ?_
          refine en_s_iload_n rfl rfl ?_
          refine en_s_iconst rfl ?_
          obtain ⟨t9, h10, h⟩ := en_b1_h h
          refine en_callV (as := [.inl v1, .inl 0]) (rest := []) (bc' := 0) (bs' := 0) hz rfl (s_mm_flowAt G hz (d + 4) h10) lk_10_89 mv_mm_flowAt rfl rfl rfl rfl rfl (fun _ h => h) (Nat.le_refl _) (Nat.le_refl _) ?_
          cases h
          exact en_s_iret rfl rfl
        rw [if_neg c8] at h
        by_cases c11 : v2 = 1
        · rw [if_pos c11] at h
          refine en_s_table [(0, 88), (1, 95), (2, 102), (3, 109), (4, 115), (5, 122), (6, 130)] rfl (by decide) (en_sw_miss c8 (en_sw_hit c11)) ?_
          refine en_s_aload_n rfl rfl ?_
          refine en_s_iload_n rfl rfl ?_
          refine en_s_iconst rfl ?_
          obtain ⟨t12, h13, h⟩ := en_b1_h h
          refine en_callV (as := [.inl v1, .inl 1]) (rest := []) (bc' := 0) (bs' := 0) hz rfl (s_mm_flowAt G hz (d + 4) h13) lk_10_89 mv_mm_flowAt rfl rfl rfl rfl rfl (fun _ h => h) (Nat.le_refl _) (Nat.le_refl _) ?_
          cases h
          exact en_s_iret rfl rfl
        rw [if_neg c11] at h
        by_cases c14 : v2 = 2
        · rw [if_pos c14] at h
          refine en_s_table [(0, 88), (1, 95), (2, 102), (3, 109), (4, 115), (5, 122), (6, 130)] rfl (by decide) (en_sw_miss c8 (en_sw_miss c11 (en_sw_hit c14))) ?_
          refine en_s_aload_n rfl rfl ?_
          refine en_s_iload_n rfl rfl ?_
          refine en_s_iconst rfl ?_
          obtain ⟨t15, h16, h⟩ := en_b1_h h
          refine en_callV (as := [.inl v1, .inl 2]) (rest := []) (bc' := 0) (bs' := 0) hz rfl (s_mm_flowAt G hz (d + 4) h16) lk_10_89 mv_mm_flowAt rfl rfl rfl rfl rfl (fun _ h => h) (Nat.le_refl _) (Nat.le_refl _) ?_
          cases h
          exact en_s_iret rfl rfl
        rw [if_neg c14] at h
        by_cases c17 : v2 = 3
        · rw [if_pos c17] at h
          refine en_s_table [(0, 88), (1, 95), (2, 102), (3, 109), (4, 115), (5, 122), (6, 130)] rfl (by decide) (en_sw_miss c8 (en_sw_miss c11 (en_sw_miss c14 (en_sw_hit c17)))) ?_
          refine en_s_aload_n rfl rfl ?_
          refine en_s_iload_n rfl rfl ?_
          obtain ⟨t18, h19, h⟩ := en_b1_h h
          refine en_callV (as := [.inl v1]) (rest := []) (bc' := 0) (bs' := 0) hz rfl (s_mm_leftBehind G hz (d + 0) h19) lk_10_271 mv_mm_leftBehind rfl rfl rfl rfl rfl (fun _ h => h) (Nat.le_refl _) (Nat.le_refl _) ?_
          cases h
          exact en_s_iret rfl rfl
        rw [if_neg c17] at h
        by_cases c20 : v2 = 4
        · rw [if_pos c20] at h
          refine en_s_table [(0, 88), (1, 95), (2, 102), (3, 109), (4, 115), (5, 122), (6, 130)] rfl (by decide) (en_sw_miss c8 (en_sw_miss c11 (en_sw_miss c14 (en_sw_miss c17 (en_sw_hit c20))))) ?_
          refine en_s_aload_n rfl rfl ?_
          refine en_s_getR (w := some (31, 0, 0)) rfl rfl rfl rfl ?_
          refine en_s_iload_n rfl rfl ?_
          obtain ⟨t21, h22, h⟩ := en_b1_h h
          refine en_s_iald rfl rfl h22 ?_
          cases h
          exact en_s_iret rfl rfl
        rw [if_neg c20] at h
        by_cases c23 : v2 = 5
        · rw [if_pos c23] at h
          refine en_s_table [(0, 88), (1, 95), (2, 102), (3, 109), (4, 115), (5, 122), (6, 130)] rfl (by decide) (en_sw_miss c8 (en_sw_miss c11 (en_sw_miss c14 (en_sw_miss c17 (en_sw_miss c20 (en_sw_hit c23)))))) ?_
          refine en_s_aload_n rfl rfl ?_
          refine en_s_iload_n rfl rfl ?_
          refine en_s_bipush rfl ?_
          obtain ⟨t24, h25, h⟩ := en_b1_h h
          refine en_callV (as := [.inl v1, .inl 7]) (rest := []) (bc' := 0) (bs' := 0) hz rfl (s_mm_flowAt G hz (d + 4) h25) lk_10_89 mv_mm_flowAt rfl rfl rfl rfl rfl (fun _ h => h) (Nat.le_refl _) (Nat.le_refl _) ?_
          cases h
          exact en_s_iret rfl rfl
        rw [if_neg c23] at h
        by_cases c26 : v2 = 6
        · rw [if_pos c26] at h
          refine en_s_table [(0, 88), (1, 95), (2, 102), (3, 109), (4, 115), (5, 122), (6, 130)] rfl (by decide) (en_sw_miss c8 (en_sw_miss c11 (en_sw_miss c14 (en_sw_miss c17 (en_sw_miss c20 (en_sw_miss c23 (en_sw_hit c26))))))) ?_
          refine en_s_aload_n rfl rfl ?_
          refine en_s_iload_n rfl rfl ?_
          refine en_s_bipush rfl ?_
          obtain ⟨t27, h28, h⟩ := en_b1_h h
          refine en_callV (as := [.inl v1, .inl 8]) (rest := []) (bc' := 0) (bs' := 0) hz rfl (s_mm_flowAt G hz (d + 4) h28) lk_10_89 mv_mm_flowAt rfl rfl rfl rfl rfl (fun _ h => h) (Nat.le_refl _) (Nat.le_refl _) ?_
          cases h
          exact en_s_iret rfl rfl
        rw [if_neg c26] at h
        refine en_s_table [(0, 88), (1, 95), (2, 102), (3, 109), (4, 115), (5, 122), (6, 130)] rfl (by decide) (en_sw_miss c8 (en_sw_miss c11 (en_sw_miss c14 (en_sw_miss c17 (en_sw_miss c20 (en_sw_miss c23 (en_sw_miss c26 en_sw_nil))))))) ?_
        refine en_s_aload_n rfl rfl ?_
        refine en_s_iload_n rfl rfl ?_
        obtain ⟨t29, h30, h⟩ := en_b1_h h
        refine en_callV (as := [.inl v1]) (rest := []) (bc' := 0) (bs' := 0) hz rfl (s_mm_jitter G hz (d + 3) h30) lk_10_297 mv_mm_jitter rfl rfl rfl rfl rfl (fun _ h => h) (Nat.le_refl _) (Nat.le_refl _) ?_
        cases h
        exact en_s_iret rfl rfl
      · rw [if_neg c5] at h
        refine en_s_iconst rfl ?_
        cases h
        exact en_s_iret rfl rfl
    · rw [if_pos c2] at h
      refine en_s_iconst rfl ?_
      refine en_s_goto rfl ?_
      obtain ⟨s31, e32, h⟩ := en_let_h h
      refine en_p_putI e32 rfl rfl rfl rfl rfl ?_
      refine en_s_aload_n rfl rfl ?_
      refine en_s_getI rfl rfl rfl ?_
      refine en_s_if_le rfl (fun c33 => ?_) (fun c33 => ?_)
      · rw [if_pos c33] at h
        refine en_s_aload_n rfl rfl ?_
        obtain ⟨s34, h35, h⟩ := en_b1_h h
        refine en_callV (as := []) (rest := []) (bc' := 0) (bs' := 0) hz rfl (s_mm_times G hz (d + 0) h35) lk_10_144 mv_mm_times rfl rfl rfl rfl rfl (fun _ h => h) (Nat.le_refl _) (Nat.le_refl _) ?_
        refine en_s_iload_n rfl rfl ?_
        by_cases c36 : v2 = 0
        · rw [if_pos c36] at h
          refine en_s_table [(0, 88), (1, 95), (2, 102), (3, 109), (4, 115), (5, 122), (6, 130)] rfl (by decide) (en_sw_hit c36) ?_
          refine en_s_aload_n rfl rfl ?_
          refine en_s_iload_n rfl rfl ?_
          refine en_s_iconst rfl ?_
          obtain ⟨t37, h38, h⟩ := en_b1_h h
          refine en_callV (as := [.inl v1, .inl 0]) (rest := []) (bc' := 0) (bs' := 0) hz rfl (s_mm_flowAt G hz (d + 4) h38) lk_10_89 mv_mm_flowAt rfl rfl rfl rfl rfl (fun _ h => h) (Nat.le_refl _) (Nat.le_refl _) ?_
          cases h
          exact en_s_iret rfl rfl
        rw [if_neg c36] at h
        by_cases c39 : v2 = 1
        · rw [if_pos c39] at h
          refine en_s_table [(0, 88), (1, 95), (2, 102), (3, 109), (4, 115), (5, 122), (6, 130)] rfl (by decide) (en_sw_miss c36 (en_sw_hit c39)) ?_
          refine en_s_aload_n rfl rfl ?_
          refine en_s_iload_n rfl rfl ?_
          refine en_s_iconst rfl ?_
          obtain ⟨t40, h41, h⟩ := en_b1_h h
          refine en_callV (as := [.inl v1, .inl 1]) (rest := []) (bc' := 0) (bs' := 0) hz rfl (s_mm_flowAt G hz (d + 4) h41) lk_10_89 mv_mm_flowAt rfl rfl rfl rfl rfl (fun _ h => h) (Nat.le_refl _) (Nat.le_refl _) ?_
          cases h
          exact en_s_iret rfl rfl
        rw [if_neg c39] at h
        by_cases c42 : v2 = 2
        · rw [if_pos c42] at h
          refine en_s_table [(0, 88), (1, 95), (2, 102), (3, 109), (4, 115), (5, 122), (6, 130)] rfl (by decide) (en_sw_miss c36 (en_sw_miss c39 (en_sw_hit c42))) ?_
          refine en_s_aload_n rfl rfl ?_
          refine en_s_iload_n rfl rfl ?_
          refine en_s_iconst rfl ?_
          obtain ⟨t43, h44, h⟩ := en_b1_h h
          refine en_callV (as := [.inl v1, .inl 2]) (rest := []) (bc' := 0) (bs' := 0) hz rfl (s_mm_flowAt G hz (d + 4) h44) lk_10_89 mv_mm_flowAt rfl rfl rfl rfl rfl (fun _ h => h) (Nat.le_refl _) (Nat.le_refl _) ?_
          cases h
          exact en_s_iret rfl rfl
        rw [if_neg c42] at h
        by_cases c45 : v2 = 3
        · rw [if_pos c45] at h
          refine en_s_table [(0, 88), (1, 95), (2, 102), (3, 109), (4, 115), (5, 122), (6, 130)] rfl (by decide) (en_sw_miss c36 (en_sw_miss c39 (en_sw_miss c42 (en_sw_hit c45)))) ?_
          refine en_s_aload_n rfl rfl ?_
          refine en_s_iload_n rfl rfl ?_
          obtain ⟨t46, h47, h⟩ := en_b1_h h
          refine en_callV (as := [.inl v1]) (rest := []) (bc' := 0) (bs' := 0) hz rfl (s_mm_leftBehind G hz (d + 0) h47) lk_10_271 mv_mm_leftBehind rfl rfl rfl rfl rfl (fun _ h => h) (Nat.le_refl _) (Nat.le_refl _) ?_
          cases h
          exact en_s_iret rfl rfl
        rw [if_neg c45] at h
        by_cases c48 : v2 = 4
        · rw [if_pos c48] at h
          refine en_s_table [(0, 88), (1, 95), (2, 102), (3, 109), (4, 115), (5, 122), (6, 130)] rfl (by decide) (en_sw_miss c36 (en_sw_miss c39 (en_sw_miss c42 (en_sw_miss c45 (en_sw_hit c48))))) ?_
          refine en_s_aload_n rfl rfl ?_
          refine en_s_getR (w := some (31, 0, 0)) rfl rfl rfl rfl ?_
          refine en_s_iload_n rfl rfl ?_
          obtain ⟨t49, h50, h⟩ := en_b1_h h
          refine en_s_iald rfl rfl h50 ?_
          cases h
          exact en_s_iret rfl rfl
        rw [if_neg c48] at h
        by_cases c51 : v2 = 5
        · rw [if_pos c51] at h
          refine en_s_table [(0, 88), (1, 95), (2, 102), (3, 109), (4, 115), (5, 122), (6, 130)] rfl (by decide) (en_sw_miss c36 (en_sw_miss c39 (en_sw_miss c42 (en_sw_miss c45 (en_sw_miss c48 (en_sw_hit c51)))))) ?_
          refine en_s_aload_n rfl rfl ?_
          refine en_s_iload_n rfl rfl ?_
          refine en_s_bipush rfl ?_
          obtain ⟨t52, h53, h⟩ := en_b1_h h
          refine en_callV (as := [.inl v1, .inl 7]) (rest := []) (bc' := 0) (bs' := 0) hz rfl (s_mm_flowAt G hz (d + 4) h53) lk_10_89 mv_mm_flowAt rfl rfl rfl rfl rfl (fun _ h => h) (Nat.le_refl _) (Nat.le_refl _) ?_
          cases h
          exact en_s_iret rfl rfl
        rw [if_neg c51] at h
        by_cases c54 : v2 = 6
        · rw [if_pos c54] at h
          refine en_s_table [(0, 88), (1, 95), (2, 102), (3, 109), (4, 115), (5, 122), (6, 130)] rfl (by decide) (en_sw_miss c36 (en_sw_miss c39 (en_sw_miss c42 (en_sw_miss c45 (en_sw_miss c48 (en_sw_miss c51 (en_sw_hit c54))))))) ?_
          refine en_s_aload_n rfl rfl ?_
          refine en_s_iload_n rfl rfl ?_
          refine en_s_bipush rfl ?_
          obtain ⟨t55, h56, h⟩ := en_b1_h h
          refine en_callV (as := [.inl v1, .inl 8]) (rest := []) (bc' := 0) (bs' := 0) hz rfl (s_mm_flowAt G hz (d + 4) h56) lk_10_89 mv_mm_flowAt rfl rfl rfl rfl rfl (fun _ h => h) (Nat.le_refl _) (Nat.le_refl _) ?_
          cases h
          exact en_s_iret rfl rfl
        rw [if_neg c54] at h
        refine en_s_table [(0, 88), (1, 95), (2, 102), (3, 109), (4, 115), (5, 122), (6, 130)] rfl (by decide) (en_sw_miss c36 (en_sw_miss c39 (en_sw_miss c42 (en_sw_miss c45 (en_sw_miss c48 (en_sw_miss c51 (en_sw_miss c54 en_sw_nil))))))) ?_
        refine en_s_aload_n rfl rfl ?_
        refine en_s_iload_n rfl rfl ?_
        obtain ⟨t57, h58, h⟩ := en_b1_h h
        refine en_callV (as := [.inl v1]) (rest := []) (bc' := 0) (bs' := 0) hz rfl (s_mm_jitter G hz (d + 3) h58) lk_10_297 mv_mm_jitter rfl rfl rfl rfl rfl (fun _ h => h) (Nat.le_refl _) (Nat.le_refl _) ?_
        cases h
        exact en_s_iret rfl rfl
      · rw [if_neg c33] at h
        refine en_s_iconst rfl ?_
        cases h
        exact en_s_iret rfl rfl
  · rw [if_pos c1] at h
    refine en_s_iconst rfl ?_
    refine en_s_goto rfl ?_
    obtain ⟨s59, e60, h⟩ := en_let_h h
    refine en_p_putI e60 rfl rfl rfl rfl rfl ?_
    refine en_s_aload_n rfl rfl ?_
    refine en_s_getI rfl rfl rfl ?_
    refine en_s_if_le rfl (fun c61 => ?_) (fun c61 => ?_)
    · rw [if_pos c61] at h
      refine en_s_aload_n rfl rfl ?_
      obtain ⟨s62, h63, h⟩ := en_b1_h h
      refine en_callV (as := []) (rest := []) (bc' := 0) (bs' := 0) hz rfl (s_mm_times G hz (d + 0) h63) lk_10_144 mv_mm_times rfl rfl rfl rfl rfl (fun _ h => h) (Nat.le_refl _) (Nat.le_refl _) ?_
      refine en_s_iload_n rfl rfl ?_
      by_cases c64 : v2 = 0
      · rw [if_pos c64] at h
        refine en_s_table [(0, 88), (1, 95), (2, 102), (3, 109), (4, 115), (5, 122), (6, 130)] rfl (by decide) (en_sw_hit c64) ?_
        refine en_s_aload_n rfl rfl ?_
        refine en_s_iload_n rfl rfl ?_
        refine en_s_iconst rfl ?_
        obtain ⟨t65, h66, h⟩ := en_b1_h h
        refine en_callV (as := [.inl v1, .inl 0]) (rest := []) (bc' := 0) (bs' := 0) hz rfl (s_mm_flowAt G hz (d + 4) h66) lk_10_89 mv_mm_flowAt rfl rfl rfl rfl rfl (fun _ h => h) (Nat.le_refl _) (Nat.le_refl _) ?_
        cases h
        exact en_s_iret rfl rfl
      rw [if_neg c64] at h
      by_cases c67 : v2 = 1
      · rw [if_pos c67] at h
        refine en_s_table [(0, 88), (1, 95), (2, 102), (3, 109), (4, 115), (5, 122), (6, 130)] rfl (by decide) (en_sw_miss c64 (en_sw_hit c67)) ?_
        refine en_s_aload_n rfl rfl ?_
        refine en_s_iload_n rfl rfl ?_
        refine en_s_iconst rfl ?_
        obtain ⟨t68, h69, h⟩ := en_b1_h h
        refine en_callV (as := [.inl v1, .inl 1]) (rest := []) (bc' := 0) (bs' := 0) hz rfl (s_mm_flowAt G hz (d + 4) h69) lk_10_89 mv_mm_flowAt rfl rfl rfl rfl rfl (fun _ h => h) (Nat.le_refl _) (Nat.le_refl _) ?_
        cases h
        exact en_s_iret rfl rfl
      rw [if_neg c67] at h
      by_cases c70 : v2 = 2
      · rw [if_pos c70] at h
        refine en_s_table [(0, 88), (1, 95), (2, 102), (3, 109), (4, 115), (5, 122), (6, 130)] rfl (by decide) (en_sw_miss c64 (en_sw_miss c67 (en_sw_hit c70))) ?_
        refine en_s_aload_n rfl rfl ?_
        refine en_s_iload_n rfl rfl ?_
        refine en_s_iconst rfl ?_
        obtain ⟨t71, h72, h⟩ := en_b1_h h
        refine en_callV (as := [.inl v1, .inl 2]) (rest := []) (bc' := 0) (bs' := 0) hz rfl (s_mm_flowAt G hz (d + 4) h72) lk_10_89 mv_mm_flowAt rfl rfl rfl rfl rfl (fun _ h => h) (Nat.le_refl _) (Nat.le_refl _) ?_
        cases h
        exact en_s_iret rfl rfl
      rw [if_neg c70] at h
      by_cases c73 : v2 = 3
      · rw [if_pos c73] at h
        refine en_s_table [(0, 88), (1, 95), (2, 102), (3, 109), (4, 115), (5, 122), (6, 130)] rfl (by decide) (en_sw_miss c64 (en_sw_miss c67 (en_sw_miss c70 (en_sw_hit c73)))) ?_
        refine en_s_aload_n rfl rfl ?_
        refine en_s_iload_n rfl rfl ?_
        obtain ⟨t74, h75, h⟩ := en_b1_h h
        refine en_callV (as := [.inl v1]) (rest := []) (bc' := 0) (bs' := 0) hz rfl (s_mm_leftBehind G hz (d + 0) h75) lk_10_271 mv_mm_leftBehind rfl rfl rfl rfl rfl (fun _ h => h) (Nat.le_refl _) (Nat.le_refl _) ?_
        cases h
        exact en_s_iret rfl rfl
      rw [if_neg c73] at h
      by_cases c76 : v2 = 4
      · rw [if_pos c76] at h
        refine en_s_table [(0, 88), (1, 95), (2, 102), (3, 109), (4, 115), (5, 122), (6, 130)] rfl (by decide) (en_sw_miss c64 (en_sw_miss c67 (en_sw_miss c70 (en_sw_miss c73 (en_sw_hit c76))))) ?_
        refine en_s_aload_n rfl rfl ?_
        refine en_s_getR (w := some (31, 0, 0)) rfl rfl rfl rfl ?_
        refine en_s_iload_n rfl rfl ?_
        obtain ⟨t77, h78, h⟩ := en_b1_h h
        refine en_s_iald rfl rfl h78 ?_
        cases h
        exact en_s_iret rfl rfl
      rw [if_neg c76] at h
      by_cases c79 : v2 = 5
      · rw [if_pos c79] at h
        refine en_s_table [(0, 88), (1, 95), (2, 102), (3, 109), (4, 115), (5, 122), (6, 130)] rfl (by decide) (en_sw_miss c64 (en_sw_miss c67 (en_sw_miss c70 (en_sw_miss c73 (en_sw_miss c76 (en_sw_hit c79)))))) ?_
        refine en_s_aload_n rfl rfl ?_
        refine en_s_iload_n rfl rfl ?_
        refine en_s_bipush rfl ?_
        obtain ⟨t80, h81, h⟩ := en_b1_h h
        refine en_callV (as := [.inl v1, .inl 7]) (rest := []) (bc' := 0) (bs' := 0) hz rfl (s_mm_flowAt G hz (d + 4) h81) lk_10_89 mv_mm_flowAt rfl rfl rfl rfl rfl (fun _ h => h) (Nat.le_refl _) (Nat.le_refl _) ?_
        cases h
        exact en_s_iret rfl rfl
      rw [if_neg c79] at h
      by_cases c82 : v2 = 6
      · rw [if_pos c82] at h
        refine en_s_table [(0, 88), (1, 95), (2, 102), (3, 109), (4, 115), (5, 122), (6, 130)] rfl (by decide) (en_sw_miss c64 (en_sw_miss c67 (en_sw_miss c70 (en_sw_miss c73 (en_sw_miss c76 (en_sw_miss c79 (en_sw_hit c82))))))) ?_
        refine en_s_aload_n rfl rfl ?_
        refine en_s_iload_n rfl rfl ?_
        refine en_s_bipush rfl ?_
        obtain ⟨t83, h84, h⟩ := en_b1_h h
        refine en_callV (as := [.inl v1, .inl 8]) (rest := []) (bc' := 0) (bs' := 0) hz rfl (s_mm_flowAt G hz (d + 4) h84) lk_10_89 mv_mm_flowAt rfl rfl rfl rfl rfl (fun _ h => h) (Nat.le_refl _) (Nat.le_refl _) ?_
        cases h
        exact en_s_iret rfl rfl
      rw [if_neg c82] at h
      refine en_s_table [(0, 88), (1, 95), (2, 102), (3, 109), (4, 115), (5, 122), (6, 130)] rfl (by decide) (en_sw_miss c64 (en_sw_miss c67 (en_sw_miss c70 (en_sw_miss c73 (en_sw_miss c76 (en_sw_miss c79 (en_sw_miss c82 en_sw_nil))))))) ?_
      refine en_s_aload_n rfl rfl ?_
      refine en_s_iload_n rfl rfl ?_
      obtain ⟨t85, h86, h⟩ := en_b1_h h
      refine en_callV (as := [.inl v1]) (rest := []) (bc' := 0) (bs' := 0) hz rfl (s_mm_jitter G hz (d + 3) h86) lk_10_297 mv_mm_jitter rfl rfl rfl rfl rfl (fun _ h => h) (Nat.le_refl _) (Nat.le_refl _) ?_
      cases h
      exact en_s_iret rfl rfl
    · rw [if_neg c61] at h
      refine en_s_iconst rfl ?_
      cases h
      exact en_s_iret rfl rfl
def k_mm_holder (v1 : Int32) (v2 : Int32) (σ : en_M) : Option (Int32 × en_M) :=
  if (k_mm_isKnown v1 σ) = 0 then
    en_let (en_wr σ 24 0 0 0 1) fun s2 =>
    if (s2 24 0 0 0) ≤ 0 then
      en_b1 (k_mm_of v1 2 s2) fun t5 =>
      en_b1 (en_dv v2 t5) fun t7 =>
      some (t7, s2)
    else
      some (0, s2)
  else
    en_b1 (k_mm_piecesOf v1 σ) fun t9 =>
    if t9 ≤ 0 then
      en_let (en_wr σ 24 0 0 0 1) fun s12 =>
      if (s12 24 0 0 0) ≤ 0 then
        en_b1 (k_mm_of v1 2 s12) fun t15 =>
        en_b1 (en_dv v2 t15) fun t17 =>
        some (t17, s12)
      else
        some (0, s12)
    else
      en_b1 (k_mm_of v1 1 σ) fun t19 =>
      if (k_mm_isIn v2 0 (t19 - 1)) = 0 then
        en_let (en_wr σ 24 0 0 0 1) fun s22 =>
        if (s22 24 0 0 0) ≤ 0 then
          en_b1 (k_mm_of v1 2 s22) fun t25 =>
          en_b1 (en_dv v2 t25) fun t27 =>
          some (t27, s22)
        else
          some (0, s22)
      else
        en_let (en_wr σ 24 0 0 0 0) fun s29 =>
        if (s29 24 0 0 0) ≤ 0 then
          en_b1 (k_mm_of v1 2 s29) fun t32 =>
          en_b1 (en_dv v2 t32) fun t34 =>
          some (t34, s29)
        else
          some (0, s29)
set_option maxRecDepth 100000 in
set_option maxHeartbeats 4000000 in
theorem s_mm_holder (G : en_G) (hz : G.2.2.2.2.2.2.2.2 = none) (d : Nat) {cs : List en_A} {σ : en_M} {v1 : Int32} {v2 : Int32} {x0 : Int32} {s0 : en_M}  (h : k_mm_holder v1 v2 σ = some (x0, s0)) : en_Mt G (d + 4) 0 0 M_mm_holder [.inr (.inl (some (24, 0, 0))), .inl v1, .inl v2] cs en_rf σ (.inr (some (.inl x0))) cs en_rf s0 := by
  refine en_meth (ls := [some (.inr (.inl (some (24, 0, 0)))), some (.inl v1), some (.inl v2)]) md_mm_holder rfl rfl rfl ?_
  unfold k_mm_holder at h
  refine en_s_aload_n rfl rfl ?_
  refine en_s_aload_n rfl rfl ?_
  refine en_s_iload_n rfl rfl ?_
  refine en_callV (as := [.inl v1]) (rest := [.inr (.inl (some (24, 0, 0)))]) (bc' := 0) (bs' := 0) hz rfl (s_mm_isKnown G hz (d + 2) rfl) lk_10_274 mv_mm_isKnown rfl rfl rfl rfl rfl (fun _ h => h) (Nat.le_refl _) (Nat.le_refl _) ?_
  refine en_s_if_eq rfl (fun c1 => ?_) (fun c1 => ?_)
  · rw [if_pos c1] at h
    refine en_s_iconst rfl ?_
    obtain ⟨s2, e3, h⟩ := en_let_h h
    refine en_p_putI e3 rfl rfl rfl rfl rfl ?_
    refine en_s_aload_n rfl rfl ?_
    refine en_s_getI rfl rfl rfl ?_
    refine en_s_if_le rfl (fun c4 => ?_) (fun c4 => ?_)
    · rw [if_pos c4] at h
      refine en_s_iload_n rfl rfl ?_
      refine en_s_aload_n rfl rfl ?_
      refine en_s_iload_n rfl rfl ?_
      refine en_s_iconst rfl ?_
      obtain ⟨t5, h6, h⟩ := en_b1_h h
      refine en_callV (as := [.inl v1, .inl 2]) (rest := [.inl v2]) (bc' := 0) (bs' := 0) hz rfl (s_mm_of G hz (d + 2) h6) lk_10_66 mv_mm_of rfl rfl rfl rfl rfl (fun _ h => h) (Nat.le_refl _) (Nat.le_refl _) ?_
      obtain ⟨t7, h8, h⟩ := en_b1_h h
      refine en_p_idiv h8 rfl ?_
      cases h
      exact en_s_iret rfl rfl
    · rw [if_neg c4] at h
      refine en_s_iconst rfl ?_
      refine en_s_goto rfl ?_
      cases h
      exact en_s_iret rfl rfl
  · rw [if_neg c1] at h
    refine en_s_aload_n rfl rfl ?_
    refine en_s_iload_n rfl rfl ?_
    obtain ⟨t9, h10, h⟩ := en_b1_h h
    refine en_callV (as := [.inl v1]) (rest := [.inr (.inl (some (24, 0, 0)))]) (bc' := 0) (bs' := 0) hz rfl (s_mm_piecesOf G hz (d + 0) h10) lk_10_82 mv_mm_piecesOf rfl rfl rfl rfl rfl (fun _ h => h) (Nat.le_refl _) (Nat.le_refl _) ?_
    refine en_s_if_le rfl (fun c11 => ?_) (fun c11 => ?_)
    · rw [if_pos c11] at h
      refine en_s_iconst rfl ?_
      obtain ⟨s12, e13, h⟩ := en_let_h h
      refine en_p_putI e13 rfl rfl rfl rfl rfl ?_
      refine en_s_aload_n rfl rfl ?_
      refine en_s_getI rfl rfl rfl ?_
      refine en_s_if_le rfl (fun c14 => ?_) (fun c14 => ?_)
      · rw [if_pos c14] at h
        refine en_s_iload_n rfl rfl ?_
        refine en_s_aload_n rfl rfl ?_
        refine en_s_iload_n rfl rfl ?_
        refine en_s_iconst rfl ?_
        obtain ⟨t15, h16, h⟩ := en_b1_h h
        refine en_callV (as := [.inl v1, .inl 2]) (rest := [.inl v2]) (bc' := 0) (bs' := 0) hz rfl (s_mm_of G hz (d + 2) h16) lk_10_66 mv_mm_of rfl rfl rfl rfl rfl (fun _ h => h) (Nat.le_refl _) (Nat.le_refl _) ?_
        obtain ⟨t17, h18, h⟩ := en_b1_h h
        refine en_p_idiv h18 rfl ?_
        cases h
        exact en_s_iret rfl rfl
      · rw [if_neg c14] at h
        refine en_s_iconst rfl ?_
        refine en_s_goto rfl ?_
        cases h
        exact en_s_iret rfl rfl
    · rw [if_neg c11] at h
      refine en_s_iload_n rfl rfl ?_
      refine en_s_iconst rfl ?_
      refine en_s_aload_n rfl rfl ?_
      refine en_s_iload_n rfl rfl ?_
      refine en_s_iconst rfl ?_
      obtain ⟨t19, h20, h⟩ := en_b1_h h
      refine en_callV (as := [.inl v1, .inl 1]) (rest := [.inl 0, .inl v2, .inr (.inl (some (24, 0, 0)))]) (bc' := 0) (bs' := 0) hz rfl (s_mm_of G hz (d + 2) h20) lk_10_66 mv_mm_of rfl rfl rfl rfl rfl (fun _ h => h) (Nat.le_refl _) (Nat.le_refl _) ?_
      refine en_s_iconst rfl ?_
      refine en_s_isub rfl ?_
      refine en_callS (as := [.inl v2, .inl 0, .inl (t19 - 1)]) (rest := [.inr (.inl (some (24, 0, 0)))]) (bc' := 0) (bs' := 0) hz rfl (s_mm_isIn G hz (d + 3) rfl) lk_10_54 mv_mm_isIn rfl rfl rfl (fun _ h => h) (Nat.le_refl _) (Nat.le_refl _) ?_
      refine en_s_if_eq rfl (fun c21 => ?_) (fun c21 => ?_)
      · rw [if_pos c21] at h
        refine en_s_iconst rfl ?_
        obtain ⟨s22, e23, h⟩ := en_let_h h
        refine en_p_putI e23 rfl rfl rfl rfl rfl ?_
        refine en_s_aload_n rfl rfl ?_
        refine en_s_getI rfl rfl rfl ?_
        refine en_s_if_le rfl (fun c24 => ?_) (fun c24 => ?_)
        · rw [if_pos c24] at h
          refine en_s_iload_n rfl rfl ?_
          refine en_s_aload_n rfl rfl ?_
          refine en_s_iload_n rfl rfl ?_
          refine en_s_iconst rfl ?_
          obtain ⟨t25, h26, h⟩ := en_b1_h h
          refine en_callV (as := [.inl v1, .inl 2]) (rest := [.inl v2]) (bc' := 0) (bs' := 0) hz rfl (s_mm_of G hz (d + 2) h26) lk_10_66 mv_mm_of rfl rfl rfl rfl rfl (fun _ h => h) (Nat.le_refl _) (Nat.le_refl _) ?_
          obtain ⟨t27, h28, h⟩ := en_b1_h h
          refine en_p_idiv h28 rfl ?_
          cases h
          exact en_s_iret rfl rfl
        · rw [if_neg c24] at h
          refine en_s_iconst rfl ?_
          refine en_s_goto rfl ?_
          cases h
          exact en_s_iret rfl rfl
      · rw [if_neg c21] at h
        refine en_s_iconst rfl ?_
        refine en_s_goto rfl ?_
        obtain ⟨s29, e30, h⟩ := en_let_h h
        refine en_p_putI e30 rfl rfl rfl rfl rfl ?_
        refine en_s_aload_n rfl rfl ?_
        refine en_s_getI rfl rfl rfl ?_
        refine en_s_if_le rfl (fun c31 => ?_) (fun c31 => ?_)
        · rw [if_pos c31] at h
          refine en_s_iload_n rfl rfl ?_
          refine en_s_aload_n rfl rfl ?_
          refine en_s_iload_n rfl rfl ?_
          refine en_s_iconst rfl ?_
          obtain ⟨t32, h33, h⟩ := en_b1_h h
          refine en_callV (as := [.inl v1, .inl 2]) (rest := [.inl v2]) (bc' := 0) (bs' := 0) hz rfl (s_mm_of G hz (d + 2) h33) lk_10_66 mv_mm_of rfl rfl rfl rfl rfl (fun _ h => h) (Nat.le_refl _) (Nat.le_refl _) ?_
          obtain ⟨t34, h35, h⟩ := en_b1_h h
          refine en_p_idiv h35 rfl ?_
          cases h
          exact en_s_iret rfl rfl
        · rw [if_neg c31] at h
          refine en_s_iconst rfl ?_
          refine en_s_goto rfl ?_
          cases h
          exact en_s_iret rfl rfl
def k_mm_image_7 (f0 : Nat) (v1 : Int32) (σ : en_M) : Option (en_M) := match f0 with
  | 0 => none
  | f9 + 1 =>
    if 938 ≤ v1 then
      some (σ)
    else
      en_b1 (en_rd 938 (σ 25 0 0) v1) fun t4 =>
      en_b1 (en_wa 938 σ 27 0 0 v1 t4) fun s6 =>
      k_mm_image_7 f9 (v1 + 1) s6
def k_mm_image  (σ : en_M) : Option (en_M) :=
  en_let (en_wr σ 24 0 0 0 0) fun s1 =>
  en_b1 (k_mm_image_7 en_fu 0 s1) fun s9 =>
  en_let (en_wr s9 24 0 0 6 1) fun s11 =>
  some s11
set_option maxRecDepth 100000 in
set_option maxHeartbeats 4000000 in
theorem s_mm_image_7 (G : en_G) (hz : G.2.2.2.2.2.2.2.2 = none) {d : Nat} {r : en_P} {cs cs' : List en_A} {ρ' : en_R} {σ' : en_M} : ∀ (f0 : Nat) {v1 : Int32}  {σ : en_M} {s0 : en_M} , k_mm_image_7 f0 v1 σ = some (s0) →
    (∀ (f1 : Option en_V), en_W G (d + 0) 0 0 M_mm_image r cs' ρ' σ' 0 0 32 [some (.inr (.inl (some (24, 0, 0)))), f1] [] cs en_rf s0) → en_W G (d + 0) 0 0 M_mm_image r cs' ρ' σ' 0 0 7 [some (.inr (.inl (some (24, 0, 0)))), some (.inl v1)] [] cs en_rf σ := by
  intro f0
  induction f0 with
  | zero =>
    intros
    rename_i h _
    cases h
  | succ f9 ih =>
    intro v1 σ s0 h hk
    rw [k_mm_image_7] at h
    refine en_s_iload_n rfl rfl ?_
    refine en_s_sipush rfl ?_
    refine en_s_icmp_ge rfl (fun c3 => ?_) (fun c3 => ?_)
    · rw [if_pos c3] at h
      cases h
      exact hk (some (.inl v1))
    · rw [if_neg c3] at h
      refine en_s_aload_n rfl rfl ?_
      refine en_s_getR (w := some (27, 0, 0)) rfl rfl rfl rfl ?_
      refine en_s_iload_n rfl rfl ?_
      refine en_s_aload_n rfl rfl ?_
      refine en_s_getR (w := some (25, 0, 0)) rfl rfl rfl rfl ?_
      refine en_s_iload_n rfl rfl ?_
      obtain ⟨t4, h5, h⟩ := en_b1_h h
      refine en_s_iald rfl rfl h5 ?_
      obtain ⟨s6, e7, h⟩ := en_b1_h h
      refine en_s_iast rfl rfl e7 ?_
      refine en_s_iinc (ls' := [some (.inr (.inl (some (24, 0, 0)))), some (.inl (v1 + 1))]) rfl rfl rfl ?_
      refine en_s_goto rfl ?_
      exact ih  h hk
set_option maxRecDepth 100000 in
set_option maxHeartbeats 4000000 in
theorem s_mm_image (G : en_G) (hz : G.2.2.2.2.2.2.2.2 = none) (d : Nat) {cs : List en_A} {σ : en_M}  {s0 : en_M}  (h : k_mm_image  σ = some s0) : en_Mt G (d + 0) 0 0 M_mm_image [.inr (.inl (some (24, 0, 0)))] cs en_rf σ (.inr (none)) cs en_rf s0 := by
  refine en_meth (ls := [some (.inr (.inl (some (24, 0, 0)))), none]) md_mm_image rfl rfl rfl ?_
  unfold k_mm_image at h
  refine en_s_aload_n rfl rfl ?_
  refine en_s_iconst rfl ?_
  obtain ⟨s1, e2, h⟩ := en_let_h h
  refine en_p_putI e2 rfl rfl rfl rfl rfl ?_
  refine en_s_iconst rfl ?_
  refine en_s_istore_n (ls' := [some (.inr (.inl (some (24, 0, 0)))), some (.inl 0)]) rfl rfl rfl ?_
  obtain ⟨s9, h10, h⟩ := en_b1_h h
  refine s_mm_image_7 G hz en_fu  h10 (fun f8 => ?_)
  refine en_s_aload_n rfl rfl ?_
  refine en_s_iconst rfl ?_
  obtain ⟨s11, e12, h⟩ := en_let_h h
  refine en_p_putZ e12 (by decide) rfl rfl rfl rfl rfl ?_
  cases h
  exact en_s_vret rfl rfl
def k_mm_last_19 (f0 : Nat) (v1 : Int32) (v2 : Int32) (σ : en_M) : Option ((Int32 × en_M) ⊕ (Int32)) := match f0 with
  | 0 => none
  | f9 + 1 =>
    if (σ 25 0 0 5) ≤ v2 then
      some (.inr (v1))
    else
      en_b1 (k_mm_of v2 4 σ) fun t6 =>
      if t6 = 1 then
        en_b1 (k_mm_endOf v2 σ) fun t9 =>
        if t9 = (-1) then
          some (.inl ((-1), σ))
        else
          en_b1 (k_mm_endOf v2 σ) fun t12 =>
          k_mm_last_19 f9 (k_mm_greater v1 t12) (v2 + 1) σ
      else
        k_mm_last_19 f9 v1 (v2 + 1) σ
def k_mm_last  (σ : en_M) : Option (Int32 × en_M) :=
  en_let (en_wr σ 24 0 0 0 0) fun s1 =>
  en_b1 (k_mm_plays s1) fun s3 =>
  en_rx (k_mm_last_19 en_fu (-1) (s3 25 0 0 6) s3) (fun r17 => some r17) (fun x14 =>
  if x14 = (-1) then
    some (s3 25 0 0 4, s3)
  else
    some (x14, s3))
set_option maxRecDepth 100000 in
set_option maxHeartbeats 4000000 in
theorem s_mm_last_19 (G : en_G) (hz : G.2.2.2.2.2.2.2.2 = none) {d : Nat} {r : en_P} {cs cs' : List en_A} {ρ' : en_R} {σ' : en_M} : ∀ (f0 : Nat) {v1 : Int32} {v2 : Int32}  {σ : en_M} {x9 : ((Int32 × en_M) ⊕ (Int32))} , k_mm_last_19 f0 v1 v2 σ = some x9 →
    (∀ a9, x9 = .inl a9 → r = .inr (some (.inl a9.1)) ∧ cs' = cs ∧ ρ' = en_rf ∧ σ' = a9.2) →
    (∀ (x1 : Int32), x9 = .inr x1 → ∀ (f2 : Option en_V), en_W G (d + 7) 0 0 M_mm_last r cs' ρ' σ' 0 0 69 [some (.inr (.inl (some (24, 0, 0)))), some (.inl x1), f2] [] cs en_rf σ) → en_W G (d + 7) 0 0 M_mm_last r cs' ρ' σ' 0 0 19 [some (.inr (.inl (some (24, 0, 0)))), some (.inl v1), some (.inl v2)] [] cs en_rf σ := by
  intro f0
  induction f0 with
  | zero =>
    intros
    rename_i h _ _
    cases h
  | succ f9 ih =>
    intro v1 v2 σ x9 h hr hk
    rw [k_mm_last_19] at h
    refine en_s_iload_n rfl rfl ?_
    refine en_s_aload_n rfl rfl ?_
    refine en_s_getR (w := some (25, 0, 0)) rfl rfl rfl rfl ?_
    refine en_s_iconst rfl ?_
    refine en_c_iald (q := 5) rfl rfl (by decide) (by decide) ?_
    refine en_s_icmp_ge rfl (fun c5 => ?_) (fun c5 => ?_)
    · rw [if_pos c5] at h
      obtain rfl := Option.some.inj h
      exact hk _ rfl (some (.inl v2))
    · rw [if_neg c5] at h
      refine en_s_aload_n rfl rfl ?_
      refine en_s_iload_n rfl rfl ?_
      refine en_s_iconst rfl ?_
      obtain ⟨t6, h7, h⟩ := en_b1_h h
      refine en_callV (as := [.inl v2, .inl 4]) (rest := []) (bc' := 0) (bs' := 0) hz rfl (s_mm_of G hz (d + 5) h7) lk_10_66 mv_mm_of rfl rfl rfl rfl rfl (fun _ h => h) (Nat.le_refl _) (Nat.le_refl _) ?_
      refine en_s_iconst rfl ?_
      refine en_s_icmp_eq rfl (fun c8 => ?_) (fun c8 => ?_)
      · rw [if_pos c8] at h
        refine en_s_aload_n rfl rfl ?_
        refine en_s_iload_n rfl rfl ?_
        obtain ⟨t9, h10, h⟩ := en_b1_h h
        refine en_callV (as := [.inl v2]) (rest := []) (bc' := 0) (bs' := 0) hz rfl (s_mm_endOf G hz (d + 2) h10) lk_10_325 mv_mm_endOf rfl rfl rfl rfl rfl (fun _ h => h) (Nat.le_refl _) (Nat.le_refl _) ?_
        refine en_s_iconst rfl ?_
        refine en_s_icmp_ne rfl (fun c11 => ?_) (fun c11 => ?_)
        · rw [if_neg c11] at h
          refine en_s_iload_n rfl rfl ?_
          refine en_s_aload_n rfl rfl ?_
          refine en_s_iload_n rfl rfl ?_
          obtain ⟨t12, h13, h⟩ := en_b1_h h
          refine en_callV (as := [.inl v2]) (rest := [.inl v1]) (bc' := 0) (bs' := 0) hz rfl (s_mm_endOf G hz (d + 2) h13) lk_10_325 mv_mm_endOf rfl rfl rfl rfl rfl (fun _ h => h) (Nat.le_refl _) (Nat.le_refl _) ?_
          refine en_callS (as := [.inl v1, .inl t12]) (rest := []) (bc' := 0) (bs' := 0) hz rfl (s_mm_greater G hz (d + 6) rfl) lk_10_62 mv_mm_greater rfl rfl rfl (fun _ h => h) (Nat.le_refl _) (Nat.le_refl _) ?_
          refine en_s_istore_n (ls' := [some (.inr (.inl (some (24, 0, 0)))), some (.inl (k_mm_greater v1 t12)), some (.inl v2)]) rfl rfl rfl ?_
          refine en_s_iinc (ls' := [some (.inr (.inl (some (24, 0, 0)))), some (.inl (k_mm_greater v1 t12)), some (.inl (v2 + 1))]) rfl rfl rfl ?_
          refine en_s_goto rfl ?_
          exact ih  h hr hk
        · rw [if_pos c11] at h
          refine en_s_iconst rfl ?_
          obtain rfl := Option.some.inj h
          obtain ⟨rfl, rfl, rfl, rfl⟩ := hr _ rfl
          exact en_s_iret rfl rfl
      · rw [if_neg c8] at h
        refine en_s_goto rfl ?_
        refine en_s_iinc (ls' := [some (.inr (.inl (some (24, 0, 0)))), some (.inl v1), some (.inl (v2 + 1))]) rfl rfl rfl ?_
        refine en_s_goto rfl ?_
        exact ih  h hr hk
set_option maxRecDepth 100000 in
set_option maxHeartbeats 4000000 in
theorem s_mm_last (G : en_G) (hz : G.2.2.2.2.2.2.2.2 = none) (d : Nat) {cs : List en_A} {σ : en_M}  {x0 : Int32} {s0 : en_M}  (h : k_mm_last  σ = some (x0, s0)) : en_Mt G (d + 7) 0 0 M_mm_last [.inr (.inl (some (24, 0, 0)))] cs en_rf σ (.inr (some (.inl x0))) cs en_rf s0 := by
  refine en_meth (ls := [some (.inr (.inl (some (24, 0, 0)))), none, none]) md_mm_last rfl rfl rfl ?_
  unfold k_mm_last at h
  refine en_s_aload_n rfl rfl ?_
  refine en_s_iconst rfl ?_
  obtain ⟨s1, e2, h⟩ := en_let_h h
  refine en_p_putI e2 rfl rfl rfl rfl rfl ?_
  refine en_s_aload_n rfl rfl ?_
  obtain ⟨s3, h4, h⟩ := en_b1_h h
  refine en_callV (as := []) (rest := []) (bc' := 0) (bs' := 0) hz rfl (s_mm_plays G hz (d + 0) h4) lk_10_322 mv_mm_plays rfl rfl rfl rfl rfl (fun _ h => h) (Nat.le_refl _) (Nat.le_refl _) ?_
  refine en_s_iconst rfl ?_
  refine en_s_istore_n (ls' := [some (.inr (.inl (some (24, 0, 0)))), some (.inl ((-1))), none]) rfl rfl rfl ?_
  refine en_s_aload_n rfl rfl ?_
  refine en_s_getR (w := some (25, 0, 0)) rfl rfl rfl rfl ?_
  refine en_s_bipush rfl ?_
  refine en_c_iald (q := 6) rfl rfl (by decide) (by decide) ?_
  refine en_s_istore_n (ls' := [some (.inr (.inl (some (24, 0, 0)))), some (.inl ((-1))), some (.inl (s3 25 0 0 6))]) rfl rfl rfl ?_
  rcases en_rx_h h with ⟨r17, h16, h⟩ | ⟨x14, h16, h⟩
  · obtain rfl := Option.some.inj h
    exact s_mm_last_19 G hz en_fu  h16 (fun _ e9 => by cases e9; exact ⟨rfl, rfl, rfl, rfl⟩) (fun _ e9 => by cases e9)
  · refine s_mm_last_19 G hz en_fu  h16 (fun _ e9 => by cases e9) (fun _ e9 f15 => ?_)
    cases e9
    refine en_s_iload_n rfl rfl ?_
    refine en_s_iconst rfl ?_
    refine en_s_icmp_ne rfl (fun c19 => ?_) (fun c19 => ?_)
    · rw [if_neg c19] at h
      refine en_s_iload_n rfl rfl ?_
      cases h
      exact en_s_iret rfl rfl
    · rw [if_pos c19] at h
      refine en_s_aload_n rfl rfl ?_
      refine en_s_getR (w := some (25, 0, 0)) rfl rfl rfl rfl ?_
      refine en_s_iconst rfl ?_
      refine en_c_iald (q := 4) rfl rfl (by decide) (by decide) ?_
      refine en_s_goto rfl ?_
      cases h
      exact en_s_iret rfl rfl
def k_mm_latest_20 (f0 : Nat) (v1 : Int32) (v2 : Int32) (v3 : Int32) (σ : en_M) : Option (Int32 × en_M) := match f0 with
  | 0 => none
  | f9 + 1 =>
    if v3 ≤ 0 then
      some (v3, σ)
    else
      en_b1 (en_rd 40 (σ 35 0 0) (v3 - 1)) fun t5 =>
      en_b1 (k_mm_lateOf t5 σ) fun t7 =>
      en_b1 (k_mm_lateOf v2 σ) fun t9 =>
      if t9 ≤ t7 then
        some (v3, σ)
      else
        en_b1 (en_rd 40 (σ 35 0 0) (v3 - 1)) fun t12 =>
        en_b1 (en_wa 40 σ 35 0 0 v3 t12) fun s14 =>
        k_mm_latest_20 f9 v1 v2 (v3 + (-1)) s14
def k_mm_latest_7 (f0 : Nat) (v1 : Int32) (v2 : Int32) (σ : en_M) : Option (en_M) := match f0 with
  | 0 => none
  | f9 + 1 =>
    if (σ 25 0 0 18) ≤ v2 then
      some (σ)
    else
      en_b2 (k_mm_latest_20 en_fu v1 v2 v2 σ) fun x16 s17 =>
      en_b1 (en_wa 40 s17 35 0 0 x16 v2) fun s19 =>
      k_mm_latest_7 f9 v1 (v2 + 1) s19
def k_mm_latest (v1 : Int32) (σ : en_M) : Option (Int32 × en_M) :=
  en_let (en_wr σ 24 0 0 0 0) fun s1 =>
  en_b1 (k_mm_latest_7 en_fu v1 0 s1) fun s23 =>
  if (k_mm_isIn v1 0 ((s23 25 0 0 18) - 1)) = 0 then
    some ((-1), s23)
  else
    en_b1 (en_rd 40 (s23 35 0 0) v1) fun t26 =>
    some (t26, s23)
set_option maxRecDepth 100000 in
set_option maxHeartbeats 4000000 in
theorem s_mm_latest_20 (G : en_G) (hz : G.2.2.2.2.2.2.2.2 = none) {d : Nat} {r : en_P} {cs cs' : List en_A} {ρ' : en_R} {σ' : en_M} : ∀ (f0 : Nat) {v1 : Int32} {v2 : Int32} {v3 : Int32}  {σ : en_M} {x3 : Int32} {s0 : en_M} , k_mm_latest_20 f0 v1 v2 v3 σ = some (x3, s0) →
    (∀ (_ : Unit), en_W G (d + 2) 0 0 M_mm_latest r cs' ρ' σ' 0 0 64 [some (.inr (.inl (some (24, 0, 0)))), some (.inl v1), some (.inl v2), some (.inl x3)] [] cs en_rf s0) → en_W G (d + 2) 0 0 M_mm_latest r cs' ρ' σ' 0 0 20 [some (.inr (.inl (some (24, 0, 0)))), some (.inl v1), some (.inl v2), some (.inl v3)] [] cs en_rf σ := by
  intro f0
  induction f0 with
  | zero =>
    intros
    rename_i h _
    cases h
  | succ f9 ih =>
    intro v1 v2 v3 σ x3 s0 h hk
    rw [k_mm_latest_20] at h
    refine en_s_iload_n rfl rfl ?_
    refine en_s_if_le rfl (fun c4 => ?_) (fun c4 => ?_)
    · rw [if_pos c4] at h
      cases h
      exact hk ()
    · rw [if_neg c4] at h
      refine en_s_aload_n rfl rfl ?_
      refine en_s_aload_n rfl rfl ?_
      refine en_s_getR (w := some (35, 0, 0)) rfl rfl rfl rfl ?_
      refine en_s_iload_n rfl rfl ?_
      refine en_s_iconst rfl ?_
      refine en_s_isub rfl ?_
      obtain ⟨t5, h6, h⟩ := en_b1_h h
      refine en_s_iald rfl rfl h6 ?_
      obtain ⟨t7, h8, h⟩ := en_b1_h h
      refine en_callV (as := [.inl t5]) (rest := []) (bc' := 0) (bs' := 0) hz rfl (s_mm_lateOf G hz (d + 0) h8) lk_10_303 mv_mm_lateOf rfl rfl rfl rfl rfl (fun _ h => h) (Nat.le_refl _) (Nat.le_refl _) ?_
      refine en_s_aload_n rfl rfl ?_
      refine en_s_iload_n rfl rfl ?_
      obtain ⟨t9, h10, h⟩ := en_b1_h h
      refine en_callV (as := [.inl v2]) (rest := [.inl t7]) (bc' := 0) (bs' := 0) hz rfl (s_mm_lateOf G hz (d + 0) h10) lk_10_303 mv_mm_lateOf rfl rfl rfl rfl rfl (fun _ h => h) (Nat.le_refl _) (Nat.le_refl _) ?_
      refine en_s_icmp_ge rfl (fun c11 => ?_) (fun c11 => ?_)
      · rw [if_pos c11] at h
        cases h
        exact hk ()
      · rw [if_neg c11] at h
        refine en_s_aload_n rfl rfl ?_
        refine en_s_getR (w := some (35, 0, 0)) rfl rfl rfl rfl ?_
        refine en_s_iload_n rfl rfl ?_
        refine en_s_aload_n rfl rfl ?_
        refine en_s_getR (w := some (35, 0, 0)) rfl rfl rfl rfl ?_
        refine en_s_iload_n rfl rfl ?_
        refine en_s_iconst rfl ?_
        refine en_s_isub rfl ?_
        obtain ⟨t12, h13, h⟩ := en_b1_h h
        refine en_s_iald rfl rfl h13 ?_
        obtain ⟨s14, e15, h⟩ := en_b1_h h
        refine en_s_iast rfl rfl e15 ?_
        refine en_s_iinc (ls' := [some (.inr (.inl (some (24, 0, 0)))), some (.inl v1), some (.inl v2), some (.inl (v3 + (-1)))]) rfl rfl rfl ?_
        refine en_s_goto rfl ?_
        exact ih  h hk
set_option maxRecDepth 100000 in
set_option maxHeartbeats 4000000 in
theorem s_mm_latest_7 (G : en_G) (hz : G.2.2.2.2.2.2.2.2 = none) {d : Nat} {r : en_P} {cs cs' : List en_A} {ρ' : en_R} {σ' : en_M} : ∀ (f0 : Nat) {v1 : Int32} {v2 : Int32} {e3 : Option en_V} {σ : en_M} {s0 : en_M} , k_mm_latest_7 f0 v1 v2 σ = some (s0) →
    (∀ (f2 : Option en_V) (f3 : Option en_V), en_W G (d + 2) 0 0 M_mm_latest r cs' ρ' σ' 0 0 77 [some (.inr (.inl (some (24, 0, 0)))), some (.inl v1), f2, f3] [] cs en_rf s0) → en_W G (d + 2) 0 0 M_mm_latest r cs' ρ' σ' 0 0 7 [some (.inr (.inl (some (24, 0, 0)))), some (.inl v1), some (.inl v2), e3] [] cs en_rf σ := by
  intro f0
  induction f0 with
  | zero =>
    intros
    rename_i h _
    cases h
  | succ f9 ih =>
    intro v1 v2 e3 σ s0 h hk
    rw [k_mm_latest_7] at h
    refine en_s_iload_n rfl rfl ?_
    refine en_s_aload_n rfl rfl ?_
    refine en_s_getR (w := some (25, 0, 0)) rfl rfl rfl rfl ?_
    refine en_s_bipush rfl ?_
    refine en_c_iald (q := 18) rfl rfl (by decide) (by decide) ?_
    refine en_s_icmp_ge rfl (fun c3 => ?_) (fun c3 => ?_)
    · rw [if_pos c3] at h
      cases h
      exact hk (some (.inl v2)) (e3)
    · rw [if_neg c3] at h
      refine en_s_iload_n rfl rfl ?_
      refine en_s_istore_n (ls' := [some (.inr (.inl (some (24, 0, 0)))), some (.inl v1), some (.inl v2), some (.inl v2)]) rfl rfl rfl ?_
      obtain ⟨x16, s17, h18, h⟩ := en_b2_h h
      refine s_mm_latest_20 G hz en_fu  h18 (fun _ => ?_)
      refine en_s_aload_n rfl rfl ?_
      refine en_s_getR (w := some (35, 0, 0)) rfl rfl rfl rfl ?_
      refine en_s_iload_n rfl rfl ?_
      refine en_s_iload_n rfl rfl ?_
      obtain ⟨s19, e20, h⟩ := en_b1_h h
      refine en_s_iast rfl rfl e20 ?_
      refine en_s_iinc (ls' := [some (.inr (.inl (some (24, 0, 0)))), some (.inl v1), some (.inl (v2 + 1)), some (.inl x16)]) rfl rfl rfl ?_
      refine en_s_goto rfl ?_
      exact ih (e3 := some (.inl x16)) h hk
set_option maxRecDepth 100000 in
set_option maxHeartbeats 4000000 in
theorem s_mm_latest (G : en_G) (hz : G.2.2.2.2.2.2.2.2 = none) (d : Nat) {cs : List en_A} {σ : en_M} {v1 : Int32} {x0 : Int32} {s0 : en_M}  (h : k_mm_latest v1 σ = some (x0, s0)) : en_Mt G (d + 2) 0 0 M_mm_latest [.inr (.inl (some (24, 0, 0))), .inl v1] cs en_rf σ (.inr (some (.inl x0))) cs en_rf s0 := by
  refine en_meth (ls := [some (.inr (.inl (some (24, 0, 0)))), some (.inl v1), none, none]) md_mm_latest rfl rfl rfl ?_
  unfold k_mm_latest at h
  refine en_s_aload_n rfl rfl ?_
  refine en_s_iconst rfl ?_
  obtain ⟨s1, e2, h⟩ := en_let_h h
  refine en_p_putI e2 rfl rfl rfl rfl rfl ?_
  refine en_s_iconst rfl ?_
  refine en_s_istore_n (ls' := [some (.inr (.inl (some (24, 0, 0)))), some (.inl v1), some (.inl 0), none]) rfl rfl rfl ?_
  obtain ⟨s23, h24, h⟩ := en_b1_h h
  refine s_mm_latest_7 G hz en_fu (e3 := none) h24 (fun f21 f22 => ?_)
  refine en_s_iload_n rfl rfl ?_
  refine en_s_iconst rfl ?_
  refine en_s_aload_n rfl rfl ?_
  refine en_s_getR (w := some (25, 0, 0)) rfl rfl rfl rfl ?_
  refine en_s_bipush rfl ?_
  refine en_c_iald (q := 18) rfl rfl (by decide) (by decide) ?_
  refine en_s_iconst rfl ?_
  refine en_s_isub rfl ?_
  refine en_callS (as := [.inl v1, .inl 0, .inl ((s23 25 0 0 18) - 1)]) (rest := []) (bc' := 0) (bs' := 0) hz rfl (s_mm_isIn G hz (d + 1) rfl) lk_10_54 mv_mm_isIn rfl rfl rfl (fun _ h => h) (Nat.le_refl _) (Nat.le_refl _) ?_
  refine en_s_if_eq rfl (fun c25 => ?_) (fun c25 => ?_)
  · rw [if_pos c25] at h
    refine en_s_iconst rfl ?_
    cases h
    exact en_s_iret rfl rfl
  · rw [if_neg c25] at h
    refine en_s_aload_n rfl rfl ?_
    refine en_s_getR (w := some (35, 0, 0)) rfl rfl rfl rfl ?_
    refine en_s_iload_n rfl rfl ?_
    obtain ⟨t26, h27, h⟩ := en_b1_h h
    refine en_s_iald rfl rfl h27 ?_
    refine en_s_goto rfl ?_
    cases h
    exact en_s_iret rfl rfl
def k_mm_least_82 (f0 : Nat) (v1 : Int32) (v2 : Int32) (v3 : Int32) (v4 : Int32) (v5 : Int32) (v6 : Int32) (σ : en_M) : Option (Int32 × en_M) := match f0 with
  | 0 => none
  | f9 + 1 =>
    if 1000 ≤ v6 then
      some (v5, σ)
    else
      if v5 = (-1) then
        en_b1 (en_wa 938 σ 25 0 0 v3 v6) fun s15 =>
        en_b1 (k_mm_plays s15) fun s17 =>
        en_b1 (k_mm_endOf v1 s17) fun t19 =>
        if t19 = (-1) then
          k_mm_least_82 f9 v1 v2 v3 v4 v5 (v6 + 1) s17
        else
          if v2 < t19 then
            k_mm_least_82 f9 v1 v2 v3 v4 v5 (v6 + 1) s17
          else
            k_mm_least_82 f9 v1 v2 v3 v4 v6 (v6 + 1) s17
      else
        some (v5, σ)
def k_mm_least (v1 : Int32) (v2 : Int32) (σ : en_M) : Option (Int32 × en_M) :=
  if (k_mm_isKnown v1 σ) = 0 then
    en_let (en_wr σ 24 0 0 0 1) fun s47 =>
    if (s47 24 0 0 0) ≤ 0 then
      en_b1 (k_mm_of v1 4 s47) fun t50 =>
      if t50 = 1 then
        en_b1 (k_mm_of v1 0 s47) fun t53 =>
        en_b1 (en_rd 938 (s47 25 0 0) ((20 + (9 * t53)) + 0)) fun t55 =>
        en_b2 (k_mm_least_82 en_fu v1 v2 ((20 + (9 * t53)) + 0) t55 (-1) 1 s47) fun x57 s60 =>
        en_b1 (en_wa 938 s60 25 0 0 ((20 + (9 * t53)) + 0) t55) fun s62 =>
        some (x57, s62)
      else
        some ((-1), s47)
    else
      some (0, s47)
  else
    if (k_mm_isIn v2 0 9999) = 0 then
      en_let (en_wr σ 24 0 0 0 2) fun s30 =>
      if (s30 24 0 0 0) ≤ 0 then
        en_b1 (k_mm_of v1 4 s30) fun t33 =>
        if t33 = 1 then
          en_b1 (k_mm_of v1 0 s30) fun t36 =>
          en_b1 (en_rd 938 (s30 25 0 0) ((20 + (9 * t36)) + 0)) fun t38 =>
          en_b2 (k_mm_least_82 en_fu v1 v2 ((20 + (9 * t36)) + 0) t38 (-1) 1 s30) fun x40 s43 =>
          en_b1 (en_wa 938 s43 25 0 0 ((20 + (9 * t36)) + 0) t38) fun s45 =>
          some (x40, s45)
        else
          some ((-1), s30)
      else
        some (0, s30)
    else
      en_let (en_wr σ 24 0 0 0 0) fun s3 =>
      if (s3 24 0 0 0) ≤ 0 then
        en_b1 (k_mm_of v1 4 s3) fun t6 =>
        if t6 = 1 then
          en_b1 (k_mm_of v1 0 s3) fun t9 =>
          en_b1 (en_rd 938 (s3 25 0 0) ((20 + (9 * t9)) + 0)) fun t11 =>
          en_b2 (k_mm_least_82 en_fu v1 v2 ((20 + (9 * t9)) + 0) t11 (-1) 1 s3) fun x23 s26 =>
          en_b1 (en_wa 938 s26 25 0 0 ((20 + (9 * t9)) + 0) t11) fun s28 =>
          some (x23, s28)
        else
          some ((-1), s3)
      else
        some (0, s3)
set_option maxRecDepth 100000 in
set_option maxHeartbeats 4000000 in
theorem s_mm_least_82 (G : en_G) (hz : G.2.2.2.2.2.2.2.2 = none) {d : Nat} {r : en_P} {cs cs' : List en_A} {ρ' : en_R} {σ' : en_M} : ∀ (f0 : Nat) {v1 : Int32} {v2 : Int32} {v3 : Int32} {v4 : Int32} {v5 : Int32} {v6 : Int32} {e7 : Option en_V} {σ : en_M} {x5 : Int32} {s0 : en_M} , k_mm_least_82 f0 v1 v2 v3 v4 v5 v6 σ = some (x5, s0) →
    (∀ (f6 : Option en_V) (f7 : Option en_V), en_W G (d + 7) 0 0 M_mm_least r cs' ρ' σ' 0 0 137 [some (.inr (.inl (some (24, 0, 0)))), some (.inl v1), some (.inl v2), some (.inl v3), some (.inl v4), some (.inl x5), f6, f7] [] cs en_rf s0) → en_W G (d + 7) 0 0 M_mm_least r cs' ρ' σ' 0 0 82 [some (.inr (.inl (some (24, 0, 0)))), some (.inl v1), some (.inl v2), some (.inl v3), some (.inl v4), some (.inl v5), some (.inl v6), e7] [] cs en_rf σ := by
  intro f0
  induction f0 with
  | zero =>
    intros
    rename_i h _
    cases h
  | succ f9 ih =>
    intro v1 v2 v3 v4 v5 v6 e7 σ x5 s0 h hk
    rw [k_mm_least_82] at h
    refine en_s_iload rfl rfl ?_
    refine en_s_sipush rfl ?_
    refine en_s_icmp_ge rfl (fun c13 => ?_) (fun c13 => ?_)
    · rw [if_pos c13] at h
      cases h
      exact hk (some (.inl v6)) (e7)
    · rw [if_neg c13] at h
      refine en_s_iload rfl rfl ?_
      refine en_s_iconst rfl ?_
      refine en_s_icmp_ne rfl (fun c14 => ?_) (fun c14 => ?_)
      · rw [if_neg c14] at h
        cases h
        exact hk (some (.inl v6)) (e7)
      · rw [if_pos c14] at h
        refine en_s_aload_n rfl rfl ?_
        refine en_s_getR (w := some (25, 0, 0)) rfl rfl rfl rfl ?_
        refine en_s_iload_n rfl rfl ?_
        refine en_s_iload rfl rfl ?_
        obtain ⟨s15, e16, h⟩ := en_b1_h h
        refine en_s_iast rfl rfl e16 ?_
        refine en_s_aload_n rfl rfl ?_
        obtain ⟨s17, h18, h⟩ := en_b1_h h
        refine en_callV (as := []) (rest := []) (bc' := 0) (bs' := 0) hz rfl (s_mm_plays G hz (d + 0) h18) lk_10_322 mv_mm_plays rfl rfl rfl rfl rfl (fun _ h => h) (Nat.le_refl _) (Nat.le_refl _) ?_
        refine en_s_aload_n rfl rfl ?_
        refine en_s_iload_n rfl rfl ?_
        obtain ⟨t19, h20, h⟩ := en_b1_h h
        refine en_callV (as := [.inl v1]) (rest := []) (bc' := 0) (bs' := 0) hz rfl (s_mm_endOf G hz (d + 2) h20) lk_10_325 mv_mm_endOf rfl rfl rfl rfl rfl (fun _ h => h) (Nat.le_refl _) (Nat.le_refl _) ?_
        refine en_s_istore (ls' := [some (.inr (.inl (some (24, 0, 0)))), some (.inl v1), some (.inl v2), some (.inl v3), some (.inl v4), some (.inl v5), some (.inl v6), some (.inl t19)]) rfl rfl rfl ?_
        refine en_s_iload rfl rfl ?_
        refine en_s_iconst rfl ?_
        refine en_s_icmp_eq rfl (fun c21 => ?_) (fun c21 => ?_)
        · rw [if_pos c21] at h
          refine en_s_iinc (ls' := [some (.inr (.inl (some (24, 0, 0)))), some (.inl v1), some (.inl v2), some (.inl v3), some (.inl v4), some (.inl v5), some (.inl (v6 + 1)), some (.inl t19)]) rfl rfl rfl ?_
          refine en_s_goto rfl ?_
          exact ih (e7 := some (.inl t19)) h hk
        · rw [if_neg c21] at h
          refine en_s_iload rfl rfl ?_
          refine en_s_iload_n rfl rfl ?_
          refine en_s_icmp_gt rfl (fun c22 => ?_) (fun c22 => ?_)
          · rw [if_pos c22] at h
            refine en_s_iinc (ls' := [some (.inr (.inl (some (24, 0, 0)))), some (.inl v1), some (.inl v2), some (.inl v3), some (.inl v4), some (.inl v5), some (.inl (v6 + 1)), some (.inl t19)]) rfl rfl rfl ?_
            refine en_s_goto rfl ?_
            exact ih (e7 := some (.inl t19)) h hk
          · rw [if_neg c22] at h
            refine en_s_iload rfl rfl ?_
            refine en_s_istore (ls' := [some (.inr (.inl (some (24, 0, 0)))), some (.inl v1), some (.inl v2), some (.inl v3), some (.inl v4), some (.inl v6), some (.inl v6), some (.inl t19)]) rfl rfl rfl ?_
            refine en_s_iinc (ls' := [some (.inr (.inl (some (24, 0, 0)))), some (.inl v1), some (.inl v2), some (.inl v3), some (.inl v4), some (.inl v6), some (.inl (v6 + 1)), some (.inl t19)]) rfl rfl rfl ?_
            refine en_s_goto rfl ?_
            exact ih (e7 := some (.inl t19)) h hk
set_option maxRecDepth 100000 in
set_option maxHeartbeats 4000000 in
theorem s_mm_least (G : en_G) (hz : G.2.2.2.2.2.2.2.2 = none) (d : Nat) {cs : List en_A} {σ : en_M} {v1 : Int32} {v2 : Int32} {x0 : Int32} {s0 : en_M}  (h : k_mm_least v1 v2 σ = some (x0, s0)) : en_Mt G (d + 7) 0 0 M_mm_least [.inr (.inl (some (24, 0, 0))), .inl v1, .inl v2] cs en_rf σ (.inr (some (.inl x0))) cs en_rf s0 := by
  refine en_meth (ls := [some (.inr (.inl (some (24, 0, 0)))), some (.inl v1), some (.inl v2), none, none, none, none, none]) md_mm_least rfl rfl rfl ?_
  unfold k_mm_least at h
  refine en_s_aload_n rfl rfl ?_
  refine en_s_aload_n rfl rfl ?_
  refine en_s_iload_n rfl rfl ?_
  refine en_callV (as := [.inl v1]) (rest := [.inr (.inl (some (24, 0, 0)))]) (bc' := 0) (bs' := 0) hz rfl (s_mm_isKnown G hz (d + 5) rfl) lk_10_274 mv_mm_isKnown rfl rfl rfl rfl rfl (fun _ h => h) (Nat.le_refl _) (Nat.le_refl _) ?_
  refine en_s_if_ne rfl (fun c1 => ?_) (fun c1 => ?_)
  · rw [if_neg c1] at h
    refine en_s_iload_n rfl rfl ?_
    refine en_s_iconst rfl ?_
    refine en_s_sipush rfl ?_
    refine en_callS (as := [.inl v2, .inl 0, .inl 9999]) (rest := [.inr (.inl (some (24, 0, 0)))]) (bc' := 0) (bs' := 0) hz rfl (s_mm_isIn G hz (d + 6) rfl) lk_10_54 mv_mm_isIn rfl rfl rfl (fun _ h => h) (Nat.le_refl _) (Nat.le_refl _) ?_
    refine en_s_if_ne rfl (fun c2 => ?_) (fun c2 => ?_)
    · rw [if_neg c2] at h
      refine en_s_iconst rfl ?_
      obtain ⟨s3, e4, h⟩ := en_let_h h
      refine en_p_putI e4 rfl rfl rfl rfl rfl ?_
      refine en_s_aload_n rfl rfl ?_
      refine en_s_getI rfl rfl rfl ?_
      refine en_s_if_le rfl (fun c5 => ?_) (fun c5 => ?_)
      · rw [if_pos c5] at h
        refine en_s_aload_n rfl rfl ?_
        refine en_s_iload_n rfl rfl ?_
        refine en_s_iconst rfl ?_
        obtain ⟨t6, h7, h⟩ := en_b1_h h
        refine en_callV (as := [.inl v1, .inl 4]) (rest := []) (bc' := 0) (bs' := 0) hz rfl (s_mm_of G hz (d + 5) h7) lk_10_66 mv_mm_of rfl rfl rfl rfl rfl (fun _ h => h) (Nat.le_refl _) (Nat.le_refl _) ?_
        refine en_s_iconst rfl ?_
        refine en_s_icmp_eq rfl (fun c8 => ?_) (fun c8 => ?_)
        · rw [if_pos c8] at h
          refine en_s_bipush rfl ?_
          refine en_s_bipush rfl ?_
          refine en_s_aload_n rfl rfl ?_
          refine en_s_iload_n rfl rfl ?_
          refine en_s_iconst rfl ?_
          obtain ⟨t9, h10, h⟩ := en_b1_h h
          refine en_callV (as := [.inl v1, .inl 0]) (rest := [.inl 9, .inl 20]) (bc' := 0) (bs' := 0) hz rfl (s_mm_of G hz (d + 5) h10) lk_10_66 mv_mm_of rfl rfl rfl rfl rfl (fun _ h => h) (Nat.le_refl _) (Nat.le_refl _) ?_
          refine en_s_imul rfl ?_
          refine en_s_iadd rfl ?_
          refine en_s_iconst rfl ?_
          refine en_s_iadd rfl ?_
          refine en_s_istore_n (ls' := [some (.inr (.inl (some (24, 0, 0)))), some (.inl v1), some (.inl v2), some (.inl ((20 + (9 * t9)) + 0)), none, none, none, none]) rfl rfl rfl ?_
          refine en_s_aload_n rfl rfl ?_
          refine en_s_getR (w := some (25, 0, 0)) rfl rfl rfl rfl ?_
          refine en_s_iload_n rfl rfl ?_
          obtain ⟨t11, h12, h⟩ := en_b1_h h
          refine en_s_iald rfl rfl h12 ?_
          refine en_s_istore (ls' := [some (.inr (.inl (some (24, 0, 0)))), some (.inl v1), some (.inl v2), some (.inl ((20 + (9 * t9)) + 0)), some (.inl t11), none, none, none]) rfl rfl rfl ?_
          refine en_s_iconst rfl ?_
          refine en_s_istore (ls' := [some (.inr (.inl (some (24, 0, 0)))), some (.inl v1), some (.inl v2), some (.inl ((20 + (9 * t9)) + 0)), some (.inl t11), some (.inl ((-1))), none, none]) rfl rfl rfl ?_
          refine en_s_iconst rfl ?_
          refine en_s_istore (ls' := [some (.inr (.inl (some (24, 0, 0)))), some (.inl v1), some (.inl v2), some (.inl ((20 + (9 * t9)) + 0)), some (.inl t11), some (.inl ((-1))), some (.inl 1), none]) rfl rfl rfl ?_
          obtain ⟨x23, s26, h27, h⟩ := en_b2_h h
          refine s_mm_least_82 G hz en_fu (e7 := none) h27 (fun f24 f25 => ?_)
          refine en_s_aload_n rfl rfl ?_
          refine en_s_getR (w := some (25, 0, 0)) rfl rfl rfl rfl ?_
          refine en_s_iload_n rfl rfl ?_
          refine en_s_iload rfl rfl ?_
          obtain ⟨s28, e29, h⟩ := en_b1_h h
          refine en_s_iast rfl rfl e29 ?_
          refine en_s_iload rfl rfl ?_
          cases h
          exact en_s_iret rfl rfl
        · rw [if_neg c8] at h
          refine en_s_iconst rfl ?_
          cases h
          exact en_s_iret rfl rfl
      · rw [if_neg c5] at h
        refine en_s_iconst rfl ?_
        cases h
        exact en_s_iret rfl rfl
    · rw [if_pos c2] at h
      refine en_s_iconst rfl ?_
      refine en_s_goto rfl ?_
      obtain ⟨s30, e31, h⟩ := en_let_h h
      refine en_p_putI e31 rfl rfl rfl rfl rfl ?_
      refine en_s_aload_n rfl rfl ?_
      refine en_s_getI rfl rfl rfl ?_
      refine en_s_if_le rfl (fun c32 => ?_) (fun c32 => ?_)
      · rw [if_pos c32] at h
        refine en_s_aload_n rfl rfl ?_
        refine en_s_iload_n rfl rfl ?_
        refine en_s_iconst rfl ?_
        obtain ⟨t33, h34, h⟩ := en_b1_h h
        refine en_callV (as := [.inl v1, .inl 4]) (rest := []) (bc' := 0) (bs' := 0) hz rfl (s_mm_of G hz (d + 5) h34) lk_10_66 mv_mm_of rfl rfl rfl rfl rfl (fun _ h => h) (Nat.le_refl _) (Nat.le_refl _) ?_
        refine en_s_iconst rfl ?_
        refine en_s_icmp_eq rfl (fun c35 => ?_) (fun c35 => ?_)
        · rw [if_pos c35] at h
          refine en_s_bipush rfl ?_
          refine en_s_bipush rfl ?_
          refine en_s_aload_n rfl rfl ?_
          refine en_s_iload_n rfl rfl ?_
          refine en_s_iconst rfl ?_
          obtain ⟨t36, h37, h⟩ := en_b1_h h
          refine en_callV (as := [.inl v1, .inl 0]) (rest := [.inl 9, .inl 20]) (bc' := 0) (bs' := 0) hz rfl (s_mm_of G hz (d + 5) h37) lk_10_66 mv_mm_of rfl rfl rfl rfl rfl (fun _ h => h) (Nat.le_refl _) (Nat.le_refl _) ?_
          refine en_s_imul rfl ?_
          refine en_s_iadd rfl ?_
          refine en_s_iconst rfl ?_
          refine en_s_iadd rfl ?_
          refine en_s_istore_n (ls' := [some (.inr (.inl (some (24, 0, 0)))), some (.inl v1), some (.inl v2), some (.inl ((20 + (9 * t36)) + 0)), none, none, none, none]) rfl rfl rfl ?_
          refine en_s_aload_n rfl rfl ?_
          refine en_s_getR (w := some (25, 0, 0)) rfl rfl rfl rfl ?_
          refine en_s_iload_n rfl rfl ?_
          obtain ⟨t38, h39, h⟩ := en_b1_h h
          refine en_s_iald rfl rfl h39 ?_
          refine en_s_istore (ls' := [some (.inr (.inl (some (24, 0, 0)))), some (.inl v1), some (.inl v2), some (.inl ((20 + (9 * t36)) + 0)), some (.inl t38), none, none, none]) rfl rfl rfl ?_
          refine en_s_iconst rfl ?_
          refine en_s_istore (ls' := [some (.inr (.inl (some (24, 0, 0)))), some (.inl v1), some (.inl v2), some (.inl ((20 + (9 * t36)) + 0)), some (.inl t38), some (.inl ((-1))), none, none]) rfl rfl rfl ?_
          refine en_s_iconst rfl ?_
          refine en_s_istore (ls' := [some (.inr (.inl (some (24, 0, 0)))), some (.inl v1), some (.inl v2), some (.inl ((20 + (9 * t36)) + 0)), some (.inl t38), some (.inl ((-1))), some (.inl 1), none]) rfl rfl rfl ?_
          obtain ⟨x40, s43, h44, h⟩ := en_b2_h h
          refine s_mm_least_82 G hz en_fu (e7 := none) h44 (fun f41 f42 => ?_)
          refine en_s_aload_n rfl rfl ?_
          refine en_s_getR (w := some (25, 0, 0)) rfl rfl rfl rfl ?_
          refine en_s_iload_n rfl rfl ?_
          refine en_s_iload rfl rfl ?_
          obtain ⟨s45, e46, h⟩ := en_b1_h h
          refine en_s_iast rfl rfl e46 ?_
          refine en_s_iload rfl rfl ?_
          cases h
          exact en_s_iret rfl rfl
        · rw [if_neg c35] at h
          refine en_s_iconst rfl ?_
          cases h
          exact en_s_iret rfl rfl
      · rw [if_neg c32] at h
        refine en_s_iconst rfl ?_
        cases h
        exact en_s_iret rfl rfl
  · rw [if_pos c1] at h
    refine en_s_iconst rfl ?_
    refine en_s_goto rfl ?_
    obtain ⟨s47, e48, h⟩ := en_let_h h
    refine en_p_putI e48 rfl rfl rfl rfl rfl ?_
    refine en_s_aload_n rfl rfl ?_
    refine en_s_getI rfl rfl rfl ?_
    refine en_s_if_le rfl (fun c49 => ?_) (fun c49 => ?_)
    · rw [if_pos c49] at h
      refine en_s_aload_n rfl rfl ?_
      refine en_s_iload_n rfl rfl ?_
      refine en_s_iconst rfl ?_
      obtain ⟨t50, h51, h⟩ := en_b1_h h
      refine en_callV (as := [.inl v1, .inl 4]) (rest := []) (bc' := 0) (bs' := 0) hz rfl (s_mm_of G hz (d + 5) h51) lk_10_66 mv_mm_of rfl rfl rfl rfl rfl (fun _ h => h) (Nat.le_refl _) (Nat.le_refl _) ?_
      refine en_s_iconst rfl ?_
      refine en_s_icmp_eq rfl (fun c52 => ?_) (fun c52 => ?_)
      · rw [if_pos c52] at h
        refine en_s_bipush rfl ?_
        refine en_s_bipush rfl ?_
        refine en_s_aload_n rfl rfl ?_
        refine en_s_iload_n rfl rfl ?_
        refine en_s_iconst rfl ?_
        obtain ⟨t53, h54, h⟩ := en_b1_h h
        refine en_callV (as := [.inl v1, .inl 0]) (rest := [.inl 9, .inl 20]) (bc' := 0) (bs' := 0) hz rfl (s_mm_of G hz (d + 5) h54) lk_10_66 mv_mm_of rfl rfl rfl rfl rfl (fun _ h => h) (Nat.le_refl _) (Nat.le_refl _) ?_
        refine en_s_imul rfl ?_
        refine en_s_iadd rfl ?_
        refine en_s_iconst rfl ?_
        refine en_s_iadd rfl ?_
        refine en_s_istore_n (ls' := [some (.inr (.inl (some (24, 0, 0)))), some (.inl v1), some (.inl v2), some (.inl ((20 + (9 * t53)) + 0)), none, none, none, none]) rfl rfl rfl ?_
        refine en_s_aload_n rfl rfl ?_
        refine en_s_getR (w := some (25, 0, 0)) rfl rfl rfl rfl ?_
        refine en_s_iload_n rfl rfl ?_
        obtain ⟨t55, h56, h⟩ := en_b1_h h
        refine en_s_iald rfl rfl h56 ?_
        refine en_s_istore (ls' := [some (.inr (.inl (some (24, 0, 0)))), some (.inl v1), some (.inl v2), some (.inl ((20 + (9 * t53)) + 0)), some (.inl t55), none, none, none]) rfl rfl rfl ?_
        refine en_s_iconst rfl ?_
        refine en_s_istore (ls' := [some (.inr (.inl (some (24, 0, 0)))), some (.inl v1), some (.inl v2), some (.inl ((20 + (9 * t53)) + 0)), some (.inl t55), some (.inl ((-1))), none, none]) rfl rfl rfl ?_
        refine en_s_iconst rfl ?_
        refine en_s_istore (ls' := [some (.inr (.inl (some (24, 0, 0)))), some (.inl v1), some (.inl v2), some (.inl ((20 + (9 * t53)) + 0)), some (.inl t55), some (.inl ((-1))), some (.inl 1), none]) rfl rfl rfl ?_
        obtain ⟨x57, s60, h61, h⟩ := en_b2_h h
        refine s_mm_least_82 G hz en_fu (e7 := none) h61 (fun f58 f59 => ?_)
        refine en_s_aload_n rfl rfl ?_
        refine en_s_getR (w := some (25, 0, 0)) rfl rfl rfl rfl ?_
        refine en_s_iload_n rfl rfl ?_
        refine en_s_iload rfl rfl ?_
        obtain ⟨s62, e63, h⟩ := en_b1_h h
        refine en_s_iast rfl rfl e63 ?_
        refine en_s_iload rfl rfl ?_
        cases h
        exact en_s_iret rfl rfl
      · rw [if_neg c52] at h
        refine en_s_iconst rfl ?_
        cases h
        exact en_s_iret rfl rfl
    · rw [if_neg c49] at h
      refine en_s_iconst rfl ?_
      cases h
      exact en_s_iret rfl rfl
def k_mm_log (v1 : Int32) (v2 : Int32) (σ : en_M) : Option (Int32 × en_M) :=
  if (k_mm_isIn v2 0 7) = 0 then
    en_let (en_wr σ 24 0 0 0 1) fun s2 =>
    if (s2 24 0 0 0) ≤ 0 then
      if (k_mm_isIn v1 0 ((s2 25 0 0 18) - 1)) = 0 then
        some ((-1), s2)
      else
        if v2 = 6 then
          en_b1 (k_mm_lateOf v1 s2) fun t7 =>
          some (t7, s2)
        else
        if v2 = 7 then
          en_b1 (k_mm_logAt v1 6 s2) fun t10 =>
          some (t10, s2)
        else
        en_b1 (k_mm_logAt v1 v2 s2) fun t12 =>
        some (t12, s2)
    else
      some (0, s2)
  else
    en_let (en_wr σ 24 0 0 0 0) fun s14 =>
    if (s14 24 0 0 0) ≤ 0 then
      if (k_mm_isIn v1 0 ((s14 25 0 0 18) - 1)) = 0 then
        some ((-1), s14)
      else
        if v2 = 6 then
          en_b1 (k_mm_lateOf v1 s14) fun t19 =>
          some (t19, s14)
        else
        if v2 = 7 then
          en_b1 (k_mm_logAt v1 6 s14) fun t22 =>
          some (t22, s14)
        else
        en_b1 (k_mm_logAt v1 v2 s14) fun t24 =>
        some (t24, s14)
    else
      some (0, s14)
set_option maxRecDepth 100000 in
set_option maxHeartbeats 4000000 in
theorem s_mm_log (G : en_G) (hz : G.2.2.2.2.2.2.2.2 = none) (d : Nat) {cs : List en_A} {σ : en_M} {v1 : Int32} {v2 : Int32} {x0 : Int32} {s0 : en_M}  (h : k_mm_log v1 v2 σ = some (x0, s0)) : en_Mt G (d + 2) 0 0 M_mm_log [.inr (.inl (some (24, 0, 0))), .inl v1, .inl v2] cs en_rf σ (.inr (some (.inl x0))) cs en_rf s0 := by
  refine en_meth (ls := [some (.inr (.inl (some (24, 0, 0)))), some (.inl v1), some (.inl v2)]) md_mm_log rfl rfl rfl ?_
  unfold k_mm_log at h
  refine en_s_aload_n rfl rfl ?_
  refine en_s_iload_n rfl rfl ?_
  refine en_s_iconst rfl ?_
  refine en_s_bipush rfl ?_
  refine en_callS (as := [.inl v2, .inl 0, .inl 7]) (rest := [.inr (.inl (some (24, 0, 0)))]) (bc' := 0) (bs' := 0) hz rfl (s_mm_isIn G hz (d + 1) rfl) lk_10_54 mv_mm_isIn rfl rfl rfl (fun _ h => h) (Nat.le_refl _) (Nat.le_refl _) ?_
  refine en_s_if_eq rfl (fun c1 => ?_) (fun c1 => ?_)
  · rw [if_pos c1] at h
    refine en_s_iconst rfl ?_
    obtain ⟨s2, e3, h⟩ := en_let_h h
    refine en_p_putI e3 rfl rfl rfl rfl rfl ?_
    refine en_s_aload_n rfl rfl ?_
    refine en_s_getI rfl rfl rfl ?_
    refine en_s_if_le rfl (fun c4 => ?_) (fun c4 => ?_)
    · rw [if_pos c4] at h
      refine en_s_iload_n rfl rfl ?_
      refine en_s_iconst rfl ?_
      refine en_s_aload_n rfl rfl ?_
      refine en_s_getR (w := some (25, 0, 0)) rfl rfl rfl rfl ?_
      refine en_s_bipush rfl ?_
      refine en_c_iald (q := 18) rfl rfl (by decide) (by decide) ?_
      refine en_s_iconst rfl ?_
      refine en_s_isub rfl ?_
      refine en_callS (as := [.inl v1, .inl 0, .inl ((s2 25 0 0 18) - 1)]) (rest := []) (bc' := 0) (bs' := 0) hz rfl (s_mm_isIn G hz (d + 1) rfl) lk_10_54 mv_mm_isIn rfl rfl rfl (fun _ h => h) (Nat.le_refl _) (Nat.le_refl _) ?_
      refine en_s_if_ne rfl (fun c5 => ?_) (fun c5 => ?_)
      · rw [if_neg c5] at h
        refine en_s_iload_n rfl rfl ?_
        by_cases c6 : v2 = 6
        · rw [if_pos c6] at h
          refine en_s_lookup [(6, 76), (7, 82)] rfl (by decide) (en_sw_hit c6) ?_
          refine en_s_aload_n rfl rfl ?_
          refine en_s_iload_n rfl rfl ?_
          obtain ⟨t7, h8, h⟩ := en_b1_h h
          refine en_callV (as := [.inl v1]) (rest := []) (bc' := 0) (bs' := 0) hz rfl (s_mm_lateOf G hz (d + 0) h8) lk_10_303 mv_mm_lateOf rfl rfl rfl rfl rfl (fun _ h => h) (Nat.le_refl _) (Nat.le_refl _) ?_
          cases h
          exact en_s_iret rfl rfl
        rw [if_neg c6] at h
        by_cases c9 : v2 = 7
        · rw [if_pos c9] at h
          refine en_s_lookup [(6, 76), (7, 82)] rfl (by decide) (en_sw_miss c6 (en_sw_hit c9)) ?_
          refine en_s_aload_n rfl rfl ?_
          refine en_s_iload_n rfl rfl ?_
          refine en_s_bipush rfl ?_
          obtain ⟨t10, h11, h⟩ := en_b1_h h
          refine en_callV (as := [.inl v1, .inl 6]) (rest := []) (bc' := 0) (bs' := 0) hz rfl (s_mm_logAt G hz (d + 1) h11) lk_10_294 mv_mm_logAt rfl rfl rfl rfl rfl (fun _ h => h) (Nat.le_refl _) (Nat.le_refl _) ?_
          cases h
          exact en_s_iret rfl rfl
        rw [if_neg c9] at h
        refine en_s_lookup [(6, 76), (7, 82)] rfl (by decide) (en_sw_miss c6 (en_sw_miss c9 en_sw_nil)) ?_
        refine en_s_aload_n rfl rfl ?_
        refine en_s_iload_n rfl rfl ?_
        refine en_s_iload_n rfl rfl ?_
        obtain ⟨t12, h13, h⟩ := en_b1_h h
        refine en_callV (as := [.inl v1, .inl v2]) (rest := []) (bc' := 0) (bs' := 0) hz rfl (s_mm_logAt G hz (d + 1) h13) lk_10_294 mv_mm_logAt rfl rfl rfl rfl rfl (fun _ h => h) (Nat.le_refl _) (Nat.le_refl _) ?_
        cases h
        exact en_s_iret rfl rfl
      · rw [if_pos c5] at h
        refine en_s_iconst rfl ?_
        cases h
        exact en_s_iret rfl rfl
    · rw [if_neg c4] at h
      refine en_s_iconst rfl ?_
      cases h
      exact en_s_iret rfl rfl
  · rw [if_neg c1] at h
    refine en_s_iconst rfl ?_
    refine en_s_goto rfl ?_
    obtain ⟨s14, e15, h⟩ := en_let_h h
    refine en_p_putI e15 rfl rfl rfl rfl rfl ?_
    refine en_s_aload_n rfl rfl ?_
    refine en_s_getI rfl rfl rfl ?_
    refine en_s_if_le rfl (fun c16 => ?_) (fun c16 => ?_)
    · rw [if_pos c16] at h
      refine en_s_iload_n rfl rfl ?_
      refine en_s_iconst rfl ?_
      refine en_s_aload_n rfl rfl ?_
      refine en_s_getR (w := some (25, 0, 0)) rfl rfl rfl rfl ?_
      refine en_s_bipush rfl ?_
      refine en_c_iald (q := 18) rfl rfl (by decide) (by decide) ?_
      refine en_s_iconst rfl ?_
      refine en_s_isub rfl ?_
      refine en_callS (as := [.inl v1, .inl 0, .inl ((s14 25 0 0 18) - 1)]) (rest := []) (bc' := 0) (bs' := 0) hz rfl (s_mm_isIn G hz (d + 1) rfl) lk_10_54 mv_mm_isIn rfl rfl rfl (fun _ h => h) (Nat.le_refl _) (Nat.le_refl _) ?_
      refine en_s_if_ne rfl (fun c17 => ?_) (fun c17 => ?_)
      · rw [if_neg c17] at h
        refine en_s_iload_n rfl rfl ?_
        by_cases c18 : v2 = 6
        · rw [if_pos c18] at h
          refine en_s_lookup [(6, 76), (7, 82)] rfl (by decide) (en_sw_hit c18) ?_
          refine en_s_aload_n rfl rfl ?_
          refine en_s_iload_n rfl rfl ?_
          obtain ⟨t19, h20, h⟩ := en_b1_h h
          refine en_callV (as := [.inl v1]) (rest := []) (bc' := 0) (bs' := 0) hz rfl (s_mm_lateOf G hz (d + 0) h20) lk_10_303 mv_mm_lateOf rfl rfl rfl rfl rfl (fun _ h => h) (Nat.le_refl _) (Nat.le_refl _) ?_
          cases h
          exact en_s_iret rfl rfl
        rw [if_neg c18] at h
        by_cases c21 : v2 = 7
        · rw [if_pos c21] at h
          refine en_s_lookup [(6, 76), (7, 82)] rfl (by decide) (en_sw_miss c18 (en_sw_hit c21)) ?_
          refine en_s_aload_n rfl rfl ?_
          refine en_s_iload_n rfl rfl ?_
          refine en_s_bipush rfl ?_
          obtain ⟨t22, h23, h⟩ := en_b1_h h
          refine en_callV (as := [.inl v1, .inl 6]) (rest := []) (bc' := 0) (bs' := 0) hz rfl (s_mm_logAt G hz (d + 1) h23) lk_10_294 mv_mm_logAt rfl rfl rfl rfl rfl (fun _ h => h) (Nat.le_refl _) (Nat.le_refl _) ?_
          cases h
          exact en_s_iret rfl rfl
        rw [if_neg c21] at h
        refine en_s_lookup [(6, 76), (7, 82)] rfl (by decide) (en_sw_miss c18 (en_sw_miss c21 en_sw_nil)) ?_
        refine en_s_aload_n rfl rfl ?_
        refine en_s_iload_n rfl rfl ?_
        refine en_s_iload_n rfl rfl ?_
        obtain ⟨t24, h25, h⟩ := en_b1_h h
        refine en_callV (as := [.inl v1, .inl v2]) (rest := []) (bc' := 0) (bs' := 0) hz rfl (s_mm_logAt G hz (d + 1) h25) lk_10_294 mv_mm_logAt rfl rfl rfl rfl rfl (fun _ h => h) (Nat.le_refl _) (Nat.le_refl _) ?_
        cases h
        exact en_s_iret rfl rfl
      · rw [if_pos c17] at h
        refine en_s_iconst rfl ?_
        cases h
        exact en_s_iret rfl rfl
    · rw [if_neg c16] at h
      refine en_s_iconst rfl ?_
      cases h
      exact en_s_iret rfl rfl
def k_mm_mergedOf_14 (f0 : Nat) (v1 : Int32) (v2 : Int32) (v3 : Int32) (v4 : Int32) (v5 : Int32) (v6 : Int32) (v7 : Int32) (σ : en_M) : Option (Int32 × Int32) := match f0 with
  | 0 => none
  | f9 + 1 =>
    if (σ 25 0 0 18) ≤ v7 then
      some (v3, v4)
    else
      en_b1 (k_mm_logAt v7 2 σ) fun t2 =>
      if t2 = v1 then
        en_b1 (k_mm_logAt v7 3 σ) fun t5 =>
        en_b1 (k_mm_logAt v7 6 σ) fun t7 =>
        if t7 = v6 then
          en_b1 (k_mm_logAt v7 6 σ) fun t10 =>
          k_mm_mergedOf_14 f9 v1 v2 v3 (k_mm_greater v4 (v5 + (t5 - 12))) (v5 + (t5 - 12)) (t10 + (t5 - 12)) (v7 + 1) σ
        else
          en_b1 (k_mm_logAt v7 6 σ) fun t12 =>
          k_mm_mergedOf_14 f9 v1 v2 (v3 + 1) (k_mm_greater v4 (0 + (t5 - 12))) (0 + (t5 - 12)) (t12 + (t5 - 12)) (v7 + 1) σ
      else
        k_mm_mergedOf_14 f9 v1 v2 v3 v4 v5 v6 (v7 + 1) σ
def k_mm_mergedOf (v1 : Int32) (v2 : Int32) (σ : en_M) : Option (Int32) :=
  en_b2 (k_mm_mergedOf_14 en_fu v1 v2 0 0 0 (-1) 0 σ) fun x14 x15 =>
  if v2 = 0 then
    some x14
  else
    some x15
set_option maxRecDepth 100000 in
set_option maxHeartbeats 4000000 in
theorem s_mm_mergedOf_14 (G : en_G) (hz : G.2.2.2.2.2.2.2.2 = none) {d : Nat} {r : en_P} {cs cs' : List en_A} {ρ' : en_R} {σ' : en_M} : ∀ (f0 : Nat) {v1 : Int32} {v2 : Int32} {v3 : Int32} {v4 : Int32} {v5 : Int32} {v6 : Int32} {v7 : Int32} {e8 : Option en_V} {σ : en_M} {x3 : Int32} {x4 : Int32} , k_mm_mergedOf_14 f0 v1 v2 v3 v4 v5 v6 v7 σ = some (x3, x4) →
    (∀ (f5 : Option en_V) (f6 : Option en_V) (f7 : Option en_V) (f8 : Option en_V), en_W G (d + 1) 0 0 M_mm_mergedOf r cs' ρ' σ' 0 0 106 [some (.inr (.inl (some (24, 0, 0)))), some (.inl v1), some (.inl v2), some (.inl x3), some (.inl x4), f5, f6, f7, f8] [] cs en_rf σ) → en_W G (d + 1) 0 0 M_mm_mergedOf r cs' ρ' σ' 0 0 14 [some (.inr (.inl (some (24, 0, 0)))), some (.inl v1), some (.inl v2), some (.inl v3), some (.inl v4), some (.inl v5), some (.inl v6), some (.inl v7), e8] [] cs en_rf σ := by
  intro f0
  induction f0 with
  | zero =>
    intros
    rename_i h _
    cases h
  | succ f9 ih =>
    intro v1 v2 v3 v4 v5 v6 v7 e8 σ x3 x4 h hk
    rw [k_mm_mergedOf_14] at h
    refine en_s_iload rfl rfl ?_
    refine en_s_aload_n rfl rfl ?_
    refine en_s_getR (w := some (25, 0, 0)) rfl rfl rfl rfl ?_
    refine en_s_bipush rfl ?_
    refine en_c_iald (q := 18) rfl rfl (by decide) (by decide) ?_
    refine en_s_icmp_ge rfl (fun c1 => ?_) (fun c1 => ?_)
    · rw [if_pos c1] at h
      cases h
      exact hk (some (.inl v5)) (some (.inl v6)) (some (.inl v7)) (e8)
    · rw [if_neg c1] at h
      refine en_s_aload_n rfl rfl ?_
      refine en_s_iload rfl rfl ?_
      refine en_s_iconst rfl ?_
      obtain ⟨t2, h3, h⟩ := en_b1_h h
      refine en_callV (as := [.inl v7, .inl 2]) (rest := []) (bc' := 0) (bs' := 0) hz rfl (s_mm_logAt G hz (d + 0) h3) lk_10_294 mv_mm_logAt rfl rfl rfl rfl rfl (fun _ h => h) (Nat.le_refl _) (Nat.le_refl _) ?_
      refine en_s_iload_n rfl rfl ?_
      refine en_s_icmp_eq rfl (fun c4 => ?_) (fun c4 => ?_)
      · rw [if_pos c4] at h
        refine en_s_aload_n rfl rfl ?_
        refine en_s_iload rfl rfl ?_
        refine en_s_iconst rfl ?_
        obtain ⟨t5, h6, h⟩ := en_b1_h h
        refine en_callV (as := [.inl v7, .inl 3]) (rest := []) (bc' := 0) (bs' := 0) hz rfl (s_mm_logAt G hz (d + 0) h6) lk_10_294 mv_mm_logAt rfl rfl rfl rfl rfl (fun _ h => h) (Nat.le_refl _) (Nat.le_refl _) ?_
        refine en_s_bipush rfl ?_
        refine en_s_isub rfl ?_
        refine en_s_istore (ls' := [some (.inr (.inl (some (24, 0, 0)))), some (.inl v1), some (.inl v2), some (.inl v3), some (.inl v4), some (.inl v5), some (.inl v6), some (.inl v7), some (.inl (t5 - 12))]) rfl rfl rfl ?_
        refine en_s_aload_n rfl rfl ?_
        refine en_s_iload rfl rfl ?_
        refine en_s_bipush rfl ?_
        obtain ⟨t7, h8, h⟩ := en_b1_h h
        refine en_callV (as := [.inl v7, .inl 6]) (rest := []) (bc' := 0) (bs' := 0) hz rfl (s_mm_logAt G hz (d + 0) h8) lk_10_294 mv_mm_logAt rfl rfl rfl rfl rfl (fun _ h => h) (Nat.le_refl _) (Nat.le_refl _) ?_
        refine en_s_iload rfl rfl ?_
        refine en_s_icmp_eq rfl (fun c9 => ?_) (fun c9 => ?_)
        · rw [if_pos c9] at h
          refine en_s_iload rfl rfl ?_
          refine en_s_iload rfl rfl ?_
          refine en_s_iadd rfl ?_
          refine en_s_istore (ls' := [some (.inr (.inl (some (24, 0, 0)))), some (.inl v1), some (.inl v2), some (.inl v3), some (.inl v4), some (.inl (v5 + (t5 - 12))), some (.inl v6), some (.inl v7), some (.inl (t5 - 12))]) rfl rfl rfl ?_
          refine en_s_iload rfl rfl ?_
          refine en_s_iload rfl rfl ?_
          refine en_callS (as := [.inl v4, .inl (v5 + (t5 - 12))]) (rest := []) (bc' := 0) (bs' := 0) hz rfl (s_mm_greater G hz (d + 0) rfl) lk_10_62 mv_mm_greater rfl rfl rfl (fun _ h => h) (Nat.le_refl _) (Nat.le_refl _) ?_
          refine en_s_istore (ls' := [some (.inr (.inl (some (24, 0, 0)))), some (.inl v1), some (.inl v2), some (.inl v3), some (.inl (k_mm_greater v4 (v5 + (t5 - 12)))), some (.inl (v5 + (t5 - 12))), some (.inl v6), some (.inl v7), some (.inl (t5 - 12))]) rfl rfl rfl ?_
          refine en_s_aload_n rfl rfl ?_
          refine en_s_iload rfl rfl ?_
          refine en_s_bipush rfl ?_
          obtain ⟨t10, h11, h⟩ := en_b1_h h
          refine en_callV (as := [.inl v7, .inl 6]) (rest := []) (bc' := 0) (bs' := 0) hz rfl (s_mm_logAt G hz (d + 0) h11) lk_10_294 mv_mm_logAt rfl rfl rfl rfl rfl (fun _ h => h) (Nat.le_refl _) (Nat.le_refl _) ?_
          refine en_s_iload rfl rfl ?_
          refine en_s_iadd rfl ?_
          refine en_s_istore (ls' := [some (.inr (.inl (some (24, 0, 0)))), some (.inl v1), some (.inl v2), some (.inl v3), some (.inl (k_mm_greater v4 (v5 + (t5 - 12)))), some (.inl (v5 + (t5 - 12))), some (.inl (t10 + (t5 - 12))), some (.inl v7), some (.inl (t5 - 12))]) rfl rfl rfl ?_
          refine en_s_iinc (ls' := [some (.inr (.inl (some (24, 0, 0)))), some (.inl v1), some (.inl v2), some (.inl v3), some (.inl (k_mm_greater v4 (v5 + (t5 - 12)))), some (.inl (v5 + (t5 - 12))), some (.inl (t10 + (t5 - 12))), some (.inl (v7 + 1)), some (.inl (t5 - 12))]) rfl rfl rfl ?_
          refine en_s_goto rfl ?_
          exact ih (e8 := some (.inl (t5 - 12))) h hk
        · rw [if_neg c9] at h
          refine en_s_iinc (ls' := [some (.inr (.inl (some (24, 0, 0)))), some (.inl v1), some (.inl v2), some (.inl (v3 + 1)), some (.inl v4), some (.inl v5), some (.inl v6), some (.inl v7), some (.inl (t5 - 12))]) rfl rfl rfl ?_
          refine en_s_iconst rfl ?_
          refine en_s_istore (ls' := [some (.inr (.inl (some (24, 0, 0)))), some (.inl v1), some (.inl v2), some (.inl (v3 + 1)), some (.inl v4), some (.inl 0), some (.inl v6), some (.inl v7), some (.inl (t5 - 12))]) rfl rfl rfl ?_
          refine en_s_iload rfl rfl ?_
          refine en_s_iload rfl rfl ?_
          refine en_s_iadd rfl ?_
          refine en_s_istore (ls' := [some (.inr (.inl (some (24, 0, 0)))), some (.inl v1), some (.inl v2), some (.inl (v3 + 1)), some (.inl v4), some (.inl (0 + (t5 - 12))), some (.inl v6), some (.inl v7), some (.inl (t5 - 12))]) rfl rfl rfl ?_
          refine en_s_iload rfl rfl ?_
          refine en_s_iload rfl rfl ?_
          refine en_callS (as := [.inl v4, .inl (0 + (t5 - 12))]) (rest := []) (bc' := 0) (bs' := 0) hz rfl (s_mm_greater G hz (d + 0) rfl) lk_10_62 mv_mm_greater rfl rfl rfl (fun _ h => h) (Nat.le_refl _) (Nat.le_refl _) ?_
          refine en_s_istore (ls' := [some (.inr (.inl (some (24, 0, 0)))), some (.inl v1), some (.inl v2), some (.inl (v3 + 1)), some (.inl (k_mm_greater v4 (0 + (t5 - 12)))), some (.inl (0 + (t5 - 12))), some (.inl v6), some (.inl v7), some (.inl (t5 - 12))]) rfl rfl rfl ?_
          refine en_s_aload_n rfl rfl ?_
          refine en_s_iload rfl rfl ?_
          refine en_s_bipush rfl ?_
          obtain ⟨t12, h13, h⟩ := en_b1_h h
          refine en_callV (as := [.inl v7, .inl 6]) (rest := []) (bc' := 0) (bs' := 0) hz rfl (s_mm_logAt G hz (d + 0) h13) lk_10_294 mv_mm_logAt rfl rfl rfl rfl rfl (fun _ h => h) (Nat.le_refl _) (Nat.le_refl _) ?_
          refine en_s_iload rfl rfl ?_
          refine en_s_iadd rfl ?_
          refine en_s_istore (ls' := [some (.inr (.inl (some (24, 0, 0)))), some (.inl v1), some (.inl v2), some (.inl (v3 + 1)), some (.inl (k_mm_greater v4 (0 + (t5 - 12)))), some (.inl (0 + (t5 - 12))), some (.inl (t12 + (t5 - 12))), some (.inl v7), some (.inl (t5 - 12))]) rfl rfl rfl ?_
          refine en_s_iinc (ls' := [some (.inr (.inl (some (24, 0, 0)))), some (.inl v1), some (.inl v2), some (.inl (v3 + 1)), some (.inl (k_mm_greater v4 (0 + (t5 - 12)))), some (.inl (0 + (t5 - 12))), some (.inl (t12 + (t5 - 12))), some (.inl (v7 + 1)), some (.inl (t5 - 12))]) rfl rfl rfl ?_
          refine en_s_goto rfl ?_
          exact ih (e8 := some (.inl (t5 - 12))) h hk
      · rw [if_neg c4] at h
        refine en_s_goto rfl ?_
        refine en_s_iinc (ls' := [some (.inr (.inl (some (24, 0, 0)))), some (.inl v1), some (.inl v2), some (.inl v3), some (.inl v4), some (.inl v5), some (.inl v6), some (.inl (v7 + 1)), e8]) rfl rfl rfl ?_
        refine en_s_goto rfl ?_
        exact ih (e8 := e8) h hk
set_option maxRecDepth 100000 in
set_option maxHeartbeats 4000000 in
theorem s_mm_mergedOf (G : en_G) (hz : G.2.2.2.2.2.2.2.2 = none) (d : Nat) {cs : List en_A} {σ : en_M} {v1 : Int32} {v2 : Int32} {x0 : Int32}  (h : k_mm_mergedOf v1 v2 σ = some x0) : en_Mt G (d + 1) 0 0 M_mm_mergedOf [.inr (.inl (some (24, 0, 0))), .inl v1, .inl v2] cs en_rf σ (.inr (some (.inl x0))) cs en_rf σ := by
  refine en_meth (ls := [some (.inr (.inl (some (24, 0, 0)))), some (.inl v1), some (.inl v2), none, none, none, none, none, none]) md_mm_mergedOf rfl rfl rfl ?_
  unfold k_mm_mergedOf at h
  refine en_s_iconst rfl ?_
  refine en_s_istore_n (ls' := [some (.inr (.inl (some (24, 0, 0)))), some (.inl v1), some (.inl v2), some (.inl 0), none, none, none, none, none]) rfl rfl rfl ?_
  refine en_s_iconst rfl ?_
  refine en_s_istore (ls' := [some (.inr (.inl (some (24, 0, 0)))), some (.inl v1), some (.inl v2), some (.inl 0), some (.inl 0), none, none, none, none]) rfl rfl rfl ?_
  refine en_s_iconst rfl ?_
  refine en_s_istore (ls' := [some (.inr (.inl (some (24, 0, 0)))), some (.inl v1), some (.inl v2), some (.inl 0), some (.inl 0), some (.inl 0), none, none, none]) rfl rfl rfl ?_
  refine en_s_iconst rfl ?_
  refine en_s_istore (ls' := [some (.inr (.inl (some (24, 0, 0)))), some (.inl v1), some (.inl v2), some (.inl 0), some (.inl 0), some (.inl 0), some (.inl ((-1))), none, none]) rfl rfl rfl ?_
  refine en_s_iconst rfl ?_
  refine en_s_istore (ls' := [some (.inr (.inl (some (24, 0, 0)))), some (.inl v1), some (.inl v2), some (.inl 0), some (.inl 0), some (.inl 0), some (.inl ((-1))), some (.inl 0), none]) rfl rfl rfl ?_
  obtain ⟨x14, x15, h20, h⟩ := en_b2_h h
  refine s_mm_mergedOf_14 G hz en_fu (e8 := none) h20 (fun f16 f17 f18 f19 => ?_)
  refine en_s_iload_n rfl rfl ?_
  refine en_s_if_eq rfl (fun c21 => ?_) (fun c21 => ?_)
  · rw [if_pos c21] at h
    refine en_s_iload_n rfl rfl ?_
    cases h
    exact en_s_iret rfl rfl
  · rw [if_neg c21] at h
    refine en_s_iload rfl rfl ?_
    refine en_s_goto rfl ?_
    cases h
    exact en_s_iret rfl rfl
def k_mm_merged (v1 : Int32) (v2 : Int32) (σ : en_M) : Option (Int32 × en_M) :=
  if (k_mm_isFlow v1 σ) = 0 then
    en_let (en_wr σ 24 0 0 0 1) fun s2 =>
    if (s2 24 0 0 0) ≤ 0 then
      en_b1 (k_mm_mergedOf v1 v2 s2) fun t5 =>
      some (t5, s2)
    else
      some (0, s2)
  else
    en_let (en_wr σ 24 0 0 0 0) fun s7 =>
    if (s7 24 0 0 0) ≤ 0 then
      en_b1 (k_mm_mergedOf v1 v2 s7) fun t10 =>
      some (t10, s7)
    else
      some (0, s7)
set_option maxRecDepth 100000 in
set_option maxHeartbeats 4000000 in
theorem s_mm_merged (G : en_G) (hz : G.2.2.2.2.2.2.2.2 = none) (d : Nat) {cs : List en_A} {σ : en_M} {v1 : Int32} {v2 : Int32} {x0 : Int32} {s0 : en_M}  (h : k_mm_merged v1 v2 σ = some (x0, s0)) : en_Mt G (d + 2) 0 0 M_mm_merged [.inr (.inl (some (24, 0, 0))), .inl v1, .inl v2] cs en_rf σ (.inr (some (.inl x0))) cs en_rf s0 := by
  refine en_meth (ls := [some (.inr (.inl (some (24, 0, 0)))), some (.inl v1), some (.inl v2)]) md_mm_merged rfl rfl rfl ?_
  unfold k_mm_merged at h
  refine en_s_aload_n rfl rfl ?_
  refine en_s_aload_n rfl rfl ?_
  refine en_s_iload_n rfl rfl ?_
  refine en_callV (as := [.inl v1]) (rest := [.inr (.inl (some (24, 0, 0)))]) (bc' := 0) (bs' := 0) hz rfl (s_mm_isFlow G hz (d + 0) rfl) lk_10_101 mv_mm_isFlow rfl rfl rfl rfl rfl (fun _ h => h) (Nat.le_refl _) (Nat.le_refl _) ?_
  refine en_s_if_eq rfl (fun c1 => ?_) (fun c1 => ?_)
  · rw [if_pos c1] at h
    refine en_s_iconst rfl ?_
    obtain ⟨s2, e3, h⟩ := en_let_h h
    refine en_p_putI e3 rfl rfl rfl rfl rfl ?_
    refine en_s_aload_n rfl rfl ?_
    refine en_s_getI rfl rfl rfl ?_
    refine en_s_if_le rfl (fun c4 => ?_) (fun c4 => ?_)
    · rw [if_pos c4] at h
      refine en_s_aload_n rfl rfl ?_
      refine en_s_iload_n rfl rfl ?_
      refine en_s_iload_n rfl rfl ?_
      obtain ⟨t5, h6, h⟩ := en_b1_h h
      refine en_callV (as := [.inl v1, .inl v2]) (rest := []) (bc' := 0) (bs' := 0) hz rfl (s_mm_mergedOf G hz (d + 0) h6) lk_10_306 mv_mm_mergedOf rfl rfl rfl rfl rfl (fun _ h => h) (Nat.le_refl _) (Nat.le_refl _) ?_
      cases h
      exact en_s_iret rfl rfl
    · rw [if_neg c4] at h
      refine en_s_iconst rfl ?_
      refine en_s_goto rfl ?_
      cases h
      exact en_s_iret rfl rfl
  · rw [if_neg c1] at h
    refine en_s_iconst rfl ?_
    refine en_s_goto rfl ?_
    obtain ⟨s7, e8, h⟩ := en_let_h h
    refine en_p_putI e8 rfl rfl rfl rfl rfl ?_
    refine en_s_aload_n rfl rfl ?_
    refine en_s_getI rfl rfl rfl ?_
    refine en_s_if_le rfl (fun c9 => ?_) (fun c9 => ?_)
    · rw [if_pos c9] at h
      refine en_s_aload_n rfl rfl ?_
      refine en_s_iload_n rfl rfl ?_
      refine en_s_iload_n rfl rfl ?_
      obtain ⟨t10, h11, h⟩ := en_b1_h h
      refine en_callV (as := [.inl v1, .inl v2]) (rest := []) (bc' := 0) (bs' := 0) hz rfl (s_mm_mergedOf G hz (d + 0) h11) lk_10_306 mv_mm_mergedOf rfl rfl rfl rfl rfl (fun _ h => h) (Nat.le_refl _) (Nat.le_refl _) ?_
      cases h
      exact en_s_iret rfl rfl
    · rw [if_neg c9] at h
      refine en_s_iconst rfl ?_
      refine en_s_goto rfl ?_
      cases h
      exact en_s_iret rfl rfl
def k_mm_octet (v1 : Int32) (v2 : Int32) (v3 : Int32) (σ : en_M) : Option (Int32 × en_M) :=
  en_b1 (k_mm_isPiece v1 v2 σ) fun t1 =>
  if t1 = 0 then
    en_let (en_wr σ 24 0 0 0 1) fun s4 =>
    if (s4 24 0 0 0) ≤ 0 then
      en_b1 (k_mm_byteIn v1 v2 v3 s4) fun t7 =>
      some (t7, s4)
    else
      some (0, s4)
  else
    en_b1 (k_mm_sizeOf v1 v2 σ) fun t9 =>
    if (k_mm_isIn v3 0 (t9 - 1)) = 0 then
      en_let (en_wr σ 24 0 0 0 1) fun s12 =>
      if (s12 24 0 0 0) ≤ 0 then
        en_b1 (k_mm_byteIn v1 v2 v3 s12) fun t15 =>
        some (t15, s12)
      else
        some (0, s12)
    else
      en_let (en_wr σ 24 0 0 0 0) fun s17 =>
      if (s17 24 0 0 0) ≤ 0 then
        en_b1 (k_mm_byteIn v1 v2 v3 s17) fun t20 =>
        some (t20, s17)
      else
        some (0, s17)
set_option maxRecDepth 100000 in
set_option maxHeartbeats 4000000 in
theorem s_mm_octet (G : en_G) (hz : G.2.2.2.2.2.2.2.2 = none) (d : Nat) {cs : List en_A} {σ : en_M} {v1 : Int32} {v2 : Int32} {v3 : Int32} {x0 : Int32} {s0 : en_M}  (h : k_mm_octet v1 v2 v3 σ = some (x0, s0)) : en_Mt G (d + 7) 0 0 M_mm_octet [.inr (.inl (some (24, 0, 0))), .inl v1, .inl v2, .inl v3] cs en_rf σ (.inr (some (.inl x0))) cs en_rf s0 := by
  refine en_meth (ls := [some (.inr (.inl (some (24, 0, 0)))), some (.inl v1), some (.inl v2), some (.inl v3)]) md_mm_octet rfl rfl rfl ?_
  unfold k_mm_octet at h
  refine en_s_aload_n rfl rfl ?_
  refine en_s_aload_n rfl rfl ?_
  refine en_s_iload_n rfl rfl ?_
  refine en_s_iload_n rfl rfl ?_
  obtain ⟨t1, h2, h⟩ := en_b1_h h
  refine en_callV (as := [.inl v1, .inl v2]) (rest := [.inr (.inl (some (24, 0, 0)))]) (bc' := 0) (bs' := 0) hz rfl (s_mm_isPiece G hz (d + 2) h2) lk_10_285 mv_mm_isPiece rfl rfl rfl rfl rfl (fun _ h => h) (Nat.le_refl _) (Nat.le_refl _) ?_
  refine en_s_if_eq rfl (fun c3 => ?_) (fun c3 => ?_)
  · rw [if_pos c3] at h
    refine en_s_iconst rfl ?_
    obtain ⟨s4, e5, h⟩ := en_let_h h
    refine en_p_putI e5 rfl rfl rfl rfl rfl ?_
    refine en_s_aload_n rfl rfl ?_
    refine en_s_getI rfl rfl rfl ?_
    refine en_s_if_le rfl (fun c6 => ?_) (fun c6 => ?_)
    · rw [if_pos c6] at h
      refine en_s_aload_n rfl rfl ?_
      refine en_s_iload_n rfl rfl ?_
      refine en_s_iload_n rfl rfl ?_
      refine en_s_iload_n rfl rfl ?_
      obtain ⟨t7, h8, h⟩ := en_b1_h h
      refine en_callV (as := [.inl v1, .inl v2, .inl v3]) (rest := []) (bc' := 0) (bs' := 0) hz rfl (s_mm_byteIn G hz (d + 0) h8) lk_10_291 mv_mm_byteIn rfl rfl rfl rfl rfl (fun _ h => h) (Nat.le_refl _) (Nat.le_refl _) ?_
      cases h
      exact en_s_iret rfl rfl
    · rw [if_neg c6] at h
      refine en_s_iconst rfl ?_
      cases h
      exact en_s_iret rfl rfl
  · rw [if_neg c3] at h
    refine en_s_iload_n rfl rfl ?_
    refine en_s_iconst rfl ?_
    refine en_s_aload_n rfl rfl ?_
    refine en_s_iload_n rfl rfl ?_
    refine en_s_iload_n rfl rfl ?_
    obtain ⟨t9, h10, h⟩ := en_b1_h h
    refine en_callV (as := [.inl v1, .inl v2]) (rest := [.inl 0, .inl v3, .inr (.inl (some (24, 0, 0)))]) (bc' := 0) (bs' := 0) hz rfl (s_mm_sizeOf G hz (d + 3) h10) lk_10_98 mv_mm_sizeOf rfl rfl rfl rfl rfl (fun _ h => h) (Nat.le_refl _) (Nat.le_refl _) ?_
    refine en_s_iconst rfl ?_
    refine en_s_isub rfl ?_
    refine en_callS (as := [.inl v3, .inl 0, .inl (t9 - 1)]) (rest := [.inr (.inl (some (24, 0, 0)))]) (bc' := 0) (bs' := 0) hz rfl (s_mm_isIn G hz (d + 6) rfl) lk_10_54 mv_mm_isIn rfl rfl rfl (fun _ h => h) (Nat.le_refl _) (Nat.le_refl _) ?_
    refine en_s_if_eq rfl (fun c11 => ?_) (fun c11 => ?_)
    · rw [if_pos c11] at h
      refine en_s_iconst rfl ?_
      obtain ⟨s12, e13, h⟩ := en_let_h h
      refine en_p_putI e13 rfl rfl rfl rfl rfl ?_
      refine en_s_aload_n rfl rfl ?_
      refine en_s_getI rfl rfl rfl ?_
      refine en_s_if_le rfl (fun c14 => ?_) (fun c14 => ?_)
      · rw [if_pos c14] at h
        refine en_s_aload_n rfl rfl ?_
        refine en_s_iload_n rfl rfl ?_
        refine en_s_iload_n rfl rfl ?_
        refine en_s_iload_n rfl rfl ?_
        obtain ⟨t15, h16, h⟩ := en_b1_h h
        refine en_callV (as := [.inl v1, .inl v2, .inl v3]) (rest := []) (bc' := 0) (bs' := 0) hz rfl (s_mm_byteIn G hz (d + 0) h16) lk_10_291 mv_mm_byteIn rfl rfl rfl rfl rfl (fun _ h => h) (Nat.le_refl _) (Nat.le_refl _) ?_
        cases h
        exact en_s_iret rfl rfl
      · rw [if_neg c14] at h
        refine en_s_iconst rfl ?_
        cases h
        exact en_s_iret rfl rfl
    · rw [if_neg c11] at h
      refine en_s_iconst rfl ?_
      refine en_s_goto rfl ?_
      obtain ⟨s17, e18, h⟩ := en_let_h h
      refine en_p_putI e18 rfl rfl rfl rfl rfl ?_
      refine en_s_aload_n rfl rfl ?_
      refine en_s_getI rfl rfl rfl ?_
      refine en_s_if_le rfl (fun c19 => ?_) (fun c19 => ?_)
      · rw [if_pos c19] at h
        refine en_s_aload_n rfl rfl ?_
        refine en_s_iload_n rfl rfl ?_
        refine en_s_iload_n rfl rfl ?_
        refine en_s_iload_n rfl rfl ?_
        obtain ⟨t20, h21, h⟩ := en_b1_h h
        refine en_callV (as := [.inl v1, .inl v2, .inl v3]) (rest := []) (bc' := 0) (bs' := 0) hz rfl (s_mm_byteIn G hz (d + 0) h21) lk_10_291 mv_mm_byteIn rfl rfl rfl rfl rfl (fun _ h => h) (Nat.le_refl _) (Nat.le_refl _) ?_
        cases h
        exact en_s_iret rfl rfl
      · rw [if_neg c19] at h
        refine en_s_iconst rfl ?_
        cases h
        exact en_s_iret rfl rfl
def k_mm_pause (v1 : Int32) (v2 : Int32) (σ : en_M) : Option (Int32 × en_M) :=
  en_b1 (k_mm_putsAside σ) fun s1 =>
  if v2 = 0 then
    en_b2 (k_mm_pause0 v1 1 s1) fun t4 s5 =>
    en_b2 (k_mm_isTold t4 1 s5) fun t7 s8 =>
    if t7 = 0 then
      some (0, s8)
    else
      en_b1 (k_mm_leftBehind v1 s8) fun t11 =>
      some (t11, s8)
  else
    en_b2 (k_mm_pause0 v1 0 s1) fun t13 s14 =>
    en_b2 (k_mm_isTold t13 1 s14) fun t16 s17 =>
    if t16 = 0 then
      some (0, s17)
    else
      en_b1 (k_mm_leftBehind v1 s17) fun t20 =>
      some (t20, s17)
set_option maxRecDepth 100000 in
set_option maxHeartbeats 4000000 in
theorem s_mm_pause (G : en_G) (hz : G.2.2.2.2.2.2.2.2 = none) (d : Nat) {cs : List en_A} {σ : en_M} {v1 : Int32} {v2 : Int32} {x0 : Int32} {s0 : en_M}  (h : k_mm_pause v1 v2 σ = some (x0, s0)) : en_Mt G (d + 5) 0 0 M_mm_pause [.inr (.inl (some (24, 0, 0))), .inl v1, .inl v2] cs en_rf σ (.inr (some (.inl x0))) cs en_rf s0 := by
  refine en_meth (ls := [some (.inr (.inl (some (24, 0, 0)))), some (.inl v1), some (.inl v2)]) md_mm_pause rfl rfl rfl ?_
  unfold k_mm_pause at h
  refine en_s_aload_n rfl rfl ?_
  obtain ⟨s1, h2, h⟩ := en_b1_h h
  refine en_callV (as := []) (rest := []) (bc' := 0) (bs' := 0) hz rfl (s_mm_putsAside G hz (d + 4) h2) lk_10_262 mv_mm_putsAside rfl rfl rfl rfl rfl (fun _ h => h) (Nat.le_refl _) (Nat.le_refl _) ?_
  refine en_s_aload_n rfl rfl ?_
  refine en_s_aload_n rfl rfl ?_
  refine en_s_iload_n rfl rfl ?_
  refine en_s_iload_n rfl rfl ?_
  refine en_s_if_eq rfl (fun c3 => ?_) (fun c3 => ?_)
  · rw [if_pos c3] at h
    refine en_s_iconst rfl ?_
    obtain ⟨t4, s5, h6, h⟩ := en_b2_h h
    refine en_callV (as := [.inl v1, .inl 1]) (rest := [.inr (.inl (some (24, 0, 0)))]) (bc' := 0) (bs' := 0) hz rfl (s_mm_pause0 G hz (d + 2) h6) lk_10_217 mv_mm_pause0 rfl rfl rfl rfl rfl (fun _ h => h) (Nat.le_refl _) (Nat.le_refl _) ?_
    refine en_s_iconst rfl ?_
    obtain ⟨t7, s8, h9, h⟩ := en_b2_h h
    refine en_callV (as := [.inl t4, .inl 1]) (rest := []) (bc' := 0) (bs' := 0) hz rfl (s_mm_isTold G hz (d + 3) h9) lk_10_268 mv_mm_isTold rfl rfl rfl rfl rfl (fun _ h => h) (Nat.le_refl _) (Nat.le_refl _) ?_
    refine en_s_if_eq rfl (fun c10 => ?_) (fun c10 => ?_)
    · rw [if_pos c10] at h
      refine en_s_iconst rfl ?_
      cases h
      exact en_s_iret rfl rfl
    · rw [if_neg c10] at h
      refine en_s_aload_n rfl rfl ?_
      refine en_s_iload_n rfl rfl ?_
      obtain ⟨t11, h12, h⟩ := en_b1_h h
      refine en_callV (as := [.inl v1]) (rest := []) (bc' := 0) (bs' := 0) hz rfl (s_mm_leftBehind G hz (d + 0) h12) lk_10_271 mv_mm_leftBehind rfl rfl rfl rfl rfl (fun _ h => h) (Nat.le_refl _) (Nat.le_refl _) ?_
      refine en_s_goto rfl ?_
      cases h
      exact en_s_iret rfl rfl
  · rw [if_neg c3] at h
    refine en_s_iconst rfl ?_
    refine en_s_goto rfl ?_
    obtain ⟨t13, s14, h15, h⟩ := en_b2_h h
    refine en_callV (as := [.inl v1, .inl 0]) (rest := [.inr (.inl (some (24, 0, 0)))]) (bc' := 0) (bs' := 0) hz rfl (s_mm_pause0 G hz (d + 2) h15) lk_10_217 mv_mm_pause0 rfl rfl rfl rfl rfl (fun _ h => h) (Nat.le_refl _) (Nat.le_refl _) ?_
    refine en_s_iconst rfl ?_
    obtain ⟨t16, s17, h18, h⟩ := en_b2_h h
    refine en_callV (as := [.inl t13, .inl 1]) (rest := []) (bc' := 0) (bs' := 0) hz rfl (s_mm_isTold G hz (d + 3) h18) lk_10_268 mv_mm_isTold rfl rfl rfl rfl rfl (fun _ h => h) (Nat.le_refl _) (Nat.le_refl _) ?_
    refine en_s_if_eq rfl (fun c19 => ?_) (fun c19 => ?_)
    · rw [if_pos c19] at h
      refine en_s_iconst rfl ?_
      cases h
      exact en_s_iret rfl rfl
    · rw [if_neg c19] at h
      refine en_s_aload_n rfl rfl ?_
      refine en_s_iload_n rfl rfl ?_
      obtain ⟨t20, h21, h⟩ := en_b1_h h
      refine en_callV (as := [.inl v1]) (rest := []) (bc' := 0) (bs' := 0) hz rfl (s_mm_leftBehind G hz (d + 0) h21) lk_10_271 mv_mm_leftBehind rfl rfl rfl rfl rfl (fun _ h => h) (Nat.le_refl _) (Nat.le_refl _) ?_
      refine en_s_goto rfl ?_
      cases h
      exact en_s_iret rfl rfl
def k_mm_piece (v1 : Int32) (v2 : Int32) (v3 : Int32) (σ : en_M) : Option (Int32 × en_M) :=
  en_b1 (k_mm_isPiece v1 v2 σ) fun t1 =>
  if t1 = 0 then
    en_let (en_wr σ 24 0 0 0 1) fun s53 =>
    if (s53 24 0 0 0) ≤ 0 then
      en_b1 (k_mm_times s53) fun s56 =>
      if v3 = 0 then
        en_b1 (k_mm_sizeOf v1 v2 s56) fun t59 =>
        some (t59, s56)
      else
      if v3 = 1 then
        en_b1 (k_mm_hasLeft v1 v2 s56) fun t62 =>
        if t62 = 0 then
          en_b1 (en_rd 160 (s56 30 0 0) (k_mm_placeIn v1 v2)) fun t65 =>
          some (t65, s56)
        else
          en_b1 (en_rd 938 (s56 25 0 0) (k_mm_pieceAt v1 v2 0)) fun t67 =>
          some (t67, s56)
      else
      if v3 = 2 then
        en_b1 (en_rd 938 (s56 25 0 0) (k_mm_pieceAt v1 v2 1)) fun t70 =>
        some (t70, s56)
      else
      if v3 = 3 then
        en_b1 (en_rd 938 (s56 25 0 0) (k_mm_pieceAt v1 v2 2)) fun t73 =>
        some (t73, s56)
      else
      en_b1 (k_mm_sumOf v1 v2 s56) fun t75 =>
      some (t75, s56)
    else
      some (0, s53)
  else
    if (k_mm_isIn v3 0 4) = 0 then
      en_let (en_wr σ 24 0 0 0 2) fun s29 =>
      if (s29 24 0 0 0) ≤ 0 then
        en_b1 (k_mm_times s29) fun s32 =>
        if v3 = 0 then
          en_b1 (k_mm_sizeOf v1 v2 s32) fun t35 =>
          some (t35, s32)
        else
        if v3 = 1 then
          en_b1 (k_mm_hasLeft v1 v2 s32) fun t38 =>
          if t38 = 0 then
            en_b1 (en_rd 160 (s32 30 0 0) (k_mm_placeIn v1 v2)) fun t41 =>
            some (t41, s32)
          else
            en_b1 (en_rd 938 (s32 25 0 0) (k_mm_pieceAt v1 v2 0)) fun t43 =>
            some (t43, s32)
        else
        if v3 = 2 then
          en_b1 (en_rd 938 (s32 25 0 0) (k_mm_pieceAt v1 v2 1)) fun t46 =>
          some (t46, s32)
        else
        if v3 = 3 then
          en_b1 (en_rd 938 (s32 25 0 0) (k_mm_pieceAt v1 v2 2)) fun t49 =>
          some (t49, s32)
        else
        en_b1 (k_mm_sumOf v1 v2 s32) fun t51 =>
        some (t51, s32)
      else
        some (0, s29)
    else
      en_let (en_wr σ 24 0 0 0 0) fun s5 =>
      if (s5 24 0 0 0) ≤ 0 then
        en_b1 (k_mm_times s5) fun s8 =>
        if v3 = 0 then
          en_b1 (k_mm_sizeOf v1 v2 s8) fun t11 =>
          some (t11, s8)
        else
        if v3 = 1 then
          en_b1 (k_mm_hasLeft v1 v2 s8) fun t14 =>
          if t14 = 0 then
            en_b1 (en_rd 160 (s8 30 0 0) (k_mm_placeIn v1 v2)) fun t17 =>
            some (t17, s8)
          else
            en_b1 (en_rd 938 (s8 25 0 0) (k_mm_pieceAt v1 v2 0)) fun t19 =>
            some (t19, s8)
        else
        if v3 = 2 then
          en_b1 (en_rd 938 (s8 25 0 0) (k_mm_pieceAt v1 v2 1)) fun t22 =>
          some (t22, s8)
        else
        if v3 = 3 then
          en_b1 (en_rd 938 (s8 25 0 0) (k_mm_pieceAt v1 v2 2)) fun t25 =>
          some (t25, s8)
        else
        en_b1 (k_mm_sumOf v1 v2 s8) fun t27 =>
        some (t27, s8)
      else
        some (0, s5)
set_option maxRecDepth 100000 in
set_option maxHeartbeats 4000000 in
theorem s_mm_piece (G : en_G) (hz : G.2.2.2.2.2.2.2.2 = none) (d : Nat) {cs : List en_A} {σ : en_M} {v1 : Int32} {v2 : Int32} {v3 : Int32} {x0 : Int32} {s0 : en_M}  (h : k_mm_piece v1 v2 v3 σ = some (x0, s0)) : en_Mt G (d + 6) 0 0 M_mm_piece [.inr (.inl (some (24, 0, 0))), .inl v1, .inl v2, .inl v3] cs en_rf σ (.inr (some (.inl x0))) cs en_rf s0 := by
  refine en_meth (ls := [some (.inr (.inl (some (24, 0, 0)))), some (.inl v1), some (.inl v2), some (.inl v3)]) md_mm_piece rfl rfl rfl ?_
  unfold k_mm_piece at h
  refine en_s_aload_n rfl rfl ?_
  refine en_s_aload_n rfl rfl ?_
  refine en_s_iload_n rfl rfl ?_
  refine en_s_iload_n rfl rfl ?_
  obtain ⟨t1, h2, h⟩ := en_b1_h h
  refine en_callV (as := [.inl v1, .inl v2]) (rest := [.inr (.inl (some (24, 0, 0)))]) (bc' := 0) (bs' := 0) hz rfl (s_mm_isPiece G hz (d + 1) h2) lk_10_285 mv_mm_isPiece rfl rfl rfl rfl rfl (fun _ h => h) (Nat.le_refl _) (Nat.le_refl _) ?_
  refine en_s_if_ne rfl (fun c3 => ?_) (fun c3 => ?_)
  · rw [if_neg c3] at h
    refine en_s_iload_n rfl rfl ?_
    refine en_s_iconst rfl ?_
    refine en_s_iconst rfl ?_
    refine en_callS (as := [.inl v3, .inl 0, .inl 4]) (rest := [.inr (.inl (some (24, 0, 0)))]) (bc' := 0) (bs' := 0) hz rfl (s_mm_isIn G hz (d + 5) rfl) lk_10_54 mv_mm_isIn rfl rfl rfl (fun _ h => h) (Nat.le_refl _) (Nat.le_refl _) ?_
    refine en_s_if_ne rfl (fun c4 => ?_) (fun c4 => ?_)
    · rw [if_neg c4] at h
      refine en_s_iconst rfl ?_
      obtain ⟨s5, e6, h⟩ := en_let_h h
      refine en_p_putI e6 rfl rfl rfl rfl rfl ?_
      refine en_s_aload_n rfl rfl ?_
      refine en_s_getI rfl rfl rfl ?_
      refine en_s_if_le rfl (fun c7 => ?_) (fun c7 => ?_)
      · rw [if_pos c7] at h
        refine en_s_aload_n rfl rfl ?_
        obtain ⟨s8, h9, h⟩ := en_b1_h h
        refine en_callV (as := []) (rest := []) (bc' := 0) (bs' := 0) hz rfl (s_mm_times G hz (d + 1) h9) lk_10_144 mv_mm_times rfl rfl rfl rfl rfl (fun _ h => h) (Nat.le_refl _) (Nat.le_refl _) ?_
        refine en_s_iload_n rfl rfl ?_
        by_cases c10 : v3 = 0
        · rw [if_pos c10] at h
          refine en_s_table [(0, 76), (1, 83), (2, 117), (3, 129)] rfl (by decide) (en_sw_hit c10) ?_
          refine en_s_aload_n rfl rfl ?_
          refine en_s_iload_n rfl rfl ?_
          refine en_s_iload_n rfl rfl ?_
          obtain ⟨t11, h12, h⟩ := en_b1_h h
          refine en_callV (as := [.inl v1, .inl v2]) (rest := []) (bc' := 0) (bs' := 0) hz rfl (s_mm_sizeOf G hz (d + 2) h12) lk_10_98 mv_mm_sizeOf rfl rfl rfl rfl rfl (fun _ h => h) (Nat.le_refl _) (Nat.le_refl _) ?_
          cases h
          exact en_s_iret rfl rfl
        rw [if_neg c10] at h
        by_cases c13 : v3 = 1
        · rw [if_pos c13] at h
          refine en_s_table [(0, 76), (1, 83), (2, 117), (3, 129)] rfl (by decide) (en_sw_miss c10 (en_sw_hit c13)) ?_
          refine en_s_aload_n rfl rfl ?_
          refine en_s_iload_n rfl rfl ?_
          refine en_s_iload_n rfl rfl ?_
          obtain ⟨t14, h15, h⟩ := en_b1_h h
          refine en_callV (as := [.inl v1, .inl v2]) (rest := []) (bc' := 0) (bs' := 0) hz rfl (s_mm_hasLeft G hz (d + 3) h15) lk_10_85 mv_mm_hasLeft rfl rfl rfl rfl rfl (fun _ h => h) (Nat.le_refl _) (Nat.le_refl _) ?_
          refine en_s_if_eq rfl (fun c16 => ?_) (fun c16 => ?_)
          · rw [if_pos c16] at h
            refine en_s_aload_n rfl rfl ?_
            refine en_s_getR (w := some (30, 0, 0)) rfl rfl rfl rfl ?_
            refine en_s_iload_n rfl rfl ?_
            refine en_s_iload_n rfl rfl ?_
            refine en_callS (as := [.inl v1, .inl v2]) (rest := [.inr (.inl (some (30, 0, 0)))]) (bc' := 0) (bs' := 0) hz rfl (s_mm_placeIn G hz (d + 5) rfl) lk_10_95 mv_mm_placeIn rfl rfl rfl (fun _ h => h) (Nat.le_refl _) (Nat.le_refl _) ?_
            obtain ⟨t17, h18, h⟩ := en_b1_h h
            refine en_s_iald rfl rfl h18 ?_
            cases h
            exact en_s_iret rfl rfl
          · rw [if_neg c16] at h
            refine en_s_aload_n rfl rfl ?_
            refine en_s_getR (w := some (25, 0, 0)) rfl rfl rfl rfl ?_
            refine en_s_iload_n rfl rfl ?_
            refine en_s_iload_n rfl rfl ?_
            refine en_s_iconst rfl ?_
            refine en_callS (as := [.inl v1, .inl v2, .inl 0]) (rest := [.inr (.inl (some (25, 0, 0)))]) (bc' := 0) (bs' := 0) hz rfl (s_mm_pieceAt G hz (d + 4) rfl) lk_10_78 mv_mm_pieceAt rfl rfl rfl (fun _ h => h) (Nat.le_refl _) (Nat.le_refl _) ?_
            obtain ⟨t19, h20, h⟩ := en_b1_h h
            refine en_s_iald rfl rfl h20 ?_
            refine en_s_goto rfl ?_
            cases h
            exact en_s_iret rfl rfl
        rw [if_neg c13] at h
        by_cases c21 : v3 = 2
        · rw [if_pos c21] at h
          refine en_s_table [(0, 76), (1, 83), (2, 117), (3, 129)] rfl (by decide) (en_sw_miss c10 (en_sw_miss c13 (en_sw_hit c21))) ?_
          refine en_s_aload_n rfl rfl ?_
          refine en_s_getR (w := some (25, 0, 0)) rfl rfl rfl rfl ?_
          refine en_s_iload_n rfl rfl ?_
          refine en_s_iload_n rfl rfl ?_
          refine en_s_iconst rfl ?_
          refine en_callS (as := [.inl v1, .inl v2, .inl 1]) (rest := [.inr (.inl (some (25, 0, 0)))]) (bc' := 0) (bs' := 0) hz rfl (s_mm_pieceAt G hz (d + 4) rfl) lk_10_78 mv_mm_pieceAt rfl rfl rfl (fun _ h => h) (Nat.le_refl _) (Nat.le_refl _) ?_
          obtain ⟨t22, h23, h⟩ := en_b1_h h
          refine en_s_iald rfl rfl h23 ?_
          cases h
          exact en_s_iret rfl rfl
        rw [if_neg c21] at h
        by_cases c24 : v3 = 3
        · rw [if_pos c24] at h
          refine en_s_table [(0, 76), (1, 83), (2, 117), (3, 129)] rfl (by decide) (en_sw_miss c10 (en_sw_miss c13 (en_sw_miss c21 (en_sw_hit c24)))) ?_
          refine en_s_aload_n rfl rfl ?_
          refine en_s_getR (w := some (25, 0, 0)) rfl rfl rfl rfl ?_
          refine en_s_iload_n rfl rfl ?_
          refine en_s_iload_n rfl rfl ?_
          refine en_s_iconst rfl ?_
          refine en_callS (as := [.inl v1, .inl v2, .inl 2]) (rest := [.inr (.inl (some (25, 0, 0)))]) (bc' := 0) (bs' := 0) hz rfl (s_mm_pieceAt G hz (d + 4) rfl) lk_10_78 mv_mm_pieceAt rfl rfl rfl (fun _ h => h) (Nat.le_refl _) (Nat.le_refl _) ?_
          obtain ⟨t25, h26, h⟩ := en_b1_h h
          refine en_s_iald rfl rfl h26 ?_
          cases h
          exact en_s_iret rfl rfl
        rw [if_neg c24] at h
        refine en_s_table [(0, 76), (1, 83), (2, 117), (3, 129)] rfl (by decide) (en_sw_miss c10 (en_sw_miss c13 (en_sw_miss c21 (en_sw_miss c24 en_sw_nil)))) ?_
        refine en_s_aload_n rfl rfl ?_
        refine en_s_iload_n rfl rfl ?_
        refine en_s_iload_n rfl rfl ?_
        obtain ⟨t27, h28, h⟩ := en_b1_h h
        refine en_callV (as := [.inl v1, .inl v2]) (rest := []) (bc' := 0) (bs' := 0) hz rfl (s_mm_sumOf G hz (d + 0) h28) lk_10_288 mv_mm_sumOf rfl rfl rfl rfl rfl (fun _ h => h) (Nat.le_refl _) (Nat.le_refl _) ?_
        cases h
        exact en_s_iret rfl rfl
      · rw [if_neg c7] at h
        refine en_s_iconst rfl ?_
        cases h
        exact en_s_iret rfl rfl
    · rw [if_pos c4] at h
      refine en_s_iconst rfl ?_
      refine en_s_goto rfl ?_
      obtain ⟨s29, e30, h⟩ := en_let_h h
      refine en_p_putI e30 rfl rfl rfl rfl rfl ?_
      refine en_s_aload_n rfl rfl ?_
      refine en_s_getI rfl rfl rfl ?_
      refine en_s_if_le rfl (fun c31 => ?_) (fun c31 => ?_)
      · rw [if_pos c31] at h
        refine en_s_aload_n rfl rfl ?_
        obtain ⟨s32, h33, h⟩ := en_b1_h h
        refine en_callV (as := []) (rest := []) (bc' := 0) (bs' := 0) hz rfl (s_mm_times G hz (d + 1) h33) lk_10_144 mv_mm_times rfl rfl rfl rfl rfl (fun _ h => h) (Nat.le_refl _) (Nat.le_refl _) ?_
        refine en_s_iload_n rfl rfl ?_
        by_cases c34 : v3 = 0
        · rw [if_pos c34] at h
          refine en_s_table [(0, 76), (1, 83), (2, 117), (3, 129)] rfl (by decide) (en_sw_hit c34) ?_
          refine en_s_aload_n rfl rfl ?_
          refine en_s_iload_n rfl rfl ?_
          refine en_s_iload_n rfl rfl ?_
          obtain ⟨t35, h36, h⟩ := en_b1_h h
          refine en_callV (as := [.inl v1, .inl v2]) (rest := []) (bc' := 0) (bs' := 0) hz rfl (s_mm_sizeOf G hz (d + 2) h36) lk_10_98 mv_mm_sizeOf rfl rfl rfl rfl rfl (fun _ h => h) (Nat.le_refl _) (Nat.le_refl _) ?_
          cases h
          exact en_s_iret rfl rfl
        rw [if_neg c34] at h
        by_cases c37 : v3 = 1
        · rw [if_pos c37] at h
          refine en_s_table [(0, 76), (1, 83), (2, 117), (3, 129)] rfl (by decide) (en_sw_miss c34 (en_sw_hit c37)) ?_
          refine en_s_aload_n rfl rfl ?_
          refine en_s_iload_n rfl rfl ?_
          refine en_s_iload_n rfl rfl ?_
          obtain ⟨t38, h39, h⟩ := en_b1_h h
          refine en_callV (as := [.inl v1, .inl v2]) (rest := []) (bc' := 0) (bs' := 0) hz rfl (s_mm_hasLeft G hz (d + 3) h39) lk_10_85 mv_mm_hasLeft rfl rfl rfl rfl rfl (fun _ h => h) (Nat.le_refl _) (Nat.le_refl _) ?_
          refine en_s_if_eq rfl (fun c40 => ?_) (fun c40 => ?_)
          · rw [if_pos c40] at h
            refine en_s_aload_n rfl rfl ?_
            refine en_s_getR (w := some (30, 0, 0)) rfl rfl rfl rfl ?_
            refine en_s_iload_n rfl rfl ?_
            refine en_s_iload_n rfl rfl ?_
            refine en_callS (as := [.inl v1, .inl v2]) (rest := [.inr (.inl (some (30, 0, 0)))]) (bc' := 0) (bs' := 0) hz rfl (s_mm_placeIn G hz (d + 5) rfl) lk_10_95 mv_mm_placeIn rfl rfl rfl (fun _ h => h) (Nat.le_refl _) (Nat.le_refl _) ?_
            obtain ⟨t41, h42, h⟩ := en_b1_h h
            refine en_s_iald rfl rfl h42 ?_
            cases h
            exact en_s_iret rfl rfl
          · rw [if_neg c40] at h
            refine en_s_aload_n rfl rfl ?_
            refine en_s_getR (w := some (25, 0, 0)) rfl rfl rfl rfl ?_
            refine en_s_iload_n rfl rfl ?_
            refine en_s_iload_n rfl rfl ?_
            refine en_s_iconst rfl ?_
            refine en_callS (as := [.inl v1, .inl v2, .inl 0]) (rest := [.inr (.inl (some (25, 0, 0)))]) (bc' := 0) (bs' := 0) hz rfl (s_mm_pieceAt G hz (d + 4) rfl) lk_10_78 mv_mm_pieceAt rfl rfl rfl (fun _ h => h) (Nat.le_refl _) (Nat.le_refl _) ?_
            obtain ⟨t43, h44, h⟩ := en_b1_h h
            refine en_s_iald rfl rfl h44 ?_
            refine en_s_goto rfl ?_
            cases h
            exact en_s_iret rfl rfl
        rw [if_neg c37] at h
        by_cases c45 : v3 = 2
        · rw [if_pos c45] at h
          refine en_s_table [(0, 76), (1, 83), (2, 117), (3, 129)] rfl (by decide) (en_sw_miss c34 (en_sw_miss c37 (en_sw_hit c45))) ?_
          refine en_s_aload_n rfl rfl ?_
          refine en_s_getR (w := some (25, 0, 0)) rfl rfl rfl rfl ?_
          refine en_s_iload_n rfl rfl ?_
          refine en_s_iload_n rfl rfl ?_
          refine en_s_iconst rfl ?_
          refine en_callS (as := [.inl v1, .inl v2, .inl 1]) (rest := [.inr (.inl (some (25, 0, 0)))]) (bc' := 0) (bs' := 0) hz rfl (s_mm_pieceAt G hz (d + 4) rfl) lk_10_78 mv_mm_pieceAt rfl rfl rfl (fun _ h => h) (Nat.le_refl _) (Nat.le_refl _) ?_
          obtain ⟨t46, h47, h⟩ := en_b1_h h
          refine en_s_iald rfl rfl h47 ?_
          cases h
          exact en_s_iret rfl rfl
        rw [if_neg c45] at h
        by_cases c48 : v3 = 3
        · rw [if_pos c48] at h
          refine en_s_table [(0, 76), (1, 83), (2, 117), (3, 129)] rfl (by decide) (en_sw_miss c34 (en_sw_miss c37 (en_sw_miss c45 (en_sw_hit c48)))) ?_
          refine en_s_aload_n rfl rfl ?_
          refine en_s_getR (w := some (25, 0, 0)) rfl rfl rfl rfl ?_
          refine en_s_iload_n rfl rfl ?_
          refine en_s_iload_n rfl rfl ?_
          refine en_s_iconst rfl ?_
          refine en_callS (as := [.inl v1, .inl v2, .inl 2]) (rest := [.inr (.inl (some (25, 0, 0)))]) (bc' := 0) (bs' := 0) hz rfl (s_mm_pieceAt G hz (d + 4) rfl) lk_10_78 mv_mm_pieceAt rfl rfl rfl (fun _ h => h) (Nat.le_refl _) (Nat.le_refl _) ?_
          obtain ⟨t49, h50, h⟩ := en_b1_h h
          refine en_s_iald rfl rfl h50 ?_
          cases h
          exact en_s_iret rfl rfl
        rw [if_neg c48] at h
        refine en_s_table [(0, 76), (1, 83), (2, 117), (3, 129)] rfl (by decide) (en_sw_miss c34 (en_sw_miss c37 (en_sw_miss c45 (en_sw_miss c48 en_sw_nil)))) ?_
        refine en_s_aload_n rfl rfl ?_
        refine en_s_iload_n rfl rfl ?_
        refine en_s_iload_n rfl rfl ?_
        obtain ⟨t51, h52, h⟩ := en_b1_h h
        refine en_callV (as := [.inl v1, .inl v2]) (rest := []) (bc' := 0) (bs' := 0) hz rfl (s_mm_sumOf G hz (d + 0) h52) lk_10_288 mv_mm_sumOf rfl rfl rfl rfl rfl (fun _ h => h) (Nat.le_refl _) (Nat.le_refl _) ?_
        cases h
        exact en_s_iret rfl rfl
      · rw [if_neg c31] at h
        refine en_s_iconst rfl ?_
        cases h
        exact en_s_iret rfl rfl
  · rw [if_pos c3] at h
    refine en_s_iconst rfl ?_
    refine en_s_goto rfl ?_
    obtain ⟨s53, e54, h⟩ := en_let_h h
    refine en_p_putI e54 rfl rfl rfl rfl rfl ?_
    refine en_s_aload_n rfl rfl ?_
    refine en_s_getI rfl rfl rfl ?_
    refine en_s_if_le rfl (fun c55 => ?_) (fun c55 => ?_)
    · rw [if_pos c55] at h
      refine en_s_aload_n rfl rfl ?_
      obtain ⟨s56, h57, h⟩ := en_b1_h h
      refine en_callV (as := []) (rest := []) (bc' := 0) (bs' := 0) hz rfl (s_mm_times G hz (d + 1) h57) lk_10_144 mv_mm_times rfl rfl rfl rfl rfl (fun _ h => h) (Nat.le_refl _) (Nat.le_refl _) ?_
      refine en_s_iload_n rfl rfl ?_
      by_cases c58 : v3 = 0
      · rw [if_pos c58] at h
        refine en_s_table [(0, 76), (1, 83), (2, 117), (3, 129)] rfl (by decide) (en_sw_hit c58) ?_
        refine en_s_aload_n rfl rfl ?_
        refine en_s_iload_n rfl rfl ?_
        refine en_s_iload_n rfl rfl ?_
        obtain ⟨t59, h60, h⟩ := en_b1_h h
        refine en_callV (as := [.inl v1, .inl v2]) (rest := []) (bc' := 0) (bs' := 0) hz rfl (s_mm_sizeOf G hz (d + 2) h60) lk_10_98 mv_mm_sizeOf rfl rfl rfl rfl rfl (fun _ h => h) (Nat.le_refl _) (Nat.le_refl _) ?_
        cases h
        exact en_s_iret rfl rfl
      rw [if_neg c58] at h
      by_cases c61 : v3 = 1
      · rw [if_pos c61] at h
        refine en_s_table [(0, 76), (1, 83), (2, 117), (3, 129)] rfl (by decide) (en_sw_miss c58 (en_sw_hit c61)) ?_
        refine en_s_aload_n rfl rfl ?_
        refine en_s_iload_n rfl rfl ?_
        refine en_s_iload_n rfl rfl ?_
        obtain ⟨t62, h63, h⟩ := en_b1_h h
        refine en_callV (as := [.inl v1, .inl v2]) (rest := []) (bc' := 0) (bs' := 0) hz rfl (s_mm_hasLeft G hz (d + 3) h63) lk_10_85 mv_mm_hasLeft rfl rfl rfl rfl rfl (fun _ h => h) (Nat.le_refl _) (Nat.le_refl _) ?_
        refine en_s_if_eq rfl (fun c64 => ?_) (fun c64 => ?_)
        · rw [if_pos c64] at h
          refine en_s_aload_n rfl rfl ?_
          refine en_s_getR (w := some (30, 0, 0)) rfl rfl rfl rfl ?_
          refine en_s_iload_n rfl rfl ?_
          refine en_s_iload_n rfl rfl ?_
          refine en_callS (as := [.inl v1, .inl v2]) (rest := [.inr (.inl (some (30, 0, 0)))]) (bc' := 0) (bs' := 0) hz rfl (s_mm_placeIn G hz (d + 5) rfl) lk_10_95 mv_mm_placeIn rfl rfl rfl (fun _ h => h) (Nat.le_refl _) (Nat.le_refl _) ?_
          obtain ⟨t65, h66, h⟩ := en_b1_h h
          refine en_s_iald rfl rfl h66 ?_
          cases h
          exact en_s_iret rfl rfl
        · rw [if_neg c64] at h
          refine en_s_aload_n rfl rfl ?_
          refine en_s_getR (w := some (25, 0, 0)) rfl rfl rfl rfl ?_
          refine en_s_iload_n rfl rfl ?_
          refine en_s_iload_n rfl rfl ?_
          refine en_s_iconst rfl ?_
          refine en_callS (as := [.inl v1, .inl v2, .inl 0]) (rest := [.inr (.inl (some (25, 0, 0)))]) (bc' := 0) (bs' := 0) hz rfl (s_mm_pieceAt G hz (d + 4) rfl) lk_10_78 mv_mm_pieceAt rfl rfl rfl (fun _ h => h) (Nat.le_refl _) (Nat.le_refl _) ?_
          obtain ⟨t67, h68, h⟩ := en_b1_h h
          refine en_s_iald rfl rfl h68 ?_
          refine en_s_goto rfl ?_
          cases h
          exact en_s_iret rfl rfl
      rw [if_neg c61] at h
      by_cases c69 : v3 = 2
      · rw [if_pos c69] at h
        refine en_s_table [(0, 76), (1, 83), (2, 117), (3, 129)] rfl (by decide) (en_sw_miss c58 (en_sw_miss c61 (en_sw_hit c69))) ?_
        refine en_s_aload_n rfl rfl ?_
        refine en_s_getR (w := some (25, 0, 0)) rfl rfl rfl rfl ?_
        refine en_s_iload_n rfl rfl ?_
        refine en_s_iload_n rfl rfl ?_
        refine en_s_iconst rfl ?_
        refine en_callS (as := [.inl v1, .inl v2, .inl 1]) (rest := [.inr (.inl (some (25, 0, 0)))]) (bc' := 0) (bs' := 0) hz rfl (s_mm_pieceAt G hz (d + 4) rfl) lk_10_78 mv_mm_pieceAt rfl rfl rfl (fun _ h => h) (Nat.le_refl _) (Nat.le_refl _) ?_
        obtain ⟨t70, h71, h⟩ := en_b1_h h
        refine en_s_iald rfl rfl h71 ?_
        cases h
        exact en_s_iret rfl rfl
      rw [if_neg c69] at h
      by_cases c72 : v3 = 3
      · rw [if_pos c72] at h
        refine en_s_table [(0, 76), (1, 83), (2, 117), (3, 129)] rfl (by decide) (en_sw_miss c58 (en_sw_miss c61 (en_sw_miss c69 (en_sw_hit c72)))) ?_
        refine en_s_aload_n rfl rfl ?_
        refine en_s_getR (w := some (25, 0, 0)) rfl rfl rfl rfl ?_
        refine en_s_iload_n rfl rfl ?_
        refine en_s_iload_n rfl rfl ?_
        refine en_s_iconst rfl ?_
        refine en_callS (as := [.inl v1, .inl v2, .inl 2]) (rest := [.inr (.inl (some (25, 0, 0)))]) (bc' := 0) (bs' := 0) hz rfl (s_mm_pieceAt G hz (d + 4) rfl) lk_10_78 mv_mm_pieceAt rfl rfl rfl (fun _ h => h) (Nat.le_refl _) (Nat.le_refl _) ?_
        obtain ⟨t73, h74, h⟩ := en_b1_h h
        refine en_s_iald rfl rfl h74 ?_
        cases h
        exact en_s_iret rfl rfl
      rw [if_neg c72] at h
      refine en_s_table [(0, 76), (1, 83), (2, 117), (3, 129)] rfl (by decide) (en_sw_miss c58 (en_sw_miss c61 (en_sw_miss c69 (en_sw_miss c72 en_sw_nil)))) ?_
      refine en_s_aload_n rfl rfl ?_
      refine en_s_iload_n rfl rfl ?_
      refine en_s_iload_n rfl rfl ?_
      obtain ⟨t75, h76, h⟩ := en_b1_h h
      refine en_callV (as := [.inl v1, .inl v2]) (rest := []) (bc' := 0) (bs' := 0) hz rfl (s_mm_sumOf G hz (d + 0) h76) lk_10_288 mv_mm_sumOf rfl rfl rfl rfl rfl (fun _ h => h) (Nat.le_refl _) (Nat.le_refl _) ?_
      cases h
      exact en_s_iret rfl rfl
    · rw [if_neg c55] at h
      refine en_s_iconst rfl ?_
      cases h
      exact en_s_iret rfl rfl
def k_mm_queue (v1 : Int32) (v2 : Int32) (σ : en_M) : Option (Int32 × en_M) :=
  en_let (en_wr σ 24 0 0 0 0) fun s1 =>
  en_b2 (k_mm_queueOf v1 v2 s1) fun t3 s4 =>
  some (t3, s4)
set_option maxRecDepth 100000 in
set_option maxHeartbeats 4000000 in
theorem s_mm_queue (G : en_G) (hz : G.2.2.2.2.2.2.2.2 = none) (d : Nat) {cs : List en_A} {σ : en_M} {v1 : Int32} {v2 : Int32} {x0 : Int32} {s0 : en_M}  (h : k_mm_queue v1 v2 σ = some (x0, s0)) : en_Mt G (d + 8) 0 0 M_mm_queue [.inr (.inl (some (24, 0, 0))), .inl v1, .inl v2] cs en_rf σ (.inr (some (.inl x0))) cs en_rf s0 := by
  refine en_meth (ls := [some (.inr (.inl (some (24, 0, 0)))), some (.inl v1), some (.inl v2)]) md_mm_queue rfl rfl rfl ?_
  unfold k_mm_queue at h
  refine en_s_aload_n rfl rfl ?_
  refine en_s_iconst rfl ?_
  obtain ⟨s1, e2, h⟩ := en_let_h h
  refine en_p_putI e2 rfl rfl rfl rfl rfl ?_
  refine en_s_aload_n rfl rfl ?_
  refine en_s_iload_n rfl rfl ?_
  refine en_s_iload_n rfl rfl ?_
  obtain ⟨t3, s4, h5, h⟩ := en_b2_h h
  refine en_callV (as := [.inl v1, .inl v2]) (rest := []) (bc' := 0) (bs' := 0) hz rfl (s_mm_queueOf G hz (d + 0) h5) lk_10_331 mv_mm_queueOf rfl rfl rfl rfl rfl (fun _ h => h) (Nat.le_refl _) (Nat.le_refl _) ?_
  cases h
  exact en_s_iret rfl rfl
def k_mm_quiet_26 (f0 : Nat) (v1 : Int32) (v2 : Int32) (σ : en_M) : Option (Int32) := match f0 with
  | 0 => none
  | f9 + 1 =>
    if (σ 24 0 0 16) ≤ v2 then
      some (v1)
    else
      en_b1 (en_rd 160 (σ 34 0 0) v2) fun t6 =>
      if t6 = v1 then
        en_b1 (en_rd 160 (σ 32 0 0) v2) fun t9 =>
        en_b1 (en_rd 160 (σ 32 0 0) v2) fun t11 =>
        en_b1 (k_mm_sizeOf (t9 / 64) (t11 - t11 / 64 * 64) σ) fun t13 =>
        en_b1 (k_mm_ticksOf t13 σ) fun t15 =>
        k_mm_quiet_26 f9 (v1 + t15) (v2 + 1) σ
      else
        some (v1)
def k_mm_quiet  (σ : en_M) : Option (Int32 × en_M) :=
  en_let (en_wr σ 24 0 0 0 0) fun s1 =>
  en_b1 (k_mm_plays s1) fun s3 =>
  en_b1 (k_mm_quiet_26 en_fu ((s3 25 0 0 4) + (s3 25 0 0 17)) 0 s3) fun x17 =>
  if 9999 ≤ x17 then
    some ((-1), s3)
  else
    some (x17, s3)
set_option maxRecDepth 100000 in
set_option maxHeartbeats 4000000 in
theorem s_mm_quiet_26 (G : en_G) (hz : G.2.2.2.2.2.2.2.2 = none) {d : Nat} {r : en_P} {cs cs' : List en_A} {ρ' : en_R} {σ' : en_M} : ∀ (f0 : Nat) {v1 : Int32} {v2 : Int32}  {σ : en_M} {x1 : Int32} , k_mm_quiet_26 f0 v1 v2 σ = some (x1) →
    (∀ (f2 : Option en_V), en_W G (d + 7) 0 0 M_mm_quiet r cs' ρ' σ' 0 0 79 [some (.inr (.inl (some (24, 0, 0)))), some (.inl x1), f2] [] cs en_rf σ) → en_W G (d + 7) 0 0 M_mm_quiet r cs' ρ' σ' 0 0 26 [some (.inr (.inl (some (24, 0, 0)))), some (.inl v1), some (.inl v2)] [] cs en_rf σ := by
  intro f0
  induction f0 with
  | zero =>
    intros
    rename_i h _
    cases h
  | succ f9 ih =>
    intro v1 v2 σ x1 h hk
    rw [k_mm_quiet_26] at h
    refine en_s_iload_n rfl rfl ?_
    refine en_s_aload_n rfl rfl ?_
    refine en_s_getI rfl rfl rfl ?_
    refine en_s_icmp_ge rfl (fun c5 => ?_) (fun c5 => ?_)
    · rw [if_pos c5] at h
      cases h
      exact hk (some (.inl v2))
    · rw [if_neg c5] at h
      refine en_s_aload_n rfl rfl ?_
      refine en_s_getR (w := some (34, 0, 0)) rfl rfl rfl rfl ?_
      refine en_s_iload_n rfl rfl ?_
      obtain ⟨t6, h7, h⟩ := en_b1_h h
      refine en_s_iald rfl rfl h7 ?_
      refine en_s_iload_n rfl rfl ?_
      refine en_s_icmp_ne rfl (fun c8 => ?_) (fun c8 => ?_)
      · rw [if_neg c8] at h
        cases h
        exact hk (some (.inl v2))
      · rw [if_pos c8] at h
        refine en_s_iload_n rfl rfl ?_
        refine en_s_aload_n rfl rfl ?_
        refine en_s_aload_n rfl rfl ?_
        refine en_s_aload_n rfl rfl ?_
        refine en_s_getR (w := some (32, 0, 0)) rfl rfl rfl rfl ?_
        refine en_s_iload_n rfl rfl ?_
        obtain ⟨t9, h10, h⟩ := en_b1_h h
        refine en_s_iald rfl rfl h10 ?_
        refine en_s_bipush rfl ?_
        refine en_s_idiv rfl (by decide) ?_
        refine en_s_aload_n rfl rfl ?_
        refine en_s_getR (w := some (32, 0, 0)) rfl rfl rfl rfl ?_
        refine en_s_iload_n rfl rfl ?_
        obtain ⟨t11, h12, h⟩ := en_b1_h h
        refine en_s_iald rfl rfl h12 ?_
        refine en_s_bipush rfl ?_
        refine en_s_irem rfl (by decide) ?_
        obtain ⟨t13, h14, h⟩ := en_b1_h h
        refine en_callV (as := [.inl (t9 / 64), .inl (t11 - t11 / 64 * 64)]) (rest := [.inr (.inl (some (24, 0, 0))), .inl v1]) (bc' := 0) (bs' := 0) hz rfl (s_mm_sizeOf G hz (d + 3) h14) lk_10_98 mv_mm_sizeOf rfl rfl rfl rfl rfl (fun _ h => h) (Nat.le_refl _) (Nat.le_refl _) ?_
        obtain ⟨t15, h16, h⟩ := en_b1_h h
        refine en_callV (as := [.inl t13]) (rest := [.inl v1]) (bc' := 0) (bs' := 0) hz rfl (s_mm_ticksOf G hz (d + 6) h16) lk_10_128 mv_mm_ticksOf rfl rfl rfl rfl rfl (fun _ h => h) (Nat.le_refl _) (Nat.le_refl _) ?_
        refine en_s_iadd rfl ?_
        refine en_s_istore_n (ls' := [some (.inr (.inl (some (24, 0, 0)))), some (.inl (v1 + t15)), some (.inl v2)]) rfl rfl rfl ?_
        refine en_s_iinc (ls' := [some (.inr (.inl (some (24, 0, 0)))), some (.inl (v1 + t15)), some (.inl (v2 + 1))]) rfl rfl rfl ?_
        refine en_s_goto rfl ?_
        exact ih  h hk
set_option maxRecDepth 100000 in
set_option maxHeartbeats 4000000 in
theorem s_mm_quiet (G : en_G) (hz : G.2.2.2.2.2.2.2.2 = none) (d : Nat) {cs : List en_A} {σ : en_M}  {x0 : Int32} {s0 : en_M}  (h : k_mm_quiet  σ = some (x0, s0)) : en_Mt G (d + 7) 0 0 M_mm_quiet [.inr (.inl (some (24, 0, 0)))] cs en_rf σ (.inr (some (.inl x0))) cs en_rf s0 := by
  refine en_meth (ls := [some (.inr (.inl (some (24, 0, 0)))), none, none]) md_mm_quiet rfl rfl rfl ?_
  unfold k_mm_quiet at h
  refine en_s_aload_n rfl rfl ?_
  refine en_s_iconst rfl ?_
  obtain ⟨s1, e2, h⟩ := en_let_h h
  refine en_p_putI e2 rfl rfl rfl rfl rfl ?_
  refine en_s_aload_n rfl rfl ?_
  obtain ⟨s3, h4, h⟩ := en_b1_h h
  refine en_callV (as := []) (rest := []) (bc' := 0) (bs' := 0) hz rfl (s_mm_plays G hz (d + 0) h4) lk_10_322 mv_mm_plays rfl rfl rfl rfl rfl (fun _ h => h) (Nat.le_refl _) (Nat.le_refl _) ?_
  refine en_s_aload_n rfl rfl ?_
  refine en_s_getR (w := some (25, 0, 0)) rfl rfl rfl rfl ?_
  refine en_s_iconst rfl ?_
  refine en_c_iald (q := 4) rfl rfl (by decide) (by decide) ?_
  refine en_s_aload_n rfl rfl ?_
  refine en_s_getR (w := some (25, 0, 0)) rfl rfl rfl rfl ?_
  refine en_s_bipush rfl ?_
  refine en_c_iald (q := 17) rfl rfl (by decide) (by decide) ?_
  refine en_s_iadd rfl ?_
  refine en_s_istore_n (ls' := [some (.inr (.inl (some (24, 0, 0)))), some (.inl ((s3 25 0 0 4) + (s3 25 0 0 17))), none]) rfl rfl rfl ?_
  refine en_s_iconst rfl ?_
  refine en_s_istore_n (ls' := [some (.inr (.inl (some (24, 0, 0)))), some (.inl ((s3 25 0 0 4) + (s3 25 0 0 17))), some (.inl 0)]) rfl rfl rfl ?_
  obtain ⟨x17, h19, h⟩ := en_b1_h h
  refine s_mm_quiet_26 G hz en_fu  h19 (fun f18 => ?_)
  refine en_s_iload_n rfl rfl ?_
  refine en_s_sipush rfl ?_
  refine en_s_icmp_ge rfl (fun c20 => ?_) (fun c20 => ?_)
  · rw [if_pos c20] at h
    refine en_s_iconst rfl ?_
    cases h
    exact en_s_iret rfl rfl
  · rw [if_neg c20] at h
    refine en_s_iload_n rfl rfl ?_
    refine en_s_goto rfl ?_
    cases h
    exact en_s_iret rfl rfl
def k_mm_rate (v1 : Int32) (v2 : Int32) (σ : en_M) : Option (Int32 × en_M) :=
  if (k_mm_isIn v2 0 999) = 0 then
    en_let (en_wr σ 24 0 0 0 1) fun s2 =>
    if (s2 24 0 0 0) ≤ 0 then
      en_b1 (k_mm_putsAside s2) fun s5 =>
      if (k_mm_isFlow v1 s5) = 0 then
        en_b2 (k_mm_rate0 v1 v2 s5) fun t8 s9 =>
        en_b2 (k_mm_isTold t8 2 s9) fun t11 s12 =>
        if t11 = 0 then
          some (0, s12)
        else
          some (0, s12)
      else
        en_b1 (k_mm_flowAt v1 0 s5) fun t15 =>
        en_b2 (k_mm_rate0 v1 v2 s5) fun t17 s18 =>
        en_b2 (k_mm_isTold t17 2 s18) fun t20 s21 =>
        if t20 = 0 then
          some (0, s21)
        else
          some (t15, s21)
    else
      some (0, s2)
  else
    en_let (en_wr σ 24 0 0 0 0) fun s24 =>
    if (s24 24 0 0 0) ≤ 0 then
      en_b1 (k_mm_putsAside s24) fun s27 =>
      if (k_mm_isFlow v1 s27) = 0 then
        en_b2 (k_mm_rate0 v1 v2 s27) fun t30 s31 =>
        en_b2 (k_mm_isTold t30 2 s31) fun t33 s34 =>
        if t33 = 0 then
          some (0, s34)
        else
          some (0, s34)
      else
        en_b1 (k_mm_flowAt v1 0 s27) fun t37 =>
        en_b2 (k_mm_rate0 v1 v2 s27) fun t39 s40 =>
        en_b2 (k_mm_isTold t39 2 s40) fun t42 s43 =>
        if t42 = 0 then
          some (0, s43)
        else
          some (t37, s43)
    else
      some (0, s24)
set_option maxRecDepth 100000 in
set_option maxHeartbeats 4000000 in
theorem s_mm_rate (G : en_G) (hz : G.2.2.2.2.2.2.2.2 = none) (d : Nat) {cs : List en_A} {σ : en_M} {v1 : Int32} {v2 : Int32} {x0 : Int32} {s0 : en_M}  (h : k_mm_rate v1 v2 σ = some (x0, s0)) : en_Mt G (d + 3) 0 0 M_mm_rate [.inr (.inl (some (24, 0, 0))), .inl v1, .inl v2] cs en_rf σ (.inr (some (.inl x0))) cs en_rf s0 := by
  refine en_meth (ls := [some (.inr (.inl (some (24, 0, 0)))), some (.inl v1), some (.inl v2), none]) md_mm_rate rfl rfl rfl ?_
  unfold k_mm_rate at h
  refine en_s_aload_n rfl rfl ?_
  refine en_s_iload_n rfl rfl ?_
  refine en_s_iconst rfl ?_
  refine en_s_sipush rfl ?_
  refine en_callS (as := [.inl v2, .inl 0, .inl 999]) (rest := [.inr (.inl (some (24, 0, 0)))]) (bc' := 0) (bs' := 0) hz rfl (s_mm_isIn G hz (d + 2) rfl) lk_10_54 mv_mm_isIn rfl rfl rfl (fun _ h => h) (Nat.le_refl _) (Nat.le_refl _) ?_
  refine en_s_if_eq rfl (fun c1 => ?_) (fun c1 => ?_)
  · rw [if_pos c1] at h
    refine en_s_iconst rfl ?_
    obtain ⟨s2, e3, h⟩ := en_let_h h
    refine en_p_putI e3 rfl rfl rfl rfl rfl ?_
    refine en_s_aload_n rfl rfl ?_
    refine en_s_getI rfl rfl rfl ?_
    refine en_s_if_le rfl (fun c4 => ?_) (fun c4 => ?_)
    · rw [if_pos c4] at h
      refine en_s_aload_n rfl rfl ?_
      obtain ⟨s5, h6, h⟩ := en_b1_h h
      refine en_callV (as := []) (rest := []) (bc' := 0) (bs' := 0) hz rfl (s_mm_putsAside G hz (d + 2) h6) lk_10_262 mv_mm_putsAside rfl rfl rfl rfl rfl (fun _ h => h) (Nat.le_refl _) (Nat.le_refl _) ?_
      refine en_s_aload_n rfl rfl ?_
      refine en_s_iload_n rfl rfl ?_
      refine en_callV (as := [.inl v1]) (rest := []) (bc' := 0) (bs' := 0) hz rfl (s_mm_isFlow G hz (d + 1) rfl) lk_10_101 mv_mm_isFlow rfl rfl rfl rfl rfl (fun _ h => h) (Nat.le_refl _) (Nat.le_refl _) ?_
      refine en_s_if_eq rfl (fun c7 => ?_) (fun c7 => ?_)
      · rw [if_pos c7] at h
        refine en_s_iconst rfl ?_
        refine en_s_istore_n (ls' := [some (.inr (.inl (some (24, 0, 0)))), some (.inl v1), some (.inl v2), some (.inl 0)]) rfl rfl rfl ?_
        refine en_s_aload_n rfl rfl ?_
        refine en_s_aload_n rfl rfl ?_
        refine en_s_iload_n rfl rfl ?_
        refine en_s_iload_n rfl rfl ?_
        obtain ⟨t8, s9, h10, h⟩ := en_b2_h h
        refine en_callV (as := [.inl v1, .inl v2]) (rest := [.inr (.inl (some (24, 0, 0)))]) (bc' := 0) (bs' := 0) hz rfl (s_mm_rate0 G hz (d + 0) h10) lk_10_220 mv_mm_rate0 rfl rfl rfl rfl rfl (fun _ h => h) (Nat.le_refl _) (Nat.le_refl _) ?_
        refine en_s_iconst rfl ?_
        obtain ⟨t11, s12, h13, h⟩ := en_b2_h h
        refine en_callV (as := [.inl t8, .inl 2]) (rest := []) (bc' := 0) (bs' := 0) hz rfl (s_mm_isTold G hz (d + 1) h13) lk_10_268 mv_mm_isTold rfl rfl rfl rfl rfl (fun _ h => h) (Nat.le_refl _) (Nat.le_refl _) ?_
        refine en_s_if_eq rfl (fun c14 => ?_) (fun c14 => ?_)
        · rw [if_pos c14] at h
          refine en_s_iconst rfl ?_
          cases h
          exact en_s_iret rfl rfl
        · rw [if_neg c14] at h
          refine en_s_iload_n rfl rfl ?_
          refine en_s_goto rfl ?_
          cases h
          exact en_s_iret rfl rfl
      · rw [if_neg c7] at h
        refine en_s_aload_n rfl rfl ?_
        refine en_s_iload_n rfl rfl ?_
        refine en_s_iconst rfl ?_
        obtain ⟨t15, h16, h⟩ := en_b1_h h
        refine en_callV (as := [.inl v1, .inl 0]) (rest := []) (bc' := 0) (bs' := 0) hz rfl (s_mm_flowAt G hz (d + 2) h16) lk_10_89 mv_mm_flowAt rfl rfl rfl rfl rfl (fun _ h => h) (Nat.le_refl _) (Nat.le_refl _) ?_
        refine en_s_goto rfl ?_
        refine en_s_istore_n (ls' := [some (.inr (.inl (some (24, 0, 0)))), some (.inl v1), some (.inl v2), some (.inl t15)]) rfl rfl rfl ?_
        refine en_s_aload_n rfl rfl ?_
        refine en_s_aload_n rfl rfl ?_
        refine en_s_iload_n rfl rfl ?_
        refine en_s_iload_n rfl rfl ?_
        obtain ⟨t17, s18, h19, h⟩ := en_b2_h h
        refine en_callV (as := [.inl v1, .inl v2]) (rest := [.inr (.inl (some (24, 0, 0)))]) (bc' := 0) (bs' := 0) hz rfl (s_mm_rate0 G hz (d + 0) h19) lk_10_220 mv_mm_rate0 rfl rfl rfl rfl rfl (fun _ h => h) (Nat.le_refl _) (Nat.le_refl _) ?_
        refine en_s_iconst rfl ?_
        obtain ⟨t20, s21, h22, h⟩ := en_b2_h h
        refine en_callV (as := [.inl t17, .inl 2]) (rest := []) (bc' := 0) (bs' := 0) hz rfl (s_mm_isTold G hz (d + 1) h22) lk_10_268 mv_mm_isTold rfl rfl rfl rfl rfl (fun _ h => h) (Nat.le_refl _) (Nat.le_refl _) ?_
        refine en_s_if_eq rfl (fun c23 => ?_) (fun c23 => ?_)
        · rw [if_pos c23] at h
          refine en_s_iconst rfl ?_
          cases h
          exact en_s_iret rfl rfl
        · rw [if_neg c23] at h
          refine en_s_iload_n rfl rfl ?_
          refine en_s_goto rfl ?_
          cases h
          exact en_s_iret rfl rfl
    · rw [if_neg c4] at h
      refine en_s_iconst rfl ?_
      cases h
      exact en_s_iret rfl rfl
  · rw [if_neg c1] at h
    refine en_s_iconst rfl ?_
    refine en_s_goto rfl ?_
    obtain ⟨s24, e25, h⟩ := en_let_h h
    refine en_p_putI e25 rfl rfl rfl rfl rfl ?_
    refine en_s_aload_n rfl rfl ?_
    refine en_s_getI rfl rfl rfl ?_
    refine en_s_if_le rfl (fun c26 => ?_) (fun c26 => ?_)
    · rw [if_pos c26] at h
      refine en_s_aload_n rfl rfl ?_
      obtain ⟨s27, h28, h⟩ := en_b1_h h
      refine en_callV (as := []) (rest := []) (bc' := 0) (bs' := 0) hz rfl (s_mm_putsAside G hz (d + 2) h28) lk_10_262 mv_mm_putsAside rfl rfl rfl rfl rfl (fun _ h => h) (Nat.le_refl _) (Nat.le_refl _) ?_
      refine en_s_aload_n rfl rfl ?_
      refine en_s_iload_n rfl rfl ?_
      refine en_callV (as := [.inl v1]) (rest := []) (bc' := 0) (bs' := 0) hz rfl (s_mm_isFlow G hz (d + 1) rfl) lk_10_101 mv_mm_isFlow rfl rfl rfl rfl rfl (fun _ h => h) (Nat.le_refl _) (Nat.le_refl _) ?_
      refine en_s_if_eq rfl (fun c29 => ?_) (fun c29 => ?_)
      · rw [if_pos c29] at h
        refine en_s_iconst rfl ?_
        refine en_s_istore_n (ls' := [some (.inr (.inl (some (24, 0, 0)))), some (.inl v1), some (.inl v2), some (.inl 0)]) rfl rfl rfl ?_
        refine en_s_aload_n rfl rfl ?_
        refine en_s_aload_n rfl rfl ?_
        refine en_s_iload_n rfl rfl ?_
        refine en_s_iload_n rfl rfl ?_
        obtain ⟨t30, s31, h32, h⟩ := en_b2_h h
        refine en_callV (as := [.inl v1, .inl v2]) (rest := [.inr (.inl (some (24, 0, 0)))]) (bc' := 0) (bs' := 0) hz rfl (s_mm_rate0 G hz (d + 0) h32) lk_10_220 mv_mm_rate0 rfl rfl rfl rfl rfl (fun _ h => h) (Nat.le_refl _) (Nat.le_refl _) ?_
        refine en_s_iconst rfl ?_
        obtain ⟨t33, s34, h35, h⟩ := en_b2_h h
        refine en_callV (as := [.inl t30, .inl 2]) (rest := []) (bc' := 0) (bs' := 0) hz rfl (s_mm_isTold G hz (d + 1) h35) lk_10_268 mv_mm_isTold rfl rfl rfl rfl rfl (fun _ h => h) (Nat.le_refl _) (Nat.le_refl _) ?_
        refine en_s_if_eq rfl (fun c36 => ?_) (fun c36 => ?_)
        · rw [if_pos c36] at h
          refine en_s_iconst rfl ?_
          cases h
          exact en_s_iret rfl rfl
        · rw [if_neg c36] at h
          refine en_s_iload_n rfl rfl ?_
          refine en_s_goto rfl ?_
          cases h
          exact en_s_iret rfl rfl
      · rw [if_neg c29] at h
        refine en_s_aload_n rfl rfl ?_
        refine en_s_iload_n rfl rfl ?_
        refine en_s_iconst rfl ?_
        obtain ⟨t37, h38, h⟩ := en_b1_h h
        refine en_callV (as := [.inl v1, .inl 0]) (rest := []) (bc' := 0) (bs' := 0) hz rfl (s_mm_flowAt G hz (d + 2) h38) lk_10_89 mv_mm_flowAt rfl rfl rfl rfl rfl (fun _ h => h) (Nat.le_refl _) (Nat.le_refl _) ?_
        refine en_s_goto rfl ?_
        refine en_s_istore_n (ls' := [some (.inr (.inl (some (24, 0, 0)))), some (.inl v1), some (.inl v2), some (.inl t37)]) rfl rfl rfl ?_
        refine en_s_aload_n rfl rfl ?_
        refine en_s_aload_n rfl rfl ?_
        refine en_s_iload_n rfl rfl ?_
        refine en_s_iload_n rfl rfl ?_
        obtain ⟨t39, s40, h41, h⟩ := en_b2_h h
        refine en_callV (as := [.inl v1, .inl v2]) (rest := [.inr (.inl (some (24, 0, 0)))]) (bc' := 0) (bs' := 0) hz rfl (s_mm_rate0 G hz (d + 0) h41) lk_10_220 mv_mm_rate0 rfl rfl rfl rfl rfl (fun _ h => h) (Nat.le_refl _) (Nat.le_refl _) ?_
        refine en_s_iconst rfl ?_
        obtain ⟨t42, s43, h44, h⟩ := en_b2_h h
        refine en_callV (as := [.inl t39, .inl 2]) (rest := []) (bc' := 0) (bs' := 0) hz rfl (s_mm_isTold G hz (d + 1) h44) lk_10_268 mv_mm_isTold rfl rfl rfl rfl rfl (fun _ h => h) (Nat.le_refl _) (Nat.le_refl _) ?_
        refine en_s_if_eq rfl (fun c45 => ?_) (fun c45 => ?_)
        · rw [if_pos c45] at h
          refine en_s_iconst rfl ?_
          cases h
          exact en_s_iret rfl rfl
        · rw [if_neg c45] at h
          refine en_s_iload_n rfl rfl ?_
          refine en_s_goto rfl ?_
          cases h
          exact en_s_iret rfl rfl
    · rw [if_neg c26] at h
      refine en_s_iconst rfl ?_
      cases h
      exact en_s_iret rfl rfl
def k_mm_rest_9 (f0 : Nat) (v1 : Int32) (v2 : Int32) (σ : en_M) : Option (Int32) := match f0 with
  | 0 => none
  | f9 + 1 =>
    if (σ 25 0 0 18) ≤ v2 then
      some (v1)
    else
      en_b1 (k_mm_logAt v2 5 σ) fun t4 =>
      en_b1 (k_mm_logAt (v2 - 1) 5 σ) fun t6 =>
      en_b1 (k_mm_logAt (v2 - 1) 3 σ) fun t8 =>
      en_b1 (k_mm_ticksOf t8 σ) fun t10 =>
      k_mm_rest_9 f9 (k_mm_greater v1 ((t4 - t6) - t10)) (v2 + 1) σ
def k_mm_rest  (σ : en_M) : Option (Int32 × en_M) :=
  en_let (en_wr σ 24 0 0 0 0) fun s1 =>
  en_b1 (k_mm_rest_9 en_fu (-1) 1 s1) fun x12 =>
  some (x12, s1)
set_option maxRecDepth 100000 in
set_option maxHeartbeats 4000000 in
theorem s_mm_rest_9 (G : en_G) (hz : G.2.2.2.2.2.2.2.2 = none) {d : Nat} {r : en_P} {cs cs' : List en_A} {ρ' : en_R} {σ' : en_M} : ∀ (f0 : Nat) {v1 : Int32} {v2 : Int32}  {σ : en_M} {x1 : Int32} , k_mm_rest_9 f0 v1 v2 σ = some (x1) →
    (∀ (f2 : Option en_V), en_W G (d + 1) 0 0 M_mm_rest r cs' ρ' σ' 0 0 59 [some (.inr (.inl (some (24, 0, 0)))), some (.inl x1), f2] [] cs en_rf σ) → en_W G (d + 1) 0 0 M_mm_rest r cs' ρ' σ' 0 0 9 [some (.inr (.inl (some (24, 0, 0)))), some (.inl v1), some (.inl v2)] [] cs en_rf σ := by
  intro f0
  induction f0 with
  | zero =>
    intros
    rename_i h _
    cases h
  | succ f9 ih =>
    intro v1 v2 σ x1 h hk
    rw [k_mm_rest_9] at h
    refine en_s_iload_n rfl rfl ?_
    refine en_s_aload_n rfl rfl ?_
    refine en_s_getR (w := some (25, 0, 0)) rfl rfl rfl rfl ?_
    refine en_s_bipush rfl ?_
    refine en_c_iald (q := 18) rfl rfl (by decide) (by decide) ?_
    refine en_s_icmp_ge rfl (fun c3 => ?_) (fun c3 => ?_)
    · rw [if_pos c3] at h
      cases h
      exact hk (some (.inl v2))
    · rw [if_neg c3] at h
      refine en_s_iload_n rfl rfl ?_
      refine en_s_aload_n rfl rfl ?_
      refine en_s_iload_n rfl rfl ?_
      refine en_s_iconst rfl ?_
      obtain ⟨t4, h5, h⟩ := en_b1_h h
      refine en_callV (as := [.inl v2, .inl 5]) (rest := [.inl v1]) (bc' := 0) (bs' := 0) hz rfl (s_mm_logAt G hz (d + 0) h5) lk_10_294 mv_mm_logAt rfl rfl rfl rfl rfl (fun _ h => h) (Nat.le_refl _) (Nat.le_refl _) ?_
      refine en_s_aload_n rfl rfl ?_
      refine en_s_iload_n rfl rfl ?_
      refine en_s_iconst rfl ?_
      refine en_s_isub rfl ?_
      refine en_s_iconst rfl ?_
      obtain ⟨t6, h7, h⟩ := en_b1_h h
      refine en_callV (as := [.inl (v2 - 1), .inl 5]) (rest := [.inl t4, .inl v1]) (bc' := 0) (bs' := 0) hz rfl (s_mm_logAt G hz (d + 0) h7) lk_10_294 mv_mm_logAt rfl rfl rfl rfl rfl (fun _ h => h) (Nat.le_refl _) (Nat.le_refl _) ?_
      refine en_s_isub rfl ?_
      refine en_s_aload_n rfl rfl ?_
      refine en_s_aload_n rfl rfl ?_
      refine en_s_iload_n rfl rfl ?_
      refine en_s_iconst rfl ?_
      refine en_s_isub rfl ?_
      refine en_s_iconst rfl ?_
      obtain ⟨t8, h9, h⟩ := en_b1_h h
      refine en_callV (as := [.inl (v2 - 1), .inl 3]) (rest := [.inr (.inl (some (24, 0, 0))), .inl (t4 - t6), .inl v1]) (bc' := 0) (bs' := 0) hz rfl (s_mm_logAt G hz (d + 0) h9) lk_10_294 mv_mm_logAt rfl rfl rfl rfl rfl (fun _ h => h) (Nat.le_refl _) (Nat.le_refl _) ?_
      obtain ⟨t10, h11, h⟩ := en_b1_h h
      refine en_callV (as := [.inl t8]) (rest := [.inl (t4 - t6), .inl v1]) (bc' := 0) (bs' := 0) hz rfl (s_mm_ticksOf G hz (d + 0) h11) lk_10_128 mv_mm_ticksOf rfl rfl rfl rfl rfl (fun _ h => h) (Nat.le_refl _) (Nat.le_refl _) ?_
      refine en_s_isub rfl ?_
      refine en_callS (as := [.inl v1, .inl ((t4 - t6) - t10)]) (rest := []) (bc' := 0) (bs' := 0) hz rfl (s_mm_greater G hz (d + 0) rfl) lk_10_62 mv_mm_greater rfl rfl rfl (fun _ h => h) (Nat.le_refl _) (Nat.le_refl _) ?_
      refine en_s_istore_n (ls' := [some (.inr (.inl (some (24, 0, 0)))), some (.inl (k_mm_greater v1 ((t4 - t6) - t10))), some (.inl v2)]) rfl rfl rfl ?_
      refine en_s_iinc (ls' := [some (.inr (.inl (some (24, 0, 0)))), some (.inl (k_mm_greater v1 ((t4 - t6) - t10))), some (.inl (v2 + 1))]) rfl rfl rfl ?_
      refine en_s_goto rfl ?_
      exact ih  h hk
set_option maxRecDepth 100000 in
set_option maxHeartbeats 4000000 in
theorem s_mm_rest (G : en_G) (hz : G.2.2.2.2.2.2.2.2 = none) (d : Nat) {cs : List en_A} {σ : en_M}  {x0 : Int32} {s0 : en_M}  (h : k_mm_rest  σ = some (x0, s0)) : en_Mt G (d + 1) 0 0 M_mm_rest [.inr (.inl (some (24, 0, 0)))] cs en_rf σ (.inr (some (.inl x0))) cs en_rf s0 := by
  refine en_meth (ls := [some (.inr (.inl (some (24, 0, 0)))), none, none]) md_mm_rest rfl rfl rfl ?_
  unfold k_mm_rest at h
  refine en_s_aload_n rfl rfl ?_
  refine en_s_iconst rfl ?_
  obtain ⟨s1, e2, h⟩ := en_let_h h
  refine en_p_putI e2 rfl rfl rfl rfl rfl ?_
  refine en_s_iconst rfl ?_
  refine en_s_istore_n (ls' := [some (.inr (.inl (some (24, 0, 0)))), some (.inl ((-1))), none]) rfl rfl rfl ?_
  refine en_s_iconst rfl ?_
  refine en_s_istore_n (ls' := [some (.inr (.inl (some (24, 0, 0)))), some (.inl ((-1))), some (.inl 1)]) rfl rfl rfl ?_
  obtain ⟨x12, h14, h⟩ := en_b1_h h
  refine s_mm_rest_9 G hz en_fu  h14 (fun f13 => ?_)
  refine en_s_iload_n rfl rfl ?_
  cases h
  exact en_s_iret rfl rfl
def k_mm_send (v1 : Int32) (v2 : Int32) (v3 : Int32) (v4 : Int32) (σ : en_M) : Option (Int32 × en_M) :=
  if (k_mm_isIn v2 1 200) = 0 then
    en_let (en_wr σ 24 0 0 0 1) fun s2 =>
    if (s2 24 0 0 0) ≤ 0 then
      en_b1 (k_mm_putsAside s2) fun s5 =>
      en_b2 (k_mm_send0 v1 v2 v3 v4 s5) fun t7 s8 =>
      en_b2 (k_mm_isTold t7 2 s8) fun t10 s11 =>
      if t10 = 0 then
        some (0, s11)
      else
        some ((s11 25 0 0 5) - 1, s11)
    else
      some (0, s2)
  else
    if (k_mm_isIn v3 10 100) = 0 then
      en_let (en_wr σ 24 0 0 0 1) fun s15 =>
      if (s15 24 0 0 0) ≤ 0 then
        en_b1 (k_mm_putsAside s15) fun s18 =>
        en_b2 (k_mm_send0 v1 v2 v3 v4 s18) fun t20 s21 =>
        en_b2 (k_mm_isTold t20 2 s21) fun t23 s24 =>
        if t23 = 0 then
          some (0, s24)
        else
          some ((s24 25 0 0 5) - 1, s24)
      else
        some (0, s15)
    else
      if (k_mm_isIn v4 0 9999) = 0 then
        en_let (en_wr σ 24 0 0 0 1) fun s28 =>
        if (s28 24 0 0 0) ≤ 0 then
          en_b1 (k_mm_putsAside s28) fun s31 =>
          en_b2 (k_mm_send0 v1 v2 v3 v4 s31) fun t33 s34 =>
          en_b2 (k_mm_isTold t33 2 s34) fun t36 s37 =>
          if t36 = 0 then
            some (0, s37)
          else
            some ((s37 25 0 0 5) - 1, s37)
        else
          some (0, s28)
      else
        en_let (en_wr σ 24 0 0 0 0) fun s40 =>
        if (s40 24 0 0 0) ≤ 0 then
          en_b1 (k_mm_putsAside s40) fun s43 =>
          en_b2 (k_mm_send0 v1 v2 v3 v4 s43) fun t45 s46 =>
          en_b2 (k_mm_isTold t45 2 s46) fun t48 s49 =>
          if t48 = 0 then
            some (0, s49)
          else
            some ((s49 25 0 0 5) - 1, s49)
        else
          some (0, s40)
set_option maxRecDepth 100000 in
set_option maxHeartbeats 4000000 in
theorem s_mm_send (G : en_G) (hz : G.2.2.2.2.2.2.2.2 = none) (d : Nat) {cs : List en_A} {σ : en_M} {v1 : Int32} {v2 : Int32} {v3 : Int32} {v4 : Int32} {x0 : Int32} {s0 : en_M}  (h : k_mm_send v1 v2 v3 v4 σ = some (x0, s0)) : en_Mt G (d + 4) 0 0 M_mm_send [.inr (.inl (some (24, 0, 0))), .inl v1, .inl v2, .inl v3, .inl v4] cs en_rf σ (.inr (some (.inl x0))) cs en_rf s0 := by
  refine en_meth (ls := [some (.inr (.inl (some (24, 0, 0)))), some (.inl v1), some (.inl v2), some (.inl v3), some (.inl v4)]) md_mm_send rfl rfl rfl ?_
  unfold k_mm_send at h
  refine en_s_aload_n rfl rfl ?_
  refine en_s_iload_n rfl rfl ?_
  refine en_s_iconst rfl ?_
  refine en_s_sipush rfl ?_
  refine en_callS (as := [.inl v2, .inl 1, .inl 200]) (rest := [.inr (.inl (some (24, 0, 0)))]) (bc' := 0) (bs' := 0) hz rfl (s_mm_isIn G hz (d + 3) rfl) lk_10_54 mv_mm_isIn rfl rfl rfl (fun _ h => h) (Nat.le_refl _) (Nat.le_refl _) ?_
  refine en_s_if_eq rfl (fun c1 => ?_) (fun c1 => ?_)
  · rw [if_pos c1] at h
    refine en_s_iconst rfl ?_
    obtain ⟨s2, e3, h⟩ := en_let_h h
    refine en_p_putI e3 rfl rfl rfl rfl rfl ?_
    refine en_s_aload_n rfl rfl ?_
    refine en_s_getI rfl rfl rfl ?_
    refine en_s_if_le rfl (fun c4 => ?_) (fun c4 => ?_)
    · rw [if_pos c4] at h
      refine en_s_aload_n rfl rfl ?_
      obtain ⟨s5, h6, h⟩ := en_b1_h h
      refine en_callV (as := []) (rest := []) (bc' := 0) (bs' := 0) hz rfl (s_mm_putsAside G hz (d + 3) h6) lk_10_262 mv_mm_putsAside rfl rfl rfl rfl rfl (fun _ h => h) (Nat.le_refl _) (Nat.le_refl _) ?_
      refine en_s_aload_n rfl rfl ?_
      refine en_s_aload_n rfl rfl ?_
      refine en_s_iload_n rfl rfl ?_
      refine en_s_iload_n rfl rfl ?_
      refine en_s_iload_n rfl rfl ?_
      refine en_s_iload rfl rfl ?_
      obtain ⟨t7, s8, h9, h⟩ := en_b2_h h
      refine en_callV (as := [.inl v1, .inl v2, .inl v3, .inl v4]) (rest := [.inr (.inl (some (24, 0, 0)))]) (bc' := 0) (bs' := 0) hz rfl (s_mm_send0 G hz (d + 0) h9) lk_10_213 mv_mm_send0 rfl rfl rfl rfl rfl (fun _ h => h) (Nat.le_refl _) (Nat.le_refl _) ?_
      refine en_s_iconst rfl ?_
      obtain ⟨t10, s11, h12, h⟩ := en_b2_h h
      refine en_callV (as := [.inl t7, .inl 2]) (rest := []) (bc' := 0) (bs' := 0) hz rfl (s_mm_isTold G hz (d + 2) h12) lk_10_268 mv_mm_isTold rfl rfl rfl rfl rfl (fun _ h => h) (Nat.le_refl _) (Nat.le_refl _) ?_
      refine en_s_if_eq rfl (fun c13 => ?_) (fun c13 => ?_)
      · rw [if_pos c13] at h
        refine en_s_iconst rfl ?_
        cases h
        exact en_s_iret rfl rfl
      · rw [if_neg c13] at h
        refine en_s_aload_n rfl rfl ?_
        refine en_s_getR (w := some (25, 0, 0)) rfl rfl rfl rfl ?_
        refine en_s_iconst rfl ?_
        refine en_c_iald (q := 5) rfl rfl (by decide) (by decide) ?_
        refine en_s_iconst rfl ?_
        refine en_s_isub rfl ?_
        refine en_s_goto rfl ?_
        cases h
        exact en_s_iret rfl rfl
    · rw [if_neg c4] at h
      refine en_s_iconst rfl ?_
      cases h
      exact en_s_iret rfl rfl
  · rw [if_neg c1] at h
    refine en_s_iload_n rfl rfl ?_
    refine en_s_bipush rfl ?_
    refine en_s_bipush rfl ?_
    refine en_callS (as := [.inl v3, .inl 10, .inl 100]) (rest := [.inr (.inl (some (24, 0, 0)))]) (bc' := 0) (bs' := 0) hz rfl (s_mm_isIn G hz (d + 3) rfl) lk_10_54 mv_mm_isIn rfl rfl rfl (fun _ h => h) (Nat.le_refl _) (Nat.le_refl _) ?_
    refine en_s_if_eq rfl (fun c14 => ?_) (fun c14 => ?_)
    · rw [if_pos c14] at h
      refine en_s_iconst rfl ?_
      obtain ⟨s15, e16, h⟩ := en_let_h h
      refine en_p_putI e16 rfl rfl rfl rfl rfl ?_
      refine en_s_aload_n rfl rfl ?_
      refine en_s_getI rfl rfl rfl ?_
      refine en_s_if_le rfl (fun c17 => ?_) (fun c17 => ?_)
      · rw [if_pos c17] at h
        refine en_s_aload_n rfl rfl ?_
        obtain ⟨s18, h19, h⟩ := en_b1_h h
        refine en_callV (as := []) (rest := []) (bc' := 0) (bs' := 0) hz rfl (s_mm_putsAside G hz (d + 3) h19) lk_10_262 mv_mm_putsAside rfl rfl rfl rfl rfl (fun _ h => h) (Nat.le_refl _) (Nat.le_refl _) ?_
        refine en_s_aload_n rfl rfl ?_
        refine en_s_aload_n rfl rfl ?_
        refine en_s_iload_n rfl rfl ?_
        refine en_s_iload_n rfl rfl ?_
        refine en_s_iload_n rfl rfl ?_
        refine en_s_iload rfl rfl ?_
        obtain ⟨t20, s21, h22, h⟩ := en_b2_h h
        refine en_callV (as := [.inl v1, .inl v2, .inl v3, .inl v4]) (rest := [.inr (.inl (some (24, 0, 0)))]) (bc' := 0) (bs' := 0) hz rfl (s_mm_send0 G hz (d + 0) h22) lk_10_213 mv_mm_send0 rfl rfl rfl rfl rfl (fun _ h => h) (Nat.le_refl _) (Nat.le_refl _) ?_
        refine en_s_iconst rfl ?_
        obtain ⟨t23, s24, h25, h⟩ := en_b2_h h
        refine en_callV (as := [.inl t20, .inl 2]) (rest := []) (bc' := 0) (bs' := 0) hz rfl (s_mm_isTold G hz (d + 2) h25) lk_10_268 mv_mm_isTold rfl rfl rfl rfl rfl (fun _ h => h) (Nat.le_refl _) (Nat.le_refl _) ?_
        refine en_s_if_eq rfl (fun c26 => ?_) (fun c26 => ?_)
        · rw [if_pos c26] at h
          refine en_s_iconst rfl ?_
          cases h
          exact en_s_iret rfl rfl
        · rw [if_neg c26] at h
          refine en_s_aload_n rfl rfl ?_
          refine en_s_getR (w := some (25, 0, 0)) rfl rfl rfl rfl ?_
          refine en_s_iconst rfl ?_
          refine en_c_iald (q := 5) rfl rfl (by decide) (by decide) ?_
          refine en_s_iconst rfl ?_
          refine en_s_isub rfl ?_
          refine en_s_goto rfl ?_
          cases h
          exact en_s_iret rfl rfl
      · rw [if_neg c17] at h
        refine en_s_iconst rfl ?_
        cases h
        exact en_s_iret rfl rfl
    · rw [if_neg c14] at h
      refine en_s_iload rfl rfl ?_
      refine en_s_iconst rfl ?_
      refine en_s_sipush rfl ?_
      refine en_callS (as := [.inl v4, .inl 0, .inl 9999]) (rest := [.inr (.inl (some (24, 0, 0)))]) (bc' := 0) (bs' := 0) hz rfl (s_mm_isIn G hz (d + 3) rfl) lk_10_54 mv_mm_isIn rfl rfl rfl (fun _ h => h) (Nat.le_refl _) (Nat.le_refl _) ?_
      refine en_s_if_eq rfl (fun c27 => ?_) (fun c27 => ?_)
      · rw [if_pos c27] at h
        refine en_s_iconst rfl ?_
        obtain ⟨s28, e29, h⟩ := en_let_h h
        refine en_p_putI e29 rfl rfl rfl rfl rfl ?_
        refine en_s_aload_n rfl rfl ?_
        refine en_s_getI rfl rfl rfl ?_
        refine en_s_if_le rfl (fun c30 => ?_) (fun c30 => ?_)
        · rw [if_pos c30] at h
          refine en_s_aload_n rfl rfl ?_
          obtain ⟨s31, h32, h⟩ := en_b1_h h
          refine en_callV (as := []) (rest := []) (bc' := 0) (bs' := 0) hz rfl (s_mm_putsAside G hz (d + 3) h32) lk_10_262 mv_mm_putsAside rfl rfl rfl rfl rfl (fun _ h => h) (Nat.le_refl _) (Nat.le_refl _) ?_
          refine en_s_aload_n rfl rfl ?_
          refine en_s_aload_n rfl rfl ?_
          refine en_s_iload_n rfl rfl ?_
          refine en_s_iload_n rfl rfl ?_
          refine en_s_iload_n rfl rfl ?_
          refine en_s_iload rfl rfl ?_
          obtain ⟨t33, s34, h35, h⟩ := en_b2_h h
          refine en_callV (as := [.inl v1, .inl v2, .inl v3, .inl v4]) (rest := [.inr (.inl (some (24, 0, 0)))]) (bc' := 0) (bs' := 0) hz rfl (s_mm_send0 G hz (d + 0) h35) lk_10_213 mv_mm_send0 rfl rfl rfl rfl rfl (fun _ h => h) (Nat.le_refl _) (Nat.le_refl _) ?_
          refine en_s_iconst rfl ?_
          obtain ⟨t36, s37, h38, h⟩ := en_b2_h h
          refine en_callV (as := [.inl t33, .inl 2]) (rest := []) (bc' := 0) (bs' := 0) hz rfl (s_mm_isTold G hz (d + 2) h38) lk_10_268 mv_mm_isTold rfl rfl rfl rfl rfl (fun _ h => h) (Nat.le_refl _) (Nat.le_refl _) ?_
          refine en_s_if_eq rfl (fun c39 => ?_) (fun c39 => ?_)
          · rw [if_pos c39] at h
            refine en_s_iconst rfl ?_
            cases h
            exact en_s_iret rfl rfl
          · rw [if_neg c39] at h
            refine en_s_aload_n rfl rfl ?_
            refine en_s_getR (w := some (25, 0, 0)) rfl rfl rfl rfl ?_
            refine en_s_iconst rfl ?_
            refine en_c_iald (q := 5) rfl rfl (by decide) (by decide) ?_
            refine en_s_iconst rfl ?_
            refine en_s_isub rfl ?_
            refine en_s_goto rfl ?_
            cases h
            exact en_s_iret rfl rfl
        · rw [if_neg c30] at h
          refine en_s_iconst rfl ?_
          cases h
          exact en_s_iret rfl rfl
      · rw [if_neg c27] at h
        refine en_s_iconst rfl ?_
        refine en_s_goto rfl ?_
        obtain ⟨s40, e41, h⟩ := en_let_h h
        refine en_p_putI e41 rfl rfl rfl rfl rfl ?_
        refine en_s_aload_n rfl rfl ?_
        refine en_s_getI rfl rfl rfl ?_
        refine en_s_if_le rfl (fun c42 => ?_) (fun c42 => ?_)
        · rw [if_pos c42] at h
          refine en_s_aload_n rfl rfl ?_
          obtain ⟨s43, h44, h⟩ := en_b1_h h
          refine en_callV (as := []) (rest := []) (bc' := 0) (bs' := 0) hz rfl (s_mm_putsAside G hz (d + 3) h44) lk_10_262 mv_mm_putsAside rfl rfl rfl rfl rfl (fun _ h => h) (Nat.le_refl _) (Nat.le_refl _) ?_
          refine en_s_aload_n rfl rfl ?_
          refine en_s_aload_n rfl rfl ?_
          refine en_s_iload_n rfl rfl ?_
          refine en_s_iload_n rfl rfl ?_
          refine en_s_iload_n rfl rfl ?_
          refine en_s_iload rfl rfl ?_
          obtain ⟨t45, s46, h47, h⟩ := en_b2_h h
          refine en_callV (as := [.inl v1, .inl v2, .inl v3, .inl v4]) (rest := [.inr (.inl (some (24, 0, 0)))]) (bc' := 0) (bs' := 0) hz rfl (s_mm_send0 G hz (d + 0) h47) lk_10_213 mv_mm_send0 rfl rfl rfl rfl rfl (fun _ h => h) (Nat.le_refl _) (Nat.le_refl _) ?_
          refine en_s_iconst rfl ?_
          obtain ⟨t48, s49, h50, h⟩ := en_b2_h h
          refine en_callV (as := [.inl t45, .inl 2]) (rest := []) (bc' := 0) (bs' := 0) hz rfl (s_mm_isTold G hz (d + 2) h50) lk_10_268 mv_mm_isTold rfl rfl rfl rfl rfl (fun _ h => h) (Nat.le_refl _) (Nat.le_refl _) ?_
          refine en_s_if_eq rfl (fun c51 => ?_) (fun c51 => ?_)
          · rw [if_pos c51] at h
            refine en_s_iconst rfl ?_
            cases h
            exact en_s_iret rfl rfl
          · rw [if_neg c51] at h
            refine en_s_aload_n rfl rfl ?_
            refine en_s_getR (w := some (25, 0, 0)) rfl rfl rfl rfl ?_
            refine en_s_iconst rfl ?_
            refine en_c_iald (q := 5) rfl rfl (by decide) (by decide) ?_
            refine en_s_iconst rfl ?_
            refine en_s_isub rfl ?_
            refine en_s_goto rfl ?_
            cases h
            exact en_s_iret rfl rfl
        · rw [if_neg c42] at h
          refine en_s_iconst rfl ?_
          cases h
          exact en_s_iret rfl rfl
def k_mm_share_33 (f0 : Nat) (v1 : Int32) (v2 : Int32) (v3 : Int32) (v4 : Int32) (σ : en_M) : Option (Int32 × Int32) := match f0 with
  | 0 => none
  | f9 + 1 =>
    if (σ 25 0 0 18) ≤ v4 then
      some (v2, v3)
    else
      en_b1 (k_mm_logAt v4 3 σ) fun t6 =>
      en_b1 (k_mm_logAt v4 2 σ) fun t8 =>
      if t8 = v1 then
        en_b1 (k_mm_logAt v4 3 σ) fun t11 =>
        k_mm_share_33 f9 v1 (v2 + t6) (v3 + t11) (v4 + 1) σ
      else
        k_mm_share_33 f9 v1 (v2 + t6) (v3 + 0) (v4 + 1) σ
def k_mm_share (v1 : Int32) (σ : en_M) : Option (Int32 × en_M) :=
  if (k_mm_isFlow v1 σ) = 0 then
    en_let (en_wr σ 24 0 0 0 1) fun s2 =>
    if (s2 24 0 0 0) ≤ 0 then
      en_b2 (k_mm_share_33 en_fu v1 0 0 0 s2) fun x13 x14 =>
      if x13 = 0 then
        some (0, s2)
      else
        en_b1 (en_dv (100 * x14) x13) fun t18 =>
        some (t18, s2)
    else
      some (0, s2)
  else
    en_let (en_wr σ 24 0 0 0 0) fun s20 =>
    if (s20 24 0 0 0) ≤ 0 then
      en_b2 (k_mm_share_33 en_fu v1 0 0 0 s20) fun x23 x24 =>
      if x23 = 0 then
        some (0, s20)
      else
        en_b1 (en_dv (100 * x24) x23) fun t28 =>
        some (t28, s20)
    else
      some (0, s20)
set_option maxRecDepth 100000 in
set_option maxHeartbeats 4000000 in
theorem s_mm_share_33 (G : en_G) (hz : G.2.2.2.2.2.2.2.2 = none) {d : Nat} {r : en_P} {cs cs' : List en_A} {ρ' : en_R} {σ' : en_M} : ∀ (f0 : Nat) {v1 : Int32} {v2 : Int32} {v3 : Int32} {v4 : Int32}  {σ : en_M} {x2 : Int32} {x3 : Int32} , k_mm_share_33 f0 v1 v2 v3 v4 σ = some (x2, x3) →
    (∀ (f4 : Option en_V), en_W G (d + 2) 0 0 M_mm_share r cs' ρ' σ' 0 0 86 [some (.inr (.inl (some (24, 0, 0)))), some (.inl v1), some (.inl x2), some (.inl x3), f4] [] cs en_rf σ) → en_W G (d + 2) 0 0 M_mm_share r cs' ρ' σ' 0 0 33 [some (.inr (.inl (some (24, 0, 0)))), some (.inl v1), some (.inl v2), some (.inl v3), some (.inl v4)] [] cs en_rf σ := by
  intro f0
  induction f0 with
  | zero =>
    intros
    rename_i h _
    cases h
  | succ f9 ih =>
    intro v1 v2 v3 v4 σ x2 x3 h hk
    rw [k_mm_share_33] at h
    refine en_s_iload rfl rfl ?_
    refine en_s_aload_n rfl rfl ?_
    refine en_s_getR (w := some (25, 0, 0)) rfl rfl rfl rfl ?_
    refine en_s_bipush rfl ?_
    refine en_c_iald (q := 18) rfl rfl (by decide) (by decide) ?_
    refine en_s_icmp_ge rfl (fun c5 => ?_) (fun c5 => ?_)
    · rw [if_pos c5] at h
      cases h
      exact hk (some (.inl v4))
    · rw [if_neg c5] at h
      refine en_s_iload_n rfl rfl ?_
      refine en_s_aload_n rfl rfl ?_
      refine en_s_iload rfl rfl ?_
      refine en_s_iconst rfl ?_
      obtain ⟨t6, h7, h⟩ := en_b1_h h
      refine en_callV (as := [.inl v4, .inl 3]) (rest := [.inl v2]) (bc' := 0) (bs' := 0) hz rfl (s_mm_logAt G hz (d + 1) h7) lk_10_294 mv_mm_logAt rfl rfl rfl rfl rfl (fun _ h => h) (Nat.le_refl _) (Nat.le_refl _) ?_
      refine en_s_iadd rfl ?_
      refine en_s_istore_n (ls' := [some (.inr (.inl (some (24, 0, 0)))), some (.inl v1), some (.inl (v2 + t6)), some (.inl v3), some (.inl v4)]) rfl rfl rfl ?_
      refine en_s_iload_n rfl rfl ?_
      refine en_s_aload_n rfl rfl ?_
      refine en_s_iload rfl rfl ?_
      refine en_s_iconst rfl ?_
      obtain ⟨t8, h9, h⟩ := en_b1_h h
      refine en_callV (as := [.inl v4, .inl 2]) (rest := [.inl v3]) (bc' := 0) (bs' := 0) hz rfl (s_mm_logAt G hz (d + 1) h9) lk_10_294 mv_mm_logAt rfl rfl rfl rfl rfl (fun _ h => h) (Nat.le_refl _) (Nat.le_refl _) ?_
      refine en_s_iload_n rfl rfl ?_
      refine en_s_icmp_ne rfl (fun c10 => ?_) (fun c10 => ?_)
      · rw [if_neg c10] at h
        refine en_s_iconst rfl ?_
        refine en_s_iadd rfl ?_
        refine en_s_istore_n (ls' := [some (.inr (.inl (some (24, 0, 0)))), some (.inl v1), some (.inl (v2 + t6)), some (.inl (v3 + 0)), some (.inl v4)]) rfl rfl rfl ?_
        refine en_s_iinc (ls' := [some (.inr (.inl (some (24, 0, 0)))), some (.inl v1), some (.inl (v2 + t6)), some (.inl (v3 + 0)), some (.inl (v4 + 1))]) rfl rfl rfl ?_
        refine en_s_goto rfl ?_
        exact ih  h hk
      · rw [if_pos c10] at h
        refine en_s_aload_n rfl rfl ?_
        refine en_s_iload rfl rfl ?_
        refine en_s_iconst rfl ?_
        obtain ⟨t11, h12, h⟩ := en_b1_h h
        refine en_callV (as := [.inl v4, .inl 3]) (rest := [.inl v3]) (bc' := 0) (bs' := 0) hz rfl (s_mm_logAt G hz (d + 1) h12) lk_10_294 mv_mm_logAt rfl rfl rfl rfl rfl (fun _ h => h) (Nat.le_refl _) (Nat.le_refl _) ?_
        refine en_s_goto rfl ?_
        refine en_s_iadd rfl ?_
        refine en_s_istore_n (ls' := [some (.inr (.inl (some (24, 0, 0)))), some (.inl v1), some (.inl (v2 + t6)), some (.inl (v3 + t11)), some (.inl v4)]) rfl rfl rfl ?_
        refine en_s_iinc (ls' := [some (.inr (.inl (some (24, 0, 0)))), some (.inl v1), some (.inl (v2 + t6)), some (.inl (v3 + t11)), some (.inl (v4 + 1))]) rfl rfl rfl ?_
        refine en_s_goto rfl ?_
        exact ih  h hk
set_option maxRecDepth 100000 in
set_option maxHeartbeats 4000000 in
theorem s_mm_share (G : en_G) (hz : G.2.2.2.2.2.2.2.2 = none) (d : Nat) {cs : List en_A} {σ : en_M} {v1 : Int32} {x0 : Int32} {s0 : en_M}  (h : k_mm_share v1 σ = some (x0, s0)) : en_Mt G (d + 2) 0 0 M_mm_share [.inr (.inl (some (24, 0, 0))), .inl v1] cs en_rf σ (.inr (some (.inl x0))) cs en_rf s0 := by
  refine en_meth (ls := [some (.inr (.inl (some (24, 0, 0)))), some (.inl v1), none, none, none]) md_mm_share rfl rfl rfl ?_
  unfold k_mm_share at h
  refine en_s_aload_n rfl rfl ?_
  refine en_s_aload_n rfl rfl ?_
  refine en_s_iload_n rfl rfl ?_
  refine en_callV (as := [.inl v1]) (rest := [.inr (.inl (some (24, 0, 0)))]) (bc' := 0) (bs' := 0) hz rfl (s_mm_isFlow G hz (d + 0) rfl) lk_10_101 mv_mm_isFlow rfl rfl rfl rfl rfl (fun _ h => h) (Nat.le_refl _) (Nat.le_refl _) ?_
  refine en_s_if_eq rfl (fun c1 => ?_) (fun c1 => ?_)
  · rw [if_pos c1] at h
    refine en_s_iconst rfl ?_
    obtain ⟨s2, e3, h⟩ := en_let_h h
    refine en_p_putI e3 rfl rfl rfl rfl rfl ?_
    refine en_s_aload_n rfl rfl ?_
    refine en_s_getI rfl rfl rfl ?_
    refine en_s_if_le rfl (fun c4 => ?_) (fun c4 => ?_)
    · rw [if_pos c4] at h
      refine en_s_iconst rfl ?_
      refine en_s_istore_n (ls' := [some (.inr (.inl (some (24, 0, 0)))), some (.inl v1), some (.inl 0), none, none]) rfl rfl rfl ?_
      refine en_s_iconst rfl ?_
      refine en_s_istore_n (ls' := [some (.inr (.inl (some (24, 0, 0)))), some (.inl v1), some (.inl 0), some (.inl 0), none]) rfl rfl rfl ?_
      refine en_s_iconst rfl ?_
      refine en_s_istore (ls' := [some (.inr (.inl (some (24, 0, 0)))), some (.inl v1), some (.inl 0), some (.inl 0), some (.inl 0)]) rfl rfl rfl ?_
      obtain ⟨x13, x14, h16, h⟩ := en_b2_h h
      refine s_mm_share_33 G hz en_fu  h16 (fun f15 => ?_)
      refine en_s_iload_n rfl rfl ?_
      refine en_s_if_ne rfl (fun c17 => ?_) (fun c17 => ?_)
      · rw [if_neg c17] at h
        refine en_s_bipush rfl ?_
        refine en_s_iload_n rfl rfl ?_
        refine en_s_imul rfl ?_
        refine en_s_iload_n rfl rfl ?_
        obtain ⟨t18, h19, h⟩ := en_b1_h h
        refine en_p_idiv h19 rfl ?_
        cases h
        exact en_s_iret rfl rfl
      · rw [if_pos c17] at h
        refine en_s_iconst rfl ?_
        refine en_s_goto rfl ?_
        cases h
        exact en_s_iret rfl rfl
    · rw [if_neg c4] at h
      refine en_s_iconst rfl ?_
      cases h
      exact en_s_iret rfl rfl
  · rw [if_neg c1] at h
    refine en_s_iconst rfl ?_
    refine en_s_goto rfl ?_
    obtain ⟨s20, e21, h⟩ := en_let_h h
    refine en_p_putI e21 rfl rfl rfl rfl rfl ?_
    refine en_s_aload_n rfl rfl ?_
    refine en_s_getI rfl rfl rfl ?_
    refine en_s_if_le rfl (fun c22 => ?_) (fun c22 => ?_)
    · rw [if_pos c22] at h
      refine en_s_iconst rfl ?_
      refine en_s_istore_n (ls' := [some (.inr (.inl (some (24, 0, 0)))), some (.inl v1), some (.inl 0), none, none]) rfl rfl rfl ?_
      refine en_s_iconst rfl ?_
      refine en_s_istore_n (ls' := [some (.inr (.inl (some (24, 0, 0)))), some (.inl v1), some (.inl 0), some (.inl 0), none]) rfl rfl rfl ?_
      refine en_s_iconst rfl ?_
      refine en_s_istore (ls' := [some (.inr (.inl (some (24, 0, 0)))), some (.inl v1), some (.inl 0), some (.inl 0), some (.inl 0)]) rfl rfl rfl ?_
      obtain ⟨x23, x24, h26, h⟩ := en_b2_h h
      refine s_mm_share_33 G hz en_fu  h26 (fun f25 => ?_)
      refine en_s_iload_n rfl rfl ?_
      refine en_s_if_ne rfl (fun c27 => ?_) (fun c27 => ?_)
      · rw [if_neg c27] at h
        refine en_s_bipush rfl ?_
        refine en_s_iload_n rfl rfl ?_
        refine en_s_imul rfl ?_
        refine en_s_iload_n rfl rfl ?_
        obtain ⟨t28, h29, h⟩ := en_b1_h h
        refine en_p_idiv h29 rfl ?_
        cases h
        exact en_s_iret rfl rfl
      · rw [if_pos c27] at h
        refine en_s_iconst rfl ?_
        refine en_s_goto rfl ?_
        cases h
        exact en_s_iret rfl rfl
    · rw [if_neg c22] at h
      refine en_s_iconst rfl ?_
      cases h
      exact en_s_iret rfl rfl
def k_mm_thrown  (σ : en_M) : Int32 :=
  σ 24 0 0 0
set_option maxRecDepth 100000 in
set_option maxHeartbeats 4000000 in
theorem s_mm_thrown (G : en_G) (hz : G.2.2.2.2.2.2.2.2 = none) (d : Nat) {cs : List en_A} {σ : en_M}  {x0 : Int32}  (h : k_mm_thrown  σ = x0) : en_Mt G (d + 0) 0 0 M_mm_thrown [.inr (.inl (some (24, 0, 0)))] cs en_rf σ (.inr (some (.inl x0))) cs en_rf σ := by
  refine en_meth (ls := [some (.inr (.inl (some (24, 0, 0))))]) md_mm_thrown rfl rfl rfl ?_
  unfold k_mm_thrown at h
  refine en_s_aload_n rfl rfl ?_
  refine en_s_getI rfl rfl rfl ?_
  subst h
  exact en_s_iret rfl rfl
def k_mm_tick (v1 : Int32) (σ : en_M) : Option (Int32 × en_M) :=
  if (k_mm_isIn v1 1 99) = 0 then
    en_let (en_wr σ 24 0 0 0 1) fun s2 =>
    if (s2 24 0 0 0) ≤ 0 then
      en_b1 (k_mm_putsAside s2) fun s5 =>
      en_b2 (k_mm_tick0 v1 s5) fun t7 s8 =>
      en_b2 (k_mm_isTold t7 2 s8) fun t10 s11 =>
      if t10 = 0 then
        some (0, s11)
      else
        some (s11 24 0 0 22, s11)
    else
      some (0, s2)
  else
    en_let (en_wr σ 24 0 0 0 0) fun s14 =>
    if (s14 24 0 0 0) ≤ 0 then
      en_b1 (k_mm_putsAside s14) fun s17 =>
      en_b2 (k_mm_tick0 v1 s17) fun t19 s20 =>
      en_b2 (k_mm_isTold t19 2 s20) fun t22 s23 =>
      if t22 = 0 then
        some (0, s23)
      else
        some (s23 24 0 0 22, s23)
    else
      some (0, s14)
set_option maxRecDepth 100000 in
set_option maxHeartbeats 4000000 in
theorem s_mm_tick (G : en_G) (hz : G.2.2.2.2.2.2.2.2 = none) (d : Nat) {cs : List en_A} {σ : en_M} {v1 : Int32} {x0 : Int32} {s0 : en_M}  (h : k_mm_tick v1 σ = some (x0, s0)) : en_Mt G (d + 8) 0 0 M_mm_tick [.inr (.inl (some (24, 0, 0))), .inl v1] cs en_rf σ (.inr (some (.inl x0))) cs en_rf s0 := by
  refine en_meth (ls := [some (.inr (.inl (some (24, 0, 0)))), some (.inl v1)]) md_mm_tick rfl rfl rfl ?_
  unfold k_mm_tick at h
  refine en_s_aload_n rfl rfl ?_
  refine en_s_iload_n rfl rfl ?_
  refine en_s_iconst rfl ?_
  refine en_s_bipush rfl ?_
  refine en_callS (as := [.inl v1, .inl 1, .inl 99]) (rest := [.inr (.inl (some (24, 0, 0)))]) (bc' := 0) (bs' := 0) hz rfl (s_mm_isIn G hz (d + 7) rfl) lk_10_54 mv_mm_isIn rfl rfl rfl (fun _ h => h) (Nat.le_refl _) (Nat.le_refl _) ?_
  refine en_s_if_eq rfl (fun c1 => ?_) (fun c1 => ?_)
  · rw [if_pos c1] at h
    refine en_s_iconst rfl ?_
    obtain ⟨s2, e3, h⟩ := en_let_h h
    refine en_p_putI e3 rfl rfl rfl rfl rfl ?_
    refine en_s_aload_n rfl rfl ?_
    refine en_s_getI rfl rfl rfl ?_
    refine en_s_if_le rfl (fun c4 => ?_) (fun c4 => ?_)
    · rw [if_pos c4] at h
      refine en_s_aload_n rfl rfl ?_
      obtain ⟨s5, h6, h⟩ := en_b1_h h
      refine en_callV (as := []) (rest := []) (bc' := 0) (bs' := 0) hz rfl (s_mm_putsAside G hz (d + 7) h6) lk_10_262 mv_mm_putsAside rfl rfl rfl rfl rfl (fun _ h => h) (Nat.le_refl _) (Nat.le_refl _) ?_
      refine en_s_aload_n rfl rfl ?_
      refine en_s_aload_n rfl rfl ?_
      refine en_s_iload_n rfl rfl ?_
      obtain ⟨t7, s8, h9, h⟩ := en_b2_h h
      refine en_callV (as := [.inl v1]) (rest := [.inr (.inl (some (24, 0, 0)))]) (bc' := 0) (bs' := 0) hz rfl (s_mm_tick0 G hz (d + 0) h9) lk_10_259 mv_mm_tick0 rfl rfl rfl rfl rfl (fun _ h => h) (Nat.le_refl _) (Nat.le_refl _) ?_
      refine en_s_iconst rfl ?_
      obtain ⟨t10, s11, h12, h⟩ := en_b2_h h
      refine en_callV (as := [.inl t7, .inl 2]) (rest := []) (bc' := 0) (bs' := 0) hz rfl (s_mm_isTold G hz (d + 6) h12) lk_10_268 mv_mm_isTold rfl rfl rfl rfl rfl (fun _ h => h) (Nat.le_refl _) (Nat.le_refl _) ?_
      refine en_s_if_eq rfl (fun c13 => ?_) (fun c13 => ?_)
      · rw [if_pos c13] at h
        refine en_s_iconst rfl ?_
        cases h
        exact en_s_iret rfl rfl
      · rw [if_neg c13] at h
        refine en_s_aload_n rfl rfl ?_
        refine en_s_getI rfl rfl rfl ?_
        refine en_s_goto rfl ?_
        cases h
        exact en_s_iret rfl rfl
    · rw [if_neg c4] at h
      refine en_s_iconst rfl ?_
      cases h
      exact en_s_iret rfl rfl
  · rw [if_neg c1] at h
    refine en_s_iconst rfl ?_
    refine en_s_goto rfl ?_
    obtain ⟨s14, e15, h⟩ := en_let_h h
    refine en_p_putI e15 rfl rfl rfl rfl rfl ?_
    refine en_s_aload_n rfl rfl ?_
    refine en_s_getI rfl rfl rfl ?_
    refine en_s_if_le rfl (fun c16 => ?_) (fun c16 => ?_)
    · rw [if_pos c16] at h
      refine en_s_aload_n rfl rfl ?_
      obtain ⟨s17, h18, h⟩ := en_b1_h h
      refine en_callV (as := []) (rest := []) (bc' := 0) (bs' := 0) hz rfl (s_mm_putsAside G hz (d + 7) h18) lk_10_262 mv_mm_putsAside rfl rfl rfl rfl rfl (fun _ h => h) (Nat.le_refl _) (Nat.le_refl _) ?_
      refine en_s_aload_n rfl rfl ?_
      refine en_s_aload_n rfl rfl ?_
      refine en_s_iload_n rfl rfl ?_
      obtain ⟨t19, s20, h21, h⟩ := en_b2_h h
      refine en_callV (as := [.inl v1]) (rest := [.inr (.inl (some (24, 0, 0)))]) (bc' := 0) (bs' := 0) hz rfl (s_mm_tick0 G hz (d + 0) h21) lk_10_259 mv_mm_tick0 rfl rfl rfl rfl rfl (fun _ h => h) (Nat.le_refl _) (Nat.le_refl _) ?_
      refine en_s_iconst rfl ?_
      obtain ⟨t22, s23, h24, h⟩ := en_b2_h h
      refine en_callV (as := [.inl t19, .inl 2]) (rest := []) (bc' := 0) (bs' := 0) hz rfl (s_mm_isTold G hz (d + 6) h24) lk_10_268 mv_mm_isTold rfl rfl rfl rfl rfl (fun _ h => h) (Nat.le_refl _) (Nat.le_refl _) ?_
      refine en_s_if_eq rfl (fun c25 => ?_) (fun c25 => ?_)
      · rw [if_pos c25] at h
        refine en_s_iconst rfl ?_
        cases h
        exact en_s_iret rfl rfl
      · rw [if_neg c25] at h
        refine en_s_aload_n rfl rfl ?_
        refine en_s_getI rfl rfl rfl ?_
        refine en_s_goto rfl ?_
        cases h
        exact en_s_iret rfl rfl
    · rw [if_neg c16] at h
      refine en_s_iconst rfl ?_
      cases h
      exact en_s_iret rfl rfl
def k_mm_told (v1 : Int32) (v2 : Int32) (σ : en_M) : Option (Int32 × en_M) :=
  if (k_mm_isKnown v1 σ) = 0 then
    en_let (en_wr σ 24 0 0 0 1) fun s37 =>
    if (s37 24 0 0 0) ≤ 0 then
      if v2 = 5 then
        en_b1 (k_mm_piecesOf v1 s37) fun t41 =>
        some (t41, s37)
      else
      if v2 = 6 then
        en_b1 (k_mm_of v1 5 s37) fun t44 =>
        some (t44, s37)
      else
      if v2 = 7 then
        en_b1 (k_mm_of v1 6 s37) fun t47 =>
        some (t47, s37)
      else
      if v2 = 8 then
        en_b1 (k_mm_of v1 7 s37) fun t50 =>
        some (t50, s37)
      else
      en_b1 (k_mm_of v1 v2 s37) fun t52 =>
      some (t52, s37)
    else
      some (0, s37)
  else
    if (k_mm_isIn v2 0 8) = 0 then
      en_let (en_wr σ 24 0 0 0 2) fun s20 =>
      if (s20 24 0 0 0) ≤ 0 then
        if v2 = 5 then
          en_b1 (k_mm_piecesOf v1 s20) fun t24 =>
          some (t24, s20)
        else
        if v2 = 6 then
          en_b1 (k_mm_of v1 5 s20) fun t27 =>
          some (t27, s20)
        else
        if v2 = 7 then
          en_b1 (k_mm_of v1 6 s20) fun t30 =>
          some (t30, s20)
        else
        if v2 = 8 then
          en_b1 (k_mm_of v1 7 s20) fun t33 =>
          some (t33, s20)
        else
        en_b1 (k_mm_of v1 v2 s20) fun t35 =>
        some (t35, s20)
      else
        some (0, s20)
    else
      en_let (en_wr σ 24 0 0 0 0) fun s3 =>
      if (s3 24 0 0 0) ≤ 0 then
        if v2 = 5 then
          en_b1 (k_mm_piecesOf v1 s3) fun t7 =>
          some (t7, s3)
        else
        if v2 = 6 then
          en_b1 (k_mm_of v1 5 s3) fun t10 =>
          some (t10, s3)
        else
        if v2 = 7 then
          en_b1 (k_mm_of v1 6 s3) fun t13 =>
          some (t13, s3)
        else
        if v2 = 8 then
          en_b1 (k_mm_of v1 7 s3) fun t16 =>
          some (t16, s3)
        else
        en_b1 (k_mm_of v1 v2 s3) fun t18 =>
        some (t18, s3)
      else
        some (0, s3)
set_option maxRecDepth 100000 in
set_option maxHeartbeats 4000000 in
theorem s_mm_told (G : en_G) (hz : G.2.2.2.2.2.2.2.2 = none) (d : Nat) {cs : List en_A} {σ : en_M} {v1 : Int32} {v2 : Int32} {x0 : Int32} {s0 : en_M}  (h : k_mm_told v1 v2 σ = some (x0, s0)) : en_Mt G (d + 4) 0 0 M_mm_told [.inr (.inl (some (24, 0, 0))), .inl v1, .inl v2] cs en_rf σ (.inr (some (.inl x0))) cs en_rf s0 := by
  refine en_meth (ls := [some (.inr (.inl (some (24, 0, 0)))), some (.inl v1), some (.inl v2)]) md_mm_told rfl rfl rfl ?_
  unfold k_mm_told at h
  refine en_s_aload_n rfl rfl ?_
  refine en_s_aload_n rfl rfl ?_
  refine en_s_iload_n rfl rfl ?_
  refine en_callV (as := [.inl v1]) (rest := [.inr (.inl (some (24, 0, 0)))]) (bc' := 0) (bs' := 0) hz rfl (s_mm_isKnown G hz (d + 2) rfl) lk_10_274 mv_mm_isKnown rfl rfl rfl rfl rfl (fun _ h => h) (Nat.le_refl _) (Nat.le_refl _) ?_
  refine en_s_if_ne rfl (fun c1 => ?_) (fun c1 => ?_)
  · rw [if_neg c1] at h
    refine en_s_iload_n rfl rfl ?_
    refine en_s_iconst rfl ?_
    refine en_s_bipush rfl ?_
    refine en_callS (as := [.inl v2, .inl 0, .inl 8]) (rest := [.inr (.inl (some (24, 0, 0)))]) (bc' := 0) (bs' := 0) hz rfl (s_mm_isIn G hz (d + 3) rfl) lk_10_54 mv_mm_isIn rfl rfl rfl (fun _ h => h) (Nat.le_refl _) (Nat.le_refl _) ?_
    refine en_s_if_ne rfl (fun c2 => ?_) (fun c2 => ?_)
    · rw [if_neg c2] at h
      refine en_s_iconst rfl ?_
      obtain ⟨s3, e4, h⟩ := en_let_h h
      refine en_p_putI e4 rfl rfl rfl rfl rfl ?_
      refine en_s_aload_n rfl rfl ?_
      refine en_s_getI rfl rfl rfl ?_
      refine en_s_if_le rfl (fun c5 => ?_) (fun c5 => ?_)
      · rw [if_pos c5] at h
        refine en_s_iload_n rfl rfl ?_
        by_cases c6 : v2 = 5
        · rw [if_pos c6] at h
          refine en_s_table [(5, 72), (6, 78), (7, 85), (8, 93)] rfl (by decide) (en_sw_hit c6) ?_
          refine en_s_aload_n rfl rfl ?_
          refine en_s_iload_n rfl rfl ?_
          obtain ⟨t7, h8, h⟩ := en_b1_h h
          refine en_callV (as := [.inl v1]) (rest := []) (bc' := 0) (bs' := 0) hz rfl (s_mm_piecesOf G hz (d + 0) h8) lk_10_82 mv_mm_piecesOf rfl rfl rfl rfl rfl (fun _ h => h) (Nat.le_refl _) (Nat.le_refl _) ?_
          cases h
          exact en_s_iret rfl rfl
        rw [if_neg c6] at h
        by_cases c9 : v2 = 6
        · rw [if_pos c9] at h
          refine en_s_table [(5, 72), (6, 78), (7, 85), (8, 93)] rfl (by decide) (en_sw_miss c6 (en_sw_hit c9)) ?_
          refine en_s_aload_n rfl rfl ?_
          refine en_s_iload_n rfl rfl ?_
          refine en_s_iconst rfl ?_
          obtain ⟨t10, h11, h⟩ := en_b1_h h
          refine en_callV (as := [.inl v1, .inl 5]) (rest := []) (bc' := 0) (bs' := 0) hz rfl (s_mm_of G hz (d + 2) h11) lk_10_66 mv_mm_of rfl rfl rfl rfl rfl (fun _ h => h) (Nat.le_refl _) (Nat.le_refl _) ?_
          cases h
          exact en_s_iret rfl rfl
        rw [if_neg c9] at h
        by_cases c12 : v2 = 7
        · rw [if_pos c12] at h
          refine en_s_table [(5, 72), (6, 78), (7, 85), (8, 93)] rfl (by decide) (en_sw_miss c6 (en_sw_miss c9 (en_sw_hit c12))) ?_
          refine en_s_aload_n rfl rfl ?_
          refine en_s_iload_n rfl rfl ?_
          refine en_s_bipush rfl ?_
          obtain ⟨t13, h14, h⟩ := en_b1_h h
          refine en_callV (as := [.inl v1, .inl 6]) (rest := []) (bc' := 0) (bs' := 0) hz rfl (s_mm_of G hz (d + 2) h14) lk_10_66 mv_mm_of rfl rfl rfl rfl rfl (fun _ h => h) (Nat.le_refl _) (Nat.le_refl _) ?_
          cases h
          exact en_s_iret rfl rfl
        rw [if_neg c12] at h
        by_cases c15 : v2 = 8
        · rw [if_pos c15] at h
          refine en_s_table [(5, 72), (6, 78), (7, 85), (8, 93)] rfl (by decide) (en_sw_miss c6 (en_sw_miss c9 (en_sw_miss c12 (en_sw_hit c15)))) ?_
          refine en_s_aload_n rfl rfl ?_
          refine en_s_iload_n rfl rfl ?_
          refine en_s_bipush rfl ?_
          obtain ⟨t16, h17, h⟩ := en_b1_h h
          refine en_callV (as := [.inl v1, .inl 7]) (rest := []) (bc' := 0) (bs' := 0) hz rfl (s_mm_of G hz (d + 2) h17) lk_10_66 mv_mm_of rfl rfl rfl rfl rfl (fun _ h => h) (Nat.le_refl _) (Nat.le_refl _) ?_
          cases h
          exact en_s_iret rfl rfl
        rw [if_neg c15] at h
        refine en_s_table [(5, 72), (6, 78), (7, 85), (8, 93)] rfl (by decide) (en_sw_miss c6 (en_sw_miss c9 (en_sw_miss c12 (en_sw_miss c15 en_sw_nil)))) ?_
        refine en_s_aload_n rfl rfl ?_
        refine en_s_iload_n rfl rfl ?_
        refine en_s_iload_n rfl rfl ?_
        obtain ⟨t18, h19, h⟩ := en_b1_h h
        refine en_callV (as := [.inl v1, .inl v2]) (rest := []) (bc' := 0) (bs' := 0) hz rfl (s_mm_of G hz (d + 2) h19) lk_10_66 mv_mm_of rfl rfl rfl rfl rfl (fun _ h => h) (Nat.le_refl _) (Nat.le_refl _) ?_
        cases h
        exact en_s_iret rfl rfl
      · rw [if_neg c5] at h
        refine en_s_iconst rfl ?_
        cases h
        exact en_s_iret rfl rfl
    · rw [if_pos c2] at h
      refine en_s_iconst rfl ?_
      refine en_s_goto rfl ?_
      obtain ⟨s20, e21, h⟩ := en_let_h h
      refine en_p_putI e21 rfl rfl rfl rfl rfl ?_
      refine en_s_aload_n rfl rfl ?_
      refine en_s_getI rfl rfl rfl ?_
      refine en_s_if_le rfl (fun c22 => ?_) (fun c22 => ?_)
      · rw [if_pos c22] at h
        refine en_s_iload_n rfl rfl ?_
        by_cases c23 : v2 = 5
        · rw [if_pos c23] at h
          refine en_s_table [(5, 72), (6, 78), (7, 85), (8, 93)] rfl (by decide) (en_sw_hit c23) ?_
          refine en_s_aload_n rfl rfl ?_
          refine en_s_iload_n rfl rfl ?_
          obtain ⟨t24, h25, h⟩ := en_b1_h h
          refine en_callV (as := [.inl v1]) (rest := []) (bc' := 0) (bs' := 0) hz rfl (s_mm_piecesOf G hz (d + 0) h25) lk_10_82 mv_mm_piecesOf rfl rfl rfl rfl rfl (fun _ h => h) (Nat.le_refl _) (Nat.le_refl _) ?_
          cases h
          exact en_s_iret rfl rfl
        rw [if_neg c23] at h
        by_cases c26 : v2 = 6
        · rw [if_pos c26] at h
          refine en_s_table [(5, 72), (6, 78), (7, 85), (8, 93)] rfl (by decide) (en_sw_miss c23 (en_sw_hit c26)) ?_
          refine en_s_aload_n rfl rfl ?_
          refine en_s_iload_n rfl rfl ?_
          refine en_s_iconst rfl ?_
          obtain ⟨t27, h28, h⟩ := en_b1_h h
          refine en_callV (as := [.inl v1, .inl 5]) (rest := []) (bc' := 0) (bs' := 0) hz rfl (s_mm_of G hz (d + 2) h28) lk_10_66 mv_mm_of rfl rfl rfl rfl rfl (fun _ h => h) (Nat.le_refl _) (Nat.le_refl _) ?_
          cases h
          exact en_s_iret rfl rfl
        rw [if_neg c26] at h
        by_cases c29 : v2 = 7
        · rw [if_pos c29] at h
          refine en_s_table [(5, 72), (6, 78), (7, 85), (8, 93)] rfl (by decide) (en_sw_miss c23 (en_sw_miss c26 (en_sw_hit c29))) ?_
          refine en_s_aload_n rfl rfl ?_
          refine en_s_iload_n rfl rfl ?_
          refine en_s_bipush rfl ?_
          obtain ⟨t30, h31, h⟩ := en_b1_h h
          refine en_callV (as := [.inl v1, .inl 6]) (rest := []) (bc' := 0) (bs' := 0) hz rfl (s_mm_of G hz (d + 2) h31) lk_10_66 mv_mm_of rfl rfl rfl rfl rfl (fun _ h => h) (Nat.le_refl _) (Nat.le_refl _) ?_
          cases h
          exact en_s_iret rfl rfl
        rw [if_neg c29] at h
        by_cases c32 : v2 = 8
        · rw [if_pos c32] at h
          refine en_s_table [(5, 72), (6, 78), (7, 85), (8, 93)] rfl (by decide) (en_sw_miss c23 (en_sw_miss c26 (en_sw_miss c29 (en_sw_hit c32)))) ?_
          refine en_s_aload_n rfl rfl ?_
          refine en_s_iload_n rfl rfl ?_
          refine en_s_bipush rfl ?_
          obtain ⟨t33, h34, h⟩ := en_b1_h h
          refine en_callV (as := [.inl v1, .inl 7]) (rest := []) (bc' := 0) (bs' := 0) hz rfl (s_mm_of G hz (d + 2) h34) lk_10_66 mv_mm_of rfl rfl rfl rfl rfl (fun _ h => h) (Nat.le_refl _) (Nat.le_refl _) ?_
          cases h
          exact en_s_iret rfl rfl
        rw [if_neg c32] at h
        refine en_s_table [(5, 72), (6, 78), (7, 85), (8, 93)] rfl (by decide) (en_sw_miss c23 (en_sw_miss c26 (en_sw_miss c29 (en_sw_miss c32 en_sw_nil)))) ?_
        refine en_s_aload_n rfl rfl ?_
        refine en_s_iload_n rfl rfl ?_
        refine en_s_iload_n rfl rfl ?_
        obtain ⟨t35, h36, h⟩ := en_b1_h h
        refine en_callV (as := [.inl v1, .inl v2]) (rest := []) (bc' := 0) (bs' := 0) hz rfl (s_mm_of G hz (d + 2) h36) lk_10_66 mv_mm_of rfl rfl rfl rfl rfl (fun _ h => h) (Nat.le_refl _) (Nat.le_refl _) ?_
        cases h
        exact en_s_iret rfl rfl
      · rw [if_neg c22] at h
        refine en_s_iconst rfl ?_
        cases h
        exact en_s_iret rfl rfl
  · rw [if_pos c1] at h
    refine en_s_iconst rfl ?_
    refine en_s_goto rfl ?_
    obtain ⟨s37, e38, h⟩ := en_let_h h
    refine en_p_putI e38 rfl rfl rfl rfl rfl ?_
    refine en_s_aload_n rfl rfl ?_
    refine en_s_getI rfl rfl rfl ?_
    refine en_s_if_le rfl (fun c39 => ?_) (fun c39 => ?_)
    · rw [if_pos c39] at h
      refine en_s_iload_n rfl rfl ?_
      by_cases c40 : v2 = 5
      · rw [if_pos c40] at h
        refine en_s_table [(5, 72), (6, 78), (7, 85), (8, 93)] rfl (by decide) (en_sw_hit c40) ?_
        refine en_s_aload_n rfl rfl ?_
        refine en_s_iload_n rfl rfl ?_
        obtain ⟨t41, h42, h⟩ := en_b1_h h
        refine en_callV (as := [.inl v1]) (rest := []) (bc' := 0) (bs' := 0) hz rfl (s_mm_piecesOf G hz (d + 0) h42) lk_10_82 mv_mm_piecesOf rfl rfl rfl rfl rfl (fun _ h => h) (Nat.le_refl _) (Nat.le_refl _) ?_
        cases h
        exact en_s_iret rfl rfl
      rw [if_neg c40] at h
      by_cases c43 : v2 = 6
      · rw [if_pos c43] at h
        refine en_s_table [(5, 72), (6, 78), (7, 85), (8, 93)] rfl (by decide) (en_sw_miss c40 (en_sw_hit c43)) ?_
        refine en_s_aload_n rfl rfl ?_
        refine en_s_iload_n rfl rfl ?_
        refine en_s_iconst rfl ?_
        obtain ⟨t44, h45, h⟩ := en_b1_h h
        refine en_callV (as := [.inl v1, .inl 5]) (rest := []) (bc' := 0) (bs' := 0) hz rfl (s_mm_of G hz (d + 2) h45) lk_10_66 mv_mm_of rfl rfl rfl rfl rfl (fun _ h => h) (Nat.le_refl _) (Nat.le_refl _) ?_
        cases h
        exact en_s_iret rfl rfl
      rw [if_neg c43] at h
      by_cases c46 : v2 = 7
      · rw [if_pos c46] at h
        refine en_s_table [(5, 72), (6, 78), (7, 85), (8, 93)] rfl (by decide) (en_sw_miss c40 (en_sw_miss c43 (en_sw_hit c46))) ?_
        refine en_s_aload_n rfl rfl ?_
        refine en_s_iload_n rfl rfl ?_
        refine en_s_bipush rfl ?_
        obtain ⟨t47, h48, h⟩ := en_b1_h h
        refine en_callV (as := [.inl v1, .inl 6]) (rest := []) (bc' := 0) (bs' := 0) hz rfl (s_mm_of G hz (d + 2) h48) lk_10_66 mv_mm_of rfl rfl rfl rfl rfl (fun _ h => h) (Nat.le_refl _) (Nat.le_refl _) ?_
        cases h
        exact en_s_iret rfl rfl
      rw [if_neg c46] at h
      by_cases c49 : v2 = 8
      · rw [if_pos c49] at h
        refine en_s_table [(5, 72), (6, 78), (7, 85), (8, 93)] rfl (by decide) (en_sw_miss c40 (en_sw_miss c43 (en_sw_miss c46 (en_sw_hit c49)))) ?_
        refine en_s_aload_n rfl rfl ?_
        refine en_s_iload_n rfl rfl ?_
        refine en_s_bipush rfl ?_
        obtain ⟨t50, h51, h⟩ := en_b1_h h
        refine en_callV (as := [.inl v1, .inl 7]) (rest := []) (bc' := 0) (bs' := 0) hz rfl (s_mm_of G hz (d + 2) h51) lk_10_66 mv_mm_of rfl rfl rfl rfl rfl (fun _ h => h) (Nat.le_refl _) (Nat.le_refl _) ?_
        cases h
        exact en_s_iret rfl rfl
      rw [if_neg c49] at h
      refine en_s_table [(5, 72), (6, 78), (7, 85), (8, 93)] rfl (by decide) (en_sw_miss c40 (en_sw_miss c43 (en_sw_miss c46 (en_sw_miss c49 en_sw_nil)))) ?_
      refine en_s_aload_n rfl rfl ?_
      refine en_s_iload_n rfl rfl ?_
      refine en_s_iload_n rfl rfl ?_
      obtain ⟨t52, h53, h⟩ := en_b1_h h
      refine en_callV (as := [.inl v1, .inl v2]) (rest := []) (bc' := 0) (bs' := 0) hz rfl (s_mm_of G hz (d + 2) h53) lk_10_66 mv_mm_of rfl rfl rfl rfl rfl (fun _ h => h) (Nat.le_refl _) (Nat.le_refl _) ?_
      cases h
      exact en_s_iret rfl rfl
    · rw [if_neg c39] at h
      refine en_s_iconst rfl ?_
      cases h
      exact en_s_iret rfl rfl
def k_mm_undo_37 (f0 : Nat) (v1 : Int32) (σ : en_M) : Option (en_M) := match f0 with
  | 0 => none
  | f9 + 1 =>
    if 938 ≤ v1 then
      some (σ)
    else
      en_b1 (en_rd 7504 (σ 28 0 0) ((938 * (σ 24 0 0 5)) + v1)) fun t8 =>
      en_b1 (en_wa 938 σ 25 0 0 v1 t8) fun s10 =>
      k_mm_undo_37 f9 (v1 + 1) s10
def k_mm_undo  (σ : en_M) : Option (Int32 × en_M) :=
  if (σ 24 0 0 5) = 0 then
    en_let (en_wr σ 24 0 0 0 1) fun s15 =>
    if (s15 24 0 0 0) ≤ 0 then
      en_let (en_wr s15 24 0 0 5 ((s15 24 0 0 5) - 1)) fun s18 =>
      en_b1 (k_mm_undo_37 en_fu 0 s18) fun s21 =>
      some (s21 24 0 0 5, s21)
    else
      some (0, s15)
  else
    en_let (en_wr σ 24 0 0 0 0) fun s2 =>
    if (s2 24 0 0 0) ≤ 0 then
      en_let (en_wr s2 24 0 0 5 ((s2 24 0 0 5) - 1)) fun s5 =>
      en_b1 (k_mm_undo_37 en_fu 0 s5) fun s13 =>
      some (s13 24 0 0 5, s13)
    else
      some (0, s2)
set_option maxRecDepth 100000 in
set_option maxHeartbeats 4000000 in
theorem s_mm_undo_37 (G : en_G) (hz : G.2.2.2.2.2.2.2.2 = none) {d : Nat} {r : en_P} {cs cs' : List en_A} {ρ' : en_R} {σ' : en_M} : ∀ (f0 : Nat) {v1 : Int32}  {σ : en_M} {s0 : en_M} , k_mm_undo_37 f0 v1 σ = some (s0) →
    (∀ (f1 : Option en_V), en_W G (d + 0) 0 0 M_mm_undo r cs' ρ' σ' 0 0 71 [some (.inr (.inl (some (24, 0, 0)))), f1] [] cs en_rf s0) → en_W G (d + 0) 0 0 M_mm_undo r cs' ρ' σ' 0 0 37 [some (.inr (.inl (some (24, 0, 0)))), some (.inl v1)] [] cs en_rf σ := by
  intro f0
  induction f0 with
  | zero =>
    intros
    rename_i h _
    cases h
  | succ f9 ih =>
    intro v1 σ s0 h hk
    rw [k_mm_undo_37] at h
    refine en_s_iload_n rfl rfl ?_
    refine en_s_sipush rfl ?_
    refine en_s_icmp_ge rfl (fun c7 => ?_) (fun c7 => ?_)
    · rw [if_pos c7] at h
      cases h
      exact hk (some (.inl v1))
    · rw [if_neg c7] at h
      refine en_s_aload_n rfl rfl ?_
      refine en_s_getR (w := some (25, 0, 0)) rfl rfl rfl rfl ?_
      refine en_s_iload_n rfl rfl ?_
      refine en_s_aload_n rfl rfl ?_
      refine en_s_getR (w := some (28, 0, 0)) rfl rfl rfl rfl ?_
      refine en_s_sipush rfl ?_
      refine en_s_aload_n rfl rfl ?_
      refine en_s_getI rfl rfl rfl ?_
      refine en_s_imul rfl ?_
      refine en_s_iload_n rfl rfl ?_
      refine en_s_iadd rfl ?_
      obtain ⟨t8, h9, h⟩ := en_b1_h h
      refine en_s_iald rfl rfl h9 ?_
      obtain ⟨s10, e11, h⟩ := en_b1_h h
      refine en_s_iast rfl rfl e11 ?_
      refine en_s_iinc (ls' := [some (.inr (.inl (some (24, 0, 0)))), some (.inl (v1 + 1))]) rfl rfl rfl ?_
      refine en_s_goto rfl ?_
      exact ih  h hk
set_option maxRecDepth 100000 in
set_option maxHeartbeats 4000000 in
theorem s_mm_undo (G : en_G) (hz : G.2.2.2.2.2.2.2.2 = none) (d : Nat) {cs : List en_A} {σ : en_M}  {x0 : Int32} {s0 : en_M}  (h : k_mm_undo  σ = some (x0, s0)) : en_Mt G (d + 0) 0 0 M_mm_undo [.inr (.inl (some (24, 0, 0)))] cs en_rf σ (.inr (some (.inl x0))) cs en_rf s0 := by
  refine en_meth (ls := [some (.inr (.inl (some (24, 0, 0)))), none]) md_mm_undo rfl rfl rfl ?_
  unfold k_mm_undo at h
  refine en_s_aload_n rfl rfl ?_
  refine en_s_aload_n rfl rfl ?_
  refine en_s_getI rfl rfl rfl ?_
  refine en_s_if_ne rfl (fun c1 => ?_) (fun c1 => ?_)
  · rw [if_neg c1] at h
    refine en_s_iconst rfl ?_
    obtain ⟨s2, e3, h⟩ := en_let_h h
    refine en_p_putI e3 rfl rfl rfl rfl rfl ?_
    refine en_s_aload_n rfl rfl ?_
    refine en_s_getI rfl rfl rfl ?_
    refine en_s_if_le rfl (fun c4 => ?_) (fun c4 => ?_)
    · rw [if_pos c4] at h
      refine en_s_aload_n rfl rfl ?_
      refine en_s_dup rfl rfl ?_
      refine en_s_getI rfl rfl rfl ?_
      refine en_s_iconst rfl ?_
      refine en_s_isub rfl ?_
      obtain ⟨s5, e6, h⟩ := en_let_h h
      refine en_p_putI e6 rfl rfl rfl rfl rfl ?_
      refine en_s_iconst rfl ?_
      refine en_s_istore_n (ls' := [some (.inr (.inl (some (24, 0, 0)))), some (.inl 0)]) rfl rfl rfl ?_
      obtain ⟨s13, h14, h⟩ := en_b1_h h
      refine s_mm_undo_37 G hz en_fu  h14 (fun f12 => ?_)
      refine en_s_aload_n rfl rfl ?_
      refine en_s_getI rfl rfl rfl ?_
      cases h
      exact en_s_iret rfl rfl
    · rw [if_neg c4] at h
      refine en_s_iconst rfl ?_
      cases h
      exact en_s_iret rfl rfl
  · rw [if_pos c1] at h
    refine en_s_iconst rfl ?_
    refine en_s_goto rfl ?_
    obtain ⟨s15, e16, h⟩ := en_let_h h
    refine en_p_putI e16 rfl rfl rfl rfl rfl ?_
    refine en_s_aload_n rfl rfl ?_
    refine en_s_getI rfl rfl rfl ?_
    refine en_s_if_le rfl (fun c17 => ?_) (fun c17 => ?_)
    · rw [if_pos c17] at h
      refine en_s_aload_n rfl rfl ?_
      refine en_s_dup rfl rfl ?_
      refine en_s_getI rfl rfl rfl ?_
      refine en_s_iconst rfl ?_
      refine en_s_isub rfl ?_
      obtain ⟨s18, e19, h⟩ := en_let_h h
      refine en_p_putI e19 rfl rfl rfl rfl rfl ?_
      refine en_s_iconst rfl ?_
      refine en_s_istore_n (ls' := [some (.inr (.inl (some (24, 0, 0)))), some (.inl 0)]) rfl rfl rfl ?_
      obtain ⟨s21, h22, h⟩ := en_b1_h h
      refine s_mm_undo_37 G hz en_fu  h22 (fun f20 => ?_)
      refine en_s_aload_n rfl rfl ?_
      refine en_s_getI rfl rfl rfl ?_
      cases h
      exact en_s_iret rfl rfl
    · rw [if_neg c17] at h
      refine en_s_iconst rfl ?_
      cases h
      exact en_s_iret rfl rfl
def k_mm_why  (σ : en_M) : Option (Int32 × en_M) :=
  en_let (en_wr σ 24 0 0 0 0) fun s1 =>
  some (s1 24 0 0 7, s1)
set_option maxRecDepth 100000 in
set_option maxHeartbeats 4000000 in
theorem s_mm_why (G : en_G) (hz : G.2.2.2.2.2.2.2.2 = none) (d : Nat) {cs : List en_A} {σ : en_M}  {x0 : Int32} {s0 : en_M}  (h : k_mm_why  σ = some (x0, s0)) : en_Mt G (d + 0) 0 0 M_mm_why [.inr (.inl (some (24, 0, 0)))] cs en_rf σ (.inr (some (.inl x0))) cs en_rf s0 := by
  refine en_meth (ls := [some (.inr (.inl (some (24, 0, 0))))]) md_mm_why rfl rfl rfl ?_
  unfold k_mm_why at h
  refine en_s_aload_n rfl rfl ?_
  refine en_s_iconst rfl ?_
  obtain ⟨s1, e2, h⟩ := en_let_h h
  refine en_p_putI e2 rfl rfl rfl rfl rfl ?_
  refine en_s_aload_n rfl rfl ?_
  refine en_s_getI rfl rfl rfl ?_
  cases h
  exact en_s_iret rfl rfl
def k_mm_works_71 (f0 : Nat) (v1 : Int32) (v2 : Int32) (v3 : Int32) (σ : en_M) : Option (Int32) := match f0 with
  | 0 => none
  | f9 + 1 =>
    if (σ 24 0 0 16) ≤ v3 then
      some (v2)
    else
      en_b1 (en_rd 160 (σ 34 0 0) v3) fun t8 =>
      en_b1 (en_rd 160 (σ 34 0 0) v3) fun t10 =>
      en_b1 (en_rd 160 (σ 32 0 0) v3) fun t12 =>
      en_b1 (en_rd 160 (σ 32 0 0) v3) fun t14 =>
      en_b1 (k_mm_sizeOf (t12 / 64) (t14 - t14 / 64 * 64) σ) fun t16 =>
      en_b1 (k_mm_ticksOf t16 σ) fun t18 =>
      k_mm_works_71 f9 v1 (v2 + (k_mm_both t8 (t10 + t18) (σ 25 0 0 4) v1)) (v3 + 1) σ
def k_mm_works (v1 : Int32) (σ : en_M) : Option (Int32 × en_M) :=
  if (k_mm_isIn v1 (σ 25 0 0 4) 9999) = 0 then
    en_let (en_wr σ 24 0 0 0 1) fun s2 =>
    if (s2 24 0 0 0) ≤ 0 then
      en_b1 (k_mm_plays s2) fun s5 =>
      en_b1 (k_mm_works_71 en_fu v1 (k_mm_both (s5 25 0 0 4) ((s5 25 0 0 4) + (s5 25 0 0 17)) (s5 25 0 0 4) v1) 0 s5) fun x20 =>
      some (x20, s5)
    else
      some (0, s2)
  else
    en_let (en_wr σ 24 0 0 0 0) fun s23 =>
    if (s23 24 0 0 0) ≤ 0 then
      en_b1 (k_mm_plays s23) fun s26 =>
      en_b1 (k_mm_works_71 en_fu v1 (k_mm_both (s26 25 0 0 4) ((s26 25 0 0 4) + (s26 25 0 0 17)) (s26 25 0 0 4) v1) 0 s26) fun x28 =>
      some (x28, s26)
    else
      some (0, s23)
set_option maxRecDepth 100000 in
set_option maxHeartbeats 4000000 in
theorem s_mm_works_71 (G : en_G) (hz : G.2.2.2.2.2.2.2.2 = none) {d : Nat} {r : en_P} {cs cs' : List en_A} {ρ' : en_R} {σ' : en_M} : ∀ (f0 : Nat) {v1 : Int32} {v2 : Int32} {v3 : Int32}  {σ : en_M} {x2 : Int32} , k_mm_works_71 f0 v1 v2 v3 σ = some (x2) →
    (∀ (f3 : Option en_V), en_W G (d + 7) 0 0 M_mm_works r cs' ρ' σ' 0 0 137 [some (.inr (.inl (some (24, 0, 0)))), some (.inl v1), some (.inl x2), f3] [] cs en_rf σ) → en_W G (d + 7) 0 0 M_mm_works r cs' ρ' σ' 0 0 71 [some (.inr (.inl (some (24, 0, 0)))), some (.inl v1), some (.inl v2), some (.inl v3)] [] cs en_rf σ := by
  intro f0
  induction f0 with
  | zero =>
    intros
    rename_i h _
    cases h
  | succ f9 ih =>
    intro v1 v2 v3 σ x2 h hk
    rw [k_mm_works_71] at h
    refine en_s_iload_n rfl rfl ?_
    refine en_s_aload_n rfl rfl ?_
    refine en_s_getI rfl rfl rfl ?_
    refine en_s_icmp_ge rfl (fun c7 => ?_) (fun c7 => ?_)
    · rw [if_pos c7] at h
      cases h
      exact hk (some (.inl v3))
    · rw [if_neg c7] at h
      refine en_s_iload_n rfl rfl ?_
      refine en_s_aload_n rfl rfl ?_
      refine en_s_getR (w := some (34, 0, 0)) rfl rfl rfl rfl ?_
      refine en_s_iload_n rfl rfl ?_
      obtain ⟨t8, h9, h⟩ := en_b1_h h
      refine en_s_iald rfl rfl h9 ?_
      refine en_s_aload_n rfl rfl ?_
      refine en_s_getR (w := some (34, 0, 0)) rfl rfl rfl rfl ?_
      refine en_s_iload_n rfl rfl ?_
      obtain ⟨t10, h11, h⟩ := en_b1_h h
      refine en_s_iald rfl rfl h11 ?_
      refine en_s_aload_n rfl rfl ?_
      refine en_s_aload_n rfl rfl ?_
      refine en_s_aload_n rfl rfl ?_
      refine en_s_getR (w := some (32, 0, 0)) rfl rfl rfl rfl ?_
      refine en_s_iload_n rfl rfl ?_
      obtain ⟨t12, h13, h⟩ := en_b1_h h
      refine en_s_iald rfl rfl h13 ?_
      refine en_s_bipush rfl ?_
      refine en_s_idiv rfl (by decide) ?_
      refine en_s_aload_n rfl rfl ?_
      refine en_s_getR (w := some (32, 0, 0)) rfl rfl rfl rfl ?_
      refine en_s_iload_n rfl rfl ?_
      obtain ⟨t14, h15, h⟩ := en_b1_h h
      refine en_s_iald rfl rfl h15 ?_
      refine en_s_bipush rfl ?_
      refine en_s_irem rfl (by decide) ?_
      obtain ⟨t16, h17, h⟩ := en_b1_h h
      refine en_callV (as := [.inl (t12 / 64), .inl (t14 - t14 / 64 * 64)]) (rest := [.inr (.inl (some (24, 0, 0))), .inl t10, .inl t8, .inl v2]) (bc' := 0) (bs' := 0) hz rfl (s_mm_sizeOf G hz (d + 3) h17) lk_10_98 mv_mm_sizeOf rfl rfl rfl rfl rfl (fun _ h => h) (Nat.le_refl _) (Nat.le_refl _) ?_
      obtain ⟨t18, h19, h⟩ := en_b1_h h
      refine en_callV (as := [.inl t16]) (rest := [.inl t10, .inl t8, .inl v2]) (bc' := 0) (bs' := 0) hz rfl (s_mm_ticksOf G hz (d + 6) h19) lk_10_128 mv_mm_ticksOf rfl rfl rfl rfl rfl (fun _ h => h) (Nat.le_refl _) (Nat.le_refl _) ?_
      refine en_s_iadd rfl ?_
      refine en_s_aload_n rfl rfl ?_
      refine en_s_getR (w := some (25, 0, 0)) rfl rfl rfl rfl ?_
      refine en_s_iconst rfl ?_
      refine en_c_iald (q := 4) rfl rfl (by decide) (by decide) ?_
      refine en_s_iload_n rfl rfl ?_
      refine en_callS (as := [.inl t8, .inl (t10 + t18), .inl (σ 25 0 0 4), .inl v1]) (rest := [.inl v2]) (bc' := 0) (bs' := 0) hz rfl (s_mm_both G hz (d + 5) rfl) lk_10_328 mv_mm_both rfl rfl rfl (fun _ h => h) (Nat.le_refl _) (Nat.le_refl _) ?_
      refine en_s_iadd rfl ?_
      refine en_s_istore_n (ls' := [some (.inr (.inl (some (24, 0, 0)))), some (.inl v1), some (.inl (v2 + (k_mm_both t8 (t10 + t18) (σ 25 0 0 4) v1))), some (.inl v3)]) rfl rfl rfl ?_
      refine en_s_iinc (ls' := [some (.inr (.inl (some (24, 0, 0)))), some (.inl v1), some (.inl (v2 + (k_mm_both t8 (t10 + t18) (σ 25 0 0 4) v1))), some (.inl (v3 + 1))]) rfl rfl rfl ?_
      refine en_s_goto rfl ?_
      exact ih  h hk
set_option maxRecDepth 100000 in
set_option maxHeartbeats 4000000 in
theorem s_mm_works (G : en_G) (hz : G.2.2.2.2.2.2.2.2 = none) (d : Nat) {cs : List en_A} {σ : en_M} {v1 : Int32} {x0 : Int32} {s0 : en_M}  (h : k_mm_works v1 σ = some (x0, s0)) : en_Mt G (d + 7) 0 0 M_mm_works [.inr (.inl (some (24, 0, 0))), .inl v1] cs en_rf σ (.inr (some (.inl x0))) cs en_rf s0 := by
  refine en_meth (ls := [some (.inr (.inl (some (24, 0, 0)))), some (.inl v1), none, none]) md_mm_works rfl rfl rfl ?_
  unfold k_mm_works at h
  refine en_s_aload_n rfl rfl ?_
  refine en_s_iload_n rfl rfl ?_
  refine en_s_aload_n rfl rfl ?_
  refine en_s_getR (w := some (25, 0, 0)) rfl rfl rfl rfl ?_
  refine en_s_iconst rfl ?_
  refine en_c_iald (q := 4) rfl rfl (by decide) (by decide) ?_
  refine en_s_sipush rfl ?_
  refine en_callS (as := [.inl v1, .inl (σ 25 0 0 4), .inl 9999]) (rest := [.inr (.inl (some (24, 0, 0)))]) (bc' := 0) (bs' := 0) hz rfl (s_mm_isIn G hz (d + 6) rfl) lk_10_54 mv_mm_isIn rfl rfl rfl (fun _ h => h) (Nat.le_refl _) (Nat.le_refl _) ?_
  refine en_s_if_eq rfl (fun c1 => ?_) (fun c1 => ?_)
  · rw [if_pos c1] at h
    refine en_s_iconst rfl ?_
    obtain ⟨s2, e3, h⟩ := en_let_h h
    refine en_p_putI e3 rfl rfl rfl rfl rfl ?_
    refine en_s_aload_n rfl rfl ?_
    refine en_s_getI rfl rfl rfl ?_
    refine en_s_if_le rfl (fun c4 => ?_) (fun c4 => ?_)
    · rw [if_pos c4] at h
      refine en_s_aload_n rfl rfl ?_
      obtain ⟨s5, h6, h⟩ := en_b1_h h
      refine en_callV (as := []) (rest := []) (bc' := 0) (bs' := 0) hz rfl (s_mm_plays G hz (d + 0) h6) lk_10_322 mv_mm_plays rfl rfl rfl rfl rfl (fun _ h => h) (Nat.le_refl _) (Nat.le_refl _) ?_
      refine en_s_aload_n rfl rfl ?_
      refine en_s_getR (w := some (25, 0, 0)) rfl rfl rfl rfl ?_
      refine en_s_iconst rfl ?_
      refine en_c_iald (q := 4) rfl rfl (by decide) (by decide) ?_
      refine en_s_aload_n rfl rfl ?_
      refine en_s_getR (w := some (25, 0, 0)) rfl rfl rfl rfl ?_
      refine en_s_iconst rfl ?_
      refine en_c_iald (q := 4) rfl rfl (by decide) (by decide) ?_
      refine en_s_aload_n rfl rfl ?_
      refine en_s_getR (w := some (25, 0, 0)) rfl rfl rfl rfl ?_
      refine en_s_bipush rfl ?_
      refine en_c_iald (q := 17) rfl rfl (by decide) (by decide) ?_
      refine en_s_iadd rfl ?_
      refine en_s_aload_n rfl rfl ?_
      refine en_s_getR (w := some (25, 0, 0)) rfl rfl rfl rfl ?_
      refine en_s_iconst rfl ?_
      refine en_c_iald (q := 4) rfl rfl (by decide) (by decide) ?_
      refine en_s_iload_n rfl rfl ?_
      refine en_callS (as := [.inl (s5 25 0 0 4), .inl ((s5 25 0 0 4) + (s5 25 0 0 17)), .inl (s5 25 0 0 4), .inl v1]) (rest := []) (bc' := 0) (bs' := 0) hz rfl (s_mm_both G hz (d + 5) rfl) lk_10_328 mv_mm_both rfl rfl rfl (fun _ h => h) (Nat.le_refl _) (Nat.le_refl _) ?_
      refine en_s_istore_n (ls' := [some (.inr (.inl (some (24, 0, 0)))), some (.inl v1), some (.inl (k_mm_both (s5 25 0 0 4) ((s5 25 0 0 4) + (s5 25 0 0 17)) (s5 25 0 0 4) v1)), none]) rfl rfl rfl ?_
      refine en_s_iconst rfl ?_
      refine en_s_istore_n (ls' := [some (.inr (.inl (some (24, 0, 0)))), some (.inl v1), some (.inl (k_mm_both (s5 25 0 0 4) ((s5 25 0 0 4) + (s5 25 0 0 17)) (s5 25 0 0 4) v1)), some (.inl 0)]) rfl rfl rfl ?_
      obtain ⟨x20, h22, h⟩ := en_b1_h h
      refine s_mm_works_71 G hz en_fu  h22 (fun f21 => ?_)
      refine en_s_iload_n rfl rfl ?_
      cases h
      exact en_s_iret rfl rfl
    · rw [if_neg c4] at h
      refine en_s_iconst rfl ?_
      cases h
      exact en_s_iret rfl rfl
  · rw [if_neg c1] at h
    refine en_s_iconst rfl ?_
    refine en_s_goto rfl ?_
    obtain ⟨s23, e24, h⟩ := en_let_h h
    refine en_p_putI e24 rfl rfl rfl rfl rfl ?_
    refine en_s_aload_n rfl rfl ?_
    refine en_s_getI rfl rfl rfl ?_
    refine en_s_if_le rfl (fun c25 => ?_) (fun c25 => ?_)
    · rw [if_pos c25] at h
      refine en_s_aload_n rfl rfl ?_
      obtain ⟨s26, h27, h⟩ := en_b1_h h
      refine en_callV (as := []) (rest := []) (bc' := 0) (bs' := 0) hz rfl (s_mm_plays G hz (d + 0) h27) lk_10_322 mv_mm_plays rfl rfl rfl rfl rfl (fun _ h => h) (Nat.le_refl _) (Nat.le_refl _) ?_
      refine en_s_aload_n rfl rfl ?_
      refine en_s_getR (w := some (25, 0, 0)) rfl rfl rfl rfl ?_
      refine en_s_iconst rfl ?_
      refine en_c_iald (q := 4) rfl rfl (by decide) (by decide) ?_
      refine en_s_aload_n rfl rfl ?_
      refine en_s_getR (w := some (25, 0, 0)) rfl rfl rfl rfl ?_
      refine en_s_iconst rfl ?_
      refine en_c_iald (q := 4) rfl rfl (by decide) (by decide) ?_
      refine en_s_aload_n rfl rfl ?_
      refine en_s_getR (w := some (25, 0, 0)) rfl rfl rfl rfl ?_
      refine en_s_bipush rfl ?_
      refine en_c_iald (q := 17) rfl rfl (by decide) (by decide) ?_
      refine en_s_iadd rfl ?_
      refine en_s_aload_n rfl rfl ?_
      refine en_s_getR (w := some (25, 0, 0)) rfl rfl rfl rfl ?_
      refine en_s_iconst rfl ?_
      refine en_c_iald (q := 4) rfl rfl (by decide) (by decide) ?_
      refine en_s_iload_n rfl rfl ?_
      refine en_callS (as := [.inl (s26 25 0 0 4), .inl ((s26 25 0 0 4) + (s26 25 0 0 17)), .inl (s26 25 0 0 4), .inl v1]) (rest := []) (bc' := 0) (bs' := 0) hz rfl (s_mm_both G hz (d + 5) rfl) lk_10_328 mv_mm_both rfl rfl rfl (fun _ h => h) (Nat.le_refl _) (Nat.le_refl _) ?_
      refine en_s_istore_n (ls' := [some (.inr (.inl (some (24, 0, 0)))), some (.inl v1), some (.inl (k_mm_both (s26 25 0 0 4) ((s26 25 0 0 4) + (s26 25 0 0 17)) (s26 25 0 0 4) v1)), none]) rfl rfl rfl ?_
      refine en_s_iconst rfl ?_
      refine en_s_istore_n (ls' := [some (.inr (.inl (some (24, 0, 0)))), some (.inl v1), some (.inl (k_mm_both (s26 25 0 0 4) ((s26 25 0 0 4) + (s26 25 0 0 17)) (s26 25 0 0 4) v1)), some (.inl 0)]) rfl rfl rfl ?_
      obtain ⟨x28, h30, h⟩ := en_b1_h h
      refine s_mm_works_71 G hz en_fu  h30 (fun f29 => ?_)
      refine en_s_iload_n rfl rfl ?_
      cases h
      exact en_s_iret rfl rfl
    · rw [if_neg c25] at h
      refine en_s_iconst rfl ?_
      cases h
      exact en_s_iret rfl rfl

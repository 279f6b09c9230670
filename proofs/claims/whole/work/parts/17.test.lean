/-! By program: the methods as functions, and that they are these. -/
def k_mm_isIn (v0 : Int32) (v1 : Int32) (v2 : Int32) : Int32 :=
  if v0 < v1 then
    0
  else
    if v2 < v0 then
      0
    else
      1
theorem z_mm_isIn {v0 : Int32} {v1 : Int32} {v2 : Int32} : k_mm_isIn v0 v1 v2 = 0 ∨ k_mm_isIn v0 v1 v2 = 1 := by
  unfold k_mm_isIn
  (repeat split) <;> first | exact Or.inl rfl | exact Or.inr rfl
set_option maxRecDepth 100000 in
set_option maxHeartbeats 4000000 in
theorem s_mm_isIn (G : en_G) (d : Nat) {cs : List en_A} {σ : en_M} {v0 : Int32} {v1 : Int32} {v2 : Int32} {x0 : Int32}  (h : k_mm_isIn v0 v1 v2 = x0) : en_Mt G (d + 0) 0 0 M_mm_isIn [.inl v0, .inl v1, .inl v2] cs en_rf σ (.inr (some (.inl x0))) cs en_rf σ := by
  refine en_meth (ls := [some (.inl v0), some (.inl v1), some (.inl v2)]) md_mm_isIn rfl rfl rfl ?_
  unfold k_mm_isIn at h
  refine en_s_iload_n rfl rfl ?_
  refine en_s_iload_n rfl rfl ?_
  refine en_s_icmp_lt rfl (fun c1 => ?_) (fun c1 => ?_)
  · rw [if_pos c1] at h
    refine en_s_iconst rfl ?_
    subst h
    exact en_s_zret rfl rfl (by decide)
  · rw [if_neg c1] at h
    refine en_s_iload_n rfl rfl ?_
    refine en_s_iload_n rfl rfl ?_
    refine en_s_icmp_gt rfl (fun c2 => ?_) (fun c2 => ?_)
    · rw [if_pos c2] at h
      refine en_s_iconst rfl ?_
      subst h
      exact en_s_zret rfl rfl (by decide)
    · rw [if_neg c2] at h
      refine en_s_iconst rfl ?_
      refine en_s_goto rfl ?_
      subst h
      exact en_s_zret rfl rfl (by decide)
def k_mm_slotOf (v0 : Int32) : Int32 :=
  74 + (68 * (v0 - v0 / 8 * 8))
set_option maxRecDepth 100000 in
set_option maxHeartbeats 4000000 in
theorem s_mm_slotOf (G : en_G) (d : Nat) {cs : List en_A} {σ : en_M} {v0 : Int32} {x0 : Int32}  (h : k_mm_slotOf v0 = x0) : en_Mt G (d + 0) 0 0 M_mm_slotOf [.inl v0] cs en_rf σ (.inr (some (.inl x0))) cs en_rf σ := by
  refine en_meth (ls := [some (.inl v0)]) md_mm_slotOf rfl rfl rfl ?_
  unfold k_mm_slotOf at h
  refine en_s_bipush rfl ?_
  refine en_s_bipush rfl ?_
  refine en_s_iload_n rfl rfl ?_
  refine en_s_bipush rfl ?_
  refine en_s_irem rfl (by decide) ?_
  refine en_s_imul rfl ?_
  refine en_s_iadd rfl ?_
  subst h
  exact en_s_iret rfl rfl
def k_mm_of (v1 : Int32) (v2 : Int32) (σ : en_M) : Option (Int32) :=
  en_b1 (en_rd 938 (σ 25 0 0) ((k_mm_slotOf v1) + v2)) fun t1 =>
  some t1
set_option maxRecDepth 100000 in
set_option maxHeartbeats 4000000 in
theorem s_mm_of (G : en_G) (d : Nat) {cs : List en_A} {σ : en_M} {v1 : Int32} {v2 : Int32} {x0 : Int32}  (h : k_mm_of v1 v2 σ = some x0) : en_Mt G (d + 1) 0 0 M_mm_of [.inr (.inl (some (24, 0, 0))), .inl v1, .inl v2] cs en_rf σ (.inr (some (.inl x0))) cs en_rf σ := by
  refine en_meth (ls := [some (.inr (.inl (some (24, 0, 0)))), some (.inl v1), some (.inl v2)]) md_mm_of rfl rfl rfl ?_
  unfold k_mm_of at h
  refine en_s_aload_n rfl rfl ?_
  refine en_s_getR (w := some (25, 0, 0)) rfl rfl rfl rfl ?_
  refine en_s_iload_n rfl rfl ?_
  refine en_callS (as := [.inl v1]) (rest := [.inr (.inl (some (25, 0, 0)))]) (bc' := 0) (bs' := 0) rfl (s_mm_slotOf G (d + 0) rfl) lk_10_58 mv_mm_slotOf rfl rfl rfl (fun _ h => h) (Nat.le_refl _) (Nat.le_refl _) ?_
  refine en_s_iload_n rfl rfl ?_
  refine en_s_iadd rfl ?_
  obtain ⟨t1, h2, h⟩ := en_b1_h h
  refine en_s_iald rfl rfl h2 ?_
  cases h
  exact en_s_iret rfl rfl
def k_mm_waiting_10 (f0 : Nat) (v1 : Int32) (v2 : Int32) (σ : en_M) : Option (Int32) := match f0 with
  | 0 => none
  | f9 + 1 =>
    if (σ 25 0 0 5) ≤ v2 then
      some (v1)
    else
      en_b1 (k_mm_of v2 4 σ) fun t2 =>
      if t2 = 0 then
        k_mm_waiting_10 f9 (v1 + 1) (v2 + 1) σ
      else
        k_mm_waiting_10 f9 (v1 + 0) (v2 + 1) σ
def k_mm_waiting  (σ : en_M) : Option (Int32) :=
  en_b1 (k_mm_waiting_10 en_fu 0 (σ 25 0 0 6) σ) fun x5 =>
  some x5
set_option maxRecDepth 100000 in
set_option maxHeartbeats 4000000 in
theorem s_mm_waiting_10 (G : en_G) {d : Nat} {r : en_P} {cs cs' : List en_A} {ρ' : en_R} {σ' : en_M} : ∀ (f0 : Nat) {v1 : Int32} {v2 : Int32}  {σ : en_M} {x1 : Int32}, k_mm_waiting_10 f0 v1 v2 σ = some (x1) →
    (∀ (f2 : Option en_V), en_W G (d + 2) 0 0 M_mm_waiting r cs' ρ' σ' 0 0 43 [some (.inr (.inl (some (24, 0, 0)))), some (.inl x1), f2] [] cs en_rf σ) → en_W G (d + 2) 0 0 M_mm_waiting r cs' ρ' σ' 0 0 10 [some (.inr (.inl (some (24, 0, 0)))), some (.inl v1), some (.inl v2)] [] cs en_rf σ := by
  intro f0
  induction f0 with
  | zero =>
    intros
    rename_i h _
    cases h
  | succ f9 ih =>
    intro v1 v2 σ x1 h hk
    rw [k_mm_waiting_10] at h
    refine en_s_iload_n rfl rfl ?_
    refine en_s_aload_n rfl rfl ?_
    refine en_s_getR (w := some (25, 0, 0)) rfl rfl rfl rfl ?_
    refine en_s_iconst rfl ?_
    refine en_c_iald (q := 5) rfl rfl (by decide) (by decide) ?_
    refine en_s_icmp_ge rfl (fun c1 => ?_) (fun c1 => ?_)
    · rw [if_pos c1] at h
      cases h
      exact hk (some (.inl v2))
    · rw [if_neg c1] at h
      refine en_s_iload_n rfl rfl ?_
      refine en_s_aload_n rfl rfl ?_
      refine en_s_iload_n rfl rfl ?_
      refine en_s_iconst rfl ?_
      obtain ⟨t2, h3, h⟩ := en_b1_h h
      refine en_callV (as := [.inl v2, .inl 4]) (rest := [.inl v1]) (bc' := 0) (bs' := 0) rfl (s_mm_of G (d + 0) h3) lk_10_66 mv_mm_of rfl rfl rfl rfl rfl (fun _ h => h) (Nat.le_refl _) (Nat.le_refl _) ?_
      refine en_s_if_ne rfl (fun c4 => ?_) (fun c4 => ?_)
      · rw [if_neg c4] at h
        refine en_s_iconst rfl ?_
        refine en_s_iadd rfl ?_
        refine en_s_istore_n (ls' := [some (.inr (.inl (some (24, 0, 0)))), some (.inl (v1 + 0)), some (.inl v2)]) rfl rfl rfl ?_
        refine en_s_iinc (ls' := [some (.inr (.inl (some (24, 0, 0)))), some (.inl (v1 + 0)), some (.inl (v2 + 1))]) rfl rfl rfl ?_
        refine en_s_goto rfl ?_
        exact ih  h hk
      · rw [if_pos c4] at h
        refine en_s_iconst rfl ?_
        refine en_s_goto rfl ?_
        refine en_s_iadd rfl ?_
        refine en_s_istore_n (ls' := [some (.inr (.inl (some (24, 0, 0)))), some (.inl (v1 + 1)), some (.inl v2)]) rfl rfl rfl ?_
        refine en_s_iinc (ls' := [some (.inr (.inl (some (24, 0, 0)))), some (.inl (v1 + 1)), some (.inl (v2 + 1))]) rfl rfl rfl ?_
        refine en_s_goto rfl ?_
        exact ih  h hk
set_option maxRecDepth 100000 in
set_option maxHeartbeats 4000000 in
theorem s_mm_waiting (G : en_G) (d : Nat) {cs : List en_A} {σ : en_M}  {x0 : Int32}  (h : k_mm_waiting  σ = some x0) : en_Mt G (d + 2) 0 0 M_mm_waiting [.inr (.inl (some (24, 0, 0)))] cs en_rf σ (.inr (some (.inl x0))) cs en_rf σ := by
  refine en_meth (ls := [some (.inr (.inl (some (24, 0, 0)))), none, none]) md_mm_waiting rfl rfl rfl ?_
  unfold k_mm_waiting at h
  refine en_s_iconst rfl ?_
  refine en_s_istore_n (ls' := [some (.inr (.inl (some (24, 0, 0)))), some (.inl 0), none]) rfl rfl rfl ?_
  refine en_s_aload_n rfl rfl ?_
  refine en_s_getR (w := some (25, 0, 0)) rfl rfl rfl rfl ?_
  refine en_s_bipush rfl ?_
  refine en_c_iald (q := 6) rfl rfl (by decide) (by decide) ?_
  refine en_s_istore_n (ls' := [some (.inr (.inl (some (24, 0, 0)))), some (.inl 0), some (.inl (σ 25 0 0 6))]) rfl rfl rfl ?_
  obtain ⟨x5, h7, h⟩ := en_b1_h h
  refine s_mm_waiting_10 G en_fu  h7 (fun f6 => ?_)
  refine en_s_iload_n rfl rfl ?_
  cases h
  exact en_s_iret rfl rfl
def k_mm_greater (v0 : Int32) (v1 : Int32) : Int32 :=
  if v0 ≤ v1 then
    v1
  else
    v0
set_option maxRecDepth 100000 in
set_option maxHeartbeats 4000000 in
theorem s_mm_greater (G : en_G) (d : Nat) {cs : List en_A} {σ : en_M} {v0 : Int32} {v1 : Int32} {x0 : Int32}  (h : k_mm_greater v0 v1 = x0) : en_Mt G (d + 0) 0 0 M_mm_greater [.inl v0, .inl v1] cs en_rf σ (.inr (some (.inl x0))) cs en_rf σ := by
  refine en_meth (ls := [some (.inl v0), some (.inl v1)]) md_mm_greater rfl rfl rfl ?_
  unfold k_mm_greater at h
  refine en_s_iload_n rfl rfl ?_
  refine en_s_iload_n rfl rfl ?_
  refine en_s_icmp_le rfl (fun c1 => ?_) (fun c1 => ?_)
  · rw [if_pos c1] at h
    refine en_s_iload_n rfl rfl ?_
    subst h
    exact en_s_iret rfl rfl
  · rw [if_neg c1] at h
    refine en_s_iload_n rfl rfl ?_
    refine en_s_goto rfl ?_
    subst h
    exact en_s_iret rfl rfl
def k_mm_lesser (v0 : Int32) (v1 : Int32) : Int32 :=
  if v1 ≤ v0 then
    v1
  else
    v0
set_option maxRecDepth 100000 in
set_option maxHeartbeats 4000000 in
theorem s_mm_lesser (G : en_G) (d : Nat) {cs : List en_A} {σ : en_M} {v0 : Int32} {v1 : Int32} {x0 : Int32}  (h : k_mm_lesser v0 v1 = x0) : en_Mt G (d + 0) 0 0 M_mm_lesser [.inl v0, .inl v1] cs en_rf σ (.inr (some (.inl x0))) cs en_rf σ := by
  refine en_meth (ls := [some (.inl v0), some (.inl v1)]) md_mm_lesser rfl rfl rfl ?_
  unfold k_mm_lesser at h
  refine en_s_iload_n rfl rfl ?_
  refine en_s_iload_n rfl rfl ?_
  refine en_s_icmp_ge rfl (fun c1 => ?_) (fun c1 => ?_)
  · rw [if_pos c1] at h
    refine en_s_iload_n rfl rfl ?_
    subst h
    exact en_s_iret rfl rfl
  · rw [if_neg c1] at h
    refine en_s_iload_n rfl rfl ?_
    refine en_s_goto rfl ?_
    subst h
    exact en_s_iret rfl rfl
def k_mm_isFlow (v1 : Int32) (σ : en_M) : Int32 :=
  k_mm_isIn v1 0 ((σ 25 0 0 3) - 1)
theorem z_mm_isFlow {v1 : Int32} {σ : en_M} : k_mm_isFlow v1 σ = 0 ∨ k_mm_isFlow v1 σ = 1 := by
  unfold k_mm_isFlow
  (repeat split) <;> first | exact Or.inl rfl | exact Or.inr rfl | exact z_mm_isIn
set_option maxRecDepth 100000 in
set_option maxHeartbeats 4000000 in
theorem s_mm_isFlow (G : en_G) (d : Nat) {cs : List en_A} {σ : en_M} {v1 : Int32} {x0 : Int32}  (h : k_mm_isFlow v1 σ = x0) : en_Mt G (d + 1) 0 0 M_mm_isFlow [.inr (.inl (some (24, 0, 0))), .inl v1] cs en_rf σ (.inr (some (.inl x0))) cs en_rf σ := by
  refine en_meth (ls := [some (.inr (.inl (some (24, 0, 0)))), some (.inl v1)]) md_mm_isFlow rfl rfl rfl ?_
  unfold k_mm_isFlow at h
  refine en_s_iload_n rfl rfl ?_
  refine en_s_iconst rfl ?_
  refine en_s_aload_n rfl rfl ?_
  refine en_s_getR (w := some (25, 0, 0)) rfl rfl rfl rfl ?_
  refine en_s_iconst rfl ?_
  refine en_c_iald (q := 3) rfl rfl (by decide) (by decide) ?_
  refine en_s_iconst rfl ?_
  refine en_s_isub rfl ?_
  refine en_callS (as := [.inl v1, .inl 0, .inl ((σ 25 0 0 3) - 1)]) (rest := []) (bc' := 0) (bs' := 0) rfl (s_mm_isIn G (d + 0) rfl) lk_10_54 mv_mm_isIn rfl rfl rfl (fun _ h => h) (Nat.le_refl _) (Nat.le_refl _) ?_
  subst h
  exact en_s_zret rfl rfl z_mm_isIn
def k_mm_cutsOf (v1 : Int32) (σ : en_M) : Option (Int32) :=
  en_b1 (k_mm_of v1 1 σ) fun t1 =>
  en_b1 (k_mm_of v1 2 σ) fun t3 =>
  en_b1 (k_mm_of v1 2 σ) fun t5 =>
  en_b1 (en_dv ((t1 + t3) - 1) t5) fun t7 =>
  some t7
set_option maxRecDepth 100000 in
set_option maxHeartbeats 4000000 in
theorem s_mm_cutsOf (G : en_G) (d : Nat) {cs : List en_A} {σ : en_M} {v1 : Int32} {x0 : Int32}  (h : k_mm_cutsOf v1 σ = some x0) : en_Mt G (d + 2) 0 0 M_mm_cutsOf [.inr (.inl (some (24, 0, 0))), .inl v1] cs en_rf σ (.inr (some (.inl x0))) cs en_rf σ := by
  refine en_meth (ls := [some (.inr (.inl (some (24, 0, 0)))), some (.inl v1)]) md_mm_cutsOf rfl rfl rfl ?_
  unfold k_mm_cutsOf at h
  refine en_s_aload_n rfl rfl ?_
  refine en_s_iload_n rfl rfl ?_
  refine en_s_iconst rfl ?_
  obtain ⟨t1, h2, h⟩ := en_b1_h h
  refine en_callV (as := [.inl v1, .inl 1]) (rest := []) (bc' := 0) (bs' := 0) rfl (s_mm_of G (d + 0) h2) lk_10_66 mv_mm_of rfl rfl rfl rfl rfl (fun _ h => h) (Nat.le_refl _) (Nat.le_refl _) ?_
  refine en_s_aload_n rfl rfl ?_
  refine en_s_iload_n rfl rfl ?_
  refine en_s_iconst rfl ?_
  obtain ⟨t3, h4, h⟩ := en_b1_h h
  refine en_callV (as := [.inl v1, .inl 2]) (rest := [.inl t1]) (bc' := 0) (bs' := 0) rfl (s_mm_of G (d + 0) h4) lk_10_66 mv_mm_of rfl rfl rfl rfl rfl (fun _ h => h) (Nat.le_refl _) (Nat.le_refl _) ?_
  refine en_s_iadd rfl ?_
  refine en_s_iconst rfl ?_
  refine en_s_isub rfl ?_
  refine en_s_aload_n rfl rfl ?_
  refine en_s_iload_n rfl rfl ?_
  refine en_s_iconst rfl ?_
  obtain ⟨t5, h6, h⟩ := en_b1_h h
  refine en_callV (as := [.inl v1, .inl 2]) (rest := [.inl ((t1 + t3) - 1)]) (bc' := 0) (bs' := 0) rfl (s_mm_of G (d + 0) h6) lk_10_66 mv_mm_of rfl rfl rfl rfl rfl (fun _ h => h) (Nat.le_refl _) (Nat.le_refl _) ?_
  obtain ⟨t7, h8, h⟩ := en_b1_h h
  refine en_p_idiv h8 rfl ?_
  cases h
  exact en_s_iret rfl rfl
def k_mm_piecesOf (v1 : Int32) (σ : en_M) : Option (Int32) :=
  en_b1 (k_mm_of v1 4 σ) fun t1 =>
  if t1 = 1 then
    en_b1 (k_mm_cutsOf v1 σ) fun t4 =>
    some t4
  else
    en_b1 (k_mm_of v1 4 σ) fun t6 =>
    if t6 = 2 then
      en_b1 (k_mm_cutsOf v1 σ) fun t9 =>
      some t9
    else
      some 0
set_option maxRecDepth 100000 in
set_option maxHeartbeats 4000000 in
theorem s_mm_piecesOf (G : en_G) (d : Nat) {cs : List en_A} {σ : en_M} {v1 : Int32} {x0 : Int32}  (h : k_mm_piecesOf v1 σ = some x0) : en_Mt G (d + 3) 0 0 M_mm_piecesOf [.inr (.inl (some (24, 0, 0))), .inl v1] cs en_rf σ (.inr (some (.inl x0))) cs en_rf σ := by
  refine en_meth (ls := [some (.inr (.inl (some (24, 0, 0)))), some (.inl v1)]) md_mm_piecesOf rfl rfl rfl ?_
  unfold k_mm_piecesOf at h
  refine en_s_aload_n rfl rfl ?_
  refine en_s_iload_n rfl rfl ?_
  refine en_s_iconst rfl ?_
  obtain ⟨t1, h2, h⟩ := en_b1_h h
  refine en_callV (as := [.inl v1, .inl 4]) (rest := []) (bc' := 0) (bs' := 0) rfl (s_mm_of G (d + 1) h2) lk_10_66 mv_mm_of rfl rfl rfl rfl rfl (fun _ h => h) (Nat.le_refl _) (Nat.le_refl _) ?_
  refine en_s_iconst rfl ?_
  refine en_s_icmp_eq rfl (fun c3 => ?_) (fun c3 => ?_)
  · rw [if_pos c3] at h
    refine en_s_aload_n rfl rfl ?_
    refine en_s_iload_n rfl rfl ?_
    obtain ⟨t4, h5, h⟩ := en_b1_h h
    refine en_callV (as := [.inl v1]) (rest := []) (bc' := 0) (bs' := 0) rfl (s_mm_cutsOf G (d + 0) h5) lk_10_69 mv_mm_cutsOf rfl rfl rfl rfl rfl (fun _ h => h) (Nat.le_refl _) (Nat.le_refl _) ?_
    refine en_s_goto rfl ?_
    cases h
    exact en_s_iret rfl rfl
  · rw [if_neg c3] at h
    refine en_s_aload_n rfl rfl ?_
    refine en_s_iload_n rfl rfl ?_
    refine en_s_iconst rfl ?_
    obtain ⟨t6, h7, h⟩ := en_b1_h h
    refine en_callV (as := [.inl v1, .inl 4]) (rest := []) (bc' := 0) (bs' := 0) rfl (s_mm_of G (d + 1) h7) lk_10_66 mv_mm_of rfl rfl rfl rfl rfl (fun _ h => h) (Nat.le_refl _) (Nat.le_refl _) ?_
    refine en_s_iconst rfl ?_
    refine en_s_icmp_ne rfl (fun c8 => ?_) (fun c8 => ?_)
    · rw [if_neg c8] at h
      refine en_s_iconst rfl ?_
      cases h
      exact en_s_iret rfl rfl
    · rw [if_pos c8] at h
      refine en_s_aload_n rfl rfl ?_
      refine en_s_iload_n rfl rfl ?_
      obtain ⟨t9, h10, h⟩ := en_b1_h h
      refine en_callV (as := [.inl v1]) (rest := []) (bc' := 0) (bs' := 0) rfl (s_mm_cutsOf G (d + 0) h10) lk_10_69 mv_mm_cutsOf rfl rfl rfl rfl rfl (fun _ h => h) (Nat.le_refl _) (Nat.le_refl _) ?_
      refine en_s_goto rfl ?_
      cases h
      exact en_s_iret rfl rfl
def k_mm_pieceAt (v0 : Int32) (v1 : Int32) (v2 : Int32) : Int32 :=
  (((k_mm_slotOf v0) + 8) + (3 * v1)) + v2
set_option maxRecDepth 100000 in
set_option maxHeartbeats 4000000 in
theorem s_mm_pieceAt (G : en_G) (d : Nat) {cs : List en_A} {σ : en_M} {v0 : Int32} {v1 : Int32} {v2 : Int32} {x0 : Int32}  (h : k_mm_pieceAt v0 v1 v2 = x0) : en_Mt G (d + 1) 0 0 M_mm_pieceAt [.inl v0, .inl v1, .inl v2] cs en_rf σ (.inr (some (.inl x0))) cs en_rf σ := by
  refine en_meth (ls := [some (.inl v0), some (.inl v1), some (.inl v2)]) md_mm_pieceAt rfl rfl rfl ?_
  unfold k_mm_pieceAt at h
  refine en_s_iload_n rfl rfl ?_
  refine en_callS (as := [.inl v0]) (rest := []) (bc' := 0) (bs' := 0) rfl (s_mm_slotOf G (d + 0) rfl) lk_10_58 mv_mm_slotOf rfl rfl rfl (fun _ h => h) (Nat.le_refl _) (Nat.le_refl _) ?_
  refine en_s_bipush rfl ?_
  refine en_s_iadd rfl ?_
  refine en_s_iconst rfl ?_
  refine en_s_iload_n rfl rfl ?_
  refine en_s_imul rfl ?_
  refine en_s_iadd rfl ?_
  refine en_s_iload_n rfl rfl ?_
  refine en_s_iadd rfl ?_
  subst h
  exact en_s_iret rfl rfl
def k_mm_hasLeft (v1 : Int32) (v2 : Int32) (σ : en_M) : Option (Int32) :=
  en_b1 (en_rd 938 (σ 25 0 0) (k_mm_pieceAt v1 v2 1)) fun t1 =>
  if t1 = (-1) then
    some 0
  else
    some 1
set_option maxRecDepth 100000 in
set_option maxHeartbeats 4000000 in
theorem s_mm_hasLeft (G : en_G) (d : Nat) {cs : List en_A} {σ : en_M} {v1 : Int32} {v2 : Int32} {x0 : Int32}  (h : k_mm_hasLeft v1 v2 σ = some x0) : en_Mt G (d + 2) 0 0 M_mm_hasLeft [.inr (.inl (some (24, 0, 0))), .inl v1, .inl v2] cs en_rf σ (.inr (some (.inl x0))) cs en_rf σ := by
  refine en_meth (ls := [some (.inr (.inl (some (24, 0, 0)))), some (.inl v1), some (.inl v2)]) md_mm_hasLeft rfl rfl rfl ?_
  unfold k_mm_hasLeft at h
  refine en_s_aload_n rfl rfl ?_
  refine en_s_getR (w := some (25, 0, 0)) rfl rfl rfl rfl ?_
  refine en_s_iload_n rfl rfl ?_
  refine en_s_iload_n rfl rfl ?_
  refine en_s_iconst rfl ?_
  refine en_callS (as := [.inl v1, .inl v2, .inl 1]) (rest := [.inr (.inl (some (25, 0, 0)))]) (bc' := 0) (bs' := 0) rfl (s_mm_pieceAt G (d + 0) rfl) lk_10_78 mv_mm_pieceAt rfl rfl rfl (fun _ h => h) (Nat.le_refl _) (Nat.le_refl _) ?_
  obtain ⟨t1, h2, h⟩ := en_b1_h h
  refine en_s_iald rfl rfl h2 ?_
  refine en_s_iconst rfl ?_
  refine en_s_icmp_eq rfl (fun c3 => ?_) (fun c3 => ?_)
  · rw [if_pos c3] at h
    refine en_s_iconst rfl ?_
    cases h
    exact en_s_zret rfl rfl (by decide)
  · rw [if_neg c3] at h
    refine en_s_iconst rfl ?_
    refine en_s_goto rfl ?_
    cases h
    exact en_s_zret rfl rfl (by decide)
def k_mm_hasAnyLeft_2 (f0 : Nat) (v1 : Int32) (v2 : Int32) (σ : en_M) : Option ((Int32) ⊕ (Unit)) := match f0 with
  | 0 => none
  | f9 + 1 =>
    en_b1 (k_mm_piecesOf v1 σ) fun t1 =>
    if t1 ≤ v2 then
      some (.inr ())
    else
      en_b1 (k_mm_hasLeft v1 v2 σ) fun t4 =>
      if t4 = 0 then
        k_mm_hasAnyLeft_2 f9 v1 (v2 + 1) σ
      else
        some (.inl (1))
def k_mm_hasAnyLeft (v1 : Int32) (σ : en_M) : Option (Int32) :=
  en_rx (k_mm_hasAnyLeft_2 en_fu v1 0 σ) (fun r9 => some r9) (fun u11 =>
  some 0)
set_option maxRecDepth 100000 in
set_option maxHeartbeats 4000000 in
theorem s_mm_hasAnyLeft_2 (G : en_G) {d : Nat} {r : en_P} {cs cs' : List en_A} {ρ' : en_R} {σ' : en_M} : ∀ (f0 : Nat) {v1 : Int32} {v2 : Int32}  {σ : en_M} {x9 : ((Int32) ⊕ (Unit))}, k_mm_hasAnyLeft_2 f0 v1 v2 σ = some x9 →
    (∀ a9, x9 = .inl a9 → r = .inr (some (.inl a9)) ∧ cs' = cs ∧ ρ' = en_rf ∧ σ' = σ) →
    (∀ (b9 : Unit), x9 = .inr b9 → ∀ (f2 : Option en_V), en_W G (d + 4) 0 0 M_mm_hasAnyLeft r cs' ρ' σ' 0 0 28 [some (.inr (.inl (some (24, 0, 0)))), some (.inl v1), f2] [] cs en_rf σ) → en_W G (d + 4) 0 0 M_mm_hasAnyLeft r cs' ρ' σ' 0 0 2 [some (.inr (.inl (some (24, 0, 0)))), some (.inl v1), some (.inl v2)] [] cs en_rf σ := by
  intro f0
  induction f0 with
  | zero =>
    intros
    rename_i h _ _
    cases h
  | succ f9 ih =>
    intro v1 v2 σ x9 h hr hk
    rw [k_mm_hasAnyLeft_2] at h
    refine en_s_iload_n rfl rfl ?_
    refine en_s_aload_n rfl rfl ?_
    refine en_s_iload_n rfl rfl ?_
    obtain ⟨t1, h2, h⟩ := en_b1_h h
    refine en_callV (as := [.inl v1]) (rest := [.inl v2]) (bc' := 0) (bs' := 0) rfl (s_mm_piecesOf G (d + 0) h2) lk_10_82 mv_mm_piecesOf rfl rfl rfl rfl rfl (fun _ h => h) (Nat.le_refl _) (Nat.le_refl _) ?_
    refine en_s_icmp_ge rfl (fun c3 => ?_) (fun c3 => ?_)
    · rw [if_pos c3] at h
      obtain rfl := Option.some.inj h
      exact hk _ rfl (some (.inl v2))
    · rw [if_neg c3] at h
      refine en_s_aload_n rfl rfl ?_
      refine en_s_iload_n rfl rfl ?_
      refine en_s_iload_n rfl rfl ?_
      obtain ⟨t4, h5, h⟩ := en_b1_h h
      refine en_callV (as := [.inl v1, .inl v2]) (rest := []) (bc' := 0) (bs' := 0) rfl (s_mm_hasLeft G (d + 1) h5) lk_10_85 mv_mm_hasLeft rfl rfl rfl rfl rfl (fun _ h => h) (Nat.le_refl _) (Nat.le_refl _) ?_
      refine en_s_if_eq rfl (fun c6 => ?_) (fun c6 => ?_)
      · rw [if_pos c6] at h
        refine en_s_iinc (ls' := [some (.inr (.inl (some (24, 0, 0)))), some (.inl v1), some (.inl (v2 + 1))]) rfl rfl rfl ?_
        refine en_s_goto rfl ?_
        exact ih  h hr hk
      · rw [if_neg c6] at h
        refine en_s_iconst rfl ?_
        obtain rfl := Option.some.inj h
        obtain ⟨rfl, rfl, rfl, rfl⟩ := hr _ rfl
        exact en_s_zret rfl rfl (by decide)
set_option maxRecDepth 100000 in
set_option maxHeartbeats 4000000 in
theorem s_mm_hasAnyLeft (G : en_G) (d : Nat) {cs : List en_A} {σ : en_M} {v1 : Int32} {x0 : Int32}  (h : k_mm_hasAnyLeft v1 σ = some x0) : en_Mt G (d + 4) 0 0 M_mm_hasAnyLeft [.inr (.inl (some (24, 0, 0))), .inl v1] cs en_rf σ (.inr (some (.inl x0))) cs en_rf σ := by
  refine en_meth (ls := [some (.inr (.inl (some (24, 0, 0)))), some (.inl v1), none]) md_mm_hasAnyLeft rfl rfl rfl ?_
  unfold k_mm_hasAnyLeft at h
  refine en_s_iconst rfl ?_
  refine en_s_istore_n (ls' := [some (.inr (.inl (some (24, 0, 0)))), some (.inl v1), some (.inl 0)]) rfl rfl rfl ?_
  rcases en_rx_h h with ⟨r9, h8, h⟩ | ⟨u11, h8, h⟩
  · obtain rfl := Option.some.inj h
    exact s_mm_hasAnyLeft_2 G en_fu  h8 (fun _ e9 => by cases e9; exact ⟨rfl, rfl, rfl, rfl⟩) (fun _ e9 => by cases e9)
  · refine s_mm_hasAnyLeft_2 G en_fu  h8 (fun _ e9 => by cases e9) (fun _ e9 f7 => ?_)
    cases e9
    refine en_s_iconst rfl ?_
    cases h
    exact en_s_zret rfl rfl (by decide)
def k_mm_reclaims_0 (f0 : Nat)  (σ : en_M) : Option (en_M) := match f0 with
  | 0 => none
  | f9 + 1 =>
    if (σ 25 0 0 5) ≤ (σ 25 0 0 6) then
      some (σ)
    else
      en_b1 (k_mm_of (σ 25 0 0 6) 4 σ) fun t2 =>
      if t2 = 2 then
        en_let (en_wr σ 25 0 0 6 ((σ 25 0 0 6) + 1)) fun s5 =>
        k_mm_reclaims_0 f9  s5
      else
        en_b1 (k_mm_of (σ 25 0 0 6) 4 σ) fun t7 =>
        if t7 = 3 then
          en_let (en_wr σ 25 0 0 6 ((σ 25 0 0 6) + 1)) fun s10 =>
          k_mm_reclaims_0 f9  s10
        else
          some (σ)
def k_mm_reclaims  (σ : en_M) : Option (en_M) :=
  en_b1 (k_mm_reclaims_0 en_fu  σ) fun s12 =>
  some s12
set_option maxRecDepth 100000 in
set_option maxHeartbeats 4000000 in
theorem s_mm_reclaims_0 (G : en_G) {d : Nat} {r : en_P} {cs cs' : List en_A} {ρ' : en_R} {σ' : en_M} : ∀ (f0 : Nat)   {σ : en_M} {s0 : en_M}, k_mm_reclaims_0 f0  σ = some (s0) →
    (∀ (_ : Unit), en_W G (d + 2) 0 0 M_mm_reclaims r cs' ρ' σ' 0 0 62 [some (.inr (.inl (some (24, 0, 0))))] [] cs en_rf s0) → en_W G (d + 2) 0 0 M_mm_reclaims r cs' ρ' σ' 0 0 0 [some (.inr (.inl (some (24, 0, 0))))] [] cs en_rf σ := by
  intro f0
  induction f0 with
  | zero =>
    intros
    rename_i h _
    cases h
  | succ f9 ih =>
    intro σ s0 h hk
    rw [k_mm_reclaims_0] at h
    refine en_s_aload_n rfl rfl ?_
    refine en_s_getR (w := some (25, 0, 0)) rfl rfl rfl rfl ?_
    refine en_s_bipush rfl ?_
    refine en_c_iald (q := 6) rfl rfl (by decide) (by decide) ?_
    refine en_s_aload_n rfl rfl ?_
    refine en_s_getR (w := some (25, 0, 0)) rfl rfl rfl rfl ?_
    refine en_s_iconst rfl ?_
    refine en_c_iald (q := 5) rfl rfl (by decide) (by decide) ?_
    refine en_s_icmp_ge rfl (fun c1 => ?_) (fun c1 => ?_)
    · rw [if_pos c1] at h
      cases h
      exact hk ()
    · rw [if_neg c1] at h
      refine en_s_aload_n rfl rfl ?_
      refine en_s_aload_n rfl rfl ?_
      refine en_s_getR (w := some (25, 0, 0)) rfl rfl rfl rfl ?_
      refine en_s_bipush rfl ?_
      refine en_c_iald (q := 6) rfl rfl (by decide) (by decide) ?_
      refine en_s_iconst rfl ?_
      obtain ⟨t2, h3, h⟩ := en_b1_h h
      refine en_callV (as := [.inl (σ 25 0 0 6), .inl 4]) (rest := []) (bc' := 0) (bs' := 0) rfl (s_mm_of G (d + 0) h3) lk_10_66 mv_mm_of rfl rfl rfl rfl rfl (fun _ h => h) (Nat.le_refl _) (Nat.le_refl _) ?_
      refine en_s_iconst rfl ?_
      refine en_s_icmp_eq rfl (fun c4 => ?_) (fun c4 => ?_)
      · rw [if_pos c4] at h
        refine en_s_aload_n rfl rfl ?_
        refine en_s_getR (w := some (25, 0, 0)) rfl rfl rfl rfl ?_
        refine en_s_bipush rfl ?_
        refine en_s_dup2 rfl rfl rfl ?_
        refine en_c_iald (q := 6) rfl rfl (by decide) (by decide) ?_
        refine en_s_iconst rfl ?_
        refine en_s_iadd rfl ?_
        obtain ⟨s5, e6, h⟩ := en_let_h h
        refine en_c_iast (q := 6) e6 rfl rfl (by decide) (by decide) ?_
        refine en_s_goto rfl ?_
        exact ih  h hk
      · rw [if_neg c4] at h
        refine en_s_aload_n rfl rfl ?_
        refine en_s_aload_n rfl rfl ?_
        refine en_s_getR (w := some (25, 0, 0)) rfl rfl rfl rfl ?_
        refine en_s_bipush rfl ?_
        refine en_c_iald (q := 6) rfl rfl (by decide) (by decide) ?_
        refine en_s_iconst rfl ?_
        obtain ⟨t7, h8, h⟩ := en_b1_h h
        refine en_callV (as := [.inl (σ 25 0 0 6), .inl 4]) (rest := []) (bc' := 0) (bs' := 0) rfl (s_mm_of G (d + 0) h8) lk_10_66 mv_mm_of rfl rfl rfl rfl rfl (fun _ h => h) (Nat.le_refl _) (Nat.le_refl _) ?_
        refine en_s_iconst rfl ?_
        refine en_s_icmp_ne rfl (fun c9 => ?_) (fun c9 => ?_)
        · rw [if_neg c9] at h
          cases h
          exact hk ()
        · rw [if_pos c9] at h
          refine en_s_aload_n rfl rfl ?_
          refine en_s_getR (w := some (25, 0, 0)) rfl rfl rfl rfl ?_
          refine en_s_bipush rfl ?_
          refine en_s_dup2 rfl rfl rfl ?_
          refine en_c_iald (q := 6) rfl rfl (by decide) (by decide) ?_
          refine en_s_iconst rfl ?_
          refine en_s_iadd rfl ?_
          obtain ⟨s10, e11, h⟩ := en_let_h h
          refine en_c_iast (q := 6) e11 rfl rfl (by decide) (by decide) ?_
          refine en_s_goto rfl ?_
          exact ih  h hk
set_option maxRecDepth 100000 in
set_option maxHeartbeats 4000000 in
theorem s_mm_reclaims (G : en_G) (d : Nat) {cs : List en_A} {σ : en_M}  {s0 : en_M}  (h : k_mm_reclaims  σ = some s0) : en_Mt G (d + 2) 0 0 M_mm_reclaims [.inr (.inl (some (24, 0, 0)))] cs en_rf σ (.inr (none)) cs en_rf s0 := by
  refine en_meth (ls := [some (.inr (.inl (some (24, 0, 0))))]) md_mm_reclaims rfl rfl rfl ?_
  unfold k_mm_reclaims at h
  obtain ⟨s12, h13, h⟩ := en_b1_h h
  refine s_mm_reclaims_0 G en_fu  h13 (fun _ => ?_)
  cases h
  exact en_s_vret rfl rfl
def k_mm_flowAt (v1 : Int32) (v2 : Int32) (σ : en_M) : Option (Int32) :=
  en_b1 (en_rd 938 (σ 25 0 0) ((20 + (9 * v1)) + v2)) fun t1 =>
  some t1
set_option maxRecDepth 100000 in
set_option maxHeartbeats 4000000 in
theorem s_mm_flowAt (G : en_G) (d : Nat) {cs : List en_A} {σ : en_M} {v1 : Int32} {v2 : Int32} {x0 : Int32}  (h : k_mm_flowAt v1 v2 σ = some x0) : en_Mt G (d + 0) 0 0 M_mm_flowAt [.inr (.inl (some (24, 0, 0))), .inl v1, .inl v2] cs en_rf σ (.inr (some (.inl x0))) cs en_rf σ := by
  refine en_meth (ls := [some (.inr (.inl (some (24, 0, 0)))), some (.inl v1), some (.inl v2)]) md_mm_flowAt rfl rfl rfl ?_
  unfold k_mm_flowAt at h
  refine en_s_aload_n rfl rfl ?_
  refine en_s_getR (w := some (25, 0, 0)) rfl rfl rfl rfl ?_
  refine en_s_bipush rfl ?_
  refine en_s_bipush rfl ?_
  refine en_s_iload_n rfl rfl ?_
  refine en_s_imul rfl ?_
  refine en_s_iadd rfl ?_
  refine en_s_iload_n rfl rfl ?_
  refine en_s_iadd rfl ?_
  obtain ⟨t1, h2, h⟩ := en_b1_h h
  refine en_s_iald rfl rfl h2 ?_
  cases h
  exact en_s_iret rfl rfl
def k_mm_gap (v0 : Int32) (v1 : Int32) : Option (Int32) :=
  if v1 = 0 then
    some 0
  else
    en_b1 (en_dv (((10 * v0) + v1) - 1) v1) fun t2 =>
    some t2
set_option maxRecDepth 100000 in
set_option maxHeartbeats 4000000 in
theorem s_mm_gap (G : en_G) (d : Nat) {cs : List en_A} {σ : en_M} {v0 : Int32} {v1 : Int32} {x0 : Int32}  (h : k_mm_gap v0 v1 = some x0) : en_Mt G (d + 0) 0 0 M_mm_gap [.inl v0, .inl v1] cs en_rf σ (.inr (some (.inl x0))) cs en_rf σ := by
  refine en_meth (ls := [some (.inl v0), some (.inl v1)]) md_mm_gap rfl rfl rfl ?_
  unfold k_mm_gap at h
  refine en_s_iload_n rfl rfl ?_
  refine en_s_if_ne rfl (fun c1 => ?_) (fun c1 => ?_)
  · rw [if_neg c1] at h
    refine en_s_bipush rfl ?_
    refine en_s_iload_n rfl rfl ?_
    refine en_s_imul rfl ?_
    refine en_s_iload_n rfl rfl ?_
    refine en_s_iadd rfl ?_
    refine en_s_iconst rfl ?_
    refine en_s_isub rfl ?_
    refine en_s_iload_n rfl rfl ?_
    obtain ⟨t2, h3, h⟩ := en_b1_h h
    refine en_p_idiv h3 rfl ?_
    cases h
    exact en_s_iret rfl rfl
  · rw [if_pos c1] at h
    refine en_s_iconst rfl ?_
    refine en_s_goto rfl ?_
    cases h
    exact en_s_iret rfl rfl
def k_mm_placeIn (v0 : Int32) (v1 : Int32) : Int32 :=
  (20 * (v0 - v0 / 8 * 8)) + v1
set_option maxRecDepth 100000 in
set_option maxHeartbeats 4000000 in
theorem s_mm_placeIn (G : en_G) (d : Nat) {cs : List en_A} {σ : en_M} {v0 : Int32} {v1 : Int32} {x0 : Int32}  (h : k_mm_placeIn v0 v1 = x0) : en_Mt G (d + 0) 0 0 M_mm_placeIn [.inl v0, .inl v1] cs en_rf σ (.inr (some (.inl x0))) cs en_rf σ := by
  refine en_meth (ls := [some (.inl v0), some (.inl v1)]) md_mm_placeIn rfl rfl rfl ?_
  unfold k_mm_placeIn at h
  refine en_s_bipush rfl ?_
  refine en_s_iload_n rfl rfl ?_
  refine en_s_bipush rfl ?_
  refine en_s_irem rfl (by decide) ?_
  refine en_s_imul rfl ?_
  refine en_s_iload_n rfl rfl ?_
  refine en_s_iadd rfl ?_
  subst h
  exact en_s_iret rfl rfl
def k_mm_bytesOf (v1 : Int32) (v2 : Int32) (σ : en_M) : Option (Int32) :=
  en_b1 (k_mm_of v1 2 σ) fun t1 =>
  en_b1 (k_mm_of v1 1 σ) fun t3 =>
  en_b1 (k_mm_of v1 2 σ) fun t5 =>
  some (k_mm_lesser t1 (t3 - (v2 * t5)))
set_option maxRecDepth 100000 in
set_option maxHeartbeats 4000000 in
theorem s_mm_bytesOf (G : en_G) (d : Nat) {cs : List en_A} {σ : en_M} {v1 : Int32} {v2 : Int32} {x0 : Int32}  (h : k_mm_bytesOf v1 v2 σ = some x0) : en_Mt G (d + 2) 0 0 M_mm_bytesOf [.inr (.inl (some (24, 0, 0))), .inl v1, .inl v2] cs en_rf σ (.inr (some (.inl x0))) cs en_rf σ := by
  refine en_meth (ls := [some (.inr (.inl (some (24, 0, 0)))), some (.inl v1), some (.inl v2)]) md_mm_bytesOf rfl rfl rfl ?_
  unfold k_mm_bytesOf at h
  refine en_s_aload_n rfl rfl ?_
  refine en_s_iload_n rfl rfl ?_
  refine en_s_iconst rfl ?_
  obtain ⟨t1, h2, h⟩ := en_b1_h h
  refine en_callV (as := [.inl v1, .inl 2]) (rest := []) (bc' := 0) (bs' := 0) rfl (s_mm_of G (d + 0) h2) lk_10_66 mv_mm_of rfl rfl rfl rfl rfl (fun _ h => h) (Nat.le_refl _) (Nat.le_refl _) ?_
  refine en_s_aload_n rfl rfl ?_
  refine en_s_iload_n rfl rfl ?_
  refine en_s_iconst rfl ?_
  obtain ⟨t3, h4, h⟩ := en_b1_h h
  refine en_callV (as := [.inl v1, .inl 1]) (rest := [.inl t1]) (bc' := 0) (bs' := 0) rfl (s_mm_of G (d + 0) h4) lk_10_66 mv_mm_of rfl rfl rfl rfl rfl (fun _ h => h) (Nat.le_refl _) (Nat.le_refl _) ?_
  refine en_s_iload_n rfl rfl ?_
  refine en_s_aload_n rfl rfl ?_
  refine en_s_iload_n rfl rfl ?_
  refine en_s_iconst rfl ?_
  obtain ⟨t5, h6, h⟩ := en_b1_h h
  refine en_callV (as := [.inl v1, .inl 2]) (rest := [.inl v2, .inl t3, .inl t1]) (bc' := 0) (bs' := 0) rfl (s_mm_of G (d + 0) h6) lk_10_66 mv_mm_of rfl rfl rfl rfl rfl (fun _ h => h) (Nat.le_refl _) (Nat.le_refl _) ?_
  refine en_s_imul rfl ?_
  refine en_s_isub rfl ?_
  refine en_callS (as := [.inl t1, .inl (t3 - (v2 * t5))]) (rest := []) (bc' := 0) (bs' := 0) rfl (s_mm_lesser G (d + 1) rfl) lk_10_72 mv_mm_lesser rfl rfl rfl (fun _ h => h) (Nat.le_refl _) (Nat.le_refl _) ?_
  cases h
  exact en_s_iret rfl rfl
def k_mm_sizeOf (v1 : Int32) (v2 : Int32) (σ : en_M) : Option (Int32) :=
  en_b1 (k_mm_bytesOf v1 v2 σ) fun t1 =>
  some (12 + t1)
set_option maxRecDepth 100000 in
set_option maxHeartbeats 4000000 in
theorem s_mm_sizeOf (G : en_G) (d : Nat) {cs : List en_A} {σ : en_M} {v1 : Int32} {v2 : Int32} {x0 : Int32}  (h : k_mm_sizeOf v1 v2 σ = some x0) : en_Mt G (d + 3) 0 0 M_mm_sizeOf [.inr (.inl (some (24, 0, 0))), .inl v1, .inl v2] cs en_rf σ (.inr (some (.inl x0))) cs en_rf σ := by
  refine en_meth (ls := [some (.inr (.inl (some (24, 0, 0)))), some (.inl v1), some (.inl v2)]) md_mm_sizeOf rfl rfl rfl ?_
  unfold k_mm_sizeOf at h
  refine en_s_bipush rfl ?_
  refine en_s_aload_n rfl rfl ?_
  refine en_s_iload_n rfl rfl ?_
  refine en_s_iload_n rfl rfl ?_
  obtain ⟨t1, h2, h⟩ := en_b1_h h
  refine en_callV (as := [.inl v1, .inl v2]) (rest := [.inl 12]) (bc' := 0) (bs' := 0) rfl (s_mm_bytesOf G (d + 0) h2) lk_10_75 mv_mm_bytesOf rfl rfl rfl rfl rfl (fun _ h => h) (Nat.le_refl _) (Nat.le_refl _) ?_
  refine en_s_iadd rfl ?_
  cases h
  exact en_s_iret rfl rfl
def k_mm_times_2 (f0 : Nat) (v1 : Int32) (σ : en_M) : Option (en_M) := match f0 with
  | 0 => none
  | f9 + 1 =>
    if (σ 25 0 0 3) ≤ v1 then
      some (σ)
    else
      en_b1 (k_mm_flowAt v1 4 σ) fun t2 =>
      if t2 = 1 then
        en_b1 (k_mm_flowAt v1 5 σ) fun t7 =>
        en_b1 (k_mm_flowAt v1 6 σ) fun t9 =>
        en_b1 (k_mm_flowAt v1 0 σ) fun t11 =>
        en_b1 (k_mm_gap t9 t11) fun t13 =>
        en_b1 (en_wa 6 σ 31 0 0 v1 (t7 + t13)) fun s15 =>
        k_mm_times_2 f9 (v1 + 1) s15
      else
        en_b1 (en_wa 6 σ 31 0 0 v1 0) fun s5 =>
        k_mm_times_2 f9 (v1 + 1) s5
def k_mm_times_101 (f0 : Nat) (v1 : Int32) (v2 : Int32) (v3 : Int32) (σ : en_M) : Option (en_M) := match f0 with
  | 0 => none
  | f9 + 1 =>
    en_b1 (k_mm_piecesOf v1 σ) fun t26 =>
    if t26 ≤ v3 then
      some (σ)
    else
      en_b1 (k_mm_hasLeft v1 v3 σ) fun t29 =>
      if t29 = 0 then
        en_b1 (k_mm_of v1 5 σ) fun t32 =>
        en_b1 (k_mm_of v1 3 σ) fun t34 =>
        en_b1 (en_rd 6 (σ 31 0 0) v2) fun t36 =>
        en_b1 (en_wa 160 σ 30 0 0 (k_mm_placeIn v1 v3) (k_mm_greater (k_mm_greater t32 t34) t36)) fun s38 =>
        en_b1 (k_mm_sizeOf v1 v3 s38) fun t40 =>
        en_b1 (k_mm_flowAt v2 0 s38) fun t42 =>
        en_b1 (k_mm_gap t40 t42) fun t44 =>
        en_b1 (en_wa 6 s38 31 0 0 v2 ((k_mm_greater (k_mm_greater t32 t34) t36) + t44)) fun s46 =>
        k_mm_times_101 f9 v1 v2 (v3 + 1) s46
      else
        k_mm_times_101 f9 v1 v2 (v3 + 1) σ
def k_mm_times_69 (f0 : Nat) (v1 : Int32) (σ : en_M) : Option (en_M) := match f0 with
  | 0 => none
  | f9 + 1 =>
    if (σ 25 0 0 5) ≤ v1 then
      some (σ)
    else
      en_b1 (k_mm_of v1 4 σ) fun t21 =>
      if t21 = 1 then
        en_b1 (k_mm_of v1 0 σ) fun t24 =>
        en_b1 (k_mm_times_101 en_fu v1 t24 0 σ) fun s50 =>
        k_mm_times_69 f9 (v1 + 1) s50
      else
        k_mm_times_69 f9 (v1 + 1) σ
def k_mm_times  (σ : en_M) : Option (en_M) :=
  en_b1 (k_mm_times_2 en_fu 0 σ) fun s18 =>
  en_b1 (k_mm_times_69 en_fu (s18 25 0 0 6) s18) fun s56 =>
  some s56
set_option maxRecDepth 100000 in
set_option maxHeartbeats 4000000 in
theorem s_mm_times_2 (G : en_G) {d : Nat} {r : en_P} {cs cs' : List en_A} {ρ' : en_R} {σ' : en_M} : ∀ (f0 : Nat) {v1 : Int32} {e2 e3 e4 : Option en_V} {σ : en_M} {s0 : en_M}, k_mm_times_2 f0 v1 σ = some (s0) →
    (∀ (f1 : Option en_V), en_W G (d + 4) 0 0 M_mm_times r cs' ρ' σ' 0 0 61 [some (.inr (.inl (some (24, 0, 0)))), f1, e2, e3, e4] [] cs en_rf s0) → en_W G (d + 4) 0 0 M_mm_times r cs' ρ' σ' 0 0 2 [some (.inr (.inl (some (24, 0, 0)))), some (.inl v1), e2, e3, e4] [] cs en_rf σ := by
  intro f0
  induction f0 with
  | zero =>
    intros
    rename_i h _
    cases h
  | succ f9 ih =>
    intro v1 e2 e3 e4 σ s0 h hk
    rw [k_mm_times_2] at h
    refine en_s_iload_n rfl rfl ?_
    refine en_s_aload_n rfl rfl ?_
    refine en_s_getR (w := some (25, 0, 0)) rfl rfl rfl rfl ?_
    refine en_s_iconst rfl ?_
    refine en_c_iald (q := 3) rfl rfl (by decide) (by decide) ?_
    refine en_s_icmp_ge rfl (fun c1 => ?_) (fun c1 => ?_)
    · rw [if_pos c1] at h
      cases h
      exact hk (some (.inl v1))
    · rw [if_neg c1] at h
      refine en_s_aload_n rfl rfl ?_
      refine en_s_getR (w := some (31, 0, 0)) rfl rfl rfl rfl ?_
      refine en_s_iload_n rfl rfl ?_
      refine en_s_aload_n rfl rfl ?_
      refine en_s_iload_n rfl rfl ?_
      refine en_s_iconst rfl ?_
      obtain ⟨t2, h3, h⟩ := en_b1_h h
      refine en_callV (as := [.inl v1, .inl 4]) (rest := [.inl v1, .inr (.inl (some (31, 0, 0)))]) (bc' := 0) (bs' := 0) rfl (s_mm_flowAt G (d + 3) h3) lk_10_89 mv_mm_flowAt rfl rfl rfl rfl rfl (fun _ h => h) (Nat.le_refl _) (Nat.le_refl _) ?_
      refine en_s_iconst rfl ?_
      refine en_s_icmp_ne rfl (fun c4 => ?_) (fun c4 => ?_)
      · rw [if_neg c4] at h
        refine en_s_iconst rfl ?_
        obtain ⟨s5, e6, h⟩ := en_b1_h h
        refine en_s_iast rfl rfl e6 ?_
        refine en_s_iinc (ls' := [some (.inr (.inl (some (24, 0, 0)))), some (.inl (v1 + 1)), e2, e3, e4]) rfl rfl rfl ?_
        refine en_s_goto rfl ?_
        exact ih (e2 := e2) (e3 := e3) (e4 := e4) h hk
      · rw [if_pos c4] at h
        refine en_s_aload_n rfl rfl ?_
        refine en_s_iload_n rfl rfl ?_
        refine en_s_iconst rfl ?_
        obtain ⟨t7, h8, h⟩ := en_b1_h h
        refine en_callV (as := [.inl v1, .inl 5]) (rest := [.inl v1, .inr (.inl (some (31, 0, 0)))]) (bc' := 0) (bs' := 0) rfl (s_mm_flowAt G (d + 3) h8) lk_10_89 mv_mm_flowAt rfl rfl rfl rfl rfl (fun _ h => h) (Nat.le_refl _) (Nat.le_refl _) ?_
        refine en_s_aload_n rfl rfl ?_
        refine en_s_iload_n rfl rfl ?_
        refine en_s_bipush rfl ?_
        obtain ⟨t9, h10, h⟩ := en_b1_h h
        refine en_callV (as := [.inl v1, .inl 6]) (rest := [.inl t7, .inl v1, .inr (.inl (some (31, 0, 0)))]) (bc' := 0) (bs' := 0) rfl (s_mm_flowAt G (d + 3) h10) lk_10_89 mv_mm_flowAt rfl rfl rfl rfl rfl (fun _ h => h) (Nat.le_refl _) (Nat.le_refl _) ?_
        refine en_s_aload_n rfl rfl ?_
        refine en_s_iload_n rfl rfl ?_
        refine en_s_iconst rfl ?_
        obtain ⟨t11, h12, h⟩ := en_b1_h h
        refine en_callV (as := [.inl v1, .inl 0]) (rest := [.inl t9, .inl t7, .inl v1, .inr (.inl (some (31, 0, 0)))]) (bc' := 0) (bs' := 0) rfl (s_mm_flowAt G (d + 3) h12) lk_10_89 mv_mm_flowAt rfl rfl rfl rfl rfl (fun _ h => h) (Nat.le_refl _) (Nat.le_refl _) ?_
        obtain ⟨t13, h14, h⟩ := en_b1_h h
        refine en_callS (as := [.inl t9, .inl t11]) (rest := [.inl t7, .inl v1, .inr (.inl (some (31, 0, 0)))]) (bc' := 0) (bs' := 0) rfl (s_mm_gap G (d + 3) h14) lk_10_92 mv_mm_gap rfl rfl rfl (fun _ h => h) (Nat.le_refl _) (Nat.le_refl _) ?_
        refine en_s_iadd rfl ?_
        refine en_s_goto rfl ?_
        obtain ⟨s15, e16, h⟩ := en_b1_h h
        refine en_s_iast rfl rfl e16 ?_
        refine en_s_iinc (ls' := [some (.inr (.inl (some (24, 0, 0)))), some (.inl (v1 + 1)), e2, e3, e4]) rfl rfl rfl ?_
        refine en_s_goto rfl ?_
        exact ih (e2 := e2) (e3 := e3) (e4 := e4) h hk
set_option maxRecDepth 100000 in
set_option maxHeartbeats 4000000 in
theorem s_mm_times_101 (G : en_G) {d : Nat} {r : en_P} {cs cs' : List en_A} {ρ' : en_R} {σ' : en_M} : ∀ (f0 : Nat) {v1 : Int32} {v2 : Int32} {v3 : Int32} {e4 : Option en_V} {σ : en_M} {s0 : en_M}, k_mm_times_101 f0 v1 v2 v3 σ = some (s0) →
    (∀ (f3 : Option en_V) (f4 : Option en_V), en_W G (d + 4) 0 0 M_mm_times r cs' ρ' σ' 0 0 190 [some (.inr (.inl (some (24, 0, 0)))), some (.inl v1), some (.inl v2), f3, f4] [] cs en_rf s0) → en_W G (d + 4) 0 0 M_mm_times r cs' ρ' σ' 0 0 101 [some (.inr (.inl (some (24, 0, 0)))), some (.inl v1), some (.inl v2), some (.inl v3), e4] [] cs en_rf σ := by
  intro f0
  induction f0 with
  | zero =>
    intros
    rename_i h _
    cases h
  | succ f9 ih =>
    intro v1 v2 v3 e4 σ s0 h hk
    rw [k_mm_times_101] at h
    refine en_s_iload_n rfl rfl ?_
    refine en_s_aload_n rfl rfl ?_
    refine en_s_iload_n rfl rfl ?_
    obtain ⟨t26, h27, h⟩ := en_b1_h h
    refine en_callV (as := [.inl v1]) (rest := [.inl v3]) (bc' := 0) (bs' := 0) rfl (s_mm_piecesOf G (d + 0) h27) lk_10_82 mv_mm_piecesOf rfl rfl rfl rfl rfl (fun _ h => h) (Nat.le_refl _) (Nat.le_refl _) ?_
    refine en_s_icmp_ge rfl (fun c28 => ?_) (fun c28 => ?_)
    · rw [if_pos c28] at h
      cases h
      exact hk (some (.inl v3)) (e4)
    · rw [if_neg c28] at h
      refine en_s_aload_n rfl rfl ?_
      refine en_s_iload_n rfl rfl ?_
      refine en_s_iload_n rfl rfl ?_
      obtain ⟨t29, h30, h⟩ := en_b1_h h
      refine en_callV (as := [.inl v1, .inl v3]) (rest := []) (bc' := 0) (bs' := 0) rfl (s_mm_hasLeft G (d + 1) h30) lk_10_85 mv_mm_hasLeft rfl rfl rfl rfl rfl (fun _ h => h) (Nat.le_refl _) (Nat.le_refl _) ?_
      refine en_s_if_eq rfl (fun c31 => ?_) (fun c31 => ?_)
      · rw [if_pos c31] at h
        refine en_s_aload_n rfl rfl ?_
        refine en_s_iload_n rfl rfl ?_
        refine en_s_iconst rfl ?_
        obtain ⟨t32, h33, h⟩ := en_b1_h h
        refine en_callV (as := [.inl v1, .inl 5]) (rest := []) (bc' := 0) (bs' := 0) rfl (s_mm_of G (d + 2) h33) lk_10_66 mv_mm_of rfl rfl rfl rfl rfl (fun _ h => h) (Nat.le_refl _) (Nat.le_refl _) ?_
        refine en_s_aload_n rfl rfl ?_
        refine en_s_iload_n rfl rfl ?_
        refine en_s_iconst rfl ?_
        obtain ⟨t34, h35, h⟩ := en_b1_h h
        refine en_callV (as := [.inl v1, .inl 3]) (rest := [.inl t32]) (bc' := 0) (bs' := 0) rfl (s_mm_of G (d + 2) h35) lk_10_66 mv_mm_of rfl rfl rfl rfl rfl (fun _ h => h) (Nat.le_refl _) (Nat.le_refl _) ?_
        refine en_callS (as := [.inl t32, .inl t34]) (rest := []) (bc' := 0) (bs' := 0) rfl (s_mm_greater G (d + 3) rfl) lk_10_62 mv_mm_greater rfl rfl rfl (fun _ h => h) (Nat.le_refl _) (Nat.le_refl _) ?_
        refine en_s_aload_n rfl rfl ?_
        refine en_s_getR (w := some (31, 0, 0)) rfl rfl rfl rfl ?_
        refine en_s_iload_n rfl rfl ?_
        obtain ⟨t36, h37, h⟩ := en_b1_h h
        refine en_s_iald rfl rfl h37 ?_
        refine en_callS (as := [.inl (k_mm_greater t32 t34), .inl t36]) (rest := []) (bc' := 0) (bs' := 0) rfl (s_mm_greater G (d + 3) rfl) lk_10_62 mv_mm_greater rfl rfl rfl (fun _ h => h) (Nat.le_refl _) (Nat.le_refl _) ?_
        refine en_s_istore (ls' := [some (.inr (.inl (some (24, 0, 0)))), some (.inl v1), some (.inl v2), some (.inl v3), some (.inl (k_mm_greater (k_mm_greater t32 t34) t36))]) rfl rfl rfl ?_
        refine en_s_aload_n rfl rfl ?_
        refine en_s_getR (w := some (30, 0, 0)) rfl rfl rfl rfl ?_
        refine en_s_iload_n rfl rfl ?_
        refine en_s_iload_n rfl rfl ?_
        refine en_callS (as := [.inl v1, .inl v3]) (rest := [.inr (.inl (some (30, 0, 0)))]) (bc' := 0) (bs' := 0) rfl (s_mm_placeIn G (d + 3) rfl) lk_10_95 mv_mm_placeIn rfl rfl rfl (fun _ h => h) (Nat.le_refl _) (Nat.le_refl _) ?_
        refine en_s_iload rfl rfl ?_
        obtain ⟨s38, e39, h⟩ := en_b1_h h
        refine en_s_iast rfl rfl e39 ?_
        refine en_s_aload_n rfl rfl ?_
        refine en_s_getR (w := some (31, 0, 0)) rfl rfl rfl rfl ?_
        refine en_s_iload_n rfl rfl ?_
        refine en_s_iload rfl rfl ?_
        refine en_s_aload_n rfl rfl ?_
        refine en_s_iload_n rfl rfl ?_
        refine en_s_iload_n rfl rfl ?_
        obtain ⟨t40, h41, h⟩ := en_b1_h h
        refine en_callV (as := [.inl v1, .inl v3]) (rest := [.inl (k_mm_greater (k_mm_greater t32 t34) t36), .inl v2, .inr (.inl (some (31, 0, 0)))]) (bc' := 0) (bs' := 0) rfl (s_mm_sizeOf G (d + 0) h41) lk_10_98 mv_mm_sizeOf rfl rfl rfl rfl rfl (fun _ h => h) (Nat.le_refl _) (Nat.le_refl _) ?_
        refine en_s_aload_n rfl rfl ?_
        refine en_s_iload_n rfl rfl ?_
        refine en_s_iconst rfl ?_
        obtain ⟨t42, h43, h⟩ := en_b1_h h
        refine en_callV (as := [.inl v2, .inl 0]) (rest := [.inl t40, .inl (k_mm_greater (k_mm_greater t32 t34) t36), .inl v2, .inr (.inl (some (31, 0, 0)))]) (bc' := 0) (bs' := 0) rfl (s_mm_flowAt G (d + 3) h43) lk_10_89 mv_mm_flowAt rfl rfl rfl rfl rfl (fun _ h => h) (Nat.le_refl _) (Nat.le_refl _) ?_
        obtain ⟨t44, h45, h⟩ := en_b1_h h
        refine en_callS (as := [.inl t40, .inl t42]) (rest := [.inl (k_mm_greater (k_mm_greater t32 t34) t36), .inl v2, .inr (.inl (some (31, 0, 0)))]) (bc' := 0) (bs' := 0) rfl (s_mm_gap G (d + 3) h45) lk_10_92 mv_mm_gap rfl rfl rfl (fun _ h => h) (Nat.le_refl _) (Nat.le_refl _) ?_
        refine en_s_iadd rfl ?_
        obtain ⟨s46, e47, h⟩ := en_b1_h h
        refine en_s_iast rfl rfl e47 ?_
        refine en_s_iinc (ls' := [some (.inr (.inl (some (24, 0, 0)))), some (.inl v1), some (.inl v2), some (.inl (v3 + 1)), some (.inl (k_mm_greater (k_mm_greater t32 t34) t36))]) rfl rfl rfl ?_
        refine en_s_goto rfl ?_
        exact ih (e4 := some (.inl (k_mm_greater (k_mm_greater t32 t34) t36))) h hk
      · rw [if_neg c31] at h
        refine en_s_goto rfl ?_
        refine en_s_iinc (ls' := [some (.inr (.inl (some (24, 0, 0)))), some (.inl v1), some (.inl v2), some (.inl (v3 + 1)), e4]) rfl rfl rfl ?_
        refine en_s_goto rfl ?_
        exact ih (e4 := e4) h hk
set_option maxRecDepth 100000 in
set_option maxHeartbeats 4000000 in
theorem s_mm_times_69 (G : en_G) {d : Nat} {r : en_P} {cs cs' : List en_A} {ρ' : en_R} {σ' : en_M} : ∀ (f0 : Nat) {v1 : Int32} {e2 e3 e4 : Option en_V} {σ : en_M} {s0 : en_M}, k_mm_times_69 f0 v1 σ = some (s0) →
    (∀ (f1 : Option en_V) (f2 : Option en_V) (f3 : Option en_V) (f4 : Option en_V), en_W G (d + 4) 0 0 M_mm_times r cs' ρ' σ' 0 0 196 [some (.inr (.inl (some (24, 0, 0)))), f1, f2, f3, f4] [] cs en_rf s0) → en_W G (d + 4) 0 0 M_mm_times r cs' ρ' σ' 0 0 69 [some (.inr (.inl (some (24, 0, 0)))), some (.inl v1), e2, e3, e4] [] cs en_rf σ := by
  intro f0
  induction f0 with
  | zero =>
    intros
    rename_i h _
    cases h
  | succ f9 ih =>
    intro v1 e2 e3 e4 σ s0 h hk
    rw [k_mm_times_69] at h
    refine en_s_iload_n rfl rfl ?_
    refine en_s_aload_n rfl rfl ?_
    refine en_s_getR (w := some (25, 0, 0)) rfl rfl rfl rfl ?_
    refine en_s_iconst rfl ?_
    refine en_c_iald (q := 5) rfl rfl (by decide) (by decide) ?_
    refine en_s_icmp_ge rfl (fun c20 => ?_) (fun c20 => ?_)
    · rw [if_pos c20] at h
      cases h
      exact hk (some (.inl v1)) (e2) (e3) (e4)
    · rw [if_neg c20] at h
      refine en_s_aload_n rfl rfl ?_
      refine en_s_iload_n rfl rfl ?_
      refine en_s_iconst rfl ?_
      obtain ⟨t21, h22, h⟩ := en_b1_h h
      refine en_callV (as := [.inl v1, .inl 4]) (rest := []) (bc' := 0) (bs' := 0) rfl (s_mm_of G (d + 2) h22) lk_10_66 mv_mm_of rfl rfl rfl rfl rfl (fun _ h => h) (Nat.le_refl _) (Nat.le_refl _) ?_
      refine en_s_iconst rfl ?_
      refine en_s_icmp_eq rfl (fun c23 => ?_) (fun c23 => ?_)
      · rw [if_pos c23] at h
        refine en_s_aload_n rfl rfl ?_
        refine en_s_iload_n rfl rfl ?_
        refine en_s_iconst rfl ?_
        obtain ⟨t24, h25, h⟩ := en_b1_h h
        refine en_callV (as := [.inl v1, .inl 0]) (rest := []) (bc' := 0) (bs' := 0) rfl (s_mm_of G (d + 2) h25) lk_10_66 mv_mm_of rfl rfl rfl rfl rfl (fun _ h => h) (Nat.le_refl _) (Nat.le_refl _) ?_
        refine en_s_istore_n (ls' := [some (.inr (.inl (some (24, 0, 0)))), some (.inl v1), some (.inl t24), e3, e4]) rfl rfl rfl ?_
        refine en_s_iconst rfl ?_
        refine en_s_istore_n (ls' := [some (.inr (.inl (some (24, 0, 0)))), some (.inl v1), some (.inl t24), some (.inl 0), e4]) rfl rfl rfl ?_
        obtain ⟨s50, h51, h⟩ := en_b1_h h
        refine s_mm_times_101 G en_fu (e4 := e4) h51 (fun f48 f49 => ?_)
        refine en_s_iinc (ls' := [some (.inr (.inl (some (24, 0, 0)))), some (.inl (v1 + 1)), some (.inl t24), f48, f49]) rfl rfl rfl ?_
        refine en_s_goto rfl ?_
        exact ih (e2 := some (.inl t24)) (e3 := f48) (e4 := f49) h hk
      · rw [if_neg c23] at h
        refine en_s_goto rfl ?_
        refine en_s_iinc (ls' := [some (.inr (.inl (some (24, 0, 0)))), some (.inl (v1 + 1)), e2, e3, e4]) rfl rfl rfl ?_
        refine en_s_goto rfl ?_
        exact ih (e2 := e2) (e3 := e3) (e4 := e4) h hk
set_option maxRecDepth 100000 in
set_option maxHeartbeats 4000000 in
theorem s_mm_times (G : en_G) (d : Nat) {cs : List en_A} {σ : en_M}  {s0 : en_M}  (h : k_mm_times  σ = some s0) : en_Mt G (d + 4) 0 0 M_mm_times [.inr (.inl (some (24, 0, 0)))] cs en_rf σ (.inr (none)) cs en_rf s0 := by
  refine en_meth (ls := [some (.inr (.inl (some (24, 0, 0)))), none, none, none, none]) md_mm_times rfl rfl rfl ?_
  unfold k_mm_times at h
  refine en_s_iconst rfl ?_
  refine en_s_istore_n (ls' := [some (.inr (.inl (some (24, 0, 0)))), some (.inl 0), none, none, none]) rfl rfl rfl ?_
  obtain ⟨s18, h19, h⟩ := en_b1_h h
  refine s_mm_times_2 G en_fu (e2 := none) (e3 := none) (e4 := none) h19 (fun f17 => ?_)
  refine en_s_aload_n rfl rfl ?_
  refine en_s_getR (w := some (25, 0, 0)) rfl rfl rfl rfl ?_
  refine en_s_bipush rfl ?_
  refine en_c_iald (q := 6) rfl rfl (by decide) (by decide) ?_
  refine en_s_istore_n (ls' := [some (.inr (.inl (some (24, 0, 0)))), some (.inl (s18 25 0 0 6)), none, none, none]) rfl rfl rfl ?_
  obtain ⟨s56, h57, h⟩ := en_b1_h h
  refine s_mm_times_69 G en_fu (e2 := none) (e3 := none) (e4 := none) h57 (fun f52 f53 f54 f55 => ?_)
  cases h
  exact en_s_vret rfl rfl

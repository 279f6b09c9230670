/-! By program: the methods as functions, and that they are these. -/
def k_mm_here_0 (f0 : Nat)  (σ : en_M) : Option (en_M) := match f0 with
  | 0 => none
  | f9 + 1 =>
    if (σ 24 0 0 10) ≤ (σ 24 0 0 11) then
      some (σ)
    else
      en_b1 (en_rd 400 (σ 29 0 0) (σ 24 0 0 11)) fun t2 =>
      if t2 = 32 then
        en_let (en_wr σ 24 0 0 11 ((σ 24 0 0 11) + 1)) fun s5 =>
        k_mm_here_0 f9  s5
      else
        some (σ)
def k_mm_here  (σ : en_M) : Option (Int32 × en_M) :=
  en_b1 (k_mm_here_0 en_fu  σ) fun s7 =>
  some (s7 24 0 0 11, s7)
set_option maxRecDepth 100000 in
set_option maxHeartbeats 4000000 in
theorem s_mm_here_0 (G : en_G) (hz : G.2.2.2.2.2.2.2.2 = none) {d : Nat} {r : en_P} {cs cs' : List en_A} {ρ' : en_R} {σ' : en_M} : ∀ (f0 : Nat)   {σ : en_M} {s0 : en_M} , k_mm_here_0 f0  σ = some (s0) →
    (∀ (_ : Unit), en_W G (d + 0) 0 0 M_mm_here r cs' ρ' σ' 0 0 38 [some (.inr (.inl (some (24, 0, 0))))] [] cs en_rf s0) → en_W G (d + 0) 0 0 M_mm_here r cs' ρ' σ' 0 0 0 [some (.inr (.inl (some (24, 0, 0))))] [] cs en_rf σ := by
  intro f0
  induction f0 with
  | zero =>
    intros
    rename_i h _
    cases h
  | succ f9 ih =>
    intro σ s0 h hk
    rw [k_mm_here_0] at h
    refine en_s_aload_n rfl rfl ?_
    refine en_s_getI rfl rfl rfl ?_
    refine en_s_aload_n rfl rfl ?_
    refine en_s_getI rfl rfl rfl ?_
    refine en_s_icmp_ge rfl (fun c1 => ?_) (fun c1 => ?_)
    · rw [if_pos c1] at h
      cases h
      exact hk ()
    · rw [if_neg c1] at h
      refine en_s_aload_n rfl rfl ?_
      refine en_s_getR (w := some (29, 0, 0)) rfl rfl rfl rfl ?_
      refine en_s_aload_n rfl rfl ?_
      refine en_s_getI rfl rfl rfl ?_
      obtain ⟨t2, h3, h⟩ := en_b1_h h
      refine en_s_iald rfl rfl h3 ?_
      refine en_s_bipush rfl ?_
      refine en_s_icmp_ne rfl (fun c4 => ?_) (fun c4 => ?_)
      · rw [if_neg c4] at h
        cases h
        exact hk ()
      · rw [if_pos c4] at h
        refine en_s_aload_n rfl rfl ?_
        refine en_s_dup rfl rfl ?_
        refine en_s_getI rfl rfl rfl ?_
        refine en_s_iconst rfl ?_
        refine en_s_iadd rfl ?_
        obtain ⟨s5, e6, h⟩ := en_let_h h
        refine en_p_putI e6 rfl rfl rfl rfl rfl ?_
        refine en_s_goto rfl ?_
        exact ih  h hk
set_option maxRecDepth 100000 in
set_option maxHeartbeats 4000000 in
theorem s_mm_here (G : en_G) (hz : G.2.2.2.2.2.2.2.2 = none) (d : Nat) {cs : List en_A} {σ : en_M}  {x0 : Int32} {s0 : en_M}  (h : k_mm_here  σ = some (x0, s0)) : en_Mt G (d + 0) 0 0 M_mm_here [.inr (.inl (some (24, 0, 0)))] cs en_rf σ (.inr (some (.inl x0))) cs en_rf s0 := by
  refine en_meth (ls := [some (.inr (.inl (some (24, 0, 0))))]) md_mm_here rfl rfl rfl ?_
  unfold k_mm_here at h
  obtain ⟨s7, h8, h⟩ := en_b1_h h
  refine s_mm_here_0 G hz en_fu  h8 (fun _ => ?_)
  refine en_s_aload_n rfl rfl ?_
  refine en_s_getI rfl rfl rfl ?_
  cases h
  exact en_s_iret rfl rfl
def k_mm_isIn (v0 : Int32) (v1 : Int32) (v2 : Int32) : Int32 :=
  if v0 < v1 then
    0
  else
    if v2 < v0 then
      0
    else
      1
theorem z_mm_isIn {v0 : Int32} {v1 : Int32} {v2 : Int32} : k_mm_isIn v0 v1 v2 = 0 ∨ k_mm_isIn v0 v1 v2 = 1 := by
  unfold k_mm_isIn
  (repeat' split) <;> first | exact Or.inl rfl | exact Or.inr rfl
set_option maxRecDepth 100000 in
set_option maxHeartbeats 4000000 in
theorem s_mm_isIn (G : en_G) (hz : G.2.2.2.2.2.2.2.2 = none) (d : Nat) {cs : List en_A} {σ : en_M} {v0 : Int32} {v1 : Int32} {v2 : Int32} {x0 : Int32}  (h : k_mm_isIn v0 v1 v2 = x0) : en_Mt G (d + 0) 0 0 M_mm_isIn [.inl v0, .inl v1, .inl v2] cs en_rf σ (.inr (some (.inl x0))) cs en_rf σ := by
  refine en_meth (ls := [some (.inl v0), some (.inl v1), some (.inl v2)]) md_mm_isIn rfl rfl rfl ?_
  unfold k_mm_isIn at h
  refine en_s_iload_n rfl rfl ?_
  refine en_s_iload_n rfl rfl ?_
  refine en_s_icmp_lt rfl (fun c1 => ?_) (fun c1 => ?_)
  · rw [if_pos c1] at h
    refine en_s_iconst rfl ?_
    subst h
    exact en_s_zret rfl rfl (Or.inl rfl)
  · rw [if_neg c1] at h
    refine en_s_iload_n rfl rfl ?_
    refine en_s_iload_n rfl rfl ?_
    refine en_s_icmp_gt rfl (fun c2 => ?_) (fun c2 => ?_)
    · rw [if_pos c2] at h
      refine en_s_iconst rfl ?_
      subst h
      exact en_s_zret rfl rfl (Or.inl rfl)
    · rw [if_neg c2] at h
      refine en_s_iconst rfl ?_
      refine en_s_goto rfl ?_
      subst h
      exact en_s_zret rfl rfl (Or.inr rfl)
def k_mm_wrong (v1 : Int32) (σ : en_M) : Option (en_M) :=
  if (σ 24 0 0 12) = (-1) then
    en_let (en_wr σ 24 0 0 12 v1) fun s2 =>
    some s2
  else
    some σ
set_option maxRecDepth 100000 in
set_option maxHeartbeats 4000000 in
theorem s_mm_wrong (G : en_G) (hz : G.2.2.2.2.2.2.2.2 = none) (d : Nat) {cs : List en_A} {σ : en_M} {v1 : Int32} {s0 : en_M}  (h : k_mm_wrong v1 σ = some s0) : en_Mt G (d + 0) 0 0 M_mm_wrong [.inr (.inl (some (24, 0, 0))), .inl v1] cs en_rf σ (.inr (none)) cs en_rf s0 := by
  refine en_meth (ls := [some (.inr (.inl (some (24, 0, 0)))), some (.inl v1)]) md_mm_wrong rfl rfl rfl ?_
  unfold k_mm_wrong at h
  refine en_s_aload_n rfl rfl ?_
  refine en_s_getI rfl rfl rfl ?_
  refine en_s_iconst rfl ?_
  refine en_s_icmp_ne rfl (fun c1 => ?_) (fun c1 => ?_)
  · rw [if_neg c1] at h
    cases h
    exact en_s_vret rfl rfl
  · rw [if_pos c1] at h
    refine en_s_aload_n rfl rfl ?_
    refine en_s_iload_n rfl rfl ?_
    obtain ⟨s2, e3, h⟩ := en_let_h h
    refine en_p_putI e3 rfl rfl rfl rfl rfl ?_
    cases h
    exact en_s_vret rfl rfl
def k_mm_number_18 (f0 : Nat) (v1 : Int32) (v2 : Int32) (v3 : Int32) (v4 : Int32) (σ : en_M) : Option (Int32 × en_M) := match f0 with
  | 0 => none
  | f9 + 1 =>
    if (σ 24 0 0 10) ≤ (σ 24 0 0 11) then
      some (v4, σ)
    else
      en_b1 (en_rd 400 (σ 29 0 0) (σ 24 0 0 11)) fun t6 =>
      if (k_mm_isIn t6 48 57) = 0 then
        some (v4, σ)
      else
        if 4 < ((σ 24 0 0 11) - v3) then
          some (v4, σ)
        else
          en_b1 (en_rd 400 (σ 29 0 0) (σ 24 0 0 11)) fun t10 =>
          en_let (en_wr σ 24 0 0 11 ((σ 24 0 0 11) + 1)) fun s12 =>
          k_mm_number_18 f9 v1 v2 v3 (((10 * v4) + t10) - 48) s12
def k_mm_number (v1 : Int32) (v2 : Int32) (σ : en_M) : Option (Int32 × en_M) :=
  if (σ 24 0 0 12) = (-1) then
    en_b2 (k_mm_here σ) fun t2 s3 =>
    en_b2 (k_mm_number_18 en_fu v1 v2 t2 0 s3) fun x14 s15 =>
    if (s15 24 0 0 11) = t2 then
      en_b1 (k_mm_wrong t2 s15) fun s18 =>
      some (x14, s18)
    else
      if 4 < ((s15 24 0 0 11) - t2) then
        en_b1 (k_mm_wrong t2 s15) fun s21 =>
        some (x14, s21)
      else
        if x14 < v1 then
          en_b1 (k_mm_wrong t2 s15) fun s24 =>
          some (x14, s24)
        else
          if x14 ≤ v2 then
            some (x14, s15)
          else
            en_b1 (k_mm_wrong t2 s15) fun s27 =>
            some (x14, s27)
  else
    some (0, σ)
set_option maxRecDepth 100000 in
set_option maxHeartbeats 4000000 in
theorem s_mm_number_18 (G : en_G) (hz : G.2.2.2.2.2.2.2.2 = none) {d : Nat} {r : en_P} {cs cs' : List en_A} {ρ' : en_R} {σ' : en_M} : ∀ (f0 : Nat) {v1 : Int32} {v2 : Int32} {v3 : Int32} {v4 : Int32}  {σ : en_M} {x4 : Int32} {s0 : en_M} , k_mm_number_18 f0 v1 v2 v3 v4 σ = some (x4, s0) →
    (∀ (_ : Unit), en_W G (d + 1) 0 0 M_mm_number r cs' ρ' σ' 0 0 91 [some (.inr (.inl (some (24, 0, 0)))), some (.inl v1), some (.inl v2), some (.inl v3), some (.inl x4)] [] cs en_rf s0) → en_W G (d + 1) 0 0 M_mm_number r cs' ρ' σ' 0 0 18 [some (.inr (.inl (some (24, 0, 0)))), some (.inl v1), some (.inl v2), some (.inl v3), some (.inl v4)] [] cs en_rf σ := by
  intro f0
  induction f0 with
  | zero =>
    intros
    rename_i h _
    cases h
  | succ f9 ih =>
    intro v1 v2 v3 v4 σ x4 s0 h hk
    rw [k_mm_number_18] at h
    refine en_s_aload_n rfl rfl ?_
    refine en_s_getI rfl rfl rfl ?_
    refine en_s_aload_n rfl rfl ?_
    refine en_s_getI rfl rfl rfl ?_
    refine en_s_icmp_ge rfl (fun c5 => ?_) (fun c5 => ?_)
    · rw [if_pos c5] at h
      cases h
      exact hk ()
    · rw [if_neg c5] at h
      refine en_s_aload_n rfl rfl ?_
      refine en_s_getR (w := some (29, 0, 0)) rfl rfl rfl rfl ?_
      refine en_s_aload_n rfl rfl ?_
      refine en_s_getI rfl rfl rfl ?_
      obtain ⟨t6, h7, h⟩ := en_b1_h h
      refine en_s_iald rfl rfl h7 ?_
      refine en_s_bipush rfl ?_
      refine en_s_bipush rfl ?_
      refine en_callS (as := [.inl t6, .inl 48, .inl 57]) (rest := []) (bc' := 0) (bs' := 0) hz rfl (s_mm_isIn G hz (d + 0) rfl) lk_10_54 mv_mm_isIn rfl rfl rfl (fun _ h => h) (Nat.le_refl _) (Nat.le_refl _) ?_
      refine en_s_if_eq rfl (fun c8 => ?_) (fun c8 => ?_)
      · rw [if_pos c8] at h
        cases h
        exact hk ()
      · rw [if_neg c8] at h
        refine en_s_aload_n rfl rfl ?_
        refine en_s_getI rfl rfl rfl ?_
        refine en_s_iload_n rfl rfl ?_
        refine en_s_isub rfl ?_
        refine en_s_iconst rfl ?_
        refine en_s_icmp_gt rfl (fun c9 => ?_) (fun c9 => ?_)
        · rw [if_pos c9] at h
          cases h
          exact hk ()
        · rw [if_neg c9] at h
          refine en_s_bipush rfl ?_
          refine en_s_iload rfl rfl ?_
          refine en_s_imul rfl ?_
          refine en_s_aload_n rfl rfl ?_
          refine en_s_getR (w := some (29, 0, 0)) rfl rfl rfl rfl ?_
          refine en_s_aload_n rfl rfl ?_
          refine en_s_getI rfl rfl rfl ?_
          obtain ⟨t10, h11, h⟩ := en_b1_h h
          refine en_s_iald rfl rfl h11 ?_
          refine en_s_iadd rfl ?_
          refine en_s_bipush rfl ?_
          refine en_s_isub rfl ?_
          refine en_s_istore (ls' := [some (.inr (.inl (some (24, 0, 0)))), some (.inl v1), some (.inl v2), some (.inl v3), some (.inl (((10 * v4) + t10) - 48))]) rfl rfl rfl ?_
          refine en_s_aload_n rfl rfl ?_
          refine en_s_dup rfl rfl ?_
          refine en_s_getI rfl rfl rfl ?_
          refine en_s_iconst rfl ?_
          refine en_s_iadd rfl ?_
          obtain ⟨s12, e13, h⟩ := en_let_h h
          refine en_p_putI e13 rfl rfl rfl rfl rfl ?_
          refine en_s_goto rfl ?_
          exact ih  h hk
set_option maxRecDepth 100000 in
set_option maxHeartbeats 4000000 in
theorem s_mm_number (G : en_G) (hz : G.2.2.2.2.2.2.2.2 = none) (d : Nat) {cs : List en_A} {σ : en_M} {v1 : Int32} {v2 : Int32} {x0 : Int32} {s0 : en_M}  (h : k_mm_number v1 v2 σ = some (x0, s0)) : en_Mt G (d + 1) 0 0 M_mm_number [.inr (.inl (some (24, 0, 0))), .inl v1, .inl v2] cs en_rf σ (.inr (some (.inl x0))) cs en_rf s0 := by
  refine en_meth (ls := [some (.inr (.inl (some (24, 0, 0)))), some (.inl v1), some (.inl v2), none, none]) md_mm_number rfl rfl rfl ?_
  unfold k_mm_number at h
  refine en_s_aload_n rfl rfl ?_
  refine en_s_getI rfl rfl rfl ?_
  refine en_s_iconst rfl ?_
  refine en_s_icmp_eq rfl (fun c1 => ?_) (fun c1 => ?_)
  · rw [if_pos c1] at h
    refine en_s_aload_n rfl rfl ?_
    obtain ⟨t2, s3, h4, h⟩ := en_b2_h h
    refine en_callV (as := []) (rest := []) (bc' := 0) (bs' := 0) hz rfl (s_mm_here G hz (d + 0) h4) lk_10_185 mv_mm_here rfl rfl rfl rfl rfl (fun _ h => h) (Nat.le_refl _) (Nat.le_refl _) ?_
    refine en_s_istore_n (ls' := [some (.inr (.inl (some (24, 0, 0)))), some (.inl v1), some (.inl v2), some (.inl t2), none]) rfl rfl rfl ?_
    refine en_s_iconst rfl ?_
    refine en_s_istore (ls' := [some (.inr (.inl (some (24, 0, 0)))), some (.inl v1), some (.inl v2), some (.inl t2), some (.inl 0)]) rfl rfl rfl ?_
    obtain ⟨x14, s15, h16, h⟩ := en_b2_h h
    refine s_mm_number_18 G hz en_fu  h16 (fun _ => ?_)
    refine en_s_aload_n rfl rfl ?_
    refine en_s_getI rfl rfl rfl ?_
    refine en_s_iload_n rfl rfl ?_
    refine en_s_icmp_eq rfl (fun c17 => ?_) (fun c17 => ?_)
    · rw [if_pos c17] at h
      refine en_s_aload_n rfl rfl ?_
      refine en_s_iload_n rfl rfl ?_
      obtain ⟨s18, h19, h⟩ := en_b1_h h
      refine en_callV (as := [.inl t2]) (rest := []) (bc' := 0) (bs' := 0) hz rfl (s_mm_wrong G hz (d + 0) h19) lk_10_197 mv_mm_wrong rfl rfl rfl rfl rfl (fun _ h => h) (Nat.le_refl _) (Nat.le_refl _) ?_
      refine en_s_iload rfl rfl ?_
      cases h
      exact en_s_iret rfl rfl
    · rw [if_neg c17] at h
      refine en_s_aload_n rfl rfl ?_
      refine en_s_getI rfl rfl rfl ?_
      refine en_s_iload_n rfl rfl ?_
      refine en_s_isub rfl ?_
      refine en_s_iconst rfl ?_
      refine en_s_icmp_gt rfl (fun c20 => ?_) (fun c20 => ?_)
      · rw [if_pos c20] at h
        refine en_s_aload_n rfl rfl ?_
        refine en_s_iload_n rfl rfl ?_
        obtain ⟨s21, h22, h⟩ := en_b1_h h
        refine en_callV (as := [.inl t2]) (rest := []) (bc' := 0) (bs' := 0) hz rfl (s_mm_wrong G hz (d + 0) h22) lk_10_197 mv_mm_wrong rfl rfl rfl rfl rfl (fun _ h => h) (Nat.le_refl _) (Nat.le_refl _) ?_
        refine en_s_iload rfl rfl ?_
        cases h
        exact en_s_iret rfl rfl
      · rw [if_neg c20] at h
        refine en_s_iload rfl rfl ?_
        refine en_s_iload_n rfl rfl ?_
        refine en_s_icmp_lt rfl (fun c23 => ?_) (fun c23 => ?_)
        · rw [if_pos c23] at h
          refine en_s_aload_n rfl rfl ?_
          refine en_s_iload_n rfl rfl ?_
          obtain ⟨s24, h25, h⟩ := en_b1_h h
          refine en_callV (as := [.inl t2]) (rest := []) (bc' := 0) (bs' := 0) hz rfl (s_mm_wrong G hz (d + 0) h25) lk_10_197 mv_mm_wrong rfl rfl rfl rfl rfl (fun _ h => h) (Nat.le_refl _) (Nat.le_refl _) ?_
          refine en_s_iload rfl rfl ?_
          cases h
          exact en_s_iret rfl rfl
        · rw [if_neg c23] at h
          refine en_s_iload rfl rfl ?_
          refine en_s_iload_n rfl rfl ?_
          refine en_s_icmp_le rfl (fun c26 => ?_) (fun c26 => ?_)
          · rw [if_pos c26] at h
            refine en_s_iload rfl rfl ?_
            cases h
            exact en_s_iret rfl rfl
          · rw [if_neg c26] at h
            refine en_s_aload_n rfl rfl ?_
            refine en_s_iload_n rfl rfl ?_
            obtain ⟨s27, h28, h⟩ := en_b1_h h
            refine en_callV (as := [.inl t2]) (rest := []) (bc' := 0) (bs' := 0) hz rfl (s_mm_wrong G hz (d + 0) h28) lk_10_197 mv_mm_wrong rfl rfl rfl rfl rfl (fun _ h => h) (Nat.le_refl _) (Nat.le_refl _) ?_
            refine en_s_iload rfl rfl ?_
            cases h
            exact en_s_iret rfl rfl
  · rw [if_neg c1] at h
    refine en_s_iconst rfl ?_
    cases h
    exact en_s_iret rfl rfl
def k_mm_clears_3 (f0 : Nat) (v1 : Int32) (v2 : Int32) (v3 : Int32) (v4 : Int32) (σ : en_M) : Option (en_M) := match f0 with
  | 0 => none
  | f9 + 1 =>
    if 938 ≤ v4 then
      some (σ)
    else
      en_b1 (en_wa 938 σ 25 0 0 v4 0) fun s2 =>
      k_mm_clears_3 f9 v1 v2 v3 (v4 + 1) s2
def k_mm_clears (v1 : Int32) (v2 : Int32) (v3 : Int32) (σ : en_M) : Option (en_M) :=
  en_b1 (k_mm_clears_3 en_fu v1 v2 v3 0 σ) fun s5 =>
  en_let (en_wr s5 25 0 0 0 v1) fun s7 =>
  en_let (en_wr s7 25 0 0 1 v2) fun s9 =>
  en_let (en_wr s9 25 0 0 2 v3) fun s11 =>
  some s11
set_option maxRecDepth 100000 in
set_option maxHeartbeats 4000000 in
theorem s_mm_clears_3 (G : en_G) (hz : G.2.2.2.2.2.2.2.2 = none) {d : Nat} {r : en_P} {cs cs' : List en_A} {ρ' : en_R} {σ' : en_M} : ∀ (f0 : Nat) {v1 : Int32} {v2 : Int32} {v3 : Int32} {v4 : Int32}  {σ : en_M} {s0 : en_M} , k_mm_clears_3 f0 v1 v2 v3 v4 σ = some (s0) →
    (∀ (f4 : Option en_V), en_W G (d + 0) 0 0 M_mm_clears r cs' ρ' σ' 0 0 25 [some (.inr (.inl (some (24, 0, 0)))), some (.inl v1), some (.inl v2), some (.inl v3), f4] [] cs en_rf s0) → en_W G (d + 0) 0 0 M_mm_clears r cs' ρ' σ' 0 0 3 [some (.inr (.inl (some (24, 0, 0)))), some (.inl v1), some (.inl v2), some (.inl v3), some (.inl v4)] [] cs en_rf σ := by
  intro f0
  induction f0 with
  | zero =>
    intros
    rename_i h _
    cases h
  | succ f9 ih =>
    intro v1 v2 v3 v4 σ s0 h hk
    rw [k_mm_clears_3] at h
    refine en_s_iload rfl rfl ?_
    refine en_s_sipush rfl ?_
    refine en_s_icmp_ge rfl (fun c1 => ?_) (fun c1 => ?_)
    · rw [if_pos c1] at h
      cases h
      exact hk (some (.inl v4))
    · rw [if_neg c1] at h
      refine en_s_aload_n rfl rfl ?_
      refine en_s_getR (w := some (25, 0, 0)) rfl rfl rfl rfl ?_
      refine en_s_iload rfl rfl ?_
      refine en_s_iconst rfl ?_
      obtain ⟨s2, e3, h⟩ := en_b1_h h
      refine en_s_iast rfl rfl e3 ?_
      refine en_s_iinc (ls' := [some (.inr (.inl (some (24, 0, 0)))), some (.inl v1), some (.inl v2), some (.inl v3), some (.inl (v4 + 1))]) rfl rfl rfl ?_
      refine en_s_goto rfl ?_
      exact ih  h hk
set_option maxRecDepth 100000 in
set_option maxHeartbeats 4000000 in
theorem s_mm_clears (G : en_G) (hz : G.2.2.2.2.2.2.2.2 = none) (d : Nat) {cs : List en_A} {σ : en_M} {v1 : Int32} {v2 : Int32} {v3 : Int32} {s0 : en_M}  (h : k_mm_clears v1 v2 v3 σ = some s0) : en_Mt G (d + 0) 0 0 M_mm_clears [.inr (.inl (some (24, 0, 0))), .inl v1, .inl v2, .inl v3] cs en_rf σ (.inr (none)) cs en_rf s0 := by
  refine en_meth (ls := [some (.inr (.inl (some (24, 0, 0)))), some (.inl v1), some (.inl v2), some (.inl v3), none]) md_mm_clears rfl rfl rfl ?_
  unfold k_mm_clears at h
  refine en_s_iconst rfl ?_
  refine en_s_istore (ls' := [some (.inr (.inl (some (24, 0, 0)))), some (.inl v1), some (.inl v2), some (.inl v3), some (.inl 0)]) rfl rfl rfl ?_
  obtain ⟨s5, h6, h⟩ := en_b1_h h
  refine s_mm_clears_3 G hz en_fu  h6 (fun f4 => ?_)
  refine en_s_aload_n rfl rfl ?_
  refine en_s_getR (w := some (25, 0, 0)) rfl rfl rfl rfl ?_
  refine en_s_iconst rfl ?_
  refine en_s_iload_n rfl rfl ?_
  obtain ⟨s7, e8, h⟩ := en_let_h h
  refine en_c_iast (q := 0) e8 rfl rfl (by decide) (by decide) ?_
  refine en_s_aload_n rfl rfl ?_
  refine en_s_getR (w := some (25, 0, 0)) rfl rfl rfl rfl ?_
  refine en_s_iconst rfl ?_
  refine en_s_iload_n rfl rfl ?_
  obtain ⟨s9, e10, h⟩ := en_let_h h
  refine en_c_iast (q := 1) e10 rfl rfl (by decide) (by decide) ?_
  refine en_s_aload_n rfl rfl ?_
  refine en_s_getR (w := some (25, 0, 0)) rfl rfl rfl rfl ?_
  refine en_s_iconst rfl ?_
  refine en_s_iload_n rfl rfl ?_
  obtain ⟨s11, e12, h⟩ := en_let_h h
  refine en_c_iast (q := 2) e12 rfl rfl (by decide) (by decide) ?_
  cases h
  exact en_s_vret rfl rfl
def k_mm_cardText  (σ : en_M) : Option (en_M) :=
  en_b2 (k_mm_number 1 8 σ) fun t1 s2 =>
  en_b2 (k_mm_number 1 40 s2) fun t4 s5 =>
  en_b2 (k_mm_number 1 8 s5) fun t7 s8 =>
  if (s8 24 0 0 12) = (-1) then
    en_b1 (k_mm_clears t1 t4 t7 s8) fun s11 =>
    some s11
  else
    some s8
set_option maxRecDepth 100000 in
set_option maxHeartbeats 4000000 in
theorem s_mm_cardText (G : en_G) (hz : G.2.2.2.2.2.2.2.2 = none) (d : Nat) {cs : List en_A} {σ : en_M}  {s0 : en_M}  (h : k_mm_cardText  σ = some s0) : en_Mt G (d + 2) 0 0 M_mm_cardText [.inr (.inl (some (24, 0, 0)))] cs en_rf σ (.inr (none)) cs en_rf s0 := by
  refine en_meth (ls := [some (.inr (.inl (some (24, 0, 0)))), none, none, none]) md_mm_cardText rfl rfl rfl ?_
  unfold k_mm_cardText at h
  refine en_s_aload_n rfl rfl ?_
  refine en_s_iconst rfl ?_
  refine en_s_bipush rfl ?_
  obtain ⟨t1, s2, h3, h⟩ := en_b2_h h
  refine en_callV (as := [.inl 1, .inl 8]) (rest := []) (bc' := 0) (bs' := 0) hz rfl (s_mm_number G hz (d + 0) h3) lk_10_200 mv_mm_number rfl rfl rfl rfl rfl (fun _ h => h) (Nat.le_refl _) (Nat.le_refl _) ?_
  refine en_s_istore_n (ls' := [some (.inr (.inl (some (24, 0, 0)))), some (.inl t1), none, none]) rfl rfl rfl ?_
  refine en_s_aload_n rfl rfl ?_
  refine en_s_iconst rfl ?_
  refine en_s_bipush rfl ?_
  obtain ⟨t4, s5, h6, h⟩ := en_b2_h h
  refine en_callV (as := [.inl 1, .inl 40]) (rest := []) (bc' := 0) (bs' := 0) hz rfl (s_mm_number G hz (d + 0) h6) lk_10_200 mv_mm_number rfl rfl rfl rfl rfl (fun _ h => h) (Nat.le_refl _) (Nat.le_refl _) ?_
  refine en_s_istore_n (ls' := [some (.inr (.inl (some (24, 0, 0)))), some (.inl t1), some (.inl t4), none]) rfl rfl rfl ?_
  refine en_s_aload_n rfl rfl ?_
  refine en_s_iconst rfl ?_
  refine en_s_bipush rfl ?_
  obtain ⟨t7, s8, h9, h⟩ := en_b2_h h
  refine en_callV (as := [.inl 1, .inl 8]) (rest := []) (bc' := 0) (bs' := 0) hz rfl (s_mm_number G hz (d + 0) h9) lk_10_200 mv_mm_number rfl rfl rfl rfl rfl (fun _ h => h) (Nat.le_refl _) (Nat.le_refl _) ?_
  refine en_s_istore_n (ls' := [some (.inr (.inl (some (24, 0, 0)))), some (.inl t1), some (.inl t4), some (.inl t7)]) rfl rfl rfl ?_
  refine en_s_aload_n rfl rfl ?_
  refine en_s_getI rfl rfl rfl ?_
  refine en_s_iconst rfl ?_
  refine en_s_icmp_ne rfl (fun c10 => ?_) (fun c10 => ?_)
  · rw [if_neg c10] at h
    cases h
    exact en_s_vret rfl rfl
  · rw [if_pos c10] at h
    refine en_s_aload_n rfl rfl ?_
    refine en_s_iload_n rfl rfl ?_
    refine en_s_iload_n rfl rfl ?_
    refine en_s_iload_n rfl rfl ?_
    obtain ⟨s11, h12, h⟩ := en_b1_h h
    refine en_callV (as := [.inl t1, .inl t4, .inl t7]) (rest := []) (bc' := 0) (bs' := 0) hz rfl (s_mm_clears G hz (d + 1) h12) lk_10_47 mv_mm_clears rfl rfl rfl rfl rfl (fun _ h => h) (Nat.le_refl _) (Nat.le_refl _) ?_
    cases h
    exact en_s_vret rfl rfl
def k_mm_flow0_29 (f0 : Nat) (v1 : Int32) (v2 : Int32) (v3 : Int32) (v4 : Int32) (σ : en_M) : Option (en_M) := match f0 with
  | 0 => none
  | f9 + 1 =>
    if 9 ≤ v4 then
      some (σ)
    else
      en_b1 (en_wa 938 σ 25 0 0 (v3 + v4) 0) fun s3 =>
      k_mm_flow0_29 f9 v1 v2 v3 (v4 + 1) s3
def k_mm_flow0 (v1 : Int32) (v2 : Int32) (σ : en_M) : Option (Int32 × en_M) :=
  if (σ 25 0 0 3) = 6 then
    some (1, σ)
  else
    en_b1 (k_mm_flow0_29 en_fu v1 v2 (20 + (9 * (σ 25 0 0 3))) 0 σ) fun s6 =>
    en_b1 (en_wa 938 s6 25 0 0 ((20 + (9 * (σ 25 0 0 3))) + 0) v1) fun s8 =>
    en_b1 (en_wa 938 s8 25 0 0 ((20 + (9 * (σ 25 0 0 3))) + 1) v2) fun s10 =>
    en_let (en_wr s10 25 0 0 3 ((s10 25 0 0 3) + 1)) fun s12 =>
    some (0, s12)
set_option maxRecDepth 100000 in
set_option maxHeartbeats 4000000 in
theorem s_mm_flow0_29 (G : en_G) (hz : G.2.2.2.2.2.2.2.2 = none) {d : Nat} {r : en_P} {cs cs' : List en_A} {ρ' : en_R} {σ' : en_M} : ∀ (f0 : Nat) {v1 : Int32} {v2 : Int32} {v3 : Int32} {v4 : Int32}  {σ : en_M} {s0 : en_M} , k_mm_flow0_29 f0 v1 v2 v3 v4 σ = some (s0) →
    (∀ (f4 : Option en_V), en_W G (d + 0) 0 0 M_mm_flow0 r cs' ρ' σ' 0 0 52 [some (.inr (.inl (some (24, 0, 0)))), some (.inl v1), some (.inl v2), some (.inl v3), f4] [] cs en_rf s0) → en_W G (d + 0) 0 0 M_mm_flow0 r cs' ρ' σ' 0 0 29 [some (.inr (.inl (some (24, 0, 0)))), some (.inl v1), some (.inl v2), some (.inl v3), some (.inl v4)] [] cs en_rf σ := by
  intro f0
  induction f0 with
  | zero =>
    intros
    rename_i h _
    cases h
  | succ f9 ih =>
    intro v1 v2 v3 v4 σ s0 h hk
    rw [k_mm_flow0_29] at h
    refine en_s_iload rfl rfl ?_
    refine en_s_bipush rfl ?_
    refine en_s_icmp_ge rfl (fun c2 => ?_) (fun c2 => ?_)
    · rw [if_pos c2] at h
      cases h
      exact hk (some (.inl v4))
    · rw [if_neg c2] at h
      refine en_s_aload_n rfl rfl ?_
      refine en_s_getR (w := some (25, 0, 0)) rfl rfl rfl rfl ?_
      refine en_s_iload_n rfl rfl ?_
      refine en_s_iload rfl rfl ?_
      refine en_s_iadd rfl ?_
      refine en_s_iconst rfl ?_
      obtain ⟨s3, e4, h⟩ := en_b1_h h
      refine en_s_iast rfl rfl e4 ?_
      refine en_s_iinc (ls' := [some (.inr (.inl (some (24, 0, 0)))), some (.inl v1), some (.inl v2), some (.inl v3), some (.inl (v4 + 1))]) rfl rfl rfl ?_
      refine en_s_goto rfl ?_
      exact ih  h hk
set_option maxRecDepth 100000 in
set_option maxHeartbeats 4000000 in
theorem s_mm_flow0 (G : en_G) (hz : G.2.2.2.2.2.2.2.2 = none) (d : Nat) {cs : List en_A} {σ : en_M} {v1 : Int32} {v2 : Int32} {x0 : Int32} {s0 : en_M}  (h : k_mm_flow0 v1 v2 σ = some (x0, s0)) : en_Mt G (d + 0) 0 0 M_mm_flow0 [.inr (.inl (some (24, 0, 0))), .inl v1, .inl v2] cs en_rf σ (.inr (some (.inl x0))) cs en_rf s0 := by
  refine en_meth (ls := [some (.inr (.inl (some (24, 0, 0)))), some (.inl v1), some (.inl v2), none, none]) md_mm_flow0 rfl rfl rfl ?_
  unfold k_mm_flow0 at h
  refine en_s_aload_n rfl rfl ?_
  refine en_s_getR (w := some (25, 0, 0)) rfl rfl rfl rfl ?_
  refine en_s_iconst rfl ?_
  refine en_c_iald (q := 3) rfl rfl (by decide) (by decide) ?_
  refine en_s_bipush rfl ?_
  refine en_s_icmp_ne rfl (fun c1 => ?_) (fun c1 => ?_)
  · rw [if_neg c1] at h
    refine en_s_bipush rfl ?_
    refine en_s_bipush rfl ?_
    refine en_s_aload_n rfl rfl ?_
    refine en_s_getR (w := some (25, 0, 0)) rfl rfl rfl rfl ?_
    refine en_s_iconst rfl ?_
    refine en_c_iald (q := 3) rfl rfl (by decide) (by decide) ?_
    refine en_s_imul rfl ?_
    refine en_s_iadd rfl ?_
    refine en_s_istore_n (ls' := [some (.inr (.inl (some (24, 0, 0)))), some (.inl v1), some (.inl v2), some (.inl (20 + (9 * (σ 25 0 0 3)))), none]) rfl rfl rfl ?_
    refine en_s_iconst rfl ?_
    refine en_s_istore (ls' := [some (.inr (.inl (some (24, 0, 0)))), some (.inl v1), some (.inl v2), some (.inl (20 + (9 * (σ 25 0 0 3)))), some (.inl 0)]) rfl rfl rfl ?_
    obtain ⟨s6, h7, h⟩ := en_b1_h h
    refine s_mm_flow0_29 G hz en_fu  h7 (fun f5 => ?_)
    refine en_s_aload_n rfl rfl ?_
    refine en_s_getR (w := some (25, 0, 0)) rfl rfl rfl rfl ?_
    refine en_s_iload_n rfl rfl ?_
    refine en_s_iconst rfl ?_
    refine en_s_iadd rfl ?_
    refine en_s_iload_n rfl rfl ?_
    obtain ⟨s8, e9, h⟩ := en_b1_h h
    refine en_s_iast rfl rfl e9 ?_
    refine en_s_aload_n rfl rfl ?_
    refine en_s_getR (w := some (25, 0, 0)) rfl rfl rfl rfl ?_
    refine en_s_iload_n rfl rfl ?_
    refine en_s_iconst rfl ?_
    refine en_s_iadd rfl ?_
    refine en_s_iload_n rfl rfl ?_
    obtain ⟨s10, e11, h⟩ := en_b1_h h
    refine en_s_iast rfl rfl e11 ?_
    refine en_s_aload_n rfl rfl ?_
    refine en_s_getR (w := some (25, 0, 0)) rfl rfl rfl rfl ?_
    refine en_s_iconst rfl ?_
    refine en_s_dup2 rfl rfl rfl ?_
    refine en_c_iald (q := 3) rfl rfl (by decide) (by decide) ?_
    refine en_s_iconst rfl ?_
    refine en_s_iadd rfl ?_
    obtain ⟨s12, e13, h⟩ := en_let_h h
    refine en_c_iast (q := 3) e13 rfl rfl (by decide) (by decide) ?_
    refine en_s_iconst rfl ?_
    cases h
    exact en_s_iret rfl rfl
  · rw [if_pos c1] at h
    refine en_s_iconst rfl ?_
    cases h
    exact en_s_iret rfl rfl
def k_mm_isFlow (v1 : Int32) (σ : en_M) : Int32 :=
  k_mm_isIn v1 0 ((σ 25 0 0 3) - 1)
theorem z_mm_isFlow {v1 : Int32} {σ : en_M} : k_mm_isFlow v1 σ = 0 ∨ k_mm_isFlow v1 σ = 1 := by
  unfold k_mm_isFlow
  (repeat' split) <;> first | exact Or.inl rfl | exact Or.inr rfl | exact z_mm_isIn
set_option maxRecDepth 100000 in
set_option maxHeartbeats 4000000 in
theorem s_mm_isFlow (G : en_G) (hz : G.2.2.2.2.2.2.2.2 = none) (d : Nat) {cs : List en_A} {σ : en_M} {v1 : Int32} {x0 : Int32}  (h : k_mm_isFlow v1 σ = x0) : en_Mt G (d + 1) 0 0 M_mm_isFlow [.inr (.inl (some (24, 0, 0))), .inl v1] cs en_rf σ (.inr (some (.inl x0))) cs en_rf σ := by
  refine en_meth (ls := [some (.inr (.inl (some (24, 0, 0)))), some (.inl v1)]) md_mm_isFlow rfl rfl rfl ?_
  unfold k_mm_isFlow at h
  refine en_s_iload_n rfl rfl ?_
  refine en_s_iconst rfl ?_
  refine en_s_aload_n rfl rfl ?_
  refine en_s_getR (w := some (25, 0, 0)) rfl rfl rfl rfl ?_
  refine en_s_iconst rfl ?_
  refine en_c_iald (q := 3) rfl rfl (by decide) (by decide) ?_
  refine en_s_iconst rfl ?_
  refine en_s_isub rfl ?_
  refine en_callS (as := [.inl v1, .inl 0, .inl ((σ 25 0 0 3) - 1)]) (rest := []) (bc' := 0) (bs' := 0) hz rfl (s_mm_isIn G hz (d + 0) rfl) lk_10_54 mv_mm_isIn rfl rfl rfl (fun _ h => h) (Nat.le_refl _) (Nat.le_refl _) ?_
  subst h
  exact en_s_zret rfl rfl z_mm_isIn
def k_mm_slotOf (v0 : Int32) : Int32 :=
  74 + (68 * (v0 - v0 / 8 * 8))
set_option maxRecDepth 100000 in
set_option maxHeartbeats 4000000 in
theorem s_mm_slotOf (G : en_G) (hz : G.2.2.2.2.2.2.2.2 = none) (d : Nat) {cs : List en_A} {σ : en_M} {v0 : Int32} {x0 : Int32}  (h : k_mm_slotOf v0 = x0) : en_Mt G (d + 0) 0 0 M_mm_slotOf [.inl v0] cs en_rf σ (.inr (some (.inl x0))) cs en_rf σ := by
  refine en_meth (ls := [some (.inl v0)]) md_mm_slotOf rfl rfl rfl ?_
  unfold k_mm_slotOf at h
  refine en_s_bipush rfl ?_
  refine en_s_bipush rfl ?_
  refine en_s_iload_n rfl rfl ?_
  refine en_s_bipush rfl ?_
  refine en_s_irem rfl (by decide) ?_
  refine en_s_imul rfl ?_
  refine en_s_iadd rfl ?_
  subst h
  exact en_s_iret rfl rfl
def k_mm_of (v1 : Int32) (v2 : Int32) (σ : en_M) : Option (Int32) :=
  en_b1 (en_rd 938 (σ 25 0 0) ((k_mm_slotOf v1) + v2)) fun t1 =>
  some t1
set_option maxRecDepth 100000 in
set_option maxHeartbeats 4000000 in
theorem s_mm_of (G : en_G) (hz : G.2.2.2.2.2.2.2.2 = none) (d : Nat) {cs : List en_A} {σ : en_M} {v1 : Int32} {v2 : Int32} {x0 : Int32}  (h : k_mm_of v1 v2 σ = some x0) : en_Mt G (d + 1) 0 0 M_mm_of [.inr (.inl (some (24, 0, 0))), .inl v1, .inl v2] cs en_rf σ (.inr (some (.inl x0))) cs en_rf σ := by
  refine en_meth (ls := [some (.inr (.inl (some (24, 0, 0)))), some (.inl v1), some (.inl v2)]) md_mm_of rfl rfl rfl ?_
  unfold k_mm_of at h
  refine en_s_aload_n rfl rfl ?_
  refine en_s_getR (w := some (25, 0, 0)) rfl rfl rfl rfl ?_
  refine en_s_iload_n rfl rfl ?_
  refine en_callS (as := [.inl v1]) (rest := [.inr (.inl (some (25, 0, 0)))]) (bc' := 0) (bs' := 0) hz rfl (s_mm_slotOf G hz (d + 0) rfl) lk_10_58 mv_mm_slotOf rfl rfl rfl (fun _ h => h) (Nat.le_refl _) (Nat.le_refl _) ?_
  refine en_s_iload_n rfl rfl ?_
  refine en_s_iadd rfl ?_
  obtain ⟨t1, h2, h⟩ := en_b1_h h
  refine en_s_iald rfl rfl h2 ?_
  cases h
  exact en_s_iret rfl rfl
def k_mm_waiting_10 (f0 : Nat) (v1 : Int32) (v2 : Int32) (σ : en_M) : Option (Int32) := match f0 with
  | 0 => none
  | f9 + 1 =>
    if (σ 25 0 0 5) ≤ v2 then
      some (v1)
    else
      en_b1 (k_mm_of v2 4 σ) fun t2 =>
      if t2 = 0 then
        k_mm_waiting_10 f9 (v1 + 1) (v2 + 1) σ
      else
        k_mm_waiting_10 f9 (v1 + 0) (v2 + 1) σ
def k_mm_waiting  (σ : en_M) : Option (Int32) :=
  en_b1 (k_mm_waiting_10 en_fu 0 (σ 25 0 0 6) σ) fun x5 =>
  some x5
set_option maxRecDepth 100000 in
set_option maxHeartbeats 4000000 in
theorem s_mm_waiting_10 (G : en_G) (hz : G.2.2.2.2.2.2.2.2 = none) {d : Nat} {r : en_P} {cs cs' : List en_A} {ρ' : en_R} {σ' : en_M} : ∀ (f0 : Nat) {v1 : Int32} {v2 : Int32}  {σ : en_M} {x1 : Int32} , k_mm_waiting_10 f0 v1 v2 σ = some (x1) →
    (∀ (f2 : Option en_V), en_W G (d + 2) 0 0 M_mm_waiting r cs' ρ' σ' 0 0 43 [some (.inr (.inl (some (24, 0, 0)))), some (.inl x1), f2] [] cs en_rf σ) → en_W G (d + 2) 0 0 M_mm_waiting r cs' ρ' σ' 0 0 10 [some (.inr (.inl (some (24, 0, 0)))), some (.inl v1), some (.inl v2)] [] cs en_rf σ := by
  intro f0
  induction f0 with
  | zero =>
    intros
    rename_i h _
    cases h
  | succ f9 ih =>
    intro v1 v2 σ x1 h hk
    rw [k_mm_waiting_10] at h
    refine en_s_iload_n rfl rfl ?_
    refine en_s_aload_n rfl rfl ?_
    refine en_s_getR (w := some (25, 0, 0)) rfl rfl rfl rfl ?_
    refine en_s_iconst rfl ?_
    refine en_c_iald (q := 5) rfl rfl (by decide) (by decide) ?_
    refine en_s_icmp_ge rfl (fun c1 => ?_) (fun c1 => ?_)
    · rw [if_pos c1] at h
      cases h
      exact hk (some (.inl v2))
    · rw [if_neg c1] at h
      refine en_s_iload_n rfl rfl ?_
      refine en_s_aload_n rfl rfl ?_
      refine en_s_iload_n rfl rfl ?_
      refine en_s_iconst rfl ?_
      obtain ⟨t2, h3, h⟩ := en_b1_h h
      refine en_callV (as := [.inl v2, .inl 4]) (rest := [.inl v1]) (bc' := 0) (bs' := 0) hz rfl (s_mm_of G hz (d + 0) h3) lk_10_66 mv_mm_of rfl rfl rfl rfl rfl (fun _ h => h) (Nat.le_refl _) (Nat.le_refl _) ?_
      refine en_s_if_ne rfl (fun c4 => ?_) (fun c4 => ?_)
      · rw [if_neg c4] at h
        refine en_s_iconst rfl ?_
        refine en_s_iadd rfl ?_
        refine en_s_istore_n (ls' := [some (.inr (.inl (some (24, 0, 0)))), some (.inl (v1 + 0)), some (.inl v2)]) rfl rfl rfl ?_
        refine en_s_iinc (ls' := [some (.inr (.inl (some (24, 0, 0)))), some (.inl (v1 + 0)), some (.inl (v2 + 1))]) rfl rfl rfl ?_
        refine en_s_goto rfl ?_
        exact ih  h hk
      · rw [if_pos c4] at h
        refine en_s_iconst rfl ?_
        refine en_s_goto rfl ?_
        refine en_s_iadd rfl ?_
        refine en_s_istore_n (ls' := [some (.inr (.inl (some (24, 0, 0)))), some (.inl (v1 + 1)), some (.inl v2)]) rfl rfl rfl ?_
        refine en_s_iinc (ls' := [some (.inr (.inl (some (24, 0, 0)))), some (.inl (v1 + 1)), some (.inl (v2 + 1))]) rfl rfl rfl ?_
        refine en_s_goto rfl ?_
        exact ih  h hk
set_option maxRecDepth 100000 in
set_option maxHeartbeats 4000000 in
theorem s_mm_waiting (G : en_G) (hz : G.2.2.2.2.2.2.2.2 = none) (d : Nat) {cs : List en_A} {σ : en_M}  {x0 : Int32}  (h : k_mm_waiting  σ = some x0) : en_Mt G (d + 2) 0 0 M_mm_waiting [.inr (.inl (some (24, 0, 0)))] cs en_rf σ (.inr (some (.inl x0))) cs en_rf σ := by
  refine en_meth (ls := [some (.inr (.inl (some (24, 0, 0)))), none, none]) md_mm_waiting rfl rfl rfl ?_
  unfold k_mm_waiting at h
  refine en_s_iconst rfl ?_
  refine en_s_istore_n (ls' := [some (.inr (.inl (some (24, 0, 0)))), some (.inl 0), none]) rfl rfl rfl ?_
  refine en_s_aload_n rfl rfl ?_
  refine en_s_getR (w := some (25, 0, 0)) rfl rfl rfl rfl ?_
  refine en_s_bipush rfl ?_
  refine en_c_iald (q := 6) rfl rfl (by decide) (by decide) ?_
  refine en_s_istore_n (ls' := [some (.inr (.inl (some (24, 0, 0)))), some (.inl 0), some (.inl (σ 25 0 0 6))]) rfl rfl rfl ?_
  obtain ⟨x5, h7, h⟩ := en_b1_h h
  refine s_mm_waiting_10 G hz en_fu  h7 (fun f6 => ?_)
  refine en_s_iload_n rfl rfl ?_
  cases h
  exact en_s_iret rfl rfl
def k_mm_bell0_10 (f0 : Nat) (v1 : Int32) (v2 : Int32) (σ : en_M) : Option (Int32 × en_M) := match f0 with
  | 0 => none
  | f9 + 1 =>
    if (σ 25 0 0 5) ≤ v2 then
      some (v1, σ)
    else
      en_b1 (k_mm_of v2 4 σ) fun t2 =>
      if t2 = 0 then
        en_b1 (en_rd 938 (σ 25 0 0) ((k_mm_slotOf v2) + 0)) fun t5 =>
        en_b1 (en_wa 938 σ 25 0 0 ((k_mm_slotOf v2) + 4) 1) fun s7 =>
        en_b1 (en_wa 938 s7 25 0 0 ((k_mm_slotOf v2) + 5) (s7 25 0 0 4)) fun s9 =>
        en_b1 (en_rd 938 (s9 25 0 0) ((20 + (9 * t5)) + 1)) fun t11 =>
        en_b1 (en_rd 938 (s9 25 0 0) ((20 + (9 * t5)) + 3)) fun t13 =>
        en_b1 (en_wa 938 s9 25 0 0 ((k_mm_slotOf v2) + 7) (t11 + t13)) fun s15 =>
        en_b1 (en_rd 938 (s15 25 0 0) ((20 + (9 * t5)) + 3)) fun t17 =>
        en_b1 (en_rd 938 (s15 25 0 0) ((k_mm_slotOf v2) + 1)) fun t19 =>
        en_b1 (en_wa 938 s15 25 0 0 ((20 + (9 * t5)) + 3) (t17 + t19)) fun s21 =>
        k_mm_bell0_10 f9 (v1 + 1) (v2 + 1) s21
      else
        k_mm_bell0_10 f9 v1 (v2 + 1) σ
def k_mm_bell0  (σ : en_M) : Option (Int32 × en_M) :=
  en_b2 (k_mm_bell0_10 en_fu 0 (σ 25 0 0 6) σ) fun x23 s27 =>
  en_let (en_wr s27 25 0 0 7 ((s27 25 0 0 7) + 1)) fun s29 =>
  en_let (en_wr s29 25 0 0 8 ((s29 25 0 0 8) + x23)) fun s31 =>
  if x23 ≤ 0 then
    en_let (en_wr s31 25 0 0 9 ((s31 25 0 0 9) + 0)) fun s34 =>
    some (x23, s34)
  else
    en_let (en_wr s31 25 0 0 9 ((s31 25 0 0 9) + 1)) fun s36 =>
    some (x23, s36)
set_option maxRecDepth 100000 in
set_option maxHeartbeats 4000000 in
theorem s_mm_bell0_10 (G : en_G) (hz : G.2.2.2.2.2.2.2.2 = none) {d : Nat} {r : en_P} {cs cs' : List en_A} {ρ' : en_R} {σ' : en_M} : ∀ (f0 : Nat) {v1 : Int32} {v2 : Int32} {e3 e4 : Option en_V} {σ : en_M} {x1 : Int32} {s0 : en_M} , k_mm_bell0_10 f0 v1 v2 σ = some (x1, s0) →
    (∀ (f2 : Option en_V) (f3 : Option en_V) (f4 : Option en_V), en_W G (d + 2) 0 0 M_mm_bell0 r cs' ρ' σ' 0 0 133 [some (.inr (.inl (some (24, 0, 0)))), some (.inl x1), f2, f3, f4] [] cs en_rf s0) → en_W G (d + 2) 0 0 M_mm_bell0 r cs' ρ' σ' 0 0 10 [some (.inr (.inl (some (24, 0, 0)))), some (.inl v1), some (.inl v2), e3, e4] [] cs en_rf σ := by
  intro f0
  induction f0 with
  | zero =>
    intros
    rename_i h _
    cases h
  | succ f9 ih =>
    intro v1 v2 e3 e4 σ x1 s0 h hk
    rw [k_mm_bell0_10] at h
    refine en_s_iload_n rfl rfl ?_
    refine en_s_aload_n rfl rfl ?_
    refine en_s_getR (w := some (25, 0, 0)) rfl rfl rfl rfl ?_
    refine en_s_iconst rfl ?_
    refine en_c_iald (q := 5) rfl rfl (by decide) (by decide) ?_
    refine en_s_icmp_ge rfl (fun c1 => ?_) (fun c1 => ?_)
    · rw [if_pos c1] at h
      cases h
      exact hk (some (.inl v2)) (e3) (e4)
    · rw [if_neg c1] at h
      refine en_s_aload_n rfl rfl ?_
      refine en_s_iload_n rfl rfl ?_
      refine en_s_iconst rfl ?_
      obtain ⟨t2, h3, h⟩ := en_b1_h h
      refine en_callV (as := [.inl v2, .inl 4]) (rest := []) (bc' := 0) (bs' := 0) hz rfl (s_mm_of G hz (d + 0) h3) lk_10_66 mv_mm_of rfl rfl rfl rfl rfl (fun _ h => h) (Nat.le_refl _) (Nat.le_refl _) ?_
      refine en_s_if_eq rfl (fun c4 => ?_) (fun c4 => ?_)
      · rw [if_pos c4] at h
        refine en_s_iload_n rfl rfl ?_
        refine en_callS (as := [.inl v2]) (rest := []) (bc' := 0) (bs' := 0) hz rfl (s_mm_slotOf G hz (d + 1) rfl) lk_10_58 mv_mm_slotOf rfl rfl rfl (fun _ h => h) (Nat.le_refl _) (Nat.le_refl _) ?_
        refine en_s_istore_n (ls' := [some (.inr (.inl (some (24, 0, 0)))), some (.inl v1), some (.inl v2), some (.inl (k_mm_slotOf v2)), e4]) rfl rfl rfl ?_
        refine en_s_bipush rfl ?_
        refine en_s_bipush rfl ?_
        refine en_s_aload_n rfl rfl ?_
        refine en_s_getR (w := some (25, 0, 0)) rfl rfl rfl rfl ?_
        refine en_s_iload_n rfl rfl ?_
        refine en_s_iconst rfl ?_
        refine en_s_iadd rfl ?_
        obtain ⟨t5, h6, h⟩ := en_b1_h h
        refine en_s_iald rfl rfl h6 ?_
        refine en_s_imul rfl ?_
        refine en_s_iadd rfl ?_
        refine en_s_istore (ls' := [some (.inr (.inl (some (24, 0, 0)))), some (.inl v1), some (.inl v2), some (.inl (k_mm_slotOf v2)), some (.inl (20 + (9 * t5)))]) rfl rfl rfl ?_
        refine en_s_aload_n rfl rfl ?_
        refine en_s_getR (w := some (25, 0, 0)) rfl rfl rfl rfl ?_
        refine en_s_iload_n rfl rfl ?_
        refine en_s_iconst rfl ?_
        refine en_s_iadd rfl ?_
        refine en_s_iconst rfl ?_
        obtain ⟨s7, e8, h⟩ := en_b1_h h
        refine en_s_iast rfl rfl e8 ?_
        refine en_s_aload_n rfl rfl ?_
        refine en_s_getR (w := some (25, 0, 0)) rfl rfl rfl rfl ?_
        refine en_s_iload_n rfl rfl ?_
        refine en_s_iconst rfl ?_
        refine en_s_iadd rfl ?_
        refine en_s_aload_n rfl rfl ?_
        refine en_s_getR (w := some (25, 0, 0)) rfl rfl rfl rfl ?_
        refine en_s_iconst rfl ?_
        refine en_c_iald (q := 4) rfl rfl (by decide) (by decide) ?_
        obtain ⟨s9, e10, h⟩ := en_b1_h h
        refine en_s_iast rfl rfl e10 ?_
        refine en_s_aload_n rfl rfl ?_
        refine en_s_getR (w := some (25, 0, 0)) rfl rfl rfl rfl ?_
        refine en_s_iload_n rfl rfl ?_
        refine en_s_bipush rfl ?_
        refine en_s_iadd rfl ?_
        refine en_s_aload_n rfl rfl ?_
        refine en_s_getR (w := some (25, 0, 0)) rfl rfl rfl rfl ?_
        refine en_s_iload rfl rfl ?_
        refine en_s_iconst rfl ?_
        refine en_s_iadd rfl ?_
        obtain ⟨t11, h12, h⟩ := en_b1_h h
        refine en_s_iald rfl rfl h12 ?_
        refine en_s_aload_n rfl rfl ?_
        refine en_s_getR (w := some (25, 0, 0)) rfl rfl rfl rfl ?_
        refine en_s_iload rfl rfl ?_
        refine en_s_iconst rfl ?_
        refine en_s_iadd rfl ?_
        obtain ⟨t13, h14, h⟩ := en_b1_h h
        refine en_s_iald rfl rfl h14 ?_
        refine en_s_iadd rfl ?_
        obtain ⟨s15, e16, h⟩ := en_b1_h h
        refine en_s_iast rfl rfl e16 ?_
        refine en_s_aload_n rfl rfl ?_
        refine en_s_getR (w := some (25, 0, 0)) rfl rfl rfl rfl ?_
        refine en_s_iload rfl rfl ?_
        refine en_s_iconst rfl ?_
        refine en_s_iadd rfl ?_
        refine en_s_dup2 rfl rfl rfl ?_
        obtain ⟨t17, h18, h⟩ := en_b1_h h
        refine en_s_iald rfl rfl h18 ?_
        refine en_s_aload_n rfl rfl ?_
        refine en_s_getR (w := some (25, 0, 0)) rfl rfl rfl rfl ?_
        refine en_s_iload_n rfl rfl ?_
        refine en_s_iconst rfl ?_
        refine en_s_iadd rfl ?_
        obtain ⟨t19, h20, h⟩ := en_b1_h h
        refine en_s_iald rfl rfl h20 ?_
        refine en_s_iadd rfl ?_
        obtain ⟨s21, e22, h⟩ := en_b1_h h
        refine en_s_iast rfl rfl e22 ?_
        refine en_s_iinc (ls' := [some (.inr (.inl (some (24, 0, 0)))), some (.inl (v1 + 1)), some (.inl v2), some (.inl (k_mm_slotOf v2)), some (.inl (20 + (9 * t5)))]) rfl rfl rfl ?_
        refine en_s_iinc (ls' := [some (.inr (.inl (some (24, 0, 0)))), some (.inl (v1 + 1)), some (.inl (v2 + 1)), some (.inl (k_mm_slotOf v2)), some (.inl (20 + (9 * t5)))]) rfl rfl rfl ?_
        refine en_s_goto rfl ?_
        exact ih (e3 := some (.inl (k_mm_slotOf v2))) (e4 := some (.inl (20 + (9 * t5)))) h hk
      · rw [if_neg c4] at h
        refine en_s_goto rfl ?_
        refine en_s_iinc (ls' := [some (.inr (.inl (some (24, 0, 0)))), some (.inl v1), some (.inl (v2 + 1)), e3, e4]) rfl rfl rfl ?_
        refine en_s_goto rfl ?_
        exact ih (e3 := e3) (e4 := e4) h hk
set_option maxRecDepth 100000 in
set_option maxHeartbeats 4000000 in
theorem s_mm_bell0 (G : en_G) (hz : G.2.2.2.2.2.2.2.2 = none) (d : Nat) {cs : List en_A} {σ : en_M}  {x0 : Int32} {s0 : en_M}  (h : k_mm_bell0  σ = some (x0, s0)) : en_Mt G (d + 2) 0 0 M_mm_bell0 [.inr (.inl (some (24, 0, 0)))] cs en_rf σ (.inr (some (.inl x0))) cs en_rf s0 := by
  refine en_meth (ls := [some (.inr (.inl (some (24, 0, 0)))), none, none, none, none]) md_mm_bell0 rfl rfl rfl ?_
  unfold k_mm_bell0 at h
  refine en_s_iconst rfl ?_
  refine en_s_istore_n (ls' := [some (.inr (.inl (some (24, 0, 0)))), some (.inl 0), none, none, none]) rfl rfl rfl ?_
  refine en_s_aload_n rfl rfl ?_
  refine en_s_getR (w := some (25, 0, 0)) rfl rfl rfl rfl ?_
  refine en_s_bipush rfl ?_
  refine en_c_iald (q := 6) rfl rfl (by decide) (by decide) ?_
  refine en_s_istore_n (ls' := [some (.inr (.inl (some (24, 0, 0)))), some (.inl 0), some (.inl (σ 25 0 0 6)), none, none]) rfl rfl rfl ?_
  obtain ⟨x23, s27, h28, h⟩ := en_b2_h h
  refine s_mm_bell0_10 G hz en_fu (e3 := none) (e4 := none) h28 (fun f24 f25 f26 => ?_)
  refine en_s_aload_n rfl rfl ?_
  refine en_s_getR (w := some (25, 0, 0)) rfl rfl rfl rfl ?_
  refine en_s_bipush rfl ?_
  refine en_s_dup2 rfl rfl rfl ?_
  refine en_c_iald (q := 7) rfl rfl (by decide) (by decide) ?_
  refine en_s_iconst rfl ?_
  refine en_s_iadd rfl ?_
  obtain ⟨s29, e30, h⟩ := en_let_h h
  refine en_c_iast (q := 7) e30 rfl rfl (by decide) (by decide) ?_
  refine en_s_aload_n rfl rfl ?_
  refine en_s_getR (w := some (25, 0, 0)) rfl rfl rfl rfl ?_
  refine en_s_bipush rfl ?_
  refine en_s_dup2 rfl rfl rfl ?_
  refine en_c_iald (q := 8) rfl rfl (by decide) (by decide) ?_
  refine en_s_iload_n rfl rfl ?_
  refine en_s_iadd rfl ?_
  obtain ⟨s31, e32, h⟩ := en_let_h h
  refine en_c_iast (q := 8) e32 rfl rfl (by decide) (by decide) ?_
  refine en_s_aload_n rfl rfl ?_
  refine en_s_getR (w := some (25, 0, 0)) rfl rfl rfl rfl ?_
  refine en_s_bipush rfl ?_
  refine en_s_dup2 rfl rfl rfl ?_
  refine en_c_iald (q := 9) rfl rfl (by decide) (by decide) ?_
  refine en_s_iload_n rfl rfl ?_
  refine en_s_if_le rfl (fun c33 => ?_) (fun c33 => ?_)
  · rw [if_pos c33] at h
    refine en_s_iconst rfl ?_
    refine en_s_iadd rfl ?_
    obtain ⟨s34, e35, h⟩ := en_let_h h
    refine en_c_iast (q := 9) e35 rfl rfl (by decide) (by decide) ?_
    refine en_s_iload_n rfl rfl ?_
    cases h
    exact en_s_iret rfl rfl
  · rw [if_neg c33] at h
    refine en_s_iconst rfl ?_
    refine en_s_goto rfl ?_
    refine en_s_iadd rfl ?_
    obtain ⟨s36, e37, h⟩ := en_let_h h
    refine en_c_iast (q := 9) e37 rfl rfl (by decide) (by decide) ?_
    refine en_s_iload_n rfl rfl ?_
    cases h
    exact en_s_iret rfl rfl
def k_mm_send0_49 (f0 : Nat) (v1 : Int32) (v2 : Int32) (v3 : Int32) (v4 : Int32) (v5 : Int32) (v6 : Int32) (σ : en_M) : Option (en_M) := match f0 with
  | 0 => none
  | f9 + 1 =>
    if 68 ≤ v6 then
      some (σ)
    else
      en_b1 (en_wa 938 σ 25 0 0 (v5 + v6) (-1)) fun s4 =>
      k_mm_send0_49 f9 v1 v2 v3 v4 v5 (v6 + 1) s4
def k_mm_send0 (v1 : Int32) (v2 : Int32) (v3 : Int32) (v4 : Int32) (σ : en_M) : Option (Int32 × en_M) :=
  if (k_mm_isFlow v1 σ) = 0 then
    some (2, σ)
  else
    if ((σ 25 0 0 5) - (σ 25 0 0 6)) = (σ 25 0 0 0) then
      some (3, σ)
    else
      en_b1 (k_mm_send0_49 en_fu v1 v2 v3 v4 (k_mm_slotOf (σ 25 0 0 5)) 0 σ) fun s7 =>
      en_b1 (en_wa 938 s7 25 0 0 ((k_mm_slotOf (σ 25 0 0 5)) + 0) v1) fun s9 =>
      en_b1 (en_wa 938 s9 25 0 0 ((k_mm_slotOf (σ 25 0 0 5)) + 1) v2) fun s11 =>
      en_b1 (en_wa 938 s11 25 0 0 ((k_mm_slotOf (σ 25 0 0 5)) + 2) v3) fun s13 =>
      en_b1 (en_wa 938 s13 25 0 0 ((k_mm_slotOf (σ 25 0 0 5)) + 3) v4) fun s15 =>
      en_b1 (en_wa 938 s15 25 0 0 ((k_mm_slotOf (σ 25 0 0 5)) + 4) 0) fun s17 =>
      en_let (en_wr s17 25 0 0 5 ((s17 25 0 0 5) + 1)) fun s19 =>
      en_b1 (k_mm_waiting s19) fun t21 =>
      if t21 < (s19 25 0 0 2) then
        some (0, s19)
      else
        en_b2 (k_mm_bell0 s19) fun t24 s25 =>
        some (0, s25)
set_option maxRecDepth 100000 in
set_option maxHeartbeats 4000000 in
theorem s_mm_send0_49 (G : en_G) (hz : G.2.2.2.2.2.2.2.2 = none) {d : Nat} {r : en_P} {cs cs' : List en_A} {ρ' : en_R} {σ' : en_M} : ∀ (f0 : Nat) {v1 : Int32} {v2 : Int32} {v3 : Int32} {v4 : Int32} {v5 : Int32} {v6 : Int32}  {σ : en_M} {s0 : en_M} , k_mm_send0_49 f0 v1 v2 v3 v4 v5 v6 σ = some (s0) →
    (∀ (f6 : Option en_V), en_W G (d + 3) 0 0 M_mm_send0 r cs' ρ' σ' 0 0 73 [some (.inr (.inl (some (24, 0, 0)))), some (.inl v1), some (.inl v2), some (.inl v3), some (.inl v4), some (.inl v5), f6] [] cs en_rf s0) → en_W G (d + 3) 0 0 M_mm_send0 r cs' ρ' σ' 0 0 49 [some (.inr (.inl (some (24, 0, 0)))), some (.inl v1), some (.inl v2), some (.inl v3), some (.inl v4), some (.inl v5), some (.inl v6)] [] cs en_rf σ := by
  intro f0
  induction f0 with
  | zero =>
    intros
    rename_i h _
    cases h
  | succ f9 ih =>
    intro v1 v2 v3 v4 v5 v6 σ s0 h hk
    rw [k_mm_send0_49] at h
    refine en_s_iload rfl rfl ?_
    refine en_s_bipush rfl ?_
    refine en_s_icmp_ge rfl (fun c3 => ?_) (fun c3 => ?_)
    · rw [if_pos c3] at h
      cases h
      exact hk (some (.inl v6))
    · rw [if_neg c3] at h
      refine en_s_aload_n rfl rfl ?_
      refine en_s_getR (w := some (25, 0, 0)) rfl rfl rfl rfl ?_
      refine en_s_iload rfl rfl ?_
      refine en_s_iload rfl rfl ?_
      refine en_s_iadd rfl ?_
      refine en_s_iconst rfl ?_
      obtain ⟨s4, e5, h⟩ := en_b1_h h
      refine en_s_iast rfl rfl e5 ?_
      refine en_s_iinc (ls' := [some (.inr (.inl (some (24, 0, 0)))), some (.inl v1), some (.inl v2), some (.inl v3), some (.inl v4), some (.inl v5), some (.inl (v6 + 1))]) rfl rfl rfl ?_
      refine en_s_goto rfl ?_
      exact ih  h hk
set_option maxRecDepth 100000 in
set_option maxHeartbeats 4000000 in
theorem s_mm_send0 (G : en_G) (hz : G.2.2.2.2.2.2.2.2 = none) (d : Nat) {cs : List en_A} {σ : en_M} {v1 : Int32} {v2 : Int32} {v3 : Int32} {v4 : Int32} {x0 : Int32} {s0 : en_M}  (h : k_mm_send0 v1 v2 v3 v4 σ = some (x0, s0)) : en_Mt G (d + 3) 0 0 M_mm_send0 [.inr (.inl (some (24, 0, 0))), .inl v1, .inl v2, .inl v3, .inl v4] cs en_rf σ (.inr (some (.inl x0))) cs en_rf s0 := by
  refine en_meth (ls := [some (.inr (.inl (some (24, 0, 0)))), some (.inl v1), some (.inl v2), some (.inl v3), some (.inl v4), none, none]) md_mm_send0 rfl rfl rfl ?_
  unfold k_mm_send0 at h
  refine en_s_aload_n rfl rfl ?_
  refine en_s_iload_n rfl rfl ?_
  refine en_callV (as := [.inl v1]) (rest := []) (bc' := 0) (bs' := 0) hz rfl (s_mm_isFlow G hz (d + 1) rfl) lk_10_101 mv_mm_isFlow rfl rfl rfl rfl rfl (fun _ h => h) (Nat.le_refl _) (Nat.le_refl _) ?_
  refine en_s_if_ne rfl (fun c1 => ?_) (fun c1 => ?_)
  · rw [if_neg c1] at h
    refine en_s_aload_n rfl rfl ?_
    refine en_s_getR (w := some (25, 0, 0)) rfl rfl rfl rfl ?_
    refine en_s_iconst rfl ?_
    refine en_c_iald (q := 5) rfl rfl (by decide) (by decide) ?_
    refine en_s_aload_n rfl rfl ?_
    refine en_s_getR (w := some (25, 0, 0)) rfl rfl rfl rfl ?_
    refine en_s_bipush rfl ?_
    refine en_c_iald (q := 6) rfl rfl (by decide) (by decide) ?_
    refine en_s_isub rfl ?_
    refine en_s_aload_n rfl rfl ?_
    refine en_s_getR (w := some (25, 0, 0)) rfl rfl rfl rfl ?_
    refine en_s_iconst rfl ?_
    refine en_c_iald (q := 0) rfl rfl (by decide) (by decide) ?_
    refine en_s_icmp_ne rfl (fun c2 => ?_) (fun c2 => ?_)
    · rw [if_neg c2] at h
      refine en_s_aload_n rfl rfl ?_
      refine en_s_getR (w := some (25, 0, 0)) rfl rfl rfl rfl ?_
      refine en_s_iconst rfl ?_
      refine en_c_iald (q := 5) rfl rfl (by decide) (by decide) ?_
      refine en_callS (as := [.inl (σ 25 0 0 5)]) (rest := []) (bc' := 0) (bs' := 0) hz rfl (s_mm_slotOf G hz (d + 2) rfl) lk_10_58 mv_mm_slotOf rfl rfl rfl (fun _ h => h) (Nat.le_refl _) (Nat.le_refl _) ?_
      refine en_s_istore (ls' := [some (.inr (.inl (some (24, 0, 0)))), some (.inl v1), some (.inl v2), some (.inl v3), some (.inl v4), some (.inl (k_mm_slotOf (σ 25 0 0 5))), none]) rfl rfl rfl ?_
      refine en_s_iconst rfl ?_
      refine en_s_istore (ls' := [some (.inr (.inl (some (24, 0, 0)))), some (.inl v1), some (.inl v2), some (.inl v3), some (.inl v4), some (.inl (k_mm_slotOf (σ 25 0 0 5))), some (.inl 0)]) rfl rfl rfl ?_
      obtain ⟨s7, h8, h⟩ := en_b1_h h
      refine s_mm_send0_49 G hz en_fu  h8 (fun f6 => ?_)
      refine en_s_aload_n rfl rfl ?_
      refine en_s_getR (w := some (25, 0, 0)) rfl rfl rfl rfl ?_
      refine en_s_iload rfl rfl ?_
      refine en_s_iconst rfl ?_
      refine en_s_iadd rfl ?_
      refine en_s_iload_n rfl rfl ?_
      obtain ⟨s9, e10, h⟩ := en_b1_h h
      refine en_s_iast rfl rfl e10 ?_
      refine en_s_aload_n rfl rfl ?_
      refine en_s_getR (w := some (25, 0, 0)) rfl rfl rfl rfl ?_
      refine en_s_iload rfl rfl ?_
      refine en_s_iconst rfl ?_
      refine en_s_iadd rfl ?_
      refine en_s_iload_n rfl rfl ?_
      obtain ⟨s11, e12, h⟩ := en_b1_h h
      refine en_s_iast rfl rfl e12 ?_
      refine en_s_aload_n rfl rfl ?_
      refine en_s_getR (w := some (25, 0, 0)) rfl rfl rfl rfl ?_
      refine en_s_iload rfl rfl ?_
      refine en_s_iconst rfl ?_
      refine en_s_iadd rfl ?_
      refine en_s_iload_n rfl rfl ?_
      obtain ⟨s13, e14, h⟩ := en_b1_h h
      refine en_s_iast rfl rfl e14 ?_
      refine en_s_aload_n rfl rfl ?_
      refine en_s_getR (w := some (25, 0, 0)) rfl rfl rfl rfl ?_
      refine en_s_iload rfl rfl ?_
      refine en_s_iconst rfl ?_
      refine en_s_iadd rfl ?_
      refine en_s_iload rfl rfl ?_
      obtain ⟨s15, e16, h⟩ := en_b1_h h
      refine en_s_iast rfl rfl e16 ?_
      refine en_s_aload_n rfl rfl ?_
      refine en_s_getR (w := some (25, 0, 0)) rfl rfl rfl rfl ?_
      refine en_s_iload rfl rfl ?_
      refine en_s_iconst rfl ?_
      refine en_s_iadd rfl ?_
      refine en_s_iconst rfl ?_
      obtain ⟨s17, e18, h⟩ := en_b1_h h
      refine en_s_iast rfl rfl e18 ?_
      refine en_s_aload_n rfl rfl ?_
      refine en_s_getR (w := some (25, 0, 0)) rfl rfl rfl rfl ?_
      refine en_s_iconst rfl ?_
      refine en_s_dup2 rfl rfl rfl ?_
      refine en_c_iald (q := 5) rfl rfl (by decide) (by decide) ?_
      refine en_s_iconst rfl ?_
      refine en_s_iadd rfl ?_
      obtain ⟨s19, e20, h⟩ := en_let_h h
      refine en_c_iast (q := 5) e20 rfl rfl (by decide) (by decide) ?_
      refine en_s_aload_n rfl rfl ?_
      obtain ⟨t21, h22, h⟩ := en_b1_h h
      refine en_callV (as := []) (rest := []) (bc' := 0) (bs' := 0) hz rfl (s_mm_waiting G hz (d + 0) h22) lk_10_105 mv_mm_waiting rfl rfl rfl rfl rfl (fun _ h => h) (Nat.le_refl _) (Nat.le_refl _) ?_
      refine en_s_aload_n rfl rfl ?_
      refine en_s_getR (w := some (25, 0, 0)) rfl rfl rfl rfl ?_
      refine en_s_iconst rfl ?_
      refine en_c_iald (q := 2) rfl rfl (by decide) (by decide) ?_
      refine en_s_icmp_lt rfl (fun c23 => ?_) (fun c23 => ?_)
      · rw [if_pos c23] at h
        refine en_s_iconst rfl ?_
        cases h
        exact en_s_iret rfl rfl
      · rw [if_neg c23] at h
        refine en_s_aload_n rfl rfl ?_
        obtain ⟨t24, s25, h26, h⟩ := en_b2_h h
        refine en_callV (as := []) (rest := []) (bc' := 0) (bs' := 0) hz rfl (s_mm_bell0 G hz (d + 0) h26) lk_10_109 mv_mm_bell0 rfl rfl rfl rfl rfl (fun _ h => h) (Nat.le_refl _) (Nat.le_refl _) ?_
        refine en_s_pop rfl rfl ?_
        refine en_s_iconst rfl ?_
        cases h
        exact en_s_iret rfl rfl
    · rw [if_pos c2] at h
      refine en_s_iconst rfl ?_
      cases h
      exact en_s_iret rfl rfl
  · rw [if_pos c1] at h
    refine en_s_iconst rfl ?_
    cases h
    exact en_s_iret rfl rfl
def k_mm_cutsOf (v1 : Int32) (σ : en_M) : Option (Int32) :=
  en_b1 (k_mm_of v1 1 σ) fun t1 =>
  en_b1 (k_mm_of v1 2 σ) fun t3 =>
  en_b1 (k_mm_of v1 2 σ) fun t5 =>
  en_b1 (en_dv ((t1 + t3) - 1) t5) fun t7 =>
  some t7
set_option maxRecDepth 100000 in
set_option maxHeartbeats 4000000 in
theorem s_mm_cutsOf (G : en_G) (hz : G.2.2.2.2.2.2.2.2 = none) (d : Nat) {cs : List en_A} {σ : en_M} {v1 : Int32} {x0 : Int32}  (h : k_mm_cutsOf v1 σ = some x0) : en_Mt G (d + 2) 0 0 M_mm_cutsOf [.inr (.inl (some (24, 0, 0))), .inl v1] cs en_rf σ (.inr (some (.inl x0))) cs en_rf σ := by
  refine en_meth (ls := [some (.inr (.inl (some (24, 0, 0)))), some (.inl v1)]) md_mm_cutsOf rfl rfl rfl ?_
  unfold k_mm_cutsOf at h
  refine en_s_aload_n rfl rfl ?_
  refine en_s_iload_n rfl rfl ?_
  refine en_s_iconst rfl ?_
  obtain ⟨t1, h2, h⟩ := en_b1_h h
  refine en_callV (as := [.inl v1, .inl 1]) (rest := []) (bc' := 0) (bs' := 0) hz rfl (s_mm_of G hz (d + 0) h2) lk_10_66 mv_mm_of rfl rfl rfl rfl rfl (fun _ h => h) (Nat.le_refl _) (Nat.le_refl _) ?_
  refine en_s_aload_n rfl rfl ?_
  refine en_s_iload_n rfl rfl ?_
  refine en_s_iconst rfl ?_
  obtain ⟨t3, h4, h⟩ := en_b1_h h
  refine en_callV (as := [.inl v1, .inl 2]) (rest := [.inl t1]) (bc' := 0) (bs' := 0) hz rfl (s_mm_of G hz (d + 0) h4) lk_10_66 mv_mm_of rfl rfl rfl rfl rfl (fun _ h => h) (Nat.le_refl _) (Nat.le_refl _) ?_
  refine en_s_iadd rfl ?_
  refine en_s_iconst rfl ?_
  refine en_s_isub rfl ?_
  refine en_s_aload_n rfl rfl ?_
  refine en_s_iload_n rfl rfl ?_
  refine en_s_iconst rfl ?_
  obtain ⟨t5, h6, h⟩ := en_b1_h h
  refine en_callV (as := [.inl v1, .inl 2]) (rest := [.inl ((t1 + t3) - 1)]) (bc' := 0) (bs' := 0) hz rfl (s_mm_of G hz (d + 0) h6) lk_10_66 mv_mm_of rfl rfl rfl rfl rfl (fun _ h => h) (Nat.le_refl _) (Nat.le_refl _) ?_
  obtain ⟨t7, h8, h⟩ := en_b1_h h
  refine en_p_idiv h8 rfl ?_
  cases h
  exact en_s_iret rfl rfl
def k_mm_piecesOf (v1 : Int32) (σ : en_M) : Option (Int32) :=
  en_b1 (k_mm_of v1 4 σ) fun t1 =>
  if t1 = 1 then
    en_b1 (k_mm_cutsOf v1 σ) fun t4 =>
    some t4
  else
    en_b1 (k_mm_of v1 4 σ) fun t6 =>
    if t6 = 2 then
      en_b1 (k_mm_cutsOf v1 σ) fun t9 =>
      some t9
    else
      some 0
set_option maxRecDepth 100000 in
set_option maxHeartbeats 4000000 in
theorem s_mm_piecesOf (G : en_G) (hz : G.2.2.2.2.2.2.2.2 = none) (d : Nat) {cs : List en_A} {σ : en_M} {v1 : Int32} {x0 : Int32}  (h : k_mm_piecesOf v1 σ = some x0) : en_Mt G (d + 3) 0 0 M_mm_piecesOf [.inr (.inl (some (24, 0, 0))), .inl v1] cs en_rf σ (.inr (some (.inl x0))) cs en_rf σ := by
  refine en_meth (ls := [some (.inr (.inl (some (24, 0, 0)))), some (.inl v1)]) md_mm_piecesOf rfl rfl rfl ?_
  unfold k_mm_piecesOf at h
  refine en_s_aload_n rfl rfl ?_
  refine en_s_iload_n rfl rfl ?_
  refine en_s_iconst rfl ?_
  obtain ⟨t1, h2, h⟩ := en_b1_h h
  refine en_callV (as := [.inl v1, .inl 4]) (rest := []) (bc' := 0) (bs' := 0) hz rfl (s_mm_of G hz (d + 1) h2) lk_10_66 mv_mm_of rfl rfl rfl rfl rfl (fun _ h => h) (Nat.le_refl _) (Nat.le_refl _) ?_
  refine en_s_iconst rfl ?_
  refine en_s_icmp_eq rfl (fun c3 => ?_) (fun c3 => ?_)
  · rw [if_pos c3] at h
    refine en_s_aload_n rfl rfl ?_
    refine en_s_iload_n rfl rfl ?_
    obtain ⟨t4, h5, h⟩ := en_b1_h h
    refine en_callV (as := [.inl v1]) (rest := []) (bc' := 0) (bs' := 0) hz rfl (s_mm_cutsOf G hz (d + 0) h5) lk_10_69 mv_mm_cutsOf rfl rfl rfl rfl rfl (fun _ h => h) (Nat.le_refl _) (Nat.le_refl _) ?_
    refine en_s_goto rfl ?_
    cases h
    exact en_s_iret rfl rfl
  · rw [if_neg c3] at h
    refine en_s_aload_n rfl rfl ?_
    refine en_s_iload_n rfl rfl ?_
    refine en_s_iconst rfl ?_
    obtain ⟨t6, h7, h⟩ := en_b1_h h
    refine en_callV (as := [.inl v1, .inl 4]) (rest := []) (bc' := 0) (bs' := 0) hz rfl (s_mm_of G hz (d + 1) h7) lk_10_66 mv_mm_of rfl rfl rfl rfl rfl (fun _ h => h) (Nat.le_refl _) (Nat.le_refl _) ?_
    refine en_s_iconst rfl ?_
    refine en_s_icmp_ne rfl (fun c8 => ?_) (fun c8 => ?_)
    · rw [if_neg c8] at h
      refine en_s_iconst rfl ?_
      cases h
      exact en_s_iret rfl rfl
    · rw [if_pos c8] at h
      refine en_s_aload_n rfl rfl ?_
      refine en_s_iload_n rfl rfl ?_
      obtain ⟨t9, h10, h⟩ := en_b1_h h
      refine en_callV (as := [.inl v1]) (rest := []) (bc' := 0) (bs' := 0) hz rfl (s_mm_cutsOf G hz (d + 0) h10) lk_10_69 mv_mm_cutsOf rfl rfl rfl rfl rfl (fun _ h => h) (Nat.le_refl _) (Nat.le_refl _) ?_
      refine en_s_goto rfl ?_
      cases h
      exact en_s_iret rfl rfl
def k_mm_pieceAt (v0 : Int32) (v1 : Int32) (v2 : Int32) : Int32 :=
  (((k_mm_slotOf v0) + 8) + (3 * v1)) + v2
set_option maxRecDepth 100000 in
set_option maxHeartbeats 4000000 in
theorem s_mm_pieceAt (G : en_G) (hz : G.2.2.2.2.2.2.2.2 = none) (d : Nat) {cs : List en_A} {σ : en_M} {v0 : Int32} {v1 : Int32} {v2 : Int32} {x0 : Int32}  (h : k_mm_pieceAt v0 v1 v2 = x0) : en_Mt G (d + 1) 0 0 M_mm_pieceAt [.inl v0, .inl v1, .inl v2] cs en_rf σ (.inr (some (.inl x0))) cs en_rf σ := by
  refine en_meth (ls := [some (.inl v0), some (.inl v1), some (.inl v2)]) md_mm_pieceAt rfl rfl rfl ?_
  unfold k_mm_pieceAt at h
  refine en_s_iload_n rfl rfl ?_
  refine en_callS (as := [.inl v0]) (rest := []) (bc' := 0) (bs' := 0) hz rfl (s_mm_slotOf G hz (d + 0) rfl) lk_10_58 mv_mm_slotOf rfl rfl rfl (fun _ h => h) (Nat.le_refl _) (Nat.le_refl _) ?_
  refine en_s_bipush rfl ?_
  refine en_s_iadd rfl ?_
  refine en_s_iconst rfl ?_
  refine en_s_iload_n rfl rfl ?_
  refine en_s_imul rfl ?_
  refine en_s_iadd rfl ?_
  refine en_s_iload_n rfl rfl ?_
  refine en_s_iadd rfl ?_
  subst h
  exact en_s_iret rfl rfl
def k_mm_hasLeft (v1 : Int32) (v2 : Int32) (σ : en_M) : Option (Int32) :=
  en_b1 (en_rd 938 (σ 25 0 0) (k_mm_pieceAt v1 v2 1)) fun t1 =>
  if t1 = (-1) then
    some 0
  else
    some 1
set_option maxRecDepth 100000 in
set_option maxHeartbeats 4000000 in
theorem s_mm_hasLeft (G : en_G) (hz : G.2.2.2.2.2.2.2.2 = none) (d : Nat) {cs : List en_A} {σ : en_M} {v1 : Int32} {v2 : Int32} {x0 : Int32}  (h : k_mm_hasLeft v1 v2 σ = some x0) : en_Mt G (d + 2) 0 0 M_mm_hasLeft [.inr (.inl (some (24, 0, 0))), .inl v1, .inl v2] cs en_rf σ (.inr (some (.inl x0))) cs en_rf σ := by
  refine en_meth (ls := [some (.inr (.inl (some (24, 0, 0)))), some (.inl v1), some (.inl v2)]) md_mm_hasLeft rfl rfl rfl ?_
  unfold k_mm_hasLeft at h
  refine en_s_aload_n rfl rfl ?_
  refine en_s_getR (w := some (25, 0, 0)) rfl rfl rfl rfl ?_
  refine en_s_iload_n rfl rfl ?_
  refine en_s_iload_n rfl rfl ?_
  refine en_s_iconst rfl ?_
  refine en_callS (as := [.inl v1, .inl v2, .inl 1]) (rest := [.inr (.inl (some (25, 0, 0)))]) (bc' := 0) (bs' := 0) hz rfl (s_mm_pieceAt G hz (d + 0) rfl) lk_10_78 mv_mm_pieceAt rfl rfl rfl (fun _ h => h) (Nat.le_refl _) (Nat.le_refl _) ?_
  obtain ⟨t1, h2, h⟩ := en_b1_h h
  refine en_s_iald rfl rfl h2 ?_
  refine en_s_iconst rfl ?_
  refine en_s_icmp_eq rfl (fun c3 => ?_) (fun c3 => ?_)
  · rw [if_pos c3] at h
    refine en_s_iconst rfl ?_
    cases h
    exact en_s_zret rfl rfl (Or.inl rfl)
  · rw [if_neg c3] at h
    refine en_s_iconst rfl ?_
    refine en_s_goto rfl ?_
    cases h
    exact en_s_zret rfl rfl (Or.inr rfl)
def k_mm_hasAnyLeft_2 (f0 : Nat) (v1 : Int32) (v2 : Int32) (σ : en_M) : Option ((Int32) ⊕ (Unit)) := match f0 with
  | 0 => none
  | f9 + 1 =>
    en_b1 (k_mm_piecesOf v1 σ) fun t1 =>
    if t1 ≤ v2 then
      some (.inr ())
    else
      en_b1 (k_mm_hasLeft v1 v2 σ) fun t4 =>
      if t4 = 0 then
        k_mm_hasAnyLeft_2 f9 v1 (v2 + 1) σ
      else
        some (.inl (1))
def k_mm_hasAnyLeft (v1 : Int32) (σ : en_M) : Option (Int32) :=
  en_rx (k_mm_hasAnyLeft_2 en_fu v1 0 σ) (fun r9 => some r9) (fun u11 =>
  some 0)
set_option maxRecDepth 100000 in
set_option maxHeartbeats 4000000 in
theorem s_mm_hasAnyLeft_2 (G : en_G) (hz : G.2.2.2.2.2.2.2.2 = none) {d : Nat} {r : en_P} {cs cs' : List en_A} {ρ' : en_R} {σ' : en_M} : ∀ (f0 : Nat) {v1 : Int32} {v2 : Int32}  {σ : en_M} {x9 : ((Int32) ⊕ (Unit))} , k_mm_hasAnyLeft_2 f0 v1 v2 σ = some x9 →
    (∀ a9, x9 = .inl a9 → r = .inr (some (.inl a9)) ∧ cs' = cs ∧ ρ' = en_rf ∧ σ' = σ) →
    (∀ (b9 : Unit), x9 = .inr b9 → ∀ (f2 : Option en_V), en_W G (d + 4) 0 0 M_mm_hasAnyLeft r cs' ρ' σ' 0 0 28 [some (.inr (.inl (some (24, 0, 0)))), some (.inl v1), f2] [] cs en_rf σ) → en_W G (d + 4) 0 0 M_mm_hasAnyLeft r cs' ρ' σ' 0 0 2 [some (.inr (.inl (some (24, 0, 0)))), some (.inl v1), some (.inl v2)] [] cs en_rf σ := by
  intro f0
  induction f0 with
  | zero =>
    intros
    rename_i h _ _
    cases h
  | succ f9 ih =>
    intro v1 v2 σ x9 h hr hk
    rw [k_mm_hasAnyLeft_2] at h
    refine en_s_iload_n rfl rfl ?_
    refine en_s_aload_n rfl rfl ?_
    refine en_s_iload_n rfl rfl ?_
    obtain ⟨t1, h2, h⟩ := en_b1_h h
    refine en_callV (as := [.inl v1]) (rest := [.inl v2]) (bc' := 0) (bs' := 0) hz rfl (s_mm_piecesOf G hz (d + 0) h2) lk_10_82 mv_mm_piecesOf rfl rfl rfl rfl rfl (fun _ h => h) (Nat.le_refl _) (Nat.le_refl _) ?_
    refine en_s_icmp_ge rfl (fun c3 => ?_) (fun c3 => ?_)
    · rw [if_pos c3] at h
      obtain rfl := Option.some.inj h
      exact hk _ rfl (some (.inl v2))
    · rw [if_neg c3] at h
      refine en_s_aload_n rfl rfl ?_
      refine en_s_iload_n rfl rfl ?_
      refine en_s_iload_n rfl rfl ?_
      obtain ⟨t4, h5, h⟩ := en_b1_h h
      refine en_callV (as := [.inl v1, .inl v2]) (rest := []) (bc' := 0) (bs' := 0) hz rfl (s_mm_hasLeft G hz (d + 1) h5) lk_10_85 mv_mm_hasLeft rfl rfl rfl rfl rfl (fun _ h => h) (Nat.le_refl _) (Nat.le_refl _) ?_
      refine en_s_if_eq rfl (fun c6 => ?_) (fun c6 => ?_)
      · rw [if_pos c6] at h
        refine en_s_iinc (ls' := [some (.inr (.inl (some (24, 0, 0)))), some (.inl v1), some (.inl (v2 + 1))]) rfl rfl rfl ?_
        refine en_s_goto rfl ?_
        exact ih  h hr hk
      · rw [if_neg c6] at h
        refine en_s_iconst rfl ?_
        obtain rfl := Option.some.inj h
        obtain ⟨rfl, rfl, rfl, rfl⟩ := hr _ rfl
        exact en_s_zret rfl rfl (Or.inr rfl)
set_option maxRecDepth 100000 in
set_option maxHeartbeats 4000000 in
theorem s_mm_hasAnyLeft (G : en_G) (hz : G.2.2.2.2.2.2.2.2 = none) (d : Nat) {cs : List en_A} {σ : en_M} {v1 : Int32} {x0 : Int32}  (h : k_mm_hasAnyLeft v1 σ = some x0) : en_Mt G (d + 4) 0 0 M_mm_hasAnyLeft [.inr (.inl (some (24, 0, 0))), .inl v1] cs en_rf σ (.inr (some (.inl x0))) cs en_rf σ := by
  refine en_meth (ls := [some (.inr (.inl (some (24, 0, 0)))), some (.inl v1), none]) md_mm_hasAnyLeft rfl rfl rfl ?_
  unfold k_mm_hasAnyLeft at h
  refine en_s_iconst rfl ?_
  refine en_s_istore_n (ls' := [some (.inr (.inl (some (24, 0, 0)))), some (.inl v1), some (.inl 0)]) rfl rfl rfl ?_
  rcases en_rx_h h with ⟨r9, h8, h⟩ | ⟨u11, h8, h⟩
  · obtain rfl := Option.some.inj h
    exact s_mm_hasAnyLeft_2 G hz en_fu  h8 (fun _ e9 => by cases e9; exact ⟨rfl, rfl, rfl, rfl⟩) (fun _ e9 => by cases e9)
  · refine s_mm_hasAnyLeft_2 G hz en_fu  h8 (fun _ e9 => by cases e9) (fun _ e9 f7 => ?_)
    cases e9
    refine en_s_iconst rfl ?_
    cases h
    exact en_s_zret rfl rfl (Or.inl rfl)
def k_mm_reclaims_0 (f0 : Nat)  (σ : en_M) : Option (en_M) := match f0 with
  | 0 => none
  | f9 + 1 =>
    if (σ 25 0 0 5) ≤ (σ 25 0 0 6) then
      some (σ)
    else
      en_b1 (k_mm_of (σ 25 0 0 6) 4 σ) fun t2 =>
      if t2 = 2 then
        en_let (en_wr σ 25 0 0 6 ((σ 25 0 0 6) + 1)) fun s5 =>
        k_mm_reclaims_0 f9  s5
      else
        en_b1 (k_mm_of (σ 25 0 0 6) 4 σ) fun t7 =>
        if t7 = 3 then
          en_let (en_wr σ 25 0 0 6 ((σ 25 0 0 6) + 1)) fun s10 =>
          k_mm_reclaims_0 f9  s10
        else
          some (σ)
def k_mm_reclaims  (σ : en_M) : Option (en_M) :=
  en_b1 (k_mm_reclaims_0 en_fu  σ) fun s12 =>
  some s12
set_option maxRecDepth 100000 in
set_option maxHeartbeats 4000000 in
theorem s_mm_reclaims_0 (G : en_G) (hz : G.2.2.2.2.2.2.2.2 = none) {d : Nat} {r : en_P} {cs cs' : List en_A} {ρ' : en_R} {σ' : en_M} : ∀ (f0 : Nat)   {σ : en_M} {s0 : en_M} , k_mm_reclaims_0 f0  σ = some (s0) →
    (∀ (_ : Unit), en_W G (d + 2) 0 0 M_mm_reclaims r cs' ρ' σ' 0 0 62 [some (.inr (.inl (some (24, 0, 0))))] [] cs en_rf s0) → en_W G (d + 2) 0 0 M_mm_reclaims r cs' ρ' σ' 0 0 0 [some (.inr (.inl (some (24, 0, 0))))] [] cs en_rf σ := by
  intro f0
  induction f0 with
  | zero =>
    intros
    rename_i h _
    cases h
  | succ f9 ih =>
    intro σ s0 h hk
    rw [k_mm_reclaims_0] at h
    refine en_s_aload_n rfl rfl ?_
    refine en_s_getR (w := some (25, 0, 0)) rfl rfl rfl rfl ?_
    refine en_s_bipush rfl ?_
    refine en_c_iald (q := 6) rfl rfl (by decide) (by decide) ?_
    refine en_s_aload_n rfl rfl ?_
    refine en_s_getR (w := some (25, 0, 0)) rfl rfl rfl rfl ?_
    refine en_s_iconst rfl ?_
    refine en_c_iald (q := 5) rfl rfl (by decide) (by decide) ?_
    refine en_s_icmp_ge rfl (fun c1 => ?_) (fun c1 => ?_)
    · rw [if_pos c1] at h
      cases h
      exact hk ()
    · rw [if_neg c1] at h
      refine en_s_aload_n rfl rfl ?_
      refine en_s_aload_n rfl rfl ?_
      refine en_s_getR (w := some (25, 0, 0)) rfl rfl rfl rfl ?_
      refine en_s_bipush rfl ?_
      refine en_c_iald (q := 6) rfl rfl (by decide) (by decide) ?_
      refine en_s_iconst rfl ?_
      obtain ⟨t2, h3, h⟩ := en_b1_h h
      refine en_callV (as := [.inl (σ 25 0 0 6), .inl 4]) (rest := []) (bc' := 0) (bs' := 0) hz rfl (s_mm_of G hz (d + 0) h3) lk_10_66 mv_mm_of rfl rfl rfl rfl rfl (fun _ h => h) (Nat.le_refl _) (Nat.le_refl _) ?_
      refine en_s_iconst rfl ?_
      refine en_s_icmp_eq rfl (fun c4 => ?_) (fun c4 => ?_)
      · rw [if_pos c4] at h
        refine en_s_aload_n rfl rfl ?_
        refine en_s_getR (w := some (25, 0, 0)) rfl rfl rfl rfl ?_
        refine en_s_bipush rfl ?_
        refine en_s_dup2 rfl rfl rfl ?_
        refine en_c_iald (q := 6) rfl rfl (by decide) (by decide) ?_
        refine en_s_iconst rfl ?_
        refine en_s_iadd rfl ?_
        obtain ⟨s5, e6, h⟩ := en_let_h h
        refine en_c_iast (q := 6) e6 rfl rfl (by decide) (by decide) ?_
        refine en_s_goto rfl ?_
        exact ih  h hk
      · rw [if_neg c4] at h
        refine en_s_aload_n rfl rfl ?_
        refine en_s_aload_n rfl rfl ?_
        refine en_s_getR (w := some (25, 0, 0)) rfl rfl rfl rfl ?_
        refine en_s_bipush rfl ?_
        refine en_c_iald (q := 6) rfl rfl (by decide) (by decide) ?_
        refine en_s_iconst rfl ?_
        obtain ⟨t7, h8, h⟩ := en_b1_h h
        refine en_callV (as := [.inl (σ 25 0 0 6), .inl 4]) (rest := []) (bc' := 0) (bs' := 0) hz rfl (s_mm_of G hz (d + 0) h8) lk_10_66 mv_mm_of rfl rfl rfl rfl rfl (fun _ h => h) (Nat.le_refl _) (Nat.le_refl _) ?_
        refine en_s_iconst rfl ?_
        refine en_s_icmp_ne rfl (fun c9 => ?_) (fun c9 => ?_)
        · rw [if_neg c9] at h
          cases h
          exact hk ()
        · rw [if_pos c9] at h
          refine en_s_aload_n rfl rfl ?_
          refine en_s_getR (w := some (25, 0, 0)) rfl rfl rfl rfl ?_
          refine en_s_bipush rfl ?_
          refine en_s_dup2 rfl rfl rfl ?_
          refine en_c_iald (q := 6) rfl rfl (by decide) (by decide) ?_
          refine en_s_iconst rfl ?_
          refine en_s_iadd rfl ?_
          obtain ⟨s10, e11, h⟩ := en_let_h h
          refine en_c_iast (q := 6) e11 rfl rfl (by decide) (by decide) ?_
          refine en_s_goto rfl ?_
          exact ih  h hk
set_option maxRecDepth 100000 in
set_option maxHeartbeats 4000000 in
theorem s_mm_reclaims (G : en_G) (hz : G.2.2.2.2.2.2.2.2 = none) (d : Nat) {cs : List en_A} {σ : en_M}  {s0 : en_M}  (h : k_mm_reclaims  σ = some s0) : en_Mt G (d + 2) 0 0 M_mm_reclaims [.inr (.inl (some (24, 0, 0)))] cs en_rf σ (.inr (none)) cs en_rf s0 := by
  refine en_meth (ls := [some (.inr (.inl (some (24, 0, 0))))]) md_mm_reclaims rfl rfl rfl ?_
  unfold k_mm_reclaims at h
  obtain ⟨s12, h13, h⟩ := en_b1_h h
  refine s_mm_reclaims_0 G hz en_fu  h13 (fun _ => ?_)
  cases h
  exact en_s_vret rfl rfl
def k_mm_drop0 (v1 : Int32) (σ : en_M) : Option (Int32 × en_M) :=
  if (k_mm_isIn v1 (σ 25 0 0 6) ((σ 25 0 0 5) - 1)) = 0 then
    some (4, σ)
  else
    en_b1 (k_mm_of v1 4 σ) fun t2 =>
    if t2 = 0 then
      en_b1 (en_wa 938 σ 25 0 0 ((k_mm_slotOf v1) + 4) 3) fun s5 =>
      en_b1 (k_mm_reclaims s5) fun s7 =>
      some (0, s7)
    else
      if t2 = 1 then
        en_b1 (k_mm_hasAnyLeft v1 σ) fun t10 =>
        if t10 = 0 then
          en_b1 (en_wa 938 σ 25 0 0 ((k_mm_slotOf v1) + 4) 3) fun s13 =>
          en_b1 (k_mm_reclaims s13) fun s15 =>
          some (0, s15)
        else
          some (4, σ)
      else
        some (4, σ)
set_option maxRecDepth 100000 in
set_option maxHeartbeats 4000000 in
theorem s_mm_drop0 (G : en_G) (hz : G.2.2.2.2.2.2.2.2 = none) (d : Nat) {cs : List en_A} {σ : en_M} {v1 : Int32} {x0 : Int32} {s0 : en_M}  (h : k_mm_drop0 v1 σ = some (x0, s0)) : en_Mt G (d + 5) 0 0 M_mm_drop0 [.inr (.inl (some (24, 0, 0))), .inl v1] cs en_rf σ (.inr (some (.inl x0))) cs en_rf s0 := by
  refine en_meth (ls := [some (.inr (.inl (some (24, 0, 0)))), some (.inl v1), none]) md_mm_drop0 rfl rfl rfl ?_
  unfold k_mm_drop0 at h
  refine en_s_iload_n rfl rfl ?_
  refine en_s_aload_n rfl rfl ?_
  refine en_s_getR (w := some (25, 0, 0)) rfl rfl rfl rfl ?_
  refine en_s_bipush rfl ?_
  refine en_c_iald (q := 6) rfl rfl (by decide) (by decide) ?_
  refine en_s_aload_n rfl rfl ?_
  refine en_s_getR (w := some (25, 0, 0)) rfl rfl rfl rfl ?_
  refine en_s_iconst rfl ?_
  refine en_c_iald (q := 5) rfl rfl (by decide) (by decide) ?_
  refine en_s_iconst rfl ?_
  refine en_s_isub rfl ?_
  refine en_callS (as := [.inl v1, .inl (σ 25 0 0 6), .inl ((σ 25 0 0 5) - 1)]) (rest := []) (bc' := 0) (bs' := 0) hz rfl (s_mm_isIn G hz (d + 4) rfl) lk_10_54 mv_mm_isIn rfl rfl rfl (fun _ h => h) (Nat.le_refl _) (Nat.le_refl _) ?_
  refine en_s_if_ne rfl (fun c1 => ?_) (fun c1 => ?_)
  · rw [if_neg c1] at h
    refine en_s_aload_n rfl rfl ?_
    refine en_s_iload_n rfl rfl ?_
    refine en_s_iconst rfl ?_
    obtain ⟨t2, h3, h⟩ := en_b1_h h
    refine en_callV (as := [.inl v1, .inl 4]) (rest := []) (bc' := 0) (bs' := 0) hz rfl (s_mm_of G hz (d + 3) h3) lk_10_66 mv_mm_of rfl rfl rfl rfl rfl (fun _ h => h) (Nat.le_refl _) (Nat.le_refl _) ?_
    refine en_s_istore_n (ls' := [some (.inr (.inl (some (24, 0, 0)))), some (.inl v1), some (.inl t2)]) rfl rfl rfl ?_
    refine en_s_iload_n rfl rfl ?_
    refine en_s_if_eq rfl (fun c4 => ?_) (fun c4 => ?_)
    · rw [if_pos c4] at h
      refine en_s_aload_n rfl rfl ?_
      refine en_s_getR (w := some (25, 0, 0)) rfl rfl rfl rfl ?_
      refine en_s_iload_n rfl rfl ?_
      refine en_callS (as := [.inl v1]) (rest := [.inr (.inl (some (25, 0, 0)))]) (bc' := 0) (bs' := 0) hz rfl (s_mm_slotOf G hz (d + 4) rfl) lk_10_58 mv_mm_slotOf rfl rfl rfl (fun _ h => h) (Nat.le_refl _) (Nat.le_refl _) ?_
      refine en_s_iconst rfl ?_
      refine en_s_iadd rfl ?_
      refine en_s_iconst rfl ?_
      obtain ⟨s5, e6, h⟩ := en_b1_h h
      refine en_s_iast rfl rfl e6 ?_
      refine en_s_aload_n rfl rfl ?_
      obtain ⟨s7, h8, h⟩ := en_b1_h h
      refine en_callV (as := []) (rest := []) (bc' := 0) (bs' := 0) hz rfl (s_mm_reclaims G hz (d + 2) h8) lk_10_115 mv_mm_reclaims rfl rfl rfl rfl rfl (fun _ h => h) (Nat.le_refl _) (Nat.le_refl _) ?_
      refine en_s_iconst rfl ?_
      cases h
      exact en_s_iret rfl rfl
    · rw [if_neg c4] at h
      refine en_s_iload_n rfl rfl ?_
      refine en_s_iconst rfl ?_
      refine en_s_icmp_ne rfl (fun c9 => ?_) (fun c9 => ?_)
      · rw [if_neg c9] at h
        refine en_s_iconst rfl ?_
        cases h
        exact en_s_iret rfl rfl
      · rw [if_pos c9] at h
        refine en_s_aload_n rfl rfl ?_
        refine en_s_iload_n rfl rfl ?_
        obtain ⟨t10, h11, h⟩ := en_b1_h h
        refine en_callV (as := [.inl v1]) (rest := []) (bc' := 0) (bs' := 0) hz rfl (s_mm_hasAnyLeft G hz (d + 0) h11) lk_10_112 mv_mm_hasAnyLeft rfl rfl rfl rfl rfl (fun _ h => h) (Nat.le_refl _) (Nat.le_refl _) ?_
        refine en_s_if_eq rfl (fun c12 => ?_) (fun c12 => ?_)
        · rw [if_pos c12] at h
          refine en_s_aload_n rfl rfl ?_
          refine en_s_getR (w := some (25, 0, 0)) rfl rfl rfl rfl ?_
          refine en_s_iload_n rfl rfl ?_
          refine en_callS (as := [.inl v1]) (rest := [.inr (.inl (some (25, 0, 0)))]) (bc' := 0) (bs' := 0) hz rfl (s_mm_slotOf G hz (d + 4) rfl) lk_10_58 mv_mm_slotOf rfl rfl rfl (fun _ h => h) (Nat.le_refl _) (Nat.le_refl _) ?_
          refine en_s_iconst rfl ?_
          refine en_s_iadd rfl ?_
          refine en_s_iconst rfl ?_
          obtain ⟨s13, e14, h⟩ := en_b1_h h
          refine en_s_iast rfl rfl e14 ?_
          refine en_s_aload_n rfl rfl ?_
          obtain ⟨s15, h16, h⟩ := en_b1_h h
          refine en_callV (as := []) (rest := []) (bc' := 0) (bs' := 0) hz rfl (s_mm_reclaims G hz (d + 2) h16) lk_10_115 mv_mm_reclaims rfl rfl rfl rfl rfl (fun _ h => h) (Nat.le_refl _) (Nat.le_refl _) ?_
          refine en_s_iconst rfl ?_
          cases h
          exact en_s_iret rfl rfl
        · rw [if_neg c12] at h
          refine en_s_iconst rfl ?_
          cases h
          exact en_s_iret rfl rfl
  · rw [if_pos c1] at h
    refine en_s_iconst rfl ?_
    cases h
    exact en_s_iret rfl rfl
def k_mm_flowAt (v1 : Int32) (v2 : Int32) (σ : en_M) : Option (Int32) :=
  en_b1 (en_rd 938 (σ 25 0 0) ((20 + (9 * v1)) + v2)) fun t1 =>
  some t1
set_option maxRecDepth 100000 in
set_option maxHeartbeats 4000000 in
theorem s_mm_flowAt (G : en_G) (hz : G.2.2.2.2.2.2.2.2 = none) (d : Nat) {cs : List en_A} {σ : en_M} {v1 : Int32} {v2 : Int32} {x0 : Int32}  (h : k_mm_flowAt v1 v2 σ = some x0) : en_Mt G (d + 0) 0 0 M_mm_flowAt [.inr (.inl (some (24, 0, 0))), .inl v1, .inl v2] cs en_rf σ (.inr (some (.inl x0))) cs en_rf σ := by
  refine en_meth (ls := [some (.inr (.inl (some (24, 0, 0)))), some (.inl v1), some (.inl v2)]) md_mm_flowAt rfl rfl rfl ?_
  unfold k_mm_flowAt at h
  refine en_s_aload_n rfl rfl ?_
  refine en_s_getR (w := some (25, 0, 0)) rfl rfl rfl rfl ?_
  refine en_s_bipush rfl ?_
  refine en_s_bipush rfl ?_
  refine en_s_iload_n rfl rfl ?_
  refine en_s_imul rfl ?_
  refine en_s_iadd rfl ?_
  refine en_s_iload_n rfl rfl ?_
  refine en_s_iadd rfl ?_
  obtain ⟨t1, h2, h⟩ := en_b1_h h
  refine en_s_iald rfl rfl h2 ?_
  cases h
  exact en_s_iret rfl rfl
def k_mm_pause0 (v1 : Int32) (v2 : Int32) (σ : en_M) : Option (Int32 × en_M) :=
  if (k_mm_isFlow v1 σ) = 0 then
    some (2, σ)
  else
    en_b1 (k_mm_flowAt v1 2 σ) fun t2 =>
    if t2 = v2 then
      some (5, σ)
    else
      en_b1 (en_wa 938 σ 25 0 0 ((20 + (9 * v1)) + 2) v2) fun s5 =>
      some (0, s5)
set_option maxRecDepth 100000 in
set_option maxHeartbeats 4000000 in
theorem s_mm_pause0 (G : en_G) (hz : G.2.2.2.2.2.2.2.2 = none) (d : Nat) {cs : List en_A} {σ : en_M} {v1 : Int32} {v2 : Int32} {x0 : Int32} {s0 : en_M}  (h : k_mm_pause0 v1 v2 σ = some (x0, s0)) : en_Mt G (d + 2) 0 0 M_mm_pause0 [.inr (.inl (some (24, 0, 0))), .inl v1, .inl v2] cs en_rf σ (.inr (some (.inl x0))) cs en_rf s0 := by
  refine en_meth (ls := [some (.inr (.inl (some (24, 0, 0)))), some (.inl v1), some (.inl v2)]) md_mm_pause0 rfl rfl rfl ?_
  unfold k_mm_pause0 at h
  refine en_s_aload_n rfl rfl ?_
  refine en_s_iload_n rfl rfl ?_
  refine en_callV (as := [.inl v1]) (rest := []) (bc' := 0) (bs' := 0) hz rfl (s_mm_isFlow G hz (d + 0) rfl) lk_10_101 mv_mm_isFlow rfl rfl rfl rfl rfl (fun _ h => h) (Nat.le_refl _) (Nat.le_refl _) ?_
  refine en_s_if_ne rfl (fun c1 => ?_) (fun c1 => ?_)
  · rw [if_neg c1] at h
    refine en_s_aload_n rfl rfl ?_
    refine en_s_iload_n rfl rfl ?_
    refine en_s_iconst rfl ?_
    obtain ⟨t2, h3, h⟩ := en_b1_h h
    refine en_callV (as := [.inl v1, .inl 2]) (rest := []) (bc' := 0) (bs' := 0) hz rfl (s_mm_flowAt G hz (d + 1) h3) lk_10_89 mv_mm_flowAt rfl rfl rfl rfl rfl (fun _ h => h) (Nat.le_refl _) (Nat.le_refl _) ?_
    refine en_s_iload_n rfl rfl ?_
    refine en_s_icmp_ne rfl (fun c4 => ?_) (fun c4 => ?_)
    · rw [if_neg c4] at h
      refine en_s_aload_n rfl rfl ?_
      refine en_s_getR (w := some (25, 0, 0)) rfl rfl rfl rfl ?_
      refine en_s_bipush rfl ?_
      refine en_s_bipush rfl ?_
      refine en_s_iload_n rfl rfl ?_
      refine en_s_imul rfl ?_
      refine en_s_iadd rfl ?_
      refine en_s_iconst rfl ?_
      refine en_s_iadd rfl ?_
      refine en_s_iload_n rfl rfl ?_
      obtain ⟨s5, e6, h⟩ := en_b1_h h
      refine en_s_iast rfl rfl e6 ?_
      refine en_s_iconst rfl ?_
      cases h
      exact en_s_iret rfl rfl
    · rw [if_pos c4] at h
      refine en_s_iconst rfl ?_
      cases h
      exact en_s_iret rfl rfl
  · rw [if_pos c1] at h
    refine en_s_iconst rfl ?_
    cases h
    exact en_s_iret rfl rfl
def k_mm_pauseText (v1 : Int32) (σ : en_M) : Option (Int32 × en_M) :=
  en_b2 (k_mm_number 0 5 σ) fun t1 s2 =>
  if (s2 24 0 0 12) = (-1) then
    en_b2 (k_mm_pause0 t1 v1 s2) fun t5 s6 =>
    some (t5, s6)
  else
    some (0, s2)
set_option maxRecDepth 100000 in
set_option maxHeartbeats 4000000 in
theorem s_mm_pauseText (G : en_G) (hz : G.2.2.2.2.2.2.2.2 = none) (d : Nat) {cs : List en_A} {σ : en_M} {v1 : Int32} {x0 : Int32} {s0 : en_M}  (h : k_mm_pauseText v1 σ = some (x0, s0)) : en_Mt G (d + 3) 0 0 M_mm_pauseText [.inr (.inl (some (24, 0, 0))), .inl v1] cs en_rf σ (.inr (some (.inl x0))) cs en_rf s0 := by
  refine en_meth (ls := [some (.inr (.inl (some (24, 0, 0)))), some (.inl v1), none]) md_mm_pauseText rfl rfl rfl ?_
  unfold k_mm_pauseText at h
  refine en_s_aload_n rfl rfl ?_
  refine en_s_iconst rfl ?_
  refine en_s_iconst rfl ?_
  obtain ⟨t1, s2, h3, h⟩ := en_b2_h h
  refine en_callV (as := [.inl 0, .inl 5]) (rest := []) (bc' := 0) (bs' := 0) hz rfl (s_mm_number G hz (d + 1) h3) lk_10_200 mv_mm_number rfl rfl rfl rfl rfl (fun _ h => h) (Nat.le_refl _) (Nat.le_refl _) ?_
  refine en_s_istore_n (ls' := [some (.inr (.inl (some (24, 0, 0)))), some (.inl v1), some (.inl t1)]) rfl rfl rfl ?_
  refine en_s_aload_n rfl rfl ?_
  refine en_s_getI rfl rfl rfl ?_
  refine en_s_iconst rfl ?_
  refine en_s_icmp_ne rfl (fun c4 => ?_) (fun c4 => ?_)
  · rw [if_neg c4] at h
    refine en_s_iconst rfl ?_
    cases h
    exact en_s_iret rfl rfl
  · rw [if_pos c4] at h
    refine en_s_aload_n rfl rfl ?_
    refine en_s_iload_n rfl rfl ?_
    refine en_s_iload_n rfl rfl ?_
    obtain ⟨t5, s6, h7, h⟩ := en_b2_h h
    refine en_callV (as := [.inl t1, .inl v1]) (rest := []) (bc' := 0) (bs' := 0) hz rfl (s_mm_pause0 G hz (d + 0) h7) lk_10_217 mv_mm_pause0 rfl rfl rfl rfl rfl (fun _ h => h) (Nat.le_refl _) (Nat.le_refl _) ?_
    refine en_s_goto rfl ?_
    cases h
    exact en_s_iret rfl rfl
def k_mm_rate0 (v1 : Int32) (v2 : Int32) (σ : en_M) : Option (Int32 × en_M) :=
  if (k_mm_isFlow v1 σ) = 0 then
    some (2, σ)
  else
    en_b1 (en_wa 938 σ 25 0 0 ((20 + (9 * v1)) + 0) v2) fun s2 =>
    some (0, s2)
set_option maxRecDepth 100000 in
set_option maxHeartbeats 4000000 in
theorem s_mm_rate0 (G : en_G) (hz : G.2.2.2.2.2.2.2.2 = none) (d : Nat) {cs : List en_A} {σ : en_M} {v1 : Int32} {v2 : Int32} {x0 : Int32} {s0 : en_M}  (h : k_mm_rate0 v1 v2 σ = some (x0, s0)) : en_Mt G (d + 2) 0 0 M_mm_rate0 [.inr (.inl (some (24, 0, 0))), .inl v1, .inl v2] cs en_rf σ (.inr (some (.inl x0))) cs en_rf s0 := by
  refine en_meth (ls := [some (.inr (.inl (some (24, 0, 0)))), some (.inl v1), some (.inl v2)]) md_mm_rate0 rfl rfl rfl ?_
  unfold k_mm_rate0 at h
  refine en_s_aload_n rfl rfl ?_
  refine en_s_iload_n rfl rfl ?_
  refine en_callV (as := [.inl v1]) (rest := []) (bc' := 0) (bs' := 0) hz rfl (s_mm_isFlow G hz (d + 0) rfl) lk_10_101 mv_mm_isFlow rfl rfl rfl rfl rfl (fun _ h => h) (Nat.le_refl _) (Nat.le_refl _) ?_
  refine en_s_if_ne rfl (fun c1 => ?_) (fun c1 => ?_)
  · rw [if_neg c1] at h
    refine en_s_aload_n rfl rfl ?_
    refine en_s_getR (w := some (25, 0, 0)) rfl rfl rfl rfl ?_
    refine en_s_bipush rfl ?_
    refine en_s_bipush rfl ?_
    refine en_s_iload_n rfl rfl ?_
    refine en_s_imul rfl ?_
    refine en_s_iadd rfl ?_
    refine en_s_iconst rfl ?_
    refine en_s_iadd rfl ?_
    refine en_s_iload_n rfl rfl ?_
    obtain ⟨s2, e3, h⟩ := en_b1_h h
    refine en_s_iast rfl rfl e3 ?_
    refine en_s_iconst rfl ?_
    cases h
    exact en_s_iret rfl rfl
  · rw [if_pos c1] at h
    refine en_s_iconst rfl ?_
    cases h
    exact en_s_iret rfl rfl
def k_mm_rateText  (σ : en_M) : Option (Int32 × en_M) :=
  en_b2 (k_mm_number 0 5 σ) fun t1 s2 =>
  en_b2 (k_mm_number 0 999 s2) fun t4 s5 =>
  if (s5 24 0 0 12) = (-1) then
    en_b2 (k_mm_rate0 t1 t4 s5) fun t8 s9 =>
    some (t8, s9)
  else
    some (0, s5)
set_option maxRecDepth 100000 in
set_option maxHeartbeats 4000000 in
theorem s_mm_rateText (G : en_G) (hz : G.2.2.2.2.2.2.2.2 = none) (d : Nat) {cs : List en_A} {σ : en_M}  {x0 : Int32} {s0 : en_M}  (h : k_mm_rateText  σ = some (x0, s0)) : en_Mt G (d + 3) 0 0 M_mm_rateText [.inr (.inl (some (24, 0, 0)))] cs en_rf σ (.inr (some (.inl x0))) cs en_rf s0 := by
  refine en_meth (ls := [some (.inr (.inl (some (24, 0, 0)))), none, none]) md_mm_rateText rfl rfl rfl ?_
  unfold k_mm_rateText at h
  refine en_s_aload_n rfl rfl ?_
  refine en_s_iconst rfl ?_
  refine en_s_iconst rfl ?_
  obtain ⟨t1, s2, h3, h⟩ := en_b2_h h
  refine en_callV (as := [.inl 0, .inl 5]) (rest := []) (bc' := 0) (bs' := 0) hz rfl (s_mm_number G hz (d + 1) h3) lk_10_200 mv_mm_number rfl rfl rfl rfl rfl (fun _ h => h) (Nat.le_refl _) (Nat.le_refl _) ?_
  refine en_s_istore_n (ls' := [some (.inr (.inl (some (24, 0, 0)))), some (.inl t1), none]) rfl rfl rfl ?_
  refine en_s_aload_n rfl rfl ?_
  refine en_s_iconst rfl ?_
  refine en_s_sipush rfl ?_
  obtain ⟨t4, s5, h6, h⟩ := en_b2_h h
  refine en_callV (as := [.inl 0, .inl 999]) (rest := []) (bc' := 0) (bs' := 0) hz rfl (s_mm_number G hz (d + 1) h6) lk_10_200 mv_mm_number rfl rfl rfl rfl rfl (fun _ h => h) (Nat.le_refl _) (Nat.le_refl _) ?_
  refine en_s_istore_n (ls' := [some (.inr (.inl (some (24, 0, 0)))), some (.inl t1), some (.inl t4)]) rfl rfl rfl ?_
  refine en_s_aload_n rfl rfl ?_
  refine en_s_getI rfl rfl rfl ?_
  refine en_s_iconst rfl ?_
  refine en_s_icmp_ne rfl (fun c7 => ?_) (fun c7 => ?_)
  · rw [if_neg c7] at h
    refine en_s_iconst rfl ?_
    cases h
    exact en_s_iret rfl rfl
  · rw [if_pos c7] at h
    refine en_s_aload_n rfl rfl ?_
    refine en_s_iload_n rfl rfl ?_
    refine en_s_iload_n rfl rfl ?_
    obtain ⟨t8, s9, h10, h⟩ := en_b2_h h
    refine en_callV (as := [.inl t1, .inl t4]) (rest := []) (bc' := 0) (bs' := 0) hz rfl (s_mm_rate0 G hz (d + 0) h10) lk_10_220 mv_mm_rate0 rfl rfl rfl rfl rfl (fun _ h => h) (Nat.le_refl _) (Nat.le_refl _) ?_
    refine en_s_goto rfl ?_
    cases h
    exact en_s_iret rfl rfl
def k_mm_gap (v0 : Int32) (v1 : Int32) : Option (Int32) :=
  if v1 = 0 then
    some 0
  else
    en_b1 (en_dv (((10 * v0) + v1) - 1) v1) fun t2 =>
    some t2
set_option maxRecDepth 100000 in
set_option maxHeartbeats 4000000 in
theorem s_mm_gap (G : en_G) (hz : G.2.2.2.2.2.2.2.2 = none) (d : Nat) {cs : List en_A} {σ : en_M} {v0 : Int32} {v1 : Int32} {x0 : Int32}  (h : k_mm_gap v0 v1 = some x0) : en_Mt G (d + 0) 0 0 M_mm_gap [.inl v0, .inl v1] cs en_rf σ (.inr (some (.inl x0))) cs en_rf σ := by
  refine en_meth (ls := [some (.inl v0), some (.inl v1)]) md_mm_gap rfl rfl rfl ?_
  unfold k_mm_gap at h
  refine en_s_iload_n rfl rfl ?_
  refine en_s_if_ne rfl (fun c1 => ?_) (fun c1 => ?_)
  · rw [if_neg c1] at h
    refine en_s_bipush rfl ?_
    refine en_s_iload_n rfl rfl ?_
    refine en_s_imul rfl ?_
    refine en_s_iload_n rfl rfl ?_
    refine en_s_iadd rfl ?_
    refine en_s_iconst rfl ?_
    refine en_s_isub rfl ?_
    refine en_s_iload_n rfl rfl ?_
    obtain ⟨t2, h3, h⟩ := en_b1_h h
    refine en_p_idiv h3 rfl ?_
    cases h
    exact en_s_iret rfl rfl
  · rw [if_pos c1] at h
    refine en_s_iconst rfl ?_
    refine en_s_goto rfl ?_
    cases h
    exact en_s_iret rfl rfl
def k_mm_greater (v0 : Int32) (v1 : Int32) : Int32 :=
  if v0 ≤ v1 then
    v1
  else
    v0
set_option maxRecDepth 100000 in
set_option maxHeartbeats 4000000 in
theorem s_mm_greater (G : en_G) (hz : G.2.2.2.2.2.2.2.2 = none) (d : Nat) {cs : List en_A} {σ : en_M} {v0 : Int32} {v1 : Int32} {x0 : Int32}  (h : k_mm_greater v0 v1 = x0) : en_Mt G (d + 0) 0 0 M_mm_greater [.inl v0, .inl v1] cs en_rf σ (.inr (some (.inl x0))) cs en_rf σ := by
  refine en_meth (ls := [some (.inl v0), some (.inl v1)]) md_mm_greater rfl rfl rfl ?_
  unfold k_mm_greater at h
  refine en_s_iload_n rfl rfl ?_
  refine en_s_iload_n rfl rfl ?_
  refine en_s_icmp_le rfl (fun c1 => ?_) (fun c1 => ?_)
  · rw [if_pos c1] at h
    refine en_s_iload_n rfl rfl ?_
    subst h
    exact en_s_iret rfl rfl
  · rw [if_neg c1] at h
    refine en_s_iload_n rfl rfl ?_
    refine en_s_goto rfl ?_
    subst h
    exact en_s_iret rfl rfl
def k_mm_placeIn (v0 : Int32) (v1 : Int32) : Int32 :=
  (20 * (v0 - v0 / 8 * 8)) + v1
set_option maxRecDepth 100000 in
set_option maxHeartbeats 4000000 in
theorem s_mm_placeIn (G : en_G) (hz : G.2.2.2.2.2.2.2.2 = none) (d : Nat) {cs : List en_A} {σ : en_M} {v0 : Int32} {v1 : Int32} {x0 : Int32}  (h : k_mm_placeIn v0 v1 = x0) : en_Mt G (d + 0) 0 0 M_mm_placeIn [.inl v0, .inl v1] cs en_rf σ (.inr (some (.inl x0))) cs en_rf σ := by
  refine en_meth (ls := [some (.inl v0), some (.inl v1)]) md_mm_placeIn rfl rfl rfl ?_
  unfold k_mm_placeIn at h
  refine en_s_bipush rfl ?_
  refine en_s_iload_n rfl rfl ?_
  refine en_s_bipush rfl ?_
  refine en_s_irem rfl (by decide) ?_
  refine en_s_imul rfl ?_
  refine en_s_iload_n rfl rfl ?_
  refine en_s_iadd rfl ?_
  subst h
  exact en_s_iret rfl rfl
def k_mm_lesser (v0 : Int32) (v1 : Int32) : Int32 :=
  if v1 ≤ v0 then
    v1
  else
    v0
set_option maxRecDepth 100000 in
set_option maxHeartbeats 4000000 in
theorem s_mm_lesser (G : en_G) (hz : G.2.2.2.2.2.2.2.2 = none) (d : Nat) {cs : List en_A} {σ : en_M} {v0 : Int32} {v1 : Int32} {x0 : Int32}  (h : k_mm_lesser v0 v1 = x0) : en_Mt G (d + 0) 0 0 M_mm_lesser [.inl v0, .inl v1] cs en_rf σ (.inr (some (.inl x0))) cs en_rf σ := by
  refine en_meth (ls := [some (.inl v0), some (.inl v1)]) md_mm_lesser rfl rfl rfl ?_
  unfold k_mm_lesser at h
  refine en_s_iload_n rfl rfl ?_
  refine en_s_iload_n rfl rfl ?_
  refine en_s_icmp_ge rfl (fun c1 => ?_) (fun c1 => ?_)
  · rw [if_pos c1] at h
    refine en_s_iload_n rfl rfl ?_
    subst h
    exact en_s_iret rfl rfl
  · rw [if_neg c1] at h
    refine en_s_iload_n rfl rfl ?_
    refine en_s_goto rfl ?_
    subst h
    exact en_s_iret rfl rfl
def k_mm_bytesOf (v1 : Int32) (v2 : Int32) (σ : en_M) : Option (Int32) :=
  en_b1 (k_mm_of v1 2 σ) fun t1 =>
  en_b1 (k_mm_of v1 1 σ) fun t3 =>
  en_b1 (k_mm_of v1 2 σ) fun t5 =>
  some (k_mm_lesser t1 (t3 - (v2 * t5)))
set_option maxRecDepth 100000 in
set_option maxHeartbeats 4000000 in
theorem s_mm_bytesOf (G : en_G) (hz : G.2.2.2.2.2.2.2.2 = none) (d : Nat) {cs : List en_A} {σ : en_M} {v1 : Int32} {v2 : Int32} {x0 : Int32}  (h : k_mm_bytesOf v1 v2 σ = some x0) : en_Mt G (d + 2) 0 0 M_mm_bytesOf [.inr (.inl (some (24, 0, 0))), .inl v1, .inl v2] cs en_rf σ (.inr (some (.inl x0))) cs en_rf σ := by
  refine en_meth (ls := [some (.inr (.inl (some (24, 0, 0)))), some (.inl v1), some (.inl v2)]) md_mm_bytesOf rfl rfl rfl ?_
  unfold k_mm_bytesOf at h
  refine en_s_aload_n rfl rfl ?_
  refine en_s_iload_n rfl rfl ?_
  refine en_s_iconst rfl ?_
  obtain ⟨t1, h2, h⟩ := en_b1_h h
  refine en_callV (as := [.inl v1, .inl 2]) (rest := []) (bc' := 0) (bs' := 0) hz rfl (s_mm_of G hz (d + 0) h2) lk_10_66 mv_mm_of rfl rfl rfl rfl rfl (fun _ h => h) (Nat.le_refl _) (Nat.le_refl _) ?_
  refine en_s_aload_n rfl rfl ?_
  refine en_s_iload_n rfl rfl ?_
  refine en_s_iconst rfl ?_
  obtain ⟨t3, h4, h⟩ := en_b1_h h
  refine en_callV (as := [.inl v1, .inl 1]) (rest := [.inl t1]) (bc' := 0) (bs' := 0) hz rfl (s_mm_of G hz (d + 0) h4) lk_10_66 mv_mm_of rfl rfl rfl rfl rfl (fun _ h => h) (Nat.le_refl _) (Nat.le_refl _) ?_
  refine en_s_iload_n rfl rfl ?_
  refine en_s_aload_n rfl rfl ?_
  refine en_s_iload_n rfl rfl ?_
  refine en_s_iconst rfl ?_
  obtain ⟨t5, h6, h⟩ := en_b1_h h
  refine en_callV (as := [.inl v1, .inl 2]) (rest := [.inl v2, .inl t3, .inl t1]) (bc' := 0) (bs' := 0) hz rfl (s_mm_of G hz (d + 0) h6) lk_10_66 mv_mm_of rfl rfl rfl rfl rfl (fun _ h => h) (Nat.le_refl _) (Nat.le_refl _) ?_
  refine en_s_imul rfl ?_
  refine en_s_isub rfl ?_
  refine en_callS (as := [.inl t1, .inl (t3 - (v2 * t5))]) (rest := []) (bc' := 0) (bs' := 0) hz rfl (s_mm_lesser G hz (d + 1) rfl) lk_10_72 mv_mm_lesser rfl rfl rfl (fun _ h => h) (Nat.le_refl _) (Nat.le_refl _) ?_
  cases h
  exact en_s_iret rfl rfl
def k_mm_sizeOf (v1 : Int32) (v2 : Int32) (σ : en_M) : Option (Int32) :=
  en_b1 (k_mm_bytesOf v1 v2 σ) fun t1 =>
  some (12 + t1)
set_option maxRecDepth 100000 in
set_option maxHeartbeats 4000000 in
theorem s_mm_sizeOf (G : en_G) (hz : G.2.2.2.2.2.2.2.2 = none) (d : Nat) {cs : List en_A} {σ : en_M} {v1 : Int32} {v2 : Int32} {x0 : Int32}  (h : k_mm_sizeOf v1 v2 σ = some x0) : en_Mt G (d + 3) 0 0 M_mm_sizeOf [.inr (.inl (some (24, 0, 0))), .inl v1, .inl v2] cs en_rf σ (.inr (some (.inl x0))) cs en_rf σ := by
  refine en_meth (ls := [some (.inr (.inl (some (24, 0, 0)))), some (.inl v1), some (.inl v2)]) md_mm_sizeOf rfl rfl rfl ?_
  unfold k_mm_sizeOf at h
  refine en_s_bipush rfl ?_
  refine en_s_aload_n rfl rfl ?_
  refine en_s_iload_n rfl rfl ?_
  refine en_s_iload_n rfl rfl ?_
  obtain ⟨t1, h2, h⟩ := en_b1_h h
  refine en_callV (as := [.inl v1, .inl v2]) (rest := [.inl 12]) (bc' := 0) (bs' := 0) hz rfl (s_mm_bytesOf G hz (d + 0) h2) lk_10_75 mv_mm_bytesOf rfl rfl rfl rfl rfl (fun _ h => h) (Nat.le_refl _) (Nat.le_refl _) ?_
  refine en_s_iadd rfl ?_
  cases h
  exact en_s_iret rfl rfl
def k_mm_times_2 (f0 : Nat) (v1 : Int32) (σ : en_M) : Option (en_M) := match f0 with
  | 0 => none
  | f9 + 1 =>
    if (σ 25 0 0 3) ≤ v1 then
      some (σ)
    else
      en_b1 (k_mm_flowAt v1 4 σ) fun t2 =>
      if t2 = 1 then
        en_b1 (k_mm_flowAt v1 5 σ) fun t7 =>
        en_b1 (k_mm_flowAt v1 6 σ) fun t9 =>
        en_b1 (k_mm_flowAt v1 0 σ) fun t11 =>
        en_b1 (k_mm_gap t9 t11) fun t13 =>
        en_b1 (en_wa 6 σ 31 0 0 v1 (t7 + t13)) fun s15 =>
        k_mm_times_2 f9 (v1 + 1) s15
      else
        en_b1 (en_wa 6 σ 31 0 0 v1 0) fun s5 =>
        k_mm_times_2 f9 (v1 + 1) s5
def k_mm_times_101 (f0 : Nat) (v1 : Int32) (v2 : Int32) (v3 : Int32) (σ : en_M) : Option (en_M) := match f0 with
  | 0 => none
  | f9 + 1 =>
    en_b1 (k_mm_piecesOf v1 σ) fun t26 =>
    if t26 ≤ v3 then
      some (σ)
    else
      en_b1 (k_mm_hasLeft v1 v3 σ) fun t29 =>
      if t29 = 0 then
        en_b1 (k_mm_of v1 5 σ) fun t32 =>
        en_b1 (k_mm_of v1 3 σ) fun t34 =>
        en_b1 (en_rd 6 (σ 31 0 0) v2) fun t36 =>
        en_b1 (en_wa 160 σ 30 0 0 (k_mm_placeIn v1 v3) (k_mm_greater (k_mm_greater t32 t34) t36)) fun s38 =>
        en_b1 (k_mm_sizeOf v1 v3 s38) fun t40 =>
        en_b1 (k_mm_flowAt v2 0 s38) fun t42 =>
        en_b1 (k_mm_gap t40 t42) fun t44 =>
        en_b1 (en_wa 6 s38 31 0 0 v2 ((k_mm_greater (k_mm_greater t32 t34) t36) + t44)) fun s46 =>
        k_mm_times_101 f9 v1 v2 (v3 + 1) s46
      else
        k_mm_times_101 f9 v1 v2 (v3 + 1) σ
def k_mm_times_69 (f0 : Nat) (v1 : Int32) (σ : en_M) : Option (en_M) := match f0 with
  | 0 => none
  | f9 + 1 =>
    if (σ 25 0 0 5) ≤ v1 then
      some (σ)
    else
      en_b1 (k_mm_of v1 4 σ) fun t21 =>
      if t21 = 1 then
        en_b1 (k_mm_of v1 0 σ) fun t24 =>
        en_b1 (k_mm_times_101 en_fu v1 t24 0 σ) fun s50 =>
        k_mm_times_69 f9 (v1 + 1) s50
      else
        k_mm_times_69 f9 (v1 + 1) σ
def k_mm_times  (σ : en_M) : Option (en_M) :=
  en_b1 (k_mm_times_2 en_fu 0 σ) fun s18 =>
  en_b1 (k_mm_times_69 en_fu (s18 25 0 0 6) s18) fun s56 =>
  some s56
set_option maxRecDepth 100000 in
set_option maxHeartbeats 4000000 in
theorem s_mm_times_2 (G : en_G) (hz : G.2.2.2.2.2.2.2.2 = none) {d : Nat} {r : en_P} {cs cs' : List en_A} {ρ' : en_R} {σ' : en_M} : ∀ (f0 : Nat) {v1 : Int32} {e2 e3 e4 : Option en_V} {σ : en_M} {s0 : en_M} , k_mm_times_2 f0 v1 σ = some (s0) →
    (∀ (f1 : Option en_V), en_W G (d + 4) 0 0 M_mm_times r cs' ρ' σ' 0 0 61 [some (.inr (.inl (some (24, 0, 0)))), f1, e2, e3, e4] [] cs en_rf s0) → en_W G (d + 4) 0 0 M_mm_times r cs' ρ' σ' 0 0 2 [some (.inr (.inl (some (24, 0, 0)))), some (.inl v1), e2, e3, e4] [] cs en_rf σ := by
  intro f0
  induction f0 with
  | zero =>
    intros
    rename_i h _
    cases h
  | succ f9 ih =>
    intro v1 e2 e3 e4 σ s0 h hk
    rw [k_mm_times_2] at h
    refine en_s_iload_n rfl rfl ?_
    refine en_s_aload_n rfl rfl ?_
    refine en_s_getR (w := some (25, 0, 0)) rfl rfl rfl rfl ?_
    refine en_s_iconst rfl ?_
    refine en_c_iald (q := 3) rfl rfl (by decide) (by decide) ?_
    refine en_s_icmp_ge rfl (fun c1 => ?_) (fun c1 => ?_)
    · rw [if_pos c1] at h
      cases h
      exact hk (some (.inl v1))
    · rw [if_neg c1] at h
      refine en_s_aload_n rfl rfl ?_
      refine en_s_getR (w := some (31, 0, 0)) rfl rfl rfl rfl ?_
      refine en_s_iload_n rfl rfl ?_
      refine en_s_aload_n rfl rfl ?_
      refine en_s_iload_n rfl rfl ?_
      refine en_s_iconst rfl ?_
      obtain ⟨t2, h3, h⟩ := en_b1_h h
      refine en_callV (as := [.inl v1, .inl 4]) (rest := [.inl v1, .inr (.inl (some (31, 0, 0)))]) (bc' := 0) (bs' := 0) hz rfl (s_mm_flowAt G hz (d + 3) h3) lk_10_89 mv_mm_flowAt rfl rfl rfl rfl rfl (fun _ h => h) (Nat.le_refl _) (Nat.le_refl _) ?_
      refine en_s_iconst rfl ?_
      refine en_s_icmp_ne rfl (fun c4 => ?_) (fun c4 => ?_)
      · rw [if_neg c4] at h
        refine en_s_iconst rfl ?_
        obtain ⟨s5, e6, h⟩ := en_b1_h h
        refine en_s_iast rfl rfl e6 ?_
        refine en_s_iinc (ls' := [some (.inr (.inl (some (24, 0, 0)))), some (.inl (v1 + 1)), e2, e3, e4]) rfl rfl rfl ?_
        refine en_s_goto rfl ?_
        exact ih (e2 := e2) (e3 := e3) (e4 := e4) h hk
      · rw [if_pos c4] at h
        refine en_s_aload_n rfl rfl ?_
        refine en_s_iload_n rfl rfl ?_
        refine en_s_iconst rfl ?_
        obtain ⟨t7, h8, h⟩ := en_b1_h h
        refine en_callV (as := [.inl v1, .inl 5]) (rest := [.inl v1, .inr (.inl (some (31, 0, 0)))]) (bc' := 0) (bs' := 0) hz rfl (s_mm_flowAt G hz (d + 3) h8) lk_10_89 mv_mm_flowAt rfl rfl rfl rfl rfl (fun _ h => h) (Nat.le_refl _) (Nat.le_refl _) ?_
        refine en_s_aload_n rfl rfl ?_
        refine en_s_iload_n rfl rfl ?_
        refine en_s_bipush rfl ?_
        obtain ⟨t9, h10, h⟩ := en_b1_h h
        refine en_callV (as := [.inl v1, .inl 6]) (rest := [.inl t7, .inl v1, .inr (.inl (some (31, 0, 0)))]) (bc' := 0) (bs' := 0) hz rfl (s_mm_flowAt G hz (d + 3) h10) lk_10_89 mv_mm_flowAt rfl rfl rfl rfl rfl (fun _ h => h) (Nat.le_refl _) (Nat.le_refl _) ?_
        refine en_s_aload_n rfl rfl ?_
        refine en_s_iload_n rfl rfl ?_
        refine en_s_iconst rfl ?_
        obtain ⟨t11, h12, h⟩ := en_b1_h h
        refine en_callV (as := [.inl v1, .inl 0]) (rest := [.inl t9, .inl t7, .inl v1, .inr (.inl (some (31, 0, 0)))]) (bc' := 0) (bs' := 0) hz rfl (s_mm_flowAt G hz (d + 3) h12) lk_10_89 mv_mm_flowAt rfl rfl rfl rfl rfl (fun _ h => h) (Nat.le_refl _) (Nat.le_refl _) ?_
        obtain ⟨t13, h14, h⟩ := en_b1_h h
        refine en_callS (as := [.inl t9, .inl t11]) (rest := [.inl t7, .inl v1, .inr (.inl (some (31, 0, 0)))]) (bc' := 0) (bs' := 0) hz rfl (s_mm_gap G hz (d + 3) h14) lk_10_92 mv_mm_gap rfl rfl rfl (fun _ h => h) (Nat.le_refl _) (Nat.le_refl _) ?_
        refine en_s_iadd rfl ?_
        refine en_s_goto rfl ?_
        obtain ⟨s15, e16, h⟩ := en_b1_h h
        refine en_s_iast rfl rfl e16 ?_
        refine en_s_iinc (ls' := [some (.inr (.inl (some (24, 0, 0)))), some (.inl (v1 + 1)), e2, e3, e4]) rfl rfl rfl ?_
        refine en_s_goto rfl ?_
        exact ih (e2 := e2) (e3 := e3) (e4 := e4) h hk
set_option maxRecDepth 100000 in
set_option maxHeartbeats 4000000 in
theorem s_mm_times_101 (G : en_G) (hz : G.2.2.2.2.2.2.2.2 = none) {d : Nat} {r : en_P} {cs cs' : List en_A} {ρ' : en_R} {σ' : en_M} : ∀ (f0 : Nat) {v1 : Int32} {v2 : Int32} {v3 : Int32} {e4 : Option en_V} {σ : en_M} {s0 : en_M} , k_mm_times_101 f0 v1 v2 v3 σ = some (s0) →
    (∀ (f3 : Option en_V) (f4 : Option en_V), en_W G (d + 4) 0 0 M_mm_times r cs' ρ' σ' 0 0 190 [some (.inr (.inl (some (24, 0, 0)))), some (.inl v1), some (.inl v2), f3, f4] [] cs en_rf s0) → en_W G (d + 4) 0 0 M_mm_times r cs' ρ' σ' 0 0 101 [some (.inr (.inl (some (24, 0, 0)))), some (.inl v1), some (.inl v2), some (.inl v3), e4] [] cs en_rf σ := by
  intro f0
  induction f0 with
  | zero =>
    intros
    rename_i h _
    cases h
  | succ f9 ih =>
    intro v1 v2 v3 e4 σ s0 h hk
    rw [k_mm_times_101] at h
    refine en_s_iload_n rfl rfl ?_
    refine en_s_aload_n rfl rfl ?_
    refine en_s_iload_n rfl rfl ?_
    obtain ⟨t26, h27, h⟩ := en_b1_h h
    refine en_callV (as := [.inl v1]) (rest := [.inl v3]) (bc' := 0) (bs' := 0) hz rfl (s_mm_piecesOf G hz (d + 0) h27) lk_10_82 mv_mm_piecesOf rfl rfl rfl rfl rfl (fun _ h => h) (Nat.le_refl _) (Nat.le_refl _) ?_
    refine en_s_icmp_ge rfl (fun c28 => ?_) (fun c28 => ?_)
    · rw [if_pos c28] at h
      cases h
      exact hk (some (.inl v3)) (e4)
    · rw [if_neg c28] at h
      refine en_s_aload_n rfl rfl ?_
      refine en_s_iload_n rfl rfl ?_
      refine en_s_iload_n rfl rfl ?_
      obtain ⟨t29, h30, h⟩ := en_b1_h h
      refine en_callV (as := [.inl v1, .inl v3]) (rest := []) (bc' := 0) (bs' := 0) hz rfl (s_mm_hasLeft G hz (d + 1) h30) lk_10_85 mv_mm_hasLeft rfl rfl rfl rfl rfl (fun _ h => h) (Nat.le_refl _) (Nat.le_refl _) ?_
      refine en_s_if_eq rfl (fun c31 => ?_) (fun c31 => ?_)
      · rw [if_pos c31] at h
        refine en_s_aload_n rfl rfl ?_
        refine en_s_iload_n rfl rfl ?_
        refine en_s_iconst rfl ?_
        obtain ⟨t32, h33, h⟩ := en_b1_h h
        refine en_callV (as := [.inl v1, .inl 5]) (rest := []) (bc' := 0) (bs' := 0) hz rfl (s_mm_of G hz (d + 2) h33) lk_10_66 mv_mm_of rfl rfl rfl rfl rfl (fun _ h => h) (Nat.le_refl _) (Nat.le_refl _) ?_
        refine en_s_aload_n rfl rfl ?_
        refine en_s_iload_n rfl rfl ?_
        refine en_s_iconst rfl ?_
        obtain ⟨t34, h35, h⟩ := en_b1_h h
        refine en_callV (as := [.inl v1, .inl 3]) (rest := [.inl t32]) (bc' := 0) (bs' := 0) hz rfl (s_mm_of G hz (d + 2) h35) lk_10_66 mv_mm_of rfl rfl rfl rfl rfl (fun _ h => h) (Nat.le_refl _) (Nat.le_refl _) ?_
        refine en_callS (as := [.inl t32, .inl t34]) (rest := []) (bc' := 0) (bs' := 0) hz rfl (s_mm_greater G hz (d + 3) rfl) lk_10_62 mv_mm_greater rfl rfl rfl (fun _ h => h) (Nat.le_refl _) (Nat.le_refl _) ?_
        refine en_s_aload_n rfl rfl ?_
        refine en_s_getR (w := some (31, 0, 0)) rfl rfl rfl rfl ?_
        refine en_s_iload_n rfl rfl ?_
        obtain ⟨t36, h37, h⟩ := en_b1_h h
        refine en_s_iald rfl rfl h37 ?_
        refine en_callS (as := [.inl (k_mm_greater t32 t34), .inl t36]) (rest := []) (bc' := 0) (bs' := 0) hz rfl (s_mm_greater G hz (d + 3) rfl) lk_10_62 mv_mm_greater rfl rfl rfl (fun _ h => h) (Nat.le_refl _) (Nat.le_refl _) ?_
        refine en_s_istore (ls' := [some (.inr (.inl (some (24, 0, 0)))), some (.inl v1), some (.inl v2), some (.inl v3), some (.inl (k_mm_greater (k_mm_greater t32 t34) t36))]) rfl rfl rfl ?_
        refine en_s_aload_n rfl rfl ?_
        refine en_s_getR (w := some (30, 0, 0)) rfl rfl rfl rfl ?_
        refine en_s_iload_n rfl rfl ?_
        refine en_s_iload_n rfl rfl ?_
        refine en_callS (as := [.inl v1, .inl v3]) (rest := [.inr (.inl (some (30, 0, 0)))]) (bc' := 0) (bs' := 0) hz rfl (s_mm_placeIn G hz (d + 3) rfl) lk_10_95 mv_mm_placeIn rfl rfl rfl (fun _ h => h) (Nat.le_refl _) (Nat.le_refl _) ?_
        refine en_s_iload rfl rfl ?_
        obtain ⟨s38, e39, h⟩ := en_b1_h h
        refine en_s_iast rfl rfl e39 ?_
        refine en_s_aload_n rfl rfl ?_
        refine en_s_getR (w := some (31, 0, 0)) rfl rfl rfl rfl ?_
        refine en_s_iload_n rfl rfl ?_
        refine en_s_iload rfl rfl ?_
        refine en_s_aload_n rfl rfl ?_
        refine en_s_iload_n rfl rfl ?_
        refine en_s_iload_n rfl rfl ?_
        obtain ⟨t40, h41, h⟩ := en_b1_h h
        refine en_callV (as := [.inl v1, .inl v3]) (rest := [.inl (k_mm_greater (k_mm_greater t32 t34) t36), .inl v2, .inr (.inl (some (31, 0, 0)))]) (bc' := 0) (bs' := 0) hz rfl (s_mm_sizeOf G hz (d + 0) h41) lk_10_98 mv_mm_sizeOf rfl rfl rfl rfl rfl (fun _ h => h) (Nat.le_refl _) (Nat.le_refl _) ?_
        refine en_s_aload_n rfl rfl ?_
        refine en_s_iload_n rfl rfl ?_
        refine en_s_iconst rfl ?_
        obtain ⟨t42, h43, h⟩ := en_b1_h h
        refine en_callV (as := [.inl v2, .inl 0]) (rest := [.inl t40, .inl (k_mm_greater (k_mm_greater t32 t34) t36), .inl v2, .inr (.inl (some (31, 0, 0)))]) (bc' := 0) (bs' := 0) hz rfl (s_mm_flowAt G hz (d + 3) h43) lk_10_89 mv_mm_flowAt rfl rfl rfl rfl rfl (fun _ h => h) (Nat.le_refl _) (Nat.le_refl _) ?_
        obtain ⟨t44, h45, h⟩ := en_b1_h h
        refine en_callS (as := [.inl t40, .inl t42]) (rest := [.inl (k_mm_greater (k_mm_greater t32 t34) t36), .inl v2, .inr (.inl (some (31, 0, 0)))]) (bc' := 0) (bs' := 0) hz rfl (s_mm_gap G hz (d + 3) h45) lk_10_92 mv_mm_gap rfl rfl rfl (fun _ h => h) (Nat.le_refl _) (Nat.le_refl _) ?_
        refine en_s_iadd rfl ?_
        obtain ⟨s46, e47, h⟩ := en_b1_h h
        refine en_s_iast rfl rfl e47 ?_
        refine en_s_iinc (ls' := [some (.inr (.inl (some (24, 0, 0)))), some (.inl v1), some (.inl v2), some (.inl (v3 + 1)), some (.inl (k_mm_greater (k_mm_greater t32 t34) t36))]) rfl rfl rfl ?_
        refine en_s_goto rfl ?_
        exact ih (e4 := some (.inl (k_mm_greater (k_mm_greater t32 t34) t36))) h hk
      · rw [if_neg c31] at h
        refine en_s_goto rfl ?_
        refine en_s_iinc (ls' := [some (.inr (.inl (some (24, 0, 0)))), some (.inl v1), some (.inl v2), some (.inl (v3 + 1)), e4]) rfl rfl rfl ?_
        refine en_s_goto rfl ?_
        exact ih (e4 := e4) h hk
set_option maxRecDepth 100000 in
set_option maxHeartbeats 4000000 in
theorem s_mm_times_69 (G : en_G) (hz : G.2.2.2.2.2.2.2.2 = none) {d : Nat} {r : en_P} {cs cs' : List en_A} {ρ' : en_R} {σ' : en_M} : ∀ (f0 : Nat) {v1 : Int32} {e2 e3 e4 : Option en_V} {σ : en_M} {s0 : en_M} , k_mm_times_69 f0 v1 σ = some (s0) →
    (∀ (f1 : Option en_V) (f2 : Option en_V) (f3 : Option en_V) (f4 : Option en_V), en_W G (d + 4) 0 0 M_mm_times r cs' ρ' σ' 0 0 196 [some (.inr (.inl (some (24, 0, 0)))), f1, f2, f3, f4] [] cs en_rf s0) → en_W G (d + 4) 0 0 M_mm_times r cs' ρ' σ' 0 0 69 [some (.inr (.inl (some (24, 0, 0)))), some (.inl v1), e2, e3, e4] [] cs en_rf σ := by
  intro f0
  induction f0 with
  | zero =>
    intros
    rename_i h _
    cases h
  | succ f9 ih =>
    intro v1 e2 e3 e4 σ s0 h hk
    rw [k_mm_times_69] at h
    refine en_s_iload_n rfl rfl ?_
    refine en_s_aload_n rfl rfl ?_
    refine en_s_getR (w := some (25, 0, 0)) rfl rfl rfl rfl ?_
    refine en_s_iconst rfl ?_
    refine en_c_iald (q := 5) rfl rfl (by decide) (by decide) ?_
    refine en_s_icmp_ge rfl (fun c20 => ?_) (fun c20 => ?_)
    · rw [if_pos c20] at h
      cases h
      exact hk (some (.inl v1)) (e2) (e3) (e4)
    · rw [if_neg c20] at h
      refine en_s_aload_n rfl rfl ?_
      refine en_s_iload_n rfl rfl ?_
      refine en_s_iconst rfl ?_
      obtain ⟨t21, h22, h⟩ := en_b1_h h
      refine en_callV (as := [.inl v1, .inl 4]) (rest := []) (bc' := 0) (bs' := 0) hz rfl (s_mm_of G hz (d + 2) h22) lk_10_66 mv_mm_of rfl rfl rfl rfl rfl (fun _ h => h) (Nat.le_refl _) (Nat.le_refl _) ?_
      refine en_s_iconst rfl ?_
      refine en_s_icmp_eq rfl (fun c23 => ?_) (fun c23 => ?_)
      · rw [if_pos c23] at h
        refine en_s_aload_n rfl rfl ?_
        refine en_s_iload_n rfl rfl ?_
        refine en_s_iconst rfl ?_
        obtain ⟨t24, h25, h⟩ := en_b1_h h
        refine en_callV (as := [.inl v1, .inl 0]) (rest := []) (bc' := 0) (bs' := 0) hz rfl (s_mm_of G hz (d + 2) h25) lk_10_66 mv_mm_of rfl rfl rfl rfl rfl (fun _ h => h) (Nat.le_refl _) (Nat.le_refl _) ?_
        refine en_s_istore_n (ls' := [some (.inr (.inl (some (24, 0, 0)))), some (.inl v1), some (.inl t24), e3, e4]) rfl rfl rfl ?_
        refine en_s_iconst rfl ?_
        refine en_s_istore_n (ls' := [some (.inr (.inl (some (24, 0, 0)))), some (.inl v1), some (.inl t24), some (.inl 0), e4]) rfl rfl rfl ?_
        obtain ⟨s50, h51, h⟩ := en_b1_h h
        refine s_mm_times_101 G hz en_fu (e4 := e4) h51 (fun f48 f49 => ?_)
        refine en_s_iinc (ls' := [some (.inr (.inl (some (24, 0, 0)))), some (.inl (v1 + 1)), some (.inl t24), f48, f49]) rfl rfl rfl ?_
        refine en_s_goto rfl ?_
        exact ih (e2 := some (.inl t24)) (e3 := f48) (e4 := f49) h hk
      · rw [if_neg c23] at h
        refine en_s_goto rfl ?_
        refine en_s_iinc (ls' := [some (.inr (.inl (some (24, 0, 0)))), some (.inl (v1 + 1)), e2, e3, e4]) rfl rfl rfl ?_
        refine en_s_goto rfl ?_
        exact ih (e2 := e2) (e3 := e3) (e4 := e4) h hk
set_option maxRecDepth 100000 in
set_option maxHeartbeats 4000000 in
theorem s_mm_times (G : en_G) (hz : G.2.2.2.2.2.2.2.2 = none) (d : Nat) {cs : List en_A} {σ : en_M}  {s0 : en_M}  (h : k_mm_times  σ = some s0) : en_Mt G (d + 4) 0 0 M_mm_times [.inr (.inl (some (24, 0, 0)))] cs en_rf σ (.inr (none)) cs en_rf s0 := by
  refine en_meth (ls := [some (.inr (.inl (some (24, 0, 0)))), none, none, none, none]) md_mm_times rfl rfl rfl ?_
  unfold k_mm_times at h
  refine en_s_iconst rfl ?_
  refine en_s_istore_n (ls' := [some (.inr (.inl (some (24, 0, 0)))), some (.inl 0), none, none, none]) rfl rfl rfl ?_
  obtain ⟨s18, h19, h⟩ := en_b1_h h
  refine s_mm_times_2 G hz en_fu (e2 := none) (e3 := none) (e4 := none) h19 (fun f17 => ?_)
  refine en_s_aload_n rfl rfl ?_
  refine en_s_getR (w := some (25, 0, 0)) rfl rfl rfl rfl ?_
  refine en_s_bipush rfl ?_
  refine en_c_iald (q := 6) rfl rfl (by decide) (by decide) ?_
  refine en_s_istore_n (ls' := [some (.inr (.inl (some (24, 0, 0)))), some (.inl (s18 25 0 0 6)), none, none, none]) rfl rfl rfl ?_
  obtain ⟨s56, h57, h⟩ := en_b1_h h
  refine s_mm_times_69 G hz en_fu (e2 := none) (e3 := none) (e4 := none) h57 (fun f52 f53 f54 f55 => ?_)
  cases h
  exact en_s_vret rfl rfl
def k_mm_isAhead (v1 : Int32) (v2 : Int32) (v3 : Int32) (v4 : Int32) (v5 : Int32) (v6 : Int32) : Int32 :=
  if v1 = v4 then
    if v2 = v5 then
      if v6 ≤ v3 then
        0
      else
        1
    else
      if v5 ≤ v2 then
        0
      else
        1
  else
    if v4 ≤ v1 then
      0
    else
      1
theorem z_mm_isAhead {v1 : Int32} {v2 : Int32} {v3 : Int32} {v4 : Int32} {v5 : Int32} {v6 : Int32} : k_mm_isAhead v1 v2 v3 v4 v5 v6 = 0 ∨ k_mm_isAhead v1 v2 v3 v4 v5 v6 = 1 := by
  unfold k_mm_isAhead
  (repeat' split) <;> first | exact Or.inl rfl | exact Or.inr rfl
set_option maxRecDepth 100000 in
set_option maxHeartbeats 4000000 in
theorem s_mm_isAhead (G : en_G) (hz : G.2.2.2.2.2.2.2.2 = none) (d : Nat) {cs : List en_A} {σ : en_M} {v1 : Int32} {v2 : Int32} {v3 : Int32} {v4 : Int32} {v5 : Int32} {v6 : Int32} {x0 : Int32}  (h : k_mm_isAhead v1 v2 v3 v4 v5 v6 = x0) : en_Mt G (d + 0) 0 0 M_mm_isAhead [.inr (.inl (some (24, 0, 0))), .inl v1, .inl v2, .inl v3, .inl v4, .inl v5, .inl v6] cs en_rf σ (.inr (some (.inl x0))) cs en_rf σ := by
  refine en_meth (ls := [some (.inr (.inl (some (24, 0, 0)))), some (.inl v1), some (.inl v2), some (.inl v3), some (.inl v4), some (.inl v5), some (.inl v6)]) md_mm_isAhead rfl rfl rfl ?_
  unfold k_mm_isAhead at h
  refine en_s_iload_n rfl rfl ?_
  refine en_s_iload rfl rfl ?_
  refine en_s_icmp_eq rfl (fun c1 => ?_) (fun c1 => ?_)
  · rw [if_pos c1] at h
    refine en_s_iload_n rfl rfl ?_
    refine en_s_iload rfl rfl ?_
    refine en_s_icmp_eq rfl (fun c2 => ?_) (fun c2 => ?_)
    · rw [if_pos c2] at h
      refine en_s_iload_n rfl rfl ?_
      refine en_s_iload rfl rfl ?_
      refine en_s_icmp_ge rfl (fun c3 => ?_) (fun c3 => ?_)
      · rw [if_pos c3] at h
        refine en_s_iconst rfl ?_
        subst h
        exact en_s_zret rfl rfl (Or.inl rfl)
      · rw [if_neg c3] at h
        refine en_s_iconst rfl ?_
        refine en_s_goto rfl ?_
        subst h
        exact en_s_zret rfl rfl (Or.inr rfl)
    · rw [if_neg c2] at h
      refine en_s_iload_n rfl rfl ?_
      refine en_s_iload rfl rfl ?_
      refine en_s_icmp_ge rfl (fun c4 => ?_) (fun c4 => ?_)
      · rw [if_pos c4] at h
        refine en_s_iconst rfl ?_
        refine en_s_goto rfl ?_
        subst h
        exact en_s_zret rfl rfl (Or.inl rfl)
      · rw [if_neg c4] at h
        refine en_s_iconst rfl ?_
        refine en_s_goto rfl ?_
        subst h
        exact en_s_zret rfl rfl (Or.inr rfl)
  · rw [if_neg c1] at h
    refine en_s_iload_n rfl rfl ?_
    refine en_s_iload rfl rfl ?_
    refine en_s_icmp_ge rfl (fun c5 => ?_) (fun c5 => ?_)
    · rw [if_pos c5] at h
      refine en_s_iconst rfl ?_
      subst h
      exact en_s_zret rfl rfl (Or.inl rfl)
    · rw [if_neg c5] at h
      refine en_s_iconst rfl ?_
      refine en_s_goto rfl ?_
      subst h
      exact en_s_zret rfl rfl (Or.inr rfl)
def k_mm_finds1_56 (f0 : Nat) (v1 : Int32) (v2 : Int32) (v3 : Int32) (v4 : Int32) (σ : en_M) : Option (Int32 × en_M) := match f0 with
  | 0 => none
  | f9 + 1 =>
    en_b1 (k_mm_piecesOf v3 σ) fun t12 =>
    if t12 ≤ v4 then
      some (v2, σ)
    else
      en_b1 (en_rd 160 (σ 30 0 0) (k_mm_placeIn v3 v4)) fun t15 =>
      en_b1 (k_mm_hasLeft v3 v4 σ) fun t17 =>
      if t17 = 0 then
        if v1 < t15 then
          k_mm_finds1_56 f9 v1 v2 v3 (v4 + 1) σ
        else
          if (σ 24 0 0 20) = (-1) then
            en_let (en_wr σ 24 0 0 20 v3) fun s22 =>
            en_let (en_wr s22 24 0 0 21 v4) fun s24 =>
            k_mm_finds1_56 f9 v1 t15 v3 (v4 + 1) s24
          else
            if (k_mm_isAhead t15 v3 v4 v2 (σ 24 0 0 20) (σ 24 0 0 21)) = 0 then
              k_mm_finds1_56 f9 v1 v2 v3 (v4 + 1) σ
            else
              en_let (en_wr σ 24 0 0 20 v3) fun s27 =>
              en_let (en_wr s27 24 0 0 21 v4) fun s29 =>
              k_mm_finds1_56 f9 v1 t15 v3 (v4 + 1) s29
      else
        k_mm_finds1_56 f9 v1 v2 v3 (v4 + 1) σ
def k_mm_finds1_15 (f0 : Nat) (v1 : Int32) (v2 : Int32) (v3 : Int32) (σ : en_M) : Option (en_M) := match f0 with
  | 0 => none
  | f9 + 1 =>
    if (σ 25 0 0 5) ≤ v3 then
      some (σ)
    else
      en_b1 (k_mm_of v3 4 σ) fun t4 =>
      if t4 = 1 then
        en_b1 (k_mm_of v3 0 σ) fun t7 =>
        en_b1 (k_mm_flowAt t7 2 σ) fun t9 =>
        if t9 = 1 then
          k_mm_finds1_15 f9 v1 v2 (v3 + 1) σ
        else
          en_b2 (k_mm_finds1_56 en_fu v1 v2 v3 0 σ) fun x31 s34 =>
          k_mm_finds1_15 f9 v1 x31 (v3 + 1) s34
      else
        k_mm_finds1_15 f9 v1 v2 (v3 + 1) σ
def k_mm_finds1 (v1 : Int32) (σ : en_M) : Option (Int32 × en_M) :=
  en_let (en_wr σ 24 0 0 20 (-1)) fun s1 =>
  en_b1 (k_mm_finds1_15 en_fu v1 0 (s1 25 0 0 6) s1) fun s40 =>
  if (s40 24 0 0 20) = (-1) then
    some (0, s40)
  else
    some (1, s40)
set_option maxRecDepth 100000 in
set_option maxHeartbeats 4000000 in
theorem s_mm_finds1_56 (G : en_G) (hz : G.2.2.2.2.2.2.2.2 = none) {d : Nat} {r : en_P} {cs cs' : List en_A} {ρ' : en_R} {σ' : en_M} : ∀ (f0 : Nat) {v1 : Int32} {v2 : Int32} {v3 : Int32} {v4 : Int32} {e5 : Option en_V} {σ : en_M} {x2 : Int32} {s0 : en_M} , k_mm_finds1_56 f0 v1 v2 v3 v4 σ = some (x2, s0) →
    (∀ (f4 : Option en_V) (f5 : Option en_V), en_W G (d + 4) 0 0 M_mm_finds1 r cs' ρ' σ' 0 0 147 [some (.inr (.inl (some (24, 0, 0)))), some (.inl v1), some (.inl x2), some (.inl v3), f4, f5] [] cs en_rf s0) → en_W G (d + 4) 0 0 M_mm_finds1 r cs' ρ' σ' 0 0 56 [some (.inr (.inl (some (24, 0, 0)))), some (.inl v1), some (.inl v2), some (.inl v3), some (.inl v4), e5] [] cs en_rf σ := by
  intro f0
  induction f0 with
  | zero =>
    intros
    rename_i h _
    cases h
  | succ f9 ih =>
    intro v1 v2 v3 v4 e5 σ x2 s0 h hk
    rw [k_mm_finds1_56] at h
    refine en_s_iload rfl rfl ?_
    refine en_s_aload_n rfl rfl ?_
    refine en_s_iload_n rfl rfl ?_
    obtain ⟨t12, h13, h⟩ := en_b1_h h
    refine en_callV (as := [.inl v3]) (rest := [.inl v4]) (bc' := 0) (bs' := 0) hz rfl (s_mm_piecesOf G hz (d + 0) h13) lk_10_82 mv_mm_piecesOf rfl rfl rfl rfl rfl (fun _ h => h) (Nat.le_refl _) (Nat.le_refl _) ?_
    refine en_s_icmp_ge rfl (fun c14 => ?_) (fun c14 => ?_)
    · rw [if_pos c14] at h
      cases h
      exact hk (some (.inl v4)) (e5)
    · rw [if_neg c14] at h
      refine en_s_aload_n rfl rfl ?_
      refine en_s_getR (w := some (30, 0, 0)) rfl rfl rfl rfl ?_
      refine en_s_iload_n rfl rfl ?_
      refine en_s_iload rfl rfl ?_
      refine en_callS (as := [.inl v3, .inl v4]) (rest := [.inr (.inl (some (30, 0, 0)))]) (bc' := 0) (bs' := 0) hz rfl (s_mm_placeIn G hz (d + 3) rfl) lk_10_95 mv_mm_placeIn rfl rfl rfl (fun _ h => h) (Nat.le_refl _) (Nat.le_refl _) ?_
      obtain ⟨t15, h16, h⟩ := en_b1_h h
      refine en_s_iald rfl rfl h16 ?_
      refine en_s_istore (ls' := [some (.inr (.inl (some (24, 0, 0)))), some (.inl v1), some (.inl v2), some (.inl v3), some (.inl v4), some (.inl t15)]) rfl rfl rfl ?_
      refine en_s_aload_n rfl rfl ?_
      refine en_s_iload_n rfl rfl ?_
      refine en_s_iload rfl rfl ?_
      obtain ⟨t17, h18, h⟩ := en_b1_h h
      refine en_callV (as := [.inl v3, .inl v4]) (rest := []) (bc' := 0) (bs' := 0) hz rfl (s_mm_hasLeft G hz (d + 1) h18) lk_10_85 mv_mm_hasLeft rfl rfl rfl rfl rfl (fun _ h => h) (Nat.le_refl _) (Nat.le_refl _) ?_
      refine en_s_if_ne rfl (fun c19 => ?_) (fun c19 => ?_)
      · rw [if_neg c19] at h
        refine en_s_iinc (ls' := [some (.inr (.inl (some (24, 0, 0)))), some (.inl v1), some (.inl v2), some (.inl v3), some (.inl (v4 + 1)), some (.inl t15)]) rfl rfl rfl ?_
        refine en_s_goto rfl ?_
        exact ih (e5 := some (.inl t15)) h hk
      · rw [if_pos c19] at h
        refine en_s_iload rfl rfl ?_
        refine en_s_iload_n rfl rfl ?_
        refine en_s_icmp_gt rfl (fun c20 => ?_) (fun c20 => ?_)
        · rw [if_pos c20] at h
          refine en_s_iinc (ls' := [some (.inr (.inl (some (24, 0, 0)))), some (.inl v1), some (.inl v2), some (.inl v3), some (.inl (v4 + 1)), some (.inl t15)]) rfl rfl rfl ?_
          refine en_s_goto rfl ?_
          exact ih (e5 := some (.inl t15)) h hk
        · rw [if_neg c20] at h
          refine en_s_aload_n rfl rfl ?_
          refine en_s_getI rfl rfl rfl ?_
          refine en_s_iconst rfl ?_
          refine en_s_icmp_eq rfl (fun c21 => ?_) (fun c21 => ?_)
          · rw [if_pos c21] at h
            refine en_s_aload_n rfl rfl ?_
            refine en_s_iload_n rfl rfl ?_
            obtain ⟨s22, e23, h⟩ := en_let_h h
            refine en_p_putI e23 rfl rfl rfl rfl rfl ?_
            refine en_s_aload_n rfl rfl ?_
            refine en_s_iload rfl rfl ?_
            obtain ⟨s24, e25, h⟩ := en_let_h h
            refine en_p_putI e25 rfl rfl rfl rfl rfl ?_
            refine en_s_iload rfl rfl ?_
            refine en_s_istore_n (ls' := [some (.inr (.inl (some (24, 0, 0)))), some (.inl v1), some (.inl t15), some (.inl v3), some (.inl v4), some (.inl t15)]) rfl rfl rfl ?_
            refine en_s_iinc (ls' := [some (.inr (.inl (some (24, 0, 0)))), some (.inl v1), some (.inl t15), some (.inl v3), some (.inl (v4 + 1)), some (.inl t15)]) rfl rfl rfl ?_
            refine en_s_goto rfl ?_
            exact ih (e5 := some (.inl t15)) h hk
          · rw [if_neg c21] at h
            refine en_s_aload_n rfl rfl ?_
            refine en_s_iload rfl rfl ?_
            refine en_s_iload_n rfl rfl ?_
            refine en_s_iload rfl rfl ?_
            refine en_s_iload_n rfl rfl ?_
            refine en_s_aload_n rfl rfl ?_
            refine en_s_getI rfl rfl rfl ?_
            refine en_s_aload_n rfl rfl ?_
            refine en_s_getI rfl rfl rfl ?_
            refine en_callV (as := [.inl t15, .inl v3, .inl v4, .inl v2, .inl (σ 24 0 0 20), .inl (σ 24 0 0 21)]) (rest := []) (bc' := 0) (bs' := 0) hz rfl (s_mm_isAhead G hz (d + 3) rfl) lk_10_124 mv_mm_isAhead rfl rfl rfl rfl rfl (fun _ h => h) (Nat.le_refl _) (Nat.le_refl _) ?_
            refine en_s_if_ne rfl (fun c26 => ?_) (fun c26 => ?_)
            · rw [if_neg c26] at h
              refine en_s_aload_n rfl rfl ?_
              refine en_s_iload_n rfl rfl ?_
              obtain ⟨s27, e28, h⟩ := en_let_h h
              refine en_p_putI e28 rfl rfl rfl rfl rfl ?_
              refine en_s_aload_n rfl rfl ?_
              refine en_s_iload rfl rfl ?_
              obtain ⟨s29, e30, h⟩ := en_let_h h
              refine en_p_putI e30 rfl rfl rfl rfl rfl ?_
              refine en_s_iload rfl rfl ?_
              refine en_s_istore_n (ls' := [some (.inr (.inl (some (24, 0, 0)))), some (.inl v1), some (.inl t15), some (.inl v3), some (.inl v4), some (.inl t15)]) rfl rfl rfl ?_
              refine en_s_iinc (ls' := [some (.inr (.inl (some (24, 0, 0)))), some (.inl v1), some (.inl t15), some (.inl v3), some (.inl (v4 + 1)), some (.inl t15)]) rfl rfl rfl ?_
              refine en_s_goto rfl ?_
              exact ih (e5 := some (.inl t15)) h hk
            · rw [if_pos c26] at h
              refine en_s_goto rfl ?_
              refine en_s_iinc (ls' := [some (.inr (.inl (some (24, 0, 0)))), some (.inl v1), some (.inl v2), some (.inl v3), some (.inl (v4 + 1)), some (.inl t15)]) rfl rfl rfl ?_
              refine en_s_goto rfl ?_
              exact ih (e5 := some (.inl t15)) h hk
set_option maxRecDepth 100000 in
set_option maxHeartbeats 4000000 in
theorem s_mm_finds1_15 (G : en_G) (hz : G.2.2.2.2.2.2.2.2 = none) {d : Nat} {r : en_P} {cs cs' : List en_A} {ρ' : en_R} {σ' : en_M} : ∀ (f0 : Nat) {v1 : Int32} {v2 : Int32} {v3 : Int32} {e4 e5 : Option en_V} {σ : en_M} {s0 : en_M} , k_mm_finds1_15 f0 v1 v2 v3 σ = some (s0) →
    (∀ (f2 : Option en_V) (f3 : Option en_V) (f4 : Option en_V) (f5 : Option en_V), en_W G (d + 4) 0 0 M_mm_finds1 r cs' ρ' σ' 0 0 153 [some (.inr (.inl (some (24, 0, 0)))), some (.inl v1), f2, f3, f4, f5] [] cs en_rf s0) → en_W G (d + 4) 0 0 M_mm_finds1 r cs' ρ' σ' 0 0 15 [some (.inr (.inl (some (24, 0, 0)))), some (.inl v1), some (.inl v2), some (.inl v3), e4, e5] [] cs en_rf σ := by
  intro f0
  induction f0 with
  | zero =>
    intros
    rename_i h _
    cases h
  | succ f9 ih =>
    intro v1 v2 v3 e4 e5 σ s0 h hk
    rw [k_mm_finds1_15] at h
    refine en_s_iload_n rfl rfl ?_
    refine en_s_aload_n rfl rfl ?_
    refine en_s_getR (w := some (25, 0, 0)) rfl rfl rfl rfl ?_
    refine en_s_iconst rfl ?_
    refine en_c_iald (q := 5) rfl rfl (by decide) (by decide) ?_
    refine en_s_icmp_ge rfl (fun c3 => ?_) (fun c3 => ?_)
    · rw [if_pos c3] at h
      cases h
      exact hk (some (.inl v2)) (some (.inl v3)) (e4) (e5)
    · rw [if_neg c3] at h
      refine en_s_aload_n rfl rfl ?_
      refine en_s_iload_n rfl rfl ?_
      refine en_s_iconst rfl ?_
      obtain ⟨t4, h5, h⟩ := en_b1_h h
      refine en_callV (as := [.inl v3, .inl 4]) (rest := []) (bc' := 0) (bs' := 0) hz rfl (s_mm_of G hz (d + 2) h5) lk_10_66 mv_mm_of rfl rfl rfl rfl rfl (fun _ h => h) (Nat.le_refl _) (Nat.le_refl _) ?_
      refine en_s_iconst rfl ?_
      refine en_s_icmp_ne rfl (fun c6 => ?_) (fun c6 => ?_)
      · rw [if_neg c6] at h
        refine en_s_iinc (ls' := [some (.inr (.inl (some (24, 0, 0)))), some (.inl v1), some (.inl v2), some (.inl (v3 + 1)), e4, e5]) rfl rfl rfl ?_
        refine en_s_goto rfl ?_
        exact ih (e4 := e4) (e5 := e5) h hk
      · rw [if_pos c6] at h
        refine en_s_aload_n rfl rfl ?_
        refine en_s_aload_n rfl rfl ?_
        refine en_s_iload_n rfl rfl ?_
        refine en_s_iconst rfl ?_
        obtain ⟨t7, h8, h⟩ := en_b1_h h
        refine en_callV (as := [.inl v3, .inl 0]) (rest := [.inr (.inl (some (24, 0, 0)))]) (bc' := 0) (bs' := 0) hz rfl (s_mm_of G hz (d + 2) h8) lk_10_66 mv_mm_of rfl rfl rfl rfl rfl (fun _ h => h) (Nat.le_refl _) (Nat.le_refl _) ?_
        refine en_s_iconst rfl ?_
        obtain ⟨t9, h10, h⟩ := en_b1_h h
        refine en_callV (as := [.inl t7, .inl 2]) (rest := []) (bc' := 0) (bs' := 0) hz rfl (s_mm_flowAt G hz (d + 3) h10) lk_10_89 mv_mm_flowAt rfl rfl rfl rfl rfl (fun _ h => h) (Nat.le_refl _) (Nat.le_refl _) ?_
        refine en_s_iconst rfl ?_
        refine en_s_icmp_ne rfl (fun c11 => ?_) (fun c11 => ?_)
        · rw [if_neg c11] at h
          refine en_s_iconst rfl ?_
          refine en_s_istore (ls' := [some (.inr (.inl (some (24, 0, 0)))), some (.inl v1), some (.inl v2), some (.inl v3), some (.inl 0), e5]) rfl rfl rfl ?_
          obtain ⟨x31, s34, h35, h⟩ := en_b2_h h
          refine s_mm_finds1_56 G hz en_fu (e5 := e5) h35 (fun f32 f33 => ?_)
          refine en_s_iinc (ls' := [some (.inr (.inl (some (24, 0, 0)))), some (.inl v1), some (.inl x31), some (.inl (v3 + 1)), f32, f33]) rfl rfl rfl ?_
          refine en_s_goto rfl ?_
          exact ih (e4 := f32) (e5 := f33) h hk
        · rw [if_pos c11] at h
          refine en_s_goto rfl ?_
          refine en_s_iinc (ls' := [some (.inr (.inl (some (24, 0, 0)))), some (.inl v1), some (.inl v2), some (.inl (v3 + 1)), e4, e5]) rfl rfl rfl ?_
          refine en_s_goto rfl ?_
          exact ih (e4 := e4) (e5 := e5) h hk
set_option maxRecDepth 100000 in
set_option maxHeartbeats 4000000 in
theorem s_mm_finds1 (G : en_G) (hz : G.2.2.2.2.2.2.2.2 = none) (d : Nat) {cs : List en_A} {σ : en_M} {v1 : Int32} {x0 : Int32} {s0 : en_M}  (h : k_mm_finds1 v1 σ = some (x0, s0)) : en_Mt G (d + 4) 0 0 M_mm_finds1 [.inr (.inl (some (24, 0, 0))), .inl v1] cs en_rf σ (.inr (some (.inl x0))) cs en_rf s0 := by
  refine en_meth (ls := [some (.inr (.inl (some (24, 0, 0)))), some (.inl v1), none, none, none, none]) md_mm_finds1 rfl rfl rfl ?_
  unfold k_mm_finds1 at h
  refine en_s_aload_n rfl rfl ?_
  refine en_s_iconst rfl ?_
  obtain ⟨s1, e2, h⟩ := en_let_h h
  refine en_p_putI e2 rfl rfl rfl rfl rfl ?_
  refine en_s_iconst rfl ?_
  refine en_s_istore_n (ls' := [some (.inr (.inl (some (24, 0, 0)))), some (.inl v1), some (.inl 0), none, none, none]) rfl rfl rfl ?_
  refine en_s_aload_n rfl rfl ?_
  refine en_s_getR (w := some (25, 0, 0)) rfl rfl rfl rfl ?_
  refine en_s_bipush rfl ?_
  refine en_c_iald (q := 6) rfl rfl (by decide) (by decide) ?_
  refine en_s_istore_n (ls' := [some (.inr (.inl (some (24, 0, 0)))), some (.inl v1), some (.inl 0), some (.inl (s1 25 0 0 6)), none, none]) rfl rfl rfl ?_
  obtain ⟨s40, h41, h⟩ := en_b1_h h
  refine s_mm_finds1_15 G hz en_fu (e4 := none) (e5 := none) h41 (fun f36 f37 f38 f39 => ?_)
  refine en_s_aload_n rfl rfl ?_
  refine en_s_getI rfl rfl rfl ?_
  refine en_s_iconst rfl ?_
  refine en_s_icmp_eq rfl (fun c42 => ?_) (fun c42 => ?_)
  · rw [if_pos c42] at h
    refine en_s_iconst rfl ?_
    cases h
    exact en_s_zret rfl rfl (Or.inl rfl)
  · rw [if_neg c42] at h
    refine en_s_iconst rfl ?_
    refine en_s_goto rfl ?_
    cases h
    exact en_s_zret rfl rfl (Or.inr rfl)
def k_mm_ticksOf (v1 : Int32) (σ : en_M) : Option (Int32) :=
  en_b1 (en_dv ((v1 + (σ 25 0 0 1)) - 1) (σ 25 0 0 1)) fun t1 =>
  some t1
set_option maxRecDepth 100000 in
set_option maxHeartbeats 4000000 in
theorem s_mm_ticksOf (G : en_G) (hz : G.2.2.2.2.2.2.2.2 = none) (d : Nat) {cs : List en_A} {σ : en_M} {v1 : Int32} {x0 : Int32}  (h : k_mm_ticksOf v1 σ = some x0) : en_Mt G (d + 0) 0 0 M_mm_ticksOf [.inr (.inl (some (24, 0, 0))), .inl v1] cs en_rf σ (.inr (some (.inl x0))) cs en_rf σ := by
  refine en_meth (ls := [some (.inr (.inl (some (24, 0, 0)))), some (.inl v1)]) md_mm_ticksOf rfl rfl rfl ?_
  unfold k_mm_ticksOf at h
  refine en_s_iload_n rfl rfl ?_
  refine en_s_aload_n rfl rfl ?_
  refine en_s_getR (w := some (25, 0, 0)) rfl rfl rfl rfl ?_
  refine en_s_iconst rfl ?_
  refine en_c_iald (q := 1) rfl rfl (by decide) (by decide) ?_
  refine en_s_iadd rfl ?_
  refine en_s_iconst rfl ?_
  refine en_s_isub rfl ?_
  refine en_s_aload_n rfl rfl ?_
  refine en_s_getR (w := some (25, 0, 0)) rfl rfl rfl rfl ?_
  refine en_s_iconst rfl ?_
  refine en_c_iald (q := 1) rfl rfl (by decide) (by decide) ?_
  obtain ⟨t1, h2, h⟩ := en_b1_h h
  refine en_p_idiv h2 rfl ?_
  cases h
  exact en_s_iret rfl rfl
def k_mm_logs_17 (f0 : Nat) (v1 : Int32) (v2 : Int32) (v3 : Int32) (v4 : Int32) (σ : en_M) : Option (en_M) := match f0 with
  | 0 => none
  | f9 + 1 =>
    if 891 ≤ v4 then
      some (σ)
    else
      en_b1 (en_rd 938 (σ 25 0 0) (v4 + 7)) fun t27 =>
      en_b1 (en_wa 938 σ 25 0 0 v4 t27) fun s29 =>
      k_mm_logs_17 f9 v1 v2 v3 (v4 + 1) s29
def k_mm_logs (v1 : Int32) (v2 : Int32) (v3 : Int32) (σ : en_M) : Option (en_M) :=
  if (σ 25 0 0 18) = 40 then
    en_b1 (k_mm_logs_17 en_fu v1 v2 v3 618 σ) fun s32 =>
    en_let (en_wr s32 25 0 0 18 ((s32 25 0 0 18) - 1)) fun s34 =>
    en_b1 (en_wa 938 s34 25 0 0 (618 + (7 * (s34 25 0 0 18))) v1) fun s36 =>
    en_b1 (en_wa 938 s36 25 0 0 ((618 + (7 * (s34 25 0 0 18))) + 1) v2) fun s38 =>
    en_b1 (k_mm_of v1 0 s38) fun t40 =>
    en_b1 (en_wa 938 s38 25 0 0 ((618 + (7 * (s34 25 0 0 18))) + 2) t40) fun s42 =>
    en_b1 (k_mm_sizeOf v1 v2 s42) fun t44 =>
    en_b1 (en_wa 938 s42 25 0 0 ((618 + (7 * (s34 25 0 0 18))) + 3) t44) fun s46 =>
    en_b1 (en_wa 938 s46 25 0 0 ((618 + (7 * (s34 25 0 0 18))) + 4) v3) fun s48 =>
    en_b1 (en_wa 938 s48 25 0 0 ((618 + (7 * (s34 25 0 0 18))) + 5) (s48 25 0 0 4)) fun s50 =>
    en_b1 (k_mm_of v1 7 s50) fun t52 =>
    en_b1 (k_mm_of v1 2 s50) fun t54 =>
    en_b1 (en_wa 938 s50 25 0 0 ((618 + (7 * (s34 25 0 0 18))) + 6) (t52 + (v2 * t54))) fun s56 =>
    en_let (en_wr s56 25 0 0 18 ((s56 25 0 0 18) + 1)) fun s58 =>
    some s58
  else
    en_b1 (en_wa 938 σ 25 0 0 (618 + (7 * (σ 25 0 0 18))) v1) fun s2 =>
    en_b1 (en_wa 938 s2 25 0 0 ((618 + (7 * (σ 25 0 0 18))) + 1) v2) fun s4 =>
    en_b1 (k_mm_of v1 0 s4) fun t6 =>
    en_b1 (en_wa 938 s4 25 0 0 ((618 + (7 * (σ 25 0 0 18))) + 2) t6) fun s8 =>
    en_b1 (k_mm_sizeOf v1 v2 s8) fun t10 =>
    en_b1 (en_wa 938 s8 25 0 0 ((618 + (7 * (σ 25 0 0 18))) + 3) t10) fun s12 =>
    en_b1 (en_wa 938 s12 25 0 0 ((618 + (7 * (σ 25 0 0 18))) + 4) v3) fun s14 =>
    en_b1 (en_wa 938 s14 25 0 0 ((618 + (7 * (σ 25 0 0 18))) + 5) (s14 25 0 0 4)) fun s16 =>
    en_b1 (k_mm_of v1 7 s16) fun t18 =>
    en_b1 (k_mm_of v1 2 s16) fun t20 =>
    en_b1 (en_wa 938 s16 25 0 0 ((618 + (7 * (σ 25 0 0 18))) + 6) (t18 + (v2 * t20))) fun s22 =>
    en_let (en_wr s22 25 0 0 18 ((s22 25 0 0 18) + 1)) fun s24 =>
    some s24
set_option maxRecDepth 100000 in
set_option maxHeartbeats 4000000 in
theorem s_mm_logs_17 (G : en_G) (hz : G.2.2.2.2.2.2.2.2 = none) {d : Nat} {r : en_P} {cs cs' : List en_A} {ρ' : en_R} {σ' : en_M} : ∀ (f0 : Nat) {v1 : Int32} {v2 : Int32} {v3 : Int32} {v4 : Int32}  {σ : en_M} {s0 : en_M} , k_mm_logs_17 f0 v1 v2 v3 v4 σ = some (s0) →
    (∀ (f4 : Option en_V), en_W G (d + 4) 0 0 M_mm_logs r cs' ρ' σ' 0 0 48 [some (.inr (.inl (some (24, 0, 0)))), some (.inl v1), some (.inl v2), some (.inl v3), f4] [] cs en_rf s0) → en_W G (d + 4) 0 0 M_mm_logs r cs' ρ' σ' 0 0 17 [some (.inr (.inl (some (24, 0, 0)))), some (.inl v1), some (.inl v2), some (.inl v3), some (.inl v4)] [] cs en_rf σ := by
  intro f0
  induction f0 with
  | zero =>
    intros
    rename_i h _
    cases h
  | succ f9 ih =>
    intro v1 v2 v3 v4 σ s0 h hk
    rw [k_mm_logs_17] at h
    refine en_s_iload rfl rfl ?_
    refine en_s_sipush rfl ?_
    refine en_s_icmp_ge rfl (fun c26 => ?_) (fun c26 => ?_)
    · rw [if_pos c26] at h
      cases h
      exact hk (some (.inl v4))
    · rw [if_neg c26] at h
      refine en_s_aload_n rfl rfl ?_
      refine en_s_getR (w := some (25, 0, 0)) rfl rfl rfl rfl ?_
      refine en_s_iload rfl rfl ?_
      refine en_s_aload_n rfl rfl ?_
      refine en_s_getR (w := some (25, 0, 0)) rfl rfl rfl rfl ?_
      refine en_s_iload rfl rfl ?_
      refine en_s_bipush rfl ?_
      refine en_s_iadd rfl ?_
      obtain ⟨t27, h28, h⟩ := en_b1_h h
      refine en_s_iald rfl rfl h28 ?_
      obtain ⟨s29, e30, h⟩ := en_b1_h h
      refine en_s_iast rfl rfl e30 ?_
      refine en_s_iinc (ls' := [some (.inr (.inl (some (24, 0, 0)))), some (.inl v1), some (.inl v2), some (.inl v3), some (.inl (v4 + 1))]) rfl rfl rfl ?_
      refine en_s_goto rfl ?_
      exact ih  h hk
set_option maxRecDepth 100000 in
set_option maxHeartbeats 4000000 in
theorem s_mm_logs (G : en_G) (hz : G.2.2.2.2.2.2.2.2 = none) (d : Nat) {cs : List en_A} {σ : en_M} {v1 : Int32} {v2 : Int32} {v3 : Int32} {s0 : en_M}  (h : k_mm_logs v1 v2 v3 σ = some s0) : en_Mt G (d + 4) 0 0 M_mm_logs [.inr (.inl (some (24, 0, 0))), .inl v1, .inl v2, .inl v3] cs en_rf σ (.inr (none)) cs en_rf s0 := by
  refine en_meth (ls := [some (.inr (.inl (some (24, 0, 0)))), some (.inl v1), some (.inl v2), some (.inl v3), none]) md_mm_logs rfl rfl rfl ?_
  unfold k_mm_logs at h
  refine en_s_aload_n rfl rfl ?_
  refine en_s_getR (w := some (25, 0, 0)) rfl rfl rfl rfl ?_
  refine en_s_bipush rfl ?_
  refine en_c_iald (q := 18) rfl rfl (by decide) (by decide) ?_
  refine en_s_bipush rfl ?_
  refine en_s_icmp_ne rfl (fun c1 => ?_) (fun c1 => ?_)
  · rw [if_neg c1] at h
    refine en_s_sipush rfl ?_
    refine en_s_bipush rfl ?_
    refine en_s_aload_n rfl rfl ?_
    refine en_s_getR (w := some (25, 0, 0)) rfl rfl rfl rfl ?_
    refine en_s_bipush rfl ?_
    refine en_c_iald (q := 18) rfl rfl (by decide) (by decide) ?_
    refine en_s_imul rfl ?_
    refine en_s_iadd rfl ?_
    refine en_s_istore (ls' := [some (.inr (.inl (some (24, 0, 0)))), some (.inl v1), some (.inl v2), some (.inl v3), some (.inl (618 + (7 * (σ 25 0 0 18))))]) rfl rfl rfl ?_
    refine en_s_aload_n rfl rfl ?_
    refine en_s_getR (w := some (25, 0, 0)) rfl rfl rfl rfl ?_
    refine en_s_iload rfl rfl ?_
    refine en_s_iload_n rfl rfl ?_
    obtain ⟨s2, e3, h⟩ := en_b1_h h
    refine en_s_iast rfl rfl e3 ?_
    refine en_s_aload_n rfl rfl ?_
    refine en_s_getR (w := some (25, 0, 0)) rfl rfl rfl rfl ?_
    refine en_s_iload rfl rfl ?_
    refine en_s_iconst rfl ?_
    refine en_s_iadd rfl ?_
    refine en_s_iload_n rfl rfl ?_
    obtain ⟨s4, e5, h⟩ := en_b1_h h
    refine en_s_iast rfl rfl e5 ?_
    refine en_s_aload_n rfl rfl ?_
    refine en_s_getR (w := some (25, 0, 0)) rfl rfl rfl rfl ?_
    refine en_s_iload rfl rfl ?_
    refine en_s_iconst rfl ?_
    refine en_s_iadd rfl ?_
    refine en_s_aload_n rfl rfl ?_
    refine en_s_iload_n rfl rfl ?_
    refine en_s_iconst rfl ?_
    obtain ⟨t6, h7, h⟩ := en_b1_h h
    refine en_callV (as := [.inl v1, .inl 0]) (rest := [.inl ((618 + (7 * (σ 25 0 0 18))) + 2), .inr (.inl (some (25, 0, 0)))]) (bc' := 0) (bs' := 0) hz rfl (s_mm_of G hz (d + 2) h7) lk_10_66 mv_mm_of rfl rfl rfl rfl rfl (fun _ h => h) (Nat.le_refl _) (Nat.le_refl _) ?_
    obtain ⟨s8, e9, h⟩ := en_b1_h h
    refine en_s_iast rfl rfl e9 ?_
    refine en_s_aload_n rfl rfl ?_
    refine en_s_getR (w := some (25, 0, 0)) rfl rfl rfl rfl ?_
    refine en_s_iload rfl rfl ?_
    refine en_s_iconst rfl ?_
    refine en_s_iadd rfl ?_
    refine en_s_aload_n rfl rfl ?_
    refine en_s_iload_n rfl rfl ?_
    refine en_s_iload_n rfl rfl ?_
    obtain ⟨t10, h11, h⟩ := en_b1_h h
    refine en_callV (as := [.inl v1, .inl v2]) (rest := [.inl ((618 + (7 * (σ 25 0 0 18))) + 3), .inr (.inl (some (25, 0, 0)))]) (bc' := 0) (bs' := 0) hz rfl (s_mm_sizeOf G hz (d + 0) h11) lk_10_98 mv_mm_sizeOf rfl rfl rfl rfl rfl (fun _ h => h) (Nat.le_refl _) (Nat.le_refl _) ?_
    obtain ⟨s12, e13, h⟩ := en_b1_h h
    refine en_s_iast rfl rfl e13 ?_
    refine en_s_aload_n rfl rfl ?_
    refine en_s_getR (w := some (25, 0, 0)) rfl rfl rfl rfl ?_
    refine en_s_iload rfl rfl ?_
    refine en_s_iconst rfl ?_
    refine en_s_iadd rfl ?_
    refine en_s_iload_n rfl rfl ?_
    obtain ⟨s14, e15, h⟩ := en_b1_h h
    refine en_s_iast rfl rfl e15 ?_
    refine en_s_aload_n rfl rfl ?_
    refine en_s_getR (w := some (25, 0, 0)) rfl rfl rfl rfl ?_
    refine en_s_iload rfl rfl ?_
    refine en_s_iconst rfl ?_
    refine en_s_iadd rfl ?_
    refine en_s_aload_n rfl rfl ?_
    refine en_s_getR (w := some (25, 0, 0)) rfl rfl rfl rfl ?_
    refine en_s_iconst rfl ?_
    refine en_c_iald (q := 4) rfl rfl (by decide) (by decide) ?_
    obtain ⟨s16, e17, h⟩ := en_b1_h h
    refine en_s_iast rfl rfl e17 ?_
    refine en_s_aload_n rfl rfl ?_
    refine en_s_getR (w := some (25, 0, 0)) rfl rfl rfl rfl ?_
    refine en_s_iload rfl rfl ?_
    refine en_s_bipush rfl ?_
    refine en_s_iadd rfl ?_
    refine en_s_aload_n rfl rfl ?_
    refine en_s_iload_n rfl rfl ?_
    refine en_s_bipush rfl ?_
    obtain ⟨t18, h19, h⟩ := en_b1_h h
    refine en_callV (as := [.inl v1, .inl 7]) (rest := [.inl ((618 + (7 * (σ 25 0 0 18))) + 6), .inr (.inl (some (25, 0, 0)))]) (bc' := 0) (bs' := 0) hz rfl (s_mm_of G hz (d + 2) h19) lk_10_66 mv_mm_of rfl rfl rfl rfl rfl (fun _ h => h) (Nat.le_refl _) (Nat.le_refl _) ?_
    refine en_s_iload_n rfl rfl ?_
    refine en_s_aload_n rfl rfl ?_
    refine en_s_iload_n rfl rfl ?_
    refine en_s_iconst rfl ?_
    obtain ⟨t20, h21, h⟩ := en_b1_h h
    refine en_callV (as := [.inl v1, .inl 2]) (rest := [.inl v2, .inl t18, .inl ((618 + (7 * (σ 25 0 0 18))) + 6), .inr (.inl (some (25, 0, 0)))]) (bc' := 0) (bs' := 0) hz rfl (s_mm_of G hz (d + 2) h21) lk_10_66 mv_mm_of rfl rfl rfl rfl rfl (fun _ h => h) (Nat.le_refl _) (Nat.le_refl _) ?_
    refine en_s_imul rfl ?_
    refine en_s_iadd rfl ?_
    obtain ⟨s22, e23, h⟩ := en_b1_h h
    refine en_s_iast rfl rfl e23 ?_
    refine en_s_aload_n rfl rfl ?_
    refine en_s_getR (w := some (25, 0, 0)) rfl rfl rfl rfl ?_
    refine en_s_bipush rfl ?_
    refine en_s_dup2 rfl rfl rfl ?_
    refine en_c_iald (q := 18) rfl rfl (by decide) (by decide) ?_
    refine en_s_iconst rfl ?_
    refine en_s_iadd rfl ?_
    obtain ⟨s24, e25, h⟩ := en_let_h h
    refine en_c_iast (q := 18) e25 rfl rfl (by decide) (by decide) ?_
    cases h
    exact en_s_vret rfl rfl
  · rw [if_pos c1] at h
    refine en_s_sipush rfl ?_
    refine en_s_istore (ls' := [some (.inr (.inl (some (24, 0, 0)))), some (.inl v1), some (.inl v2), some (.inl v3), some (.inl 618)]) rfl rfl rfl ?_
    obtain ⟨s32, h33, h⟩ := en_b1_h h
    refine s_mm_logs_17 G hz en_fu  h33 (fun f31 => ?_)
    refine en_s_aload_n rfl rfl ?_
    refine en_s_getR (w := some (25, 0, 0)) rfl rfl rfl rfl ?_
    refine en_s_bipush rfl ?_
    refine en_s_dup2 rfl rfl rfl ?_
    refine en_c_iald (q := 18) rfl rfl (by decide) (by decide) ?_
    refine en_s_iconst rfl ?_
    refine en_s_isub rfl ?_
    obtain ⟨s34, e35, h⟩ := en_let_h h
    refine en_c_iast (q := 18) e35 rfl rfl (by decide) (by decide) ?_
    refine en_s_sipush rfl ?_
    refine en_s_bipush rfl ?_
    refine en_s_aload_n rfl rfl ?_
    refine en_s_getR (w := some (25, 0, 0)) rfl rfl rfl rfl ?_
    refine en_s_bipush rfl ?_
    refine en_c_iald (q := 18) rfl rfl (by decide) (by decide) ?_
    refine en_s_imul rfl ?_
    refine en_s_iadd rfl ?_
    refine en_s_istore (ls' := [some (.inr (.inl (some (24, 0, 0)))), some (.inl v1), some (.inl v2), some (.inl v3), some (.inl (618 + (7 * (s34 25 0 0 18))))]) rfl rfl rfl ?_
    refine en_s_aload_n rfl rfl ?_
    refine en_s_getR (w := some (25, 0, 0)) rfl rfl rfl rfl ?_
    refine en_s_iload rfl rfl ?_
    refine en_s_iload_n rfl rfl ?_
    obtain ⟨s36, e37, h⟩ := en_b1_h h
    refine en_s_iast rfl rfl e37 ?_
    refine en_s_aload_n rfl rfl ?_
    refine en_s_getR (w := some (25, 0, 0)) rfl rfl rfl rfl ?_
    refine en_s_iload rfl rfl ?_
    refine en_s_iconst rfl ?_
    refine en_s_iadd rfl ?_
    refine en_s_iload_n rfl rfl ?_
    obtain ⟨s38, e39, h⟩ := en_b1_h h
    refine en_s_iast rfl rfl e39 ?_
    refine en_s_aload_n rfl rfl ?_
    refine en_s_getR (w := some (25, 0, 0)) rfl rfl rfl rfl ?_
    refine en_s_iload rfl rfl ?_
    refine en_s_iconst rfl ?_
    refine en_s_iadd rfl ?_
    refine en_s_aload_n rfl rfl ?_
    refine en_s_iload_n rfl rfl ?_
    refine en_s_iconst rfl ?_
    obtain ⟨t40, h41, h⟩ := en_b1_h h
    refine en_callV (as := [.inl v1, .inl 0]) (rest := [.inl ((618 + (7 * (s34 25 0 0 18))) + 2), .inr (.inl (some (25, 0, 0)))]) (bc' := 0) (bs' := 0) hz rfl (s_mm_of G hz (d + 2) h41) lk_10_66 mv_mm_of rfl rfl rfl rfl rfl (fun _ h => h) (Nat.le_refl _) (Nat.le_refl _) ?_
    obtain ⟨s42, e43, h⟩ := en_b1_h h
    refine en_s_iast rfl rfl e43 ?_
    refine en_s_aload_n rfl rfl ?_
    refine en_s_getR (w := some (25, 0, 0)) rfl rfl rfl rfl ?_
    refine en_s_iload rfl rfl ?_
    refine en_s_iconst rfl ?_
    refine en_s_iadd rfl ?_
    refine en_s_aload_n rfl rfl ?_
    refine en_s_iload_n rfl rfl ?_
    refine en_s_iload_n rfl rfl ?_
    obtain ⟨t44, h45, h⟩ := en_b1_h h
    refine en_callV (as := [.inl v1, .inl v2]) (rest := [.inl ((618 + (7 * (s34 25 0 0 18))) + 3), .inr (.inl (some (25, 0, 0)))]) (bc' := 0) (bs' := 0) hz rfl (s_mm_sizeOf G hz (d + 0) h45) lk_10_98 mv_mm_sizeOf rfl rfl rfl rfl rfl (fun _ h => h) (Nat.le_refl _) (Nat.le_refl _) ?_
    obtain ⟨s46, e47, h⟩ := en_b1_h h
    refine en_s_iast rfl rfl e47 ?_
    refine en_s_aload_n rfl rfl ?_
    refine en_s_getR (w := some (25, 0, 0)) rfl rfl rfl rfl ?_
    refine en_s_iload rfl rfl ?_
    refine en_s_iconst rfl ?_
    refine en_s_iadd rfl ?_
    refine en_s_iload_n rfl rfl ?_
    obtain ⟨s48, e49, h⟩ := en_b1_h h
    refine en_s_iast rfl rfl e49 ?_
    refine en_s_aload_n rfl rfl ?_
    refine en_s_getR (w := some (25, 0, 0)) rfl rfl rfl rfl ?_
    refine en_s_iload rfl rfl ?_
    refine en_s_iconst rfl ?_
    refine en_s_iadd rfl ?_
    refine en_s_aload_n rfl rfl ?_
    refine en_s_getR (w := some (25, 0, 0)) rfl rfl rfl rfl ?_
    refine en_s_iconst rfl ?_
    refine en_c_iald (q := 4) rfl rfl (by decide) (by decide) ?_
    obtain ⟨s50, e51, h⟩ := en_b1_h h
    refine en_s_iast rfl rfl e51 ?_
    refine en_s_aload_n rfl rfl ?_
    refine en_s_getR (w := some (25, 0, 0)) rfl rfl rfl rfl ?_
    refine en_s_iload rfl rfl ?_
    refine en_s_bipush rfl ?_
    refine en_s_iadd rfl ?_
    refine en_s_aload_n rfl rfl ?_
    refine en_s_iload_n rfl rfl ?_
    refine en_s_bipush rfl ?_
    obtain ⟨t52, h53, h⟩ := en_b1_h h
    refine en_callV (as := [.inl v1, .inl 7]) (rest := [.inl ((618 + (7 * (s34 25 0 0 18))) + 6), .inr (.inl (some (25, 0, 0)))]) (bc' := 0) (bs' := 0) hz rfl (s_mm_of G hz (d + 2) h53) lk_10_66 mv_mm_of rfl rfl rfl rfl rfl (fun _ h => h) (Nat.le_refl _) (Nat.le_refl _) ?_
    refine en_s_iload_n rfl rfl ?_
    refine en_s_aload_n rfl rfl ?_
    refine en_s_iload_n rfl rfl ?_
    refine en_s_iconst rfl ?_
    obtain ⟨t54, h55, h⟩ := en_b1_h h
    refine en_callV (as := [.inl v1, .inl 2]) (rest := [.inl v2, .inl t52, .inl ((618 + (7 * (s34 25 0 0 18))) + 6), .inr (.inl (some (25, 0, 0)))]) (bc' := 0) (bs' := 0) hz rfl (s_mm_of G hz (d + 2) h55) lk_10_66 mv_mm_of rfl rfl rfl rfl rfl (fun _ h => h) (Nat.le_refl _) (Nat.le_refl _) ?_
    refine en_s_imul rfl ?_
    refine en_s_iadd rfl ?_
    obtain ⟨s56, e57, h⟩ := en_b1_h h
    refine en_s_iast rfl rfl e57 ?_
    refine en_s_aload_n rfl rfl ?_
    refine en_s_getR (w := some (25, 0, 0)) rfl rfl rfl rfl ?_
    refine en_s_bipush rfl ?_
    refine en_s_dup2 rfl rfl rfl ?_
    refine en_c_iald (q := 18) rfl rfl (by decide) (by decide) ?_
    refine en_s_iconst rfl ?_
    refine en_s_iadd rfl ?_
    obtain ⟨s58, e59, h⟩ := en_let_h h
    refine en_c_iast (q := 18) e59 rfl rfl (by decide) (by decide) ?_
    cases h
    exact en_s_vret rfl rfl
def k_mm_leaves (v1 : Int32) (v2 : Int32) (σ : en_M) : Option (en_M) :=
  en_b1 (en_rd 160 (σ 30 0 0) (k_mm_placeIn v1 v2)) fun t1 =>
  en_b1 (k_mm_sizeOf v1 v2 σ) fun t3 =>
  en_b1 (k_mm_of v1 0 σ) fun t5 =>
  en_b1 (en_wa 938 σ 25 0 0 (k_mm_pieceAt v1 v2 0) t1) fun s7 =>
  en_b1 (en_wa 938 s7 25 0 0 (k_mm_pieceAt v1 v2 1) (s7 25 0 0 4)) fun s9 =>
  en_b1 (en_wa 938 s9 25 0 0 ((20 + (9 * t5)) + 4) 1) fun s11 =>
  en_b1 (en_wa 938 s11 25 0 0 ((20 + (9 * t5)) + 5) t1) fun s13 =>
  en_b1 (en_wa 938 s13 25 0 0 ((20 + (9 * t5)) + 6) t3) fun s15 =>
  en_let (en_wr s15 25 0 0 15 v1) fun s17 =>
  en_let (en_wr s17 25 0 0 16 v2) fun s19 =>
  en_b1 (k_mm_ticksOf t3 s19) fun t21 =>
  en_let (en_wr s19 25 0 0 17 t21) fun s23 =>
  en_b1 (k_mm_logs v1 v2 t1 s23) fun s25 =>
  some s25
set_option maxRecDepth 100000 in
set_option maxHeartbeats 4000000 in
theorem s_mm_leaves (G : en_G) (hz : G.2.2.2.2.2.2.2.2 = none) (d : Nat) {cs : List en_A} {σ : en_M} {v1 : Int32} {v2 : Int32} {s0 : en_M}  (h : k_mm_leaves v1 v2 σ = some s0) : en_Mt G (d + 5) 0 0 M_mm_leaves [.inr (.inl (some (24, 0, 0))), .inl v1, .inl v2] cs en_rf σ (.inr (none)) cs en_rf s0 := by
  refine en_meth (ls := [some (.inr (.inl (some (24, 0, 0)))), some (.inl v1), some (.inl v2), none, none, none]) md_mm_leaves rfl rfl rfl ?_
  unfold k_mm_leaves at h
  refine en_s_aload_n rfl rfl ?_
  refine en_s_getR (w := some (30, 0, 0)) rfl rfl rfl rfl ?_
  refine en_s_iload_n rfl rfl ?_
  refine en_s_iload_n rfl rfl ?_
  refine en_callS (as := [.inl v1, .inl v2]) (rest := [.inr (.inl (some (30, 0, 0)))]) (bc' := 0) (bs' := 0) hz rfl (s_mm_placeIn G hz (d + 4) rfl) lk_10_95 mv_mm_placeIn rfl rfl rfl (fun _ h => h) (Nat.le_refl _) (Nat.le_refl _) ?_
  obtain ⟨t1, h2, h⟩ := en_b1_h h
  refine en_s_iald rfl rfl h2 ?_
  refine en_s_istore_n (ls' := [some (.inr (.inl (some (24, 0, 0)))), some (.inl v1), some (.inl v2), some (.inl t1), none, none]) rfl rfl rfl ?_
  refine en_s_aload_n rfl rfl ?_
  refine en_s_iload_n rfl rfl ?_
  refine en_s_iload_n rfl rfl ?_
  obtain ⟨t3, h4, h⟩ := en_b1_h h
  refine en_callV (as := [.inl v1, .inl v2]) (rest := []) (bc' := 0) (bs' := 0) hz rfl (s_mm_sizeOf G hz (d + 1) h4) lk_10_98 mv_mm_sizeOf rfl rfl rfl rfl rfl (fun _ h => h) (Nat.le_refl _) (Nat.le_refl _) ?_
  refine en_s_istore (ls' := [some (.inr (.inl (some (24, 0, 0)))), some (.inl v1), some (.inl v2), some (.inl t1), some (.inl t3), none]) rfl rfl rfl ?_
  refine en_s_bipush rfl ?_
  refine en_s_bipush rfl ?_
  refine en_s_aload_n rfl rfl ?_
  refine en_s_iload_n rfl rfl ?_
  refine en_s_iconst rfl ?_
  obtain ⟨t5, h6, h⟩ := en_b1_h h
  refine en_callV (as := [.inl v1, .inl 0]) (rest := [.inl 9, .inl 20]) (bc' := 0) (bs' := 0) hz rfl (s_mm_of G hz (d + 3) h6) lk_10_66 mv_mm_of rfl rfl rfl rfl rfl (fun _ h => h) (Nat.le_refl _) (Nat.le_refl _) ?_
  refine en_s_imul rfl ?_
  refine en_s_iadd rfl ?_
  refine en_s_istore (ls' := [some (.inr (.inl (some (24, 0, 0)))), some (.inl v1), some (.inl v2), some (.inl t1), some (.inl t3), some (.inl (20 + (9 * t5)))]) rfl rfl rfl ?_
  refine en_s_aload_n rfl rfl ?_
  refine en_s_getR (w := some (25, 0, 0)) rfl rfl rfl rfl ?_
  refine en_s_iload_n rfl rfl ?_
  refine en_s_iload_n rfl rfl ?_
  refine en_s_iconst rfl ?_
  refine en_callS (as := [.inl v1, .inl v2, .inl 0]) (rest := [.inr (.inl (some (25, 0, 0)))]) (bc' := 0) (bs' := 0) hz rfl (s_mm_pieceAt G hz (d + 3) rfl) lk_10_78 mv_mm_pieceAt rfl rfl rfl (fun _ h => h) (Nat.le_refl _) (Nat.le_refl _) ?_
  refine en_s_iload_n rfl rfl ?_
  obtain ⟨s7, e8, h⟩ := en_b1_h h
  refine en_s_iast rfl rfl e8 ?_
  refine en_s_aload_n rfl rfl ?_
  refine en_s_getR (w := some (25, 0, 0)) rfl rfl rfl rfl ?_
  refine en_s_iload_n rfl rfl ?_
  refine en_s_iload_n rfl rfl ?_
  refine en_s_iconst rfl ?_
  refine en_callS (as := [.inl v1, .inl v2, .inl 1]) (rest := [.inr (.inl (some (25, 0, 0)))]) (bc' := 0) (bs' := 0) hz rfl (s_mm_pieceAt G hz (d + 3) rfl) lk_10_78 mv_mm_pieceAt rfl rfl rfl (fun _ h => h) (Nat.le_refl _) (Nat.le_refl _) ?_
  refine en_s_aload_n rfl rfl ?_
  refine en_s_getR (w := some (25, 0, 0)) rfl rfl rfl rfl ?_
  refine en_s_iconst rfl ?_
  refine en_c_iald (q := 4) rfl rfl (by decide) (by decide) ?_
  obtain ⟨s9, e10, h⟩ := en_b1_h h
  refine en_s_iast rfl rfl e10 ?_
  refine en_s_aload_n rfl rfl ?_
  refine en_s_getR (w := some (25, 0, 0)) rfl rfl rfl rfl ?_
  refine en_s_iload rfl rfl ?_
  refine en_s_iconst rfl ?_
  refine en_s_iadd rfl ?_
  refine en_s_iconst rfl ?_
  obtain ⟨s11, e12, h⟩ := en_b1_h h
  refine en_s_iast rfl rfl e12 ?_
  refine en_s_aload_n rfl rfl ?_
  refine en_s_getR (w := some (25, 0, 0)) rfl rfl rfl rfl ?_
  refine en_s_iload rfl rfl ?_
  refine en_s_iconst rfl ?_
  refine en_s_iadd rfl ?_
  refine en_s_iload_n rfl rfl ?_
  obtain ⟨s13, e14, h⟩ := en_b1_h h
  refine en_s_iast rfl rfl e14 ?_
  refine en_s_aload_n rfl rfl ?_
  refine en_s_getR (w := some (25, 0, 0)) rfl rfl rfl rfl ?_
  refine en_s_iload rfl rfl ?_
  refine en_s_bipush rfl ?_
  refine en_s_iadd rfl ?_
  refine en_s_iload rfl rfl ?_
  obtain ⟨s15, e16, h⟩ := en_b1_h h
  refine en_s_iast rfl rfl e16 ?_
  refine en_s_aload_n rfl rfl ?_
  refine en_s_getR (w := some (25, 0, 0)) rfl rfl rfl rfl ?_
  refine en_s_bipush rfl ?_
  refine en_s_iload_n rfl rfl ?_
  obtain ⟨s17, e18, h⟩ := en_let_h h
  refine en_c_iast (q := 15) e18 rfl rfl (by decide) (by decide) ?_
  refine en_s_aload_n rfl rfl ?_
  refine en_s_getR (w := some (25, 0, 0)) rfl rfl rfl rfl ?_
  refine en_s_bipush rfl ?_
  refine en_s_iload_n rfl rfl ?_
  obtain ⟨s19, e20, h⟩ := en_let_h h
  refine en_c_iast (q := 16) e20 rfl rfl (by decide) (by decide) ?_
  refine en_s_aload_n rfl rfl ?_
  refine en_s_getR (w := some (25, 0, 0)) rfl rfl rfl rfl ?_
  refine en_s_bipush rfl ?_
  refine en_s_aload_n rfl rfl ?_
  refine en_s_iload rfl rfl ?_
  obtain ⟨t21, h22, h⟩ := en_b1_h h
  refine en_callV (as := [.inl t3]) (rest := [.inl 17, .inr (.inl (some (25, 0, 0)))]) (bc' := 0) (bs' := 0) hz rfl (s_mm_ticksOf G hz (d + 4) h22) lk_10_128 mv_mm_ticksOf rfl rfl rfl rfl rfl (fun _ h => h) (Nat.le_refl _) (Nat.le_refl _) ?_
  obtain ⟨s23, e24, h⟩ := en_let_h h
  refine en_c_iast (q := 17) e24 rfl rfl (by decide) (by decide) ?_
  refine en_s_aload_n rfl rfl ?_
  refine en_s_iload_n rfl rfl ?_
  refine en_s_iload_n rfl rfl ?_
  refine en_s_iload_n rfl rfl ?_
  obtain ⟨s25, h26, h⟩ := en_b1_h h
  refine en_callV (as := [.inl v1, .inl v2, .inl t1]) (rest := []) (bc' := 0) (bs' := 0) hz rfl (s_mm_logs G hz (d + 0) h26) lk_10_131 mv_mm_logs rfl rfl rfl rfl rfl (fun _ h => h) (Nat.le_refl _) (Nat.le_refl _) ?_
  cases h
  exact en_s_vret rfl rfl
def k_mm_isStarved_33 (f0 : Nat) (v1 : Int32) (v2 : Int32) (σ : en_M) : Option ((Int32) ⊕ (Unit)) := match f0 with
  | 0 => none
  | f9 + 1 =>
    en_b1 (k_mm_piecesOf v1 σ) fun t5 =>
    if t5 ≤ v2 then
      some (.inr ())
    else
      en_b1 (k_mm_hasLeft v1 v2 σ) fun t8 =>
      if t8 = 0 then
        en_b1 (en_rd 160 (σ 30 0 0) (k_mm_placeIn v1 v2)) fun t11 =>
        if (σ 25 0 0 4) < t11 then
          k_mm_isStarved_33 f9 v1 (v2 + 1) σ
        else
          some (.inl (1))
      else
        k_mm_isStarved_33 f9 v1 (v2 + 1) σ
def k_mm_isStarved_8 (f0 : Nat) (v1 : Int32) (σ : en_M) : Option ((Int32) ⊕ (Unit)) := match f0 with
  | 0 => none
  | f9 + 1 =>
    if (σ 25 0 0 5) ≤ v1 then
      some (.inr ())
    else
      en_b1 (k_mm_of v1 4 σ) fun t2 =>
      if t2 = 1 then
        en_rx (k_mm_isStarved_33 en_fu v1 0 σ) (fun r16 => some (.inl r16)) (fun u18 =>
        k_mm_isStarved_8 f9 (v1 + 1) σ)
      else
        k_mm_isStarved_8 f9 (v1 + 1) σ
def k_mm_isStarved  (σ : en_M) : Option (Int32) :=
  en_rx (k_mm_isStarved_8 en_fu (σ 25 0 0 6) σ) (fun r22 => some r22) (fun u24 =>
  some 0)
set_option maxRecDepth 100000 in
set_option maxHeartbeats 4000000 in
theorem s_mm_isStarved_33 (G : en_G) (hz : G.2.2.2.2.2.2.2.2 = none) {d : Nat} {r : en_P} {cs cs' : List en_A} {ρ' : en_R} {σ' : en_M} : ∀ (f0 : Nat) {v1 : Int32} {v2 : Int32}  {σ : en_M} {x9 : ((Int32) ⊕ (Unit))} , k_mm_isStarved_33 f0 v1 v2 σ = some x9 →
    (∀ a9, x9 = .inl a9 → r = .inr (some (.inl a9)) ∧ cs' = cs ∧ ρ' = en_rf ∧ σ' = σ) →
    (∀ (b9 : Unit), x9 = .inr b9 → ∀ (f2 : Option en_V), en_W G (d + 4) 0 0 M_mm_isStarved r cs' ρ' σ' 0 0 78 [some (.inr (.inl (some (24, 0, 0)))), some (.inl v1), f2] [] cs en_rf σ) → en_W G (d + 4) 0 0 M_mm_isStarved r cs' ρ' σ' 0 0 33 [some (.inr (.inl (some (24, 0, 0)))), some (.inl v1), some (.inl v2)] [] cs en_rf σ := by
  intro f0
  induction f0 with
  | zero =>
    intros
    rename_i h _ _
    cases h
  | succ f9 ih =>
    intro v1 v2 σ x9 h hr hk
    rw [k_mm_isStarved_33] at h
    refine en_s_iload_n rfl rfl ?_
    refine en_s_aload_n rfl rfl ?_
    refine en_s_iload_n rfl rfl ?_
    obtain ⟨t5, h6, h⟩ := en_b1_h h
    refine en_callV (as := [.inl v1]) (rest := [.inl v2]) (bc' := 0) (bs' := 0) hz rfl (s_mm_piecesOf G hz (d + 0) h6) lk_10_82 mv_mm_piecesOf rfl rfl rfl rfl rfl (fun _ h => h) (Nat.le_refl _) (Nat.le_refl _) ?_
    refine en_s_icmp_ge rfl (fun c7 => ?_) (fun c7 => ?_)
    · rw [if_pos c7] at h
      obtain rfl := Option.some.inj h
      exact hk _ rfl (some (.inl v2))
    · rw [if_neg c7] at h
      refine en_s_aload_n rfl rfl ?_
      refine en_s_iload_n rfl rfl ?_
      refine en_s_iload_n rfl rfl ?_
      obtain ⟨t8, h9, h⟩ := en_b1_h h
      refine en_callV (as := [.inl v1, .inl v2]) (rest := []) (bc' := 0) (bs' := 0) hz rfl (s_mm_hasLeft G hz (d + 1) h9) lk_10_85 mv_mm_hasLeft rfl rfl rfl rfl rfl (fun _ h => h) (Nat.le_refl _) (Nat.le_refl _) ?_
      refine en_s_if_ne rfl (fun c10 => ?_) (fun c10 => ?_)
      · rw [if_neg c10] at h
        refine en_s_iinc (ls' := [some (.inr (.inl (some (24, 0, 0)))), some (.inl v1), some (.inl (v2 + 1))]) rfl rfl rfl ?_
        refine en_s_goto rfl ?_
        exact ih  h hr hk
      · rw [if_pos c10] at h
        refine en_s_aload_n rfl rfl ?_
        refine en_s_getR (w := some (30, 0, 0)) rfl rfl rfl rfl ?_
        refine en_s_iload_n rfl rfl ?_
        refine en_s_iload_n rfl rfl ?_
        refine en_callS (as := [.inl v1, .inl v2]) (rest := [.inr (.inl (some (30, 0, 0)))]) (bc' := 0) (bs' := 0) hz rfl (s_mm_placeIn G hz (d + 3) rfl) lk_10_95 mv_mm_placeIn rfl rfl rfl (fun _ h => h) (Nat.le_refl _) (Nat.le_refl _) ?_
        obtain ⟨t11, h12, h⟩ := en_b1_h h
        refine en_s_iald rfl rfl h12 ?_
        refine en_s_aload_n rfl rfl ?_
        refine en_s_getR (w := some (25, 0, 0)) rfl rfl rfl rfl ?_
        refine en_s_iconst rfl ?_
        refine en_c_iald (q := 4) rfl rfl (by decide) (by decide) ?_
        refine en_s_icmp_gt rfl (fun c13 => ?_) (fun c13 => ?_)
        · rw [if_pos c13] at h
          refine en_s_iinc (ls' := [some (.inr (.inl (some (24, 0, 0)))), some (.inl v1), some (.inl (v2 + 1))]) rfl rfl rfl ?_
          refine en_s_goto rfl ?_
          exact ih  h hr hk
        · rw [if_neg c13] at h
          refine en_s_iconst rfl ?_
          obtain rfl := Option.some.inj h
          obtain ⟨rfl, rfl, rfl, rfl⟩ := hr _ rfl
          exact en_s_zret rfl rfl (Or.inr rfl)
set_option maxRecDepth 100000 in
set_option maxHeartbeats 4000000 in
theorem s_mm_isStarved_8 (G : en_G) (hz : G.2.2.2.2.2.2.2.2 = none) {d : Nat} {r : en_P} {cs cs' : List en_A} {ρ' : en_R} {σ' : en_M} : ∀ (f0 : Nat) {v1 : Int32} {e2 : Option en_V} {σ : en_M} {x9 : ((Int32) ⊕ (Unit))} , k_mm_isStarved_8 f0 v1 σ = some x9 →
    (∀ a9, x9 = .inl a9 → r = .inr (some (.inl a9)) ∧ cs' = cs ∧ ρ' = en_rf ∧ σ' = σ) →
    (∀ (b9 : Unit), x9 = .inr b9 → ∀ (f1 : Option en_V) (f2 : Option en_V), en_W G (d + 4) 0 0 M_mm_isStarved r cs' ρ' σ' 0 0 84 [some (.inr (.inl (some (24, 0, 0)))), f1, f2] [] cs en_rf σ) → en_W G (d + 4) 0 0 M_mm_isStarved r cs' ρ' σ' 0 0 8 [some (.inr (.inl (some (24, 0, 0)))), some (.inl v1), e2] [] cs en_rf σ := by
  intro f0
  induction f0 with
  | zero =>
    intros
    rename_i h _ _
    cases h
  | succ f9 ih =>
    intro v1 e2 σ x9 h hr hk
    rw [k_mm_isStarved_8] at h
    refine en_s_iload_n rfl rfl ?_
    refine en_s_aload_n rfl rfl ?_
    refine en_s_getR (w := some (25, 0, 0)) rfl rfl rfl rfl ?_
    refine en_s_iconst rfl ?_
    refine en_c_iald (q := 5) rfl rfl (by decide) (by decide) ?_
    refine en_s_icmp_ge rfl (fun c1 => ?_) (fun c1 => ?_)
    · rw [if_pos c1] at h
      obtain rfl := Option.some.inj h
      exact hk _ rfl (some (.inl v1)) (e2)
    · rw [if_neg c1] at h
      refine en_s_aload_n rfl rfl ?_
      refine en_s_iload_n rfl rfl ?_
      refine en_s_iconst rfl ?_
      obtain ⟨t2, h3, h⟩ := en_b1_h h
      refine en_callV (as := [.inl v1, .inl 4]) (rest := []) (bc' := 0) (bs' := 0) hz rfl (s_mm_of G hz (d + 2) h3) lk_10_66 mv_mm_of rfl rfl rfl rfl rfl (fun _ h => h) (Nat.le_refl _) (Nat.le_refl _) ?_
      refine en_s_iconst rfl ?_
      refine en_s_icmp_eq rfl (fun c4 => ?_) (fun c4 => ?_)
      · rw [if_pos c4] at h
        refine en_s_iconst rfl ?_
        refine en_s_istore_n (ls' := [some (.inr (.inl (some (24, 0, 0)))), some (.inl v1), some (.inl 0)]) rfl rfl rfl ?_
        rcases en_rx_h h with ⟨r16, h15, h⟩ | ⟨u18, h15, h⟩
        · obtain rfl := Option.some.inj h
          obtain ⟨rfl, rfl, rfl, rfl⟩ := hr _ rfl
          exact s_mm_isStarved_33 G hz en_fu  h15 (fun _ e9 => by cases e9; exact ⟨rfl, rfl, rfl, rfl⟩) (fun _ e9 => by cases e9)
        · refine s_mm_isStarved_33 G hz en_fu  h15 (fun _ e9 => by cases e9) (fun _ e9 f14 => ?_)
          cases e9
          refine en_s_iinc (ls' := [some (.inr (.inl (some (24, 0, 0)))), some (.inl (v1 + 1)), f14]) rfl rfl rfl ?_
          refine en_s_goto rfl ?_
          exact ih (e2 := f14) h hr hk
      · rw [if_neg c4] at h
        refine en_s_goto rfl ?_
        refine en_s_iinc (ls' := [some (.inr (.inl (some (24, 0, 0)))), some (.inl (v1 + 1)), e2]) rfl rfl rfl ?_
        refine en_s_goto rfl ?_
        exact ih (e2 := e2) h hr hk
set_option maxRecDepth 100000 in
set_option maxHeartbeats 4000000 in
theorem s_mm_isStarved (G : en_G) (hz : G.2.2.2.2.2.2.2.2 = none) (d : Nat) {cs : List en_A} {σ : en_M}  {x0 : Int32}  (h : k_mm_isStarved  σ = some x0) : en_Mt G (d + 4) 0 0 M_mm_isStarved [.inr (.inl (some (24, 0, 0)))] cs en_rf σ (.inr (some (.inl x0))) cs en_rf σ := by
  refine en_meth (ls := [some (.inr (.inl (some (24, 0, 0)))), none, none]) md_mm_isStarved rfl rfl rfl ?_
  unfold k_mm_isStarved at h
  refine en_s_aload_n rfl rfl ?_
  refine en_s_getR (w := some (25, 0, 0)) rfl rfl rfl rfl ?_
  refine en_s_bipush rfl ?_
  refine en_c_iald (q := 6) rfl rfl (by decide) (by decide) ?_
  refine en_s_istore_n (ls' := [some (.inr (.inl (some (24, 0, 0)))), some (.inl (σ 25 0 0 6)), none]) rfl rfl rfl ?_
  rcases en_rx_h h with ⟨r22, h21, h⟩ | ⟨u24, h21, h⟩
  · obtain rfl := Option.some.inj h
    exact s_mm_isStarved_8 G hz en_fu (e2 := none) h21 (fun _ e9 => by cases e9; exact ⟨rfl, rfl, rfl, rfl⟩) (fun _ e9 => by cases e9)
  · refine s_mm_isStarved_8 G hz en_fu (e2 := none) h21 (fun _ e9 => by cases e9) (fun _ e9 f19 f20 => ?_)
    cases e9
    refine en_s_iconst rfl ?_
    cases h
    exact en_s_zret rfl rfl (Or.inl rfl)
def k_mm_isAllGone_2 (f0 : Nat) (v1 : Int32) (v2 : Int32) (σ : en_M) : Option ((Int32) ⊕ (Unit)) := match f0 with
  | 0 => none
  | f9 + 1 =>
    en_b1 (k_mm_piecesOf v1 σ) fun t1 =>
    if t1 ≤ v2 then
      some (.inr ())
    else
      en_b1 (en_rd 938 (σ 25 0 0) (k_mm_pieceAt v1 v2 2)) fun t4 =>
      if t4 = (-1) then
        some (.inl (0))
      else
        k_mm_isAllGone_2 f9 v1 (v2 + 1) σ
def k_mm_isAllGone (v1 : Int32) (σ : en_M) : Option (Int32) :=
  en_rx (k_mm_isAllGone_2 en_fu v1 0 σ) (fun r9 => some r9) (fun u11 =>
  some 1)
set_option maxRecDepth 100000 in
set_option maxHeartbeats 4000000 in
theorem s_mm_isAllGone_2 (G : en_G) (hz : G.2.2.2.2.2.2.2.2 = none) {d : Nat} {r : en_P} {cs cs' : List en_A} {ρ' : en_R} {σ' : en_M} : ∀ (f0 : Nat) {v1 : Int32} {v2 : Int32}  {σ : en_M} {x9 : ((Int32) ⊕ (Unit))} , k_mm_isAllGone_2 f0 v1 v2 σ = some x9 →
    (∀ a9, x9 = .inl a9 → r = .inr (some (.inl a9)) ∧ cs' = cs ∧ ρ' = en_rf ∧ σ' = σ) →
    (∀ (b9 : Unit), x9 = .inr b9 → ∀ (f2 : Option en_V), en_W G (d + 4) 0 0 M_mm_isAllGone r cs' ρ' σ' 0 0 34 [some (.inr (.inl (some (24, 0, 0)))), some (.inl v1), f2] [] cs en_rf σ) → en_W G (d + 4) 0 0 M_mm_isAllGone r cs' ρ' σ' 0 0 2 [some (.inr (.inl (some (24, 0, 0)))), some (.inl v1), some (.inl v2)] [] cs en_rf σ := by
  intro f0
  induction f0 with
  | zero =>
    intros
    rename_i h _ _
    cases h
  | succ f9 ih =>
    intro v1 v2 σ x9 h hr hk
    rw [k_mm_isAllGone_2] at h
    refine en_s_iload_n rfl rfl ?_
    refine en_s_aload_n rfl rfl ?_
    refine en_s_iload_n rfl rfl ?_
    obtain ⟨t1, h2, h⟩ := en_b1_h h
    refine en_callV (as := [.inl v1]) (rest := [.inl v2]) (bc' := 0) (bs' := 0) hz rfl (s_mm_piecesOf G hz (d + 0) h2) lk_10_82 mv_mm_piecesOf rfl rfl rfl rfl rfl (fun _ h => h) (Nat.le_refl _) (Nat.le_refl _) ?_
    refine en_s_icmp_ge rfl (fun c3 => ?_) (fun c3 => ?_)
    · rw [if_pos c3] at h
      obtain rfl := Option.some.inj h
      exact hk _ rfl (some (.inl v2))
    · rw [if_neg c3] at h
      refine en_s_aload_n rfl rfl ?_
      refine en_s_getR (w := some (25, 0, 0)) rfl rfl rfl rfl ?_
      refine en_s_iload_n rfl rfl ?_
      refine en_s_iload_n rfl rfl ?_
      refine en_s_iconst rfl ?_
      refine en_callS (as := [.inl v1, .inl v2, .inl 2]) (rest := [.inr (.inl (some (25, 0, 0)))]) (bc' := 0) (bs' := 0) hz rfl (s_mm_pieceAt G hz (d + 2) rfl) lk_10_78 mv_mm_pieceAt rfl rfl rfl (fun _ h => h) (Nat.le_refl _) (Nat.le_refl _) ?_
      obtain ⟨t4, h5, h⟩ := en_b1_h h
      refine en_s_iald rfl rfl h5 ?_
      refine en_s_iconst rfl ?_
      refine en_s_icmp_ne rfl (fun c6 => ?_) (fun c6 => ?_)
      · rw [if_neg c6] at h
        refine en_s_iinc (ls' := [some (.inr (.inl (some (24, 0, 0)))), some (.inl v1), some (.inl (v2 + 1))]) rfl rfl rfl ?_
        refine en_s_goto rfl ?_
        exact ih  h hr hk
      · rw [if_pos c6] at h
        refine en_s_iconst rfl ?_
        obtain rfl := Option.some.inj h
        obtain ⟨rfl, rfl, rfl, rfl⟩ := hr _ rfl
        exact en_s_zret rfl rfl (Or.inl rfl)
set_option maxRecDepth 100000 in
set_option maxHeartbeats 4000000 in
theorem s_mm_isAllGone (G : en_G) (hz : G.2.2.2.2.2.2.2.2 = none) (d : Nat) {cs : List en_A} {σ : en_M} {v1 : Int32} {x0 : Int32}  (h : k_mm_isAllGone v1 σ = some x0) : en_Mt G (d + 4) 0 0 M_mm_isAllGone [.inr (.inl (some (24, 0, 0))), .inl v1] cs en_rf σ (.inr (some (.inl x0))) cs en_rf σ := by
  refine en_meth (ls := [some (.inr (.inl (some (24, 0, 0)))), some (.inl v1), none]) md_mm_isAllGone rfl rfl rfl ?_
  unfold k_mm_isAllGone at h
  refine en_s_iconst rfl ?_
  refine en_s_istore_n (ls' := [some (.inr (.inl (some (24, 0, 0)))), some (.inl v1), some (.inl 0)]) rfl rfl rfl ?_
  rcases en_rx_h h with ⟨r9, h8, h⟩ | ⟨u11, h8, h⟩
  · obtain rfl := Option.some.inj h
    exact s_mm_isAllGone_2 G hz en_fu  h8 (fun _ e9 => by cases e9; exact ⟨rfl, rfl, rfl, rfl⟩) (fun _ e9 => by cases e9)
  · refine s_mm_isAllGone_2 G hz en_fu  h8 (fun _ e9 => by cases e9) (fun _ e9 f7 => ?_)
    cases e9
    refine en_s_iconst rfl ?_
    cases h
    exact en_s_zret rfl rfl (Or.inr rfl)
def k_mm_isEarly_8 (f0 : Nat) (v1 : Int32) (v2 : Int32) (σ : en_M) : Option ((Int32) ⊕ (Unit)) := match f0 with
  | 0 => none
  | f9 + 1 =>
    if v1 ≤ v2 then
      some (.inr ())
    else
      en_b1 (k_mm_of v2 4 σ) fun t2 =>
      if t2 = 0 then
        some (.inl (1))
      else
        en_b1 (k_mm_of v2 4 σ) fun t5 =>
        if t5 = 1 then
          some (.inl (1))
        else
          k_mm_isEarly_8 f9 v1 (v2 + 1) σ
def k_mm_isEarly (v1 : Int32) (σ : en_M) : Option (Int32) :=
  en_rx (k_mm_isEarly_8 en_fu v1 (σ 25 0 0 6) σ) (fun r10 => some r10) (fun u12 =>
  some 0)
set_option maxRecDepth 100000 in
set_option maxHeartbeats 4000000 in
theorem s_mm_isEarly_8 (G : en_G) (hz : G.2.2.2.2.2.2.2.2 = none) {d : Nat} {r : en_P} {cs cs' : List en_A} {ρ' : en_R} {σ' : en_M} : ∀ (f0 : Nat) {v1 : Int32} {v2 : Int32}  {σ : en_M} {x9 : ((Int32) ⊕ (Unit))} , k_mm_isEarly_8 f0 v1 v2 σ = some x9 →
    (∀ a9, x9 = .inl a9 → r = .inr (some (.inl a9)) ∧ cs' = cs ∧ ρ' = en_rf ∧ σ' = σ) →
    (∀ (b9 : Unit), x9 = .inr b9 → ∀ (f2 : Option en_V), en_W G (d + 2) 0 0 M_mm_isEarly r cs' ρ' σ' 0 0 40 [some (.inr (.inl (some (24, 0, 0)))), some (.inl v1), f2] [] cs en_rf σ) → en_W G (d + 2) 0 0 M_mm_isEarly r cs' ρ' σ' 0 0 8 [some (.inr (.inl (some (24, 0, 0)))), some (.inl v1), some (.inl v2)] [] cs en_rf σ := by
  intro f0
  induction f0 with
  | zero =>
    intros
    rename_i h _ _
    cases h
  | succ f9 ih =>
    intro v1 v2 σ x9 h hr hk
    rw [k_mm_isEarly_8] at h
    refine en_s_iload_n rfl rfl ?_
    refine en_s_iload_n rfl rfl ?_
    refine en_s_icmp_ge rfl (fun c1 => ?_) (fun c1 => ?_)
    · rw [if_pos c1] at h
      obtain rfl := Option.some.inj h
      exact hk _ rfl (some (.inl v2))
    · rw [if_neg c1] at h
      refine en_s_aload_n rfl rfl ?_
      refine en_s_iload_n rfl rfl ?_
      refine en_s_iconst rfl ?_
      obtain ⟨t2, h3, h⟩ := en_b1_h h
      refine en_callV (as := [.inl v2, .inl 4]) (rest := []) (bc' := 0) (bs' := 0) hz rfl (s_mm_of G hz (d + 0) h3) lk_10_66 mv_mm_of rfl rfl rfl rfl rfl (fun _ h => h) (Nat.le_refl _) (Nat.le_refl _) ?_
      refine en_s_if_eq rfl (fun c4 => ?_) (fun c4 => ?_)
      · rw [if_pos c4] at h
        refine en_s_iconst rfl ?_
        obtain rfl := Option.some.inj h
        obtain ⟨rfl, rfl, rfl, rfl⟩ := hr _ rfl
        exact en_s_zret rfl rfl (Or.inr rfl)
      · rw [if_neg c4] at h
        refine en_s_aload_n rfl rfl ?_
        refine en_s_iload_n rfl rfl ?_
        refine en_s_iconst rfl ?_
        obtain ⟨t5, h6, h⟩ := en_b1_h h
        refine en_callV (as := [.inl v2, .inl 4]) (rest := []) (bc' := 0) (bs' := 0) hz rfl (s_mm_of G hz (d + 0) h6) lk_10_66 mv_mm_of rfl rfl rfl rfl rfl (fun _ h => h) (Nat.le_refl _) (Nat.le_refl _) ?_
        refine en_s_iconst rfl ?_
        refine en_s_icmp_ne rfl (fun c7 => ?_) (fun c7 => ?_)
        · rw [if_neg c7] at h
          refine en_s_iinc (ls' := [some (.inr (.inl (some (24, 0, 0)))), some (.inl v1), some (.inl (v2 + 1))]) rfl rfl rfl ?_
          refine en_s_goto rfl ?_
          exact ih  h hr hk
        · rw [if_pos c7] at h
          refine en_s_iconst rfl ?_
          obtain rfl := Option.some.inj h
          obtain ⟨rfl, rfl, rfl, rfl⟩ := hr _ rfl
          exact en_s_zret rfl rfl (Or.inr rfl)
set_option maxRecDepth 100000 in
set_option maxHeartbeats 4000000 in
theorem s_mm_isEarly (G : en_G) (hz : G.2.2.2.2.2.2.2.2 = none) (d : Nat) {cs : List en_A} {σ : en_M} {v1 : Int32} {x0 : Int32}  (h : k_mm_isEarly v1 σ = some x0) : en_Mt G (d + 2) 0 0 M_mm_isEarly [.inr (.inl (some (24, 0, 0))), .inl v1] cs en_rf σ (.inr (some (.inl x0))) cs en_rf σ := by
  refine en_meth (ls := [some (.inr (.inl (some (24, 0, 0)))), some (.inl v1), none]) md_mm_isEarly rfl rfl rfl ?_
  unfold k_mm_isEarly at h
  refine en_s_aload_n rfl rfl ?_
  refine en_s_getR (w := some (25, 0, 0)) rfl rfl rfl rfl ?_
  refine en_s_bipush rfl ?_
  refine en_c_iald (q := 6) rfl rfl (by decide) (by decide) ?_
  refine en_s_istore_n (ls' := [some (.inr (.inl (some (24, 0, 0)))), some (.inl v1), some (.inl (σ 25 0 0 6))]) rfl rfl rfl ?_
  rcases en_rx_h h with ⟨r10, h9, h⟩ | ⟨u12, h9, h⟩
  · obtain rfl := Option.some.inj h
    exact s_mm_isEarly_8 G hz en_fu  h9 (fun _ e9 => by cases e9; exact ⟨rfl, rfl, rfl, rfl⟩) (fun _ e9 => by cases e9)
  · refine s_mm_isEarly_8 G hz en_fu  h9 (fun _ e9 => by cases e9) (fun _ e9 f8 => ?_)
    cases e9
    refine en_s_iconst rfl ?_
    cases h
    exact en_s_zret rfl rfl (Or.inl rfl)
def k_mm_isDone_104 (f0 : Nat) (v1 : Int32) (v2 : Int32) (σ : en_M) : Option (en_M) := match f0 with
  | 0 => none
  | f9 + 1 =>
    if 936 ≤ v2 then
      some (σ)
    else
      en_b1 (en_rd 938 (σ 25 0 0) (v2 + 2)) fun t28 =>
      en_b1 (en_wa 938 σ 25 0 0 v2 t28) fun s30 =>
      k_mm_isDone_104 f9 v1 (v2 + 1) s30
def k_mm_isDone (v1 : Int32) (σ : en_M) : Option (en_M) :=
  en_b1 (en_wa 938 σ 25 0 0 ((k_mm_slotOf v1) + 4) 2) fun s1 =>
  en_b1 (en_wa 938 s1 25 0 0 ((k_mm_slotOf v1) + 6) (s1 25 0 0 4)) fun s3 =>
  en_b1 (k_mm_of v1 0 s3) fun t5 =>
  en_b1 (en_rd 938 (s3 25 0 0) ((20 + (9 * t5)) + 8)) fun t7 =>
  en_b1 (en_wa 938 s3 25 0 0 ((20 + (9 * t5)) + 8) (t7 + 1)) fun s9 =>
  en_let (en_wr s9 25 0 0 10 ((s9 25 0 0 10) + 1)) fun s11 =>
  en_b1 (k_mm_isEarly v1 s11) fun t13 =>
  if t13 = 0 then
    en_let (en_wr s11 25 0 0 11 ((s11 25 0 0 11) + 0)) fun s16 =>
    if (s16 25 0 0 19) = 20 then
      en_b1 (k_mm_isDone_104 en_fu v1 898 s16) fun s33 =>
      en_let (en_wr s33 25 0 0 19 ((s33 25 0 0 19) - 1)) fun s35 =>
      en_b1 (en_wa 938 s35 25 0 0 (898 + (2 * (s35 25 0 0 19))) v1) fun s37 =>
      en_b1 (en_wa 938 s37 25 0 0 ((898 + (2 * (s37 25 0 0 19))) + 1) (s37 25 0 0 4)) fun s39 =>
      en_let (en_wr s39 25 0 0 19 ((s39 25 0 0 19) + 1)) fun s41 =>
      en_b1 (k_mm_reclaims s41) fun s43 =>
      some s43
    else
      en_b1 (en_wa 938 s16 25 0 0 (898 + (2 * (s16 25 0 0 19))) v1) fun s19 =>
      en_b1 (en_wa 938 s19 25 0 0 ((898 + (2 * (s19 25 0 0 19))) + 1) (s19 25 0 0 4)) fun s21 =>
      en_let (en_wr s21 25 0 0 19 ((s21 25 0 0 19) + 1)) fun s23 =>
      en_b1 (k_mm_reclaims s23) fun s25 =>
      some s25
  else
    en_let (en_wr s11 25 0 0 11 ((s11 25 0 0 11) + 1)) fun s45 =>
    if (s45 25 0 0 19) = 20 then
      en_b1 (k_mm_isDone_104 en_fu v1 898 s45) fun s57 =>
      en_let (en_wr s57 25 0 0 19 ((s57 25 0 0 19) - 1)) fun s59 =>
      en_b1 (en_wa 938 s59 25 0 0 (898 + (2 * (s59 25 0 0 19))) v1) fun s61 =>
      en_b1 (en_wa 938 s61 25 0 0 ((898 + (2 * (s61 25 0 0 19))) + 1) (s61 25 0 0 4)) fun s63 =>
      en_let (en_wr s63 25 0 0 19 ((s63 25 0 0 19) + 1)) fun s65 =>
      en_b1 (k_mm_reclaims s65) fun s67 =>
      some s67
    else
      en_b1 (en_wa 938 s45 25 0 0 (898 + (2 * (s45 25 0 0 19))) v1) fun s48 =>
      en_b1 (en_wa 938 s48 25 0 0 ((898 + (2 * (s48 25 0 0 19))) + 1) (s48 25 0 0 4)) fun s50 =>
      en_let (en_wr s50 25 0 0 19 ((s50 25 0 0 19) + 1)) fun s52 =>
      en_b1 (k_mm_reclaims s52) fun s54 =>
      some s54
set_option maxRecDepth 100000 in
set_option maxHeartbeats 4000000 in
theorem s_mm_isDone_104 (G : en_G) (hz : G.2.2.2.2.2.2.2.2 = none) {d : Nat} {r : en_P} {cs cs' : List en_A} {ρ' : en_R} {σ' : en_M} : ∀ (f0 : Nat) {v1 : Int32} {v2 : Int32}  {σ : en_M} {s0 : en_M} , k_mm_isDone_104 f0 v1 v2 σ = some (s0) →
    (∀ (f2 : Option en_V), en_W G (d + 3) 0 0 M_mm_isDone r cs' ρ' σ' 0 0 131 [some (.inr (.inl (some (24, 0, 0)))), some (.inl v1), f2] [] cs en_rf s0) → en_W G (d + 3) 0 0 M_mm_isDone r cs' ρ' σ' 0 0 104 [some (.inr (.inl (some (24, 0, 0)))), some (.inl v1), some (.inl v2)] [] cs en_rf σ := by
  intro f0
  induction f0 with
  | zero =>
    intros
    rename_i h _
    cases h
  | succ f9 ih =>
    intro v1 v2 σ s0 h hk
    rw [k_mm_isDone_104] at h
    refine en_s_iload_n rfl rfl ?_
    refine en_s_sipush rfl ?_
    refine en_s_icmp_ge rfl (fun c27 => ?_) (fun c27 => ?_)
    · rw [if_pos c27] at h
      cases h
      exact hk (some (.inl v2))
    · rw [if_neg c27] at h
      refine en_s_aload_n rfl rfl ?_
      refine en_s_getR (w := some (25, 0, 0)) rfl rfl rfl rfl ?_
      refine en_s_iload_n rfl rfl ?_
      refine en_s_aload_n rfl rfl ?_
      refine en_s_getR (w := some (25, 0, 0)) rfl rfl rfl rfl ?_
      refine en_s_iload_n rfl rfl ?_
      refine en_s_iconst rfl ?_
      refine en_s_iadd rfl ?_
      obtain ⟨t28, h29, h⟩ := en_b1_h h
      refine en_s_iald rfl rfl h29 ?_
      obtain ⟨s30, e31, h⟩ := en_b1_h h
      refine en_s_iast rfl rfl e31 ?_
      refine en_s_iinc (ls' := [some (.inr (.inl (some (24, 0, 0)))), some (.inl v1), some (.inl (v2 + 1))]) rfl rfl rfl ?_
      refine en_s_goto rfl ?_
      exact ih  h hk
set_option maxRecDepth 100000 in
set_option maxHeartbeats 4000000 in
theorem s_mm_isDone (G : en_G) (hz : G.2.2.2.2.2.2.2.2 = none) (d : Nat) {cs : List en_A} {σ : en_M} {v1 : Int32} {s0 : en_M}  (h : k_mm_isDone v1 σ = some s0) : en_Mt G (d + 3) 0 0 M_mm_isDone [.inr (.inl (some (24, 0, 0))), .inl v1] cs en_rf σ (.inr (none)) cs en_rf s0 := by
  refine en_meth (ls := [some (.inr (.inl (some (24, 0, 0)))), some (.inl v1), none]) md_mm_isDone rfl rfl rfl ?_
  unfold k_mm_isDone at h
  refine en_s_aload_n rfl rfl ?_
  refine en_s_getR (w := some (25, 0, 0)) rfl rfl rfl rfl ?_
  refine en_s_iload_n rfl rfl ?_
  refine en_callS (as := [.inl v1]) (rest := [.inr (.inl (some (25, 0, 0)))]) (bc' := 0) (bs' := 0) hz rfl (s_mm_slotOf G hz (d + 2) rfl) lk_10_58 mv_mm_slotOf rfl rfl rfl (fun _ h => h) (Nat.le_refl _) (Nat.le_refl _) ?_
  refine en_s_iconst rfl ?_
  refine en_s_iadd rfl ?_
  refine en_s_iconst rfl ?_
  obtain ⟨s1, e2, h⟩ := en_b1_h h
  refine en_s_iast rfl rfl e2 ?_
  refine en_s_aload_n rfl rfl ?_
  refine en_s_getR (w := some (25, 0, 0)) rfl rfl rfl rfl ?_
  refine en_s_iload_n rfl rfl ?_
  refine en_callS (as := [.inl v1]) (rest := [.inr (.inl (some (25, 0, 0)))]) (bc' := 0) (bs' := 0) hz rfl (s_mm_slotOf G hz (d + 2) rfl) lk_10_58 mv_mm_slotOf rfl rfl rfl (fun _ h => h) (Nat.le_refl _) (Nat.le_refl _) ?_
  refine en_s_bipush rfl ?_
  refine en_s_iadd rfl ?_
  refine en_s_aload_n rfl rfl ?_
  refine en_s_getR (w := some (25, 0, 0)) rfl rfl rfl rfl ?_
  refine en_s_iconst rfl ?_
  refine en_c_iald (q := 4) rfl rfl (by decide) (by decide) ?_
  obtain ⟨s3, e4, h⟩ := en_b1_h h
  refine en_s_iast rfl rfl e4 ?_
  refine en_s_aload_n rfl rfl ?_
  refine en_s_getR (w := some (25, 0, 0)) rfl rfl rfl rfl ?_
  refine en_s_bipush rfl ?_
  refine en_s_bipush rfl ?_
  refine en_s_aload_n rfl rfl ?_
  refine en_s_iload_n rfl rfl ?_
  refine en_s_iconst rfl ?_
  obtain ⟨t5, h6, h⟩ := en_b1_h h
  refine en_callV (as := [.inl v1, .inl 0]) (rest := [.inl 9, .inl 20, .inr (.inl (some (25, 0, 0)))]) (bc' := 0) (bs' := 0) hz rfl (s_mm_of G hz (d + 1) h6) lk_10_66 mv_mm_of rfl rfl rfl rfl rfl (fun _ h => h) (Nat.le_refl _) (Nat.le_refl _) ?_
  refine en_s_imul rfl ?_
  refine en_s_iadd rfl ?_
  refine en_s_bipush rfl ?_
  refine en_s_iadd rfl ?_
  refine en_s_dup2 rfl rfl rfl ?_
  obtain ⟨t7, h8, h⟩ := en_b1_h h
  refine en_s_iald rfl rfl h8 ?_
  refine en_s_iconst rfl ?_
  refine en_s_iadd rfl ?_
  obtain ⟨s9, e10, h⟩ := en_b1_h h
  refine en_s_iast rfl rfl e10 ?_
  refine en_s_aload_n rfl rfl ?_
  refine en_s_getR (w := some (25, 0, 0)) rfl rfl rfl rfl ?_
  refine en_s_bipush rfl ?_
  refine en_s_dup2 rfl rfl rfl ?_
  refine en_c_iald (q := 10) rfl rfl (by decide) (by decide) ?_
  refine en_s_iconst rfl ?_
  refine en_s_iadd rfl ?_
  obtain ⟨s11, e12, h⟩ := en_let_h h
  refine en_c_iast (q := 10) e12 rfl rfl (by decide) (by decide) ?_
  refine en_s_aload_n rfl rfl ?_
  refine en_s_getR (w := some (25, 0, 0)) rfl rfl rfl rfl ?_
  refine en_s_bipush rfl ?_
  refine en_s_dup2 rfl rfl rfl ?_
  refine en_c_iald (q := 11) rfl rfl (by decide) (by decide) ?_
  refine en_s_aload_n rfl rfl ?_
  refine en_s_iload_n rfl rfl ?_
  obtain ⟨t13, h14, h⟩ := en_b1_h h
  refine en_callV (as := [.inl v1]) (rest := [.inl (s11 25 0 0 11), .inl 11, .inr (.inl (some (25, 0, 0)))]) (bc' := 0) (bs' := 0) hz rfl (s_mm_isEarly G hz (d + 0) h14) lk_10_134 mv_mm_isEarly rfl rfl rfl rfl rfl (fun _ h => h) (Nat.le_refl _) (Nat.le_refl _) ?_
  refine en_s_if_eq rfl (fun c15 => ?_) (fun c15 => ?_)
  · rw [if_pos c15] at h
    refine en_s_iconst rfl ?_
    refine en_s_iadd rfl ?_
    obtain ⟨s16, e17, h⟩ := en_let_h h
    refine en_c_iast (q := 11) e17 rfl rfl (by decide) (by decide) ?_
    refine en_s_aload_n rfl rfl ?_
    refine en_s_getR (w := some (25, 0, 0)) rfl rfl rfl rfl ?_
    refine en_s_bipush rfl ?_
    refine en_c_iald (q := 19) rfl rfl (by decide) (by decide) ?_
    refine en_s_bipush rfl ?_
    refine en_s_icmp_ne rfl (fun c18 => ?_) (fun c18 => ?_)
    · rw [if_neg c18] at h
      refine en_s_aload_n rfl rfl ?_
      refine en_s_getR (w := some (25, 0, 0)) rfl rfl rfl rfl ?_
      refine en_s_sipush rfl ?_
      refine en_s_iconst rfl ?_
      refine en_s_aload_n rfl rfl ?_
      refine en_s_getR (w := some (25, 0, 0)) rfl rfl rfl rfl ?_
      refine en_s_bipush rfl ?_
      refine en_c_iald (q := 19) rfl rfl (by decide) (by decide) ?_
      refine en_s_imul rfl ?_
      refine en_s_iadd rfl ?_
      refine en_s_iload_n rfl rfl ?_
      obtain ⟨s19, e20, h⟩ := en_b1_h h
      refine en_s_iast rfl rfl e20 ?_
      refine en_s_aload_n rfl rfl ?_
      refine en_s_getR (w := some (25, 0, 0)) rfl rfl rfl rfl ?_
      refine en_s_sipush rfl ?_
      refine en_s_iconst rfl ?_
      refine en_s_aload_n rfl rfl ?_
      refine en_s_getR (w := some (25, 0, 0)) rfl rfl rfl rfl ?_
      refine en_s_bipush rfl ?_
      refine en_c_iald (q := 19) rfl rfl (by decide) (by decide) ?_
      refine en_s_imul rfl ?_
      refine en_s_iadd rfl ?_
      refine en_s_iconst rfl ?_
      refine en_s_iadd rfl ?_
      refine en_s_aload_n rfl rfl ?_
      refine en_s_getR (w := some (25, 0, 0)) rfl rfl rfl rfl ?_
      refine en_s_iconst rfl ?_
      refine en_c_iald (q := 4) rfl rfl (by decide) (by decide) ?_
      obtain ⟨s21, e22, h⟩ := en_b1_h h
      refine en_s_iast rfl rfl e22 ?_
      refine en_s_aload_n rfl rfl ?_
      refine en_s_getR (w := some (25, 0, 0)) rfl rfl rfl rfl ?_
      refine en_s_bipush rfl ?_
      refine en_s_dup2 rfl rfl rfl ?_
      refine en_c_iald (q := 19) rfl rfl (by decide) (by decide) ?_
      refine en_s_iconst rfl ?_
      refine en_s_iadd rfl ?_
      obtain ⟨s23, e24, h⟩ := en_let_h h
      refine en_c_iast (q := 19) e24 rfl rfl (by decide) (by decide) ?_
      refine en_s_aload_n rfl rfl ?_
      obtain ⟨s25, h26, h⟩ := en_b1_h h
      refine en_callV (as := []) (rest := []) (bc' := 0) (bs' := 0) hz rfl (s_mm_reclaims G hz (d + 0) h26) lk_10_115 mv_mm_reclaims rfl rfl rfl rfl rfl (fun _ h => h) (Nat.le_refl _) (Nat.le_refl _) ?_
      cases h
      exact en_s_vret rfl rfl
    · rw [if_pos c18] at h
      refine en_s_sipush rfl ?_
      refine en_s_istore_n (ls' := [some (.inr (.inl (some (24, 0, 0)))), some (.inl v1), some (.inl 898)]) rfl rfl rfl ?_
      obtain ⟨s33, h34, h⟩ := en_b1_h h
      refine s_mm_isDone_104 G hz en_fu  h34 (fun f32 => ?_)
      refine en_s_aload_n rfl rfl ?_
      refine en_s_getR (w := some (25, 0, 0)) rfl rfl rfl rfl ?_
      refine en_s_bipush rfl ?_
      refine en_s_dup2 rfl rfl rfl ?_
      refine en_c_iald (q := 19) rfl rfl (by decide) (by decide) ?_
      refine en_s_iconst rfl ?_
      refine en_s_isub rfl ?_
      obtain ⟨s35, e36, h⟩ := en_let_h h
      refine en_c_iast (q := 19) e36 rfl rfl (by decide) (by decide) ?_
      refine en_s_aload_n rfl rfl ?_
      refine en_s_getR (w := some (25, 0, 0)) rfl rfl rfl rfl ?_
      refine en_s_sipush rfl ?_
      refine en_s_iconst rfl ?_
      refine en_s_aload_n rfl rfl ?_
      refine en_s_getR (w := some (25, 0, 0)) rfl rfl rfl rfl ?_
      refine en_s_bipush rfl ?_
      refine en_c_iald (q := 19) rfl rfl (by decide) (by decide) ?_
      refine en_s_imul rfl ?_
      refine en_s_iadd rfl ?_
      refine en_s_iload_n rfl rfl ?_
      obtain ⟨s37, e38, h⟩ := en_b1_h h
      refine en_s_iast rfl rfl e38 ?_
      refine en_s_aload_n rfl rfl ?_
      refine en_s_getR (w := some (25, 0, 0)) rfl rfl rfl rfl ?_
      refine en_s_sipush rfl ?_
      refine en_s_iconst rfl ?_
      refine en_s_aload_n rfl rfl ?_
      refine en_s_getR (w := some (25, 0, 0)) rfl rfl rfl rfl ?_
      refine en_s_bipush rfl ?_
      refine en_c_iald (q := 19) rfl rfl (by decide) (by decide) ?_
      refine en_s_imul rfl ?_
      refine en_s_iadd rfl ?_
      refine en_s_iconst rfl ?_
      refine en_s_iadd rfl ?_
      refine en_s_aload_n rfl rfl ?_
      refine en_s_getR (w := some (25, 0, 0)) rfl rfl rfl rfl ?_
      refine en_s_iconst rfl ?_
      refine en_c_iald (q := 4) rfl rfl (by decide) (by decide) ?_
      obtain ⟨s39, e40, h⟩ := en_b1_h h
      refine en_s_iast rfl rfl e40 ?_
      refine en_s_aload_n rfl rfl ?_
      refine en_s_getR (w := some (25, 0, 0)) rfl rfl rfl rfl ?_
      refine en_s_bipush rfl ?_
      refine en_s_dup2 rfl rfl rfl ?_
      refine en_c_iald (q := 19) rfl rfl (by decide) (by decide) ?_
      refine en_s_iconst rfl ?_
      refine en_s_iadd rfl ?_
      obtain ⟨s41, e42, h⟩ := en_let_h h
      refine en_c_iast (q := 19) e42 rfl rfl (by decide) (by decide) ?_
      refine en_s_aload_n rfl rfl ?_
      obtain ⟨s43, h44, h⟩ := en_b1_h h
      refine en_callV (as := []) (rest := []) (bc' := 0) (bs' := 0) hz rfl (s_mm_reclaims G hz (d + 0) h44) lk_10_115 mv_mm_reclaims rfl rfl rfl rfl rfl (fun _ h => h) (Nat.le_refl _) (Nat.le_refl _) ?_
      cases h
      exact en_s_vret rfl rfl
  · rw [if_neg c15] at h
    refine en_s_iconst rfl ?_
    refine en_s_goto rfl ?_
    refine en_s_iadd rfl ?_
    obtain ⟨s45, e46, h⟩ := en_let_h h
    refine en_c_iast (q := 11) e46 rfl rfl (by decide) (by decide) ?_
    refine en_s_aload_n rfl rfl ?_
    refine en_s_getR (w := some (25, 0, 0)) rfl rfl rfl rfl ?_
    refine en_s_bipush rfl ?_
    refine en_c_iald (q := 19) rfl rfl (by decide) (by decide) ?_
    refine en_s_bipush rfl ?_
    refine en_s_icmp_ne rfl (fun c47 => ?_) (fun c47 => ?_)
    · rw [if_neg c47] at h
      refine en_s_aload_n rfl rfl ?_
      refine en_s_getR (w := some (25, 0, 0)) rfl rfl rfl rfl ?_
      refine en_s_sipush rfl ?_
      refine en_s_iconst rfl ?_
      refine en_s_aload_n rfl rfl ?_
      refine en_s_getR (w := some (25, 0, 0)) rfl rfl rfl rfl ?_
      refine en_s_bipush rfl ?_
      refine en_c_iald (q := 19) rfl rfl (by decide) (by decide) ?_
      refine en_s_imul rfl ?_
      refine en_s_iadd rfl ?_
      refine en_s_iload_n rfl rfl ?_
      obtain ⟨s48, e49, h⟩ := en_b1_h h
      refine en_s_iast rfl rfl e49 ?_
      refine en_s_aload_n rfl rfl ?_
      refine en_s_getR (w := some (25, 0, 0)) rfl rfl rfl rfl ?_
      refine en_s_sipush rfl ?_
      refine en_s_iconst rfl ?_
      refine en_s_aload_n rfl rfl ?_
      refine en_s_getR (w := some (25, 0, 0)) rfl rfl rfl rfl ?_
      refine en_s_bipush rfl ?_
      refine en_c_iald (q := 19) rfl rfl (by decide) (by decide) ?_
      refine en_s_imul rfl ?_
      refine en_s_iadd rfl ?_
      refine en_s_iconst rfl ?_
      refine en_s_iadd rfl ?_
      refine en_s_aload_n rfl rfl ?_
      refine en_s_getR (w := some (25, 0, 0)) rfl rfl rfl rfl ?_
      refine en_s_iconst rfl ?_
      refine en_c_iald (q := 4) rfl rfl (by decide) (by decide) ?_
      obtain ⟨s50, e51, h⟩ := en_b1_h h
      refine en_s_iast rfl rfl e51 ?_
      refine en_s_aload_n rfl rfl ?_
      refine en_s_getR (w := some (25, 0, 0)) rfl rfl rfl rfl ?_
      refine en_s_bipush rfl ?_
      refine en_s_dup2 rfl rfl rfl ?_
      refine en_c_iald (q := 19) rfl rfl (by decide) (by decide) ?_
      refine en_s_iconst rfl ?_
      refine en_s_iadd rfl ?_
      obtain ⟨s52, e53, h⟩ := en_let_h h
      refine en_c_iast (q := 19) e53 rfl rfl (by decide) (by decide) ?_
      refine en_s_aload_n rfl rfl ?_
      obtain ⟨s54, h55, h⟩ := en_b1_h h
      refine en_callV (as := []) (rest := []) (bc' := 0) (bs' := 0) hz rfl (s_mm_reclaims G hz (d + 0) h55) lk_10_115 mv_mm_reclaims rfl rfl rfl rfl rfl (fun _ h => h) (Nat.le_refl _) (Nat.le_refl _) ?_
      cases h
      exact en_s_vret rfl rfl
    · rw [if_pos c47] at h
      refine en_s_sipush rfl ?_
      refine en_s_istore_n (ls' := [some (.inr (.inl (some (24, 0, 0)))), some (.inl v1), some (.inl 898)]) rfl rfl rfl ?_
      obtain ⟨s57, h58, h⟩ := en_b1_h h
      refine s_mm_isDone_104 G hz en_fu  h58 (fun f56 => ?_)
      refine en_s_aload_n rfl rfl ?_
      refine en_s_getR (w := some (25, 0, 0)) rfl rfl rfl rfl ?_
      refine en_s_bipush rfl ?_
      refine en_s_dup2 rfl rfl rfl ?_
      refine en_c_iald (q := 19) rfl rfl (by decide) (by decide) ?_
      refine en_s_iconst rfl ?_
      refine en_s_isub rfl ?_
      obtain ⟨s59, e60, h⟩ := en_let_h h
      refine en_c_iast (q := 19) e60 rfl rfl (by decide) (by decide) ?_
      refine en_s_aload_n rfl rfl ?_
      refine en_s_getR (w := some (25, 0, 0)) rfl rfl rfl rfl ?_
      refine en_s_sipush rfl ?_
      refine en_s_iconst rfl ?_
      refine en_s_aload_n rfl rfl ?_
      refine en_s_getR (w := some (25, 0, 0)) rfl rfl rfl rfl ?_
      refine en_s_bipush rfl ?_
      refine en_c_iald (q := 19) rfl rfl (by decide) (by decide) ?_
      refine en_s_imul rfl ?_
      refine en_s_iadd rfl ?_
      refine en_s_iload_n rfl rfl ?_
      obtain ⟨s61, e62, h⟩ := en_b1_h h
      refine en_s_iast rfl rfl e62 ?_
      refine en_s_aload_n rfl rfl ?_
      refine en_s_getR (w := some (25, 0, 0)) rfl rfl rfl rfl ?_
      refine en_s_sipush rfl ?_
      refine en_s_iconst rfl ?_
      refine en_s_aload_n rfl rfl ?_
      refine en_s_getR (w := some (25, 0, 0)) rfl rfl rfl rfl ?_
      refine en_s_bipush rfl ?_
      refine en_c_iald (q := 19) rfl rfl (by decide) (by decide) ?_
      refine en_s_imul rfl ?_
      refine en_s_iadd rfl ?_
      refine en_s_iconst rfl ?_
      refine en_s_iadd rfl ?_
      refine en_s_aload_n rfl rfl ?_
      refine en_s_getR (w := some (25, 0, 0)) rfl rfl rfl rfl ?_
      refine en_s_iconst rfl ?_
      refine en_c_iald (q := 4) rfl rfl (by decide) (by decide) ?_
      obtain ⟨s63, e64, h⟩ := en_b1_h h
      refine en_s_iast rfl rfl e64 ?_
      refine en_s_aload_n rfl rfl ?_
      refine en_s_getR (w := some (25, 0, 0)) rfl rfl rfl rfl ?_
      refine en_s_bipush rfl ?_
      refine en_s_dup2 rfl rfl rfl ?_
      refine en_c_iald (q := 19) rfl rfl (by decide) (by decide) ?_
      refine en_s_iconst rfl ?_
      refine en_s_iadd rfl ?_
      obtain ⟨s65, e66, h⟩ := en_let_h h
      refine en_c_iast (q := 19) e66 rfl rfl (by decide) (by decide) ?_
      refine en_s_aload_n rfl rfl ?_
      obtain ⟨s67, h68, h⟩ := en_b1_h h
      refine en_callV (as := []) (rest := []) (bc' := 0) (bs' := 0) hz rfl (s_mm_reclaims G hz (d + 0) h68) lk_10_115 mv_mm_reclaims rfl rfl rfl rfl rfl (fun _ h => h) (Nat.le_refl _) (Nat.le_refl _) ?_
      cases h
      exact en_s_vret rfl rfl
def k_mm_isGone  (σ : en_M) : Option (en_M) :=
  en_b1 (en_wa 938 σ 25 0 0 (k_mm_pieceAt (σ 25 0 0 15) (σ 25 0 0 16) 2) (σ 25 0 0 4)) fun s1 =>
  en_b1 (k_mm_of (σ 25 0 0 15) 0 s1) fun t3 =>
  en_b1 (en_rd 938 (s1 25 0 0) ((20 + (9 * t3)) + 7)) fun t5 =>
  en_b1 (k_mm_bytesOf (σ 25 0 0 15) (s1 25 0 0 16) s1) fun t7 =>
  en_b1 (en_wa 938 s1 25 0 0 ((20 + (9 * t3)) + 7) (t5 + t7)) fun s9 =>
  en_b1 (k_mm_isAllGone (σ 25 0 0 15) s9) fun t11 =>
  if t11 = 0 then
    some s9
  else
    en_b1 (k_mm_isDone (σ 25 0 0 15) s9) fun s14 =>
    some s14
set_option maxRecDepth 100000 in
set_option maxHeartbeats 4000000 in
theorem s_mm_isGone (G : en_G) (hz : G.2.2.2.2.2.2.2.2 = none) (d : Nat) {cs : List en_A} {σ : en_M}  {s0 : en_M}  (h : k_mm_isGone  σ = some s0) : en_Mt G (d + 5) 0 0 M_mm_isGone [.inr (.inl (some (24, 0, 0)))] cs en_rf σ (.inr (none)) cs en_rf s0 := by
  refine en_meth (ls := [some (.inr (.inl (some (24, 0, 0)))), none]) md_mm_isGone rfl rfl rfl ?_
  unfold k_mm_isGone at h
  refine en_s_aload_n rfl rfl ?_
  refine en_s_getR (w := some (25, 0, 0)) rfl rfl rfl rfl ?_
  refine en_s_bipush rfl ?_
  refine en_c_iald (q := 15) rfl rfl (by decide) (by decide) ?_
  refine en_s_istore_n (ls' := [some (.inr (.inl (some (24, 0, 0)))), some (.inl (σ 25 0 0 15))]) rfl rfl rfl ?_
  refine en_s_aload_n rfl rfl ?_
  refine en_s_getR (w := some (25, 0, 0)) rfl rfl rfl rfl ?_
  refine en_s_iload_n rfl rfl ?_
  refine en_s_aload_n rfl rfl ?_
  refine en_s_getR (w := some (25, 0, 0)) rfl rfl rfl rfl ?_
  refine en_s_bipush rfl ?_
  refine en_c_iald (q := 16) rfl rfl (by decide) (by decide) ?_
  refine en_s_iconst rfl ?_
  refine en_callS (as := [.inl (σ 25 0 0 15), .inl (σ 25 0 0 16), .inl 2]) (rest := [.inr (.inl (some (25, 0, 0)))]) (bc' := 0) (bs' := 0) hz rfl (s_mm_pieceAt G hz (d + 3) rfl) lk_10_78 mv_mm_pieceAt rfl rfl rfl (fun _ h => h) (Nat.le_refl _) (Nat.le_refl _) ?_
  refine en_s_aload_n rfl rfl ?_
  refine en_s_getR (w := some (25, 0, 0)) rfl rfl rfl rfl ?_
  refine en_s_iconst rfl ?_
  refine en_c_iald (q := 4) rfl rfl (by decide) (by decide) ?_
  obtain ⟨s1, e2, h⟩ := en_b1_h h
  refine en_s_iast rfl rfl e2 ?_
  refine en_s_aload_n rfl rfl ?_
  refine en_s_getR (w := some (25, 0, 0)) rfl rfl rfl rfl ?_
  refine en_s_bipush rfl ?_
  refine en_s_bipush rfl ?_
  refine en_s_aload_n rfl rfl ?_
  refine en_s_iload_n rfl rfl ?_
  refine en_s_iconst rfl ?_
  obtain ⟨t3, h4, h⟩ := en_b1_h h
  refine en_callV (as := [.inl (σ 25 0 0 15), .inl 0]) (rest := [.inl 9, .inl 20, .inr (.inl (some (25, 0, 0)))]) (bc' := 0) (bs' := 0) hz rfl (s_mm_of G hz (d + 3) h4) lk_10_66 mv_mm_of rfl rfl rfl rfl rfl (fun _ h => h) (Nat.le_refl _) (Nat.le_refl _) ?_
  refine en_s_imul rfl ?_
  refine en_s_iadd rfl ?_
  refine en_s_bipush rfl ?_
  refine en_s_iadd rfl ?_
  refine en_s_dup2 rfl rfl rfl ?_
  obtain ⟨t5, h6, h⟩ := en_b1_h h
  refine en_s_iald rfl rfl h6 ?_
  refine en_s_aload_n rfl rfl ?_
  refine en_s_iload_n rfl rfl ?_
  refine en_s_aload_n rfl rfl ?_
  refine en_s_getR (w := some (25, 0, 0)) rfl rfl rfl rfl ?_
  refine en_s_bipush rfl ?_
  refine en_c_iald (q := 16) rfl rfl (by decide) (by decide) ?_
  obtain ⟨t7, h8, h⟩ := en_b1_h h
  refine en_callV (as := [.inl (σ 25 0 0 15), .inl (s1 25 0 0 16)]) (rest := [.inl t5, .inl ((20 + (9 * t3)) + 7), .inr (.inl (some (25, 0, 0)))]) (bc' := 0) (bs' := 0) hz rfl (s_mm_bytesOf G hz (d + 2) h8) lk_10_75 mv_mm_bytesOf rfl rfl rfl rfl rfl (fun _ h => h) (Nat.le_refl _) (Nat.le_refl _) ?_
  refine en_s_iadd rfl ?_
  obtain ⟨s9, e10, h⟩ := en_b1_h h
  refine en_s_iast rfl rfl e10 ?_
  refine en_s_aload_n rfl rfl ?_
  refine en_s_iload_n rfl rfl ?_
  obtain ⟨t11, h12, h⟩ := en_b1_h h
  refine en_callV (as := [.inl (σ 25 0 0 15)]) (rest := []) (bc' := 0) (bs' := 0) hz rfl (s_mm_isAllGone G hz (d + 0) h12) lk_10_137 mv_mm_isAllGone rfl rfl rfl rfl rfl (fun _ h => h) (Nat.le_refl _) (Nat.le_refl _) ?_
  refine en_s_if_eq rfl (fun c13 => ?_) (fun c13 => ?_)
  · rw [if_pos c13] at h
    cases h
    exact en_s_vret rfl rfl
  · rw [if_neg c13] at h
    refine en_s_aload_n rfl rfl ?_
    refine en_s_iload_n rfl rfl ?_
    obtain ⟨s14, h15, h⟩ := en_b1_h h
    refine en_callV (as := [.inl (σ 25 0 0 15)]) (rest := []) (bc' := 0) (bs' := 0) hz rfl (s_mm_isDone G hz (d + 1) h15) lk_10_140 mv_mm_isDone rfl rfl rfl rfl rfl (fun _ h => h) (Nat.le_refl _) (Nat.le_refl _) ?_
    cases h
    exact en_s_vret rfl rfl
def k_mm_ticks  (σ : en_M) : Option (Int32 × en_M) :=
  if (σ 25 0 0 17) = 0 then
    en_b1 (k_mm_times σ) fun s20 =>
    en_b2 (k_mm_finds1 (s20 25 0 0 4) s20) fun t22 s23 =>
    if t22 = 0 then
      en_b1 (k_mm_isStarved s23) fun t26 =>
      if t26 = 0 then
        en_let (en_wr s23 25 0 0 14 ((s23 25 0 0 14) + 0)) fun s29 =>
        if (s29 25 0 0 17) ≤ 0 then
          en_let (en_wr s29 25 0 0 12 ((s29 25 0 0 12) + 0)) fun s32 =>
          en_let (en_wr s32 25 0 0 13 ((s32 25 0 0 13) + 1)) fun s34 =>
          en_let (en_wr s34 25 0 0 4 ((s34 25 0 0 4) + 1)) fun s36 =>
          en_b1 (en_bz t22) fun t38 =>
          some (t38, s36)
        else
          en_let (en_wr s29 25 0 0 12 ((s29 25 0 0 12) + 1)) fun s40 =>
          en_let (en_wr s40 25 0 0 13 ((s40 25 0 0 13) + 0)) fun s42 =>
          en_let (en_wr s42 25 0 0 4 ((s42 25 0 0 4) + 1)) fun s44 =>
          en_let (en_wr s44 25 0 0 17 ((s44 25 0 0 17) - 1)) fun s46 =>
          if (s46 25 0 0 17) = 0 then
            en_b1 (k_mm_isGone s46) fun s51 =>
            en_b1 (en_bz t22) fun t53 =>
            some (t53, s51)
          else
            en_b1 (en_bz t22) fun t49 =>
            some (t49, s46)
      else
        en_let (en_wr s23 25 0 0 14 ((s23 25 0 0 14) + 1)) fun s55 =>
        if (s55 25 0 0 17) ≤ 0 then
          en_let (en_wr s55 25 0 0 12 ((s55 25 0 0 12) + 0)) fun s58 =>
          en_let (en_wr s58 25 0 0 13 ((s58 25 0 0 13) + 1)) fun s60 =>
          en_let (en_wr s60 25 0 0 4 ((s60 25 0 0 4) + 1)) fun s62 =>
          en_b1 (en_bz t22) fun t64 =>
          some (t64, s62)
        else
          en_let (en_wr s55 25 0 0 12 ((s55 25 0 0 12) + 1)) fun s66 =>
          en_let (en_wr s66 25 0 0 13 ((s66 25 0 0 13) + 0)) fun s68 =>
          en_let (en_wr s68 25 0 0 4 ((s68 25 0 0 4) + 1)) fun s70 =>
          en_let (en_wr s70 25 0 0 17 ((s70 25 0 0 17) - 1)) fun s72 =>
          if (s72 25 0 0 17) = 0 then
            en_b1 (k_mm_isGone s72) fun s77 =>
            en_b1 (en_bz t22) fun t79 =>
            some (t79, s77)
          else
            en_b1 (en_bz t22) fun t75 =>
            some (t75, s72)
    else
      en_b1 (k_mm_leaves (s23 24 0 0 20) (s23 24 0 0 21) s23) fun s81 =>
      if (s81 25 0 0 17) ≤ 0 then
        en_let (en_wr s81 25 0 0 12 ((s81 25 0 0 12) + 0)) fun s84 =>
        en_let (en_wr s84 25 0 0 13 ((s84 25 0 0 13) + 1)) fun s86 =>
        en_let (en_wr s86 25 0 0 4 ((s86 25 0 0 4) + 1)) fun s88 =>
        en_b1 (en_bz t22) fun t90 =>
        some (t90, s88)
      else
        en_let (en_wr s81 25 0 0 12 ((s81 25 0 0 12) + 1)) fun s92 =>
        en_let (en_wr s92 25 0 0 13 ((s92 25 0 0 13) + 0)) fun s94 =>
        en_let (en_wr s94 25 0 0 4 ((s94 25 0 0 4) + 1)) fun s96 =>
        en_let (en_wr s96 25 0 0 17 ((s96 25 0 0 17) - 1)) fun s98 =>
        if (s98 25 0 0 17) = 0 then
          en_b1 (k_mm_isGone s98) fun s103 =>
          en_b1 (en_bz t22) fun t105 =>
          some (t105, s103)
        else
          en_b1 (en_bz t22) fun t101 =>
          some (t101, s98)
  else
    if (σ 25 0 0 17) ≤ 0 then
      en_let (en_wr σ 25 0 0 12 ((σ 25 0 0 12) + 0)) fun s3 =>
      en_let (en_wr s3 25 0 0 13 ((s3 25 0 0 13) + 1)) fun s5 =>
      en_let (en_wr s5 25 0 0 4 ((s5 25 0 0 4) + 1)) fun s7 =>
      some (0, s7)
    else
      en_let (en_wr σ 25 0 0 12 ((σ 25 0 0 12) + 1)) fun s9 =>
      en_let (en_wr s9 25 0 0 13 ((s9 25 0 0 13) + 0)) fun s11 =>
      en_let (en_wr s11 25 0 0 4 ((s11 25 0 0 4) + 1)) fun s13 =>
      en_let (en_wr s13 25 0 0 17 ((s13 25 0 0 17) - 1)) fun s15 =>
      if (s15 25 0 0 17) = 0 then
        en_b1 (k_mm_isGone s15) fun s18 =>
        some (0, s18)
      else
        some (0, s15)
set_option maxRecDepth 100000 in
set_option maxHeartbeats 4000000 in
theorem s_mm_ticks (G : en_G) (hz : G.2.2.2.2.2.2.2.2 = none) (d : Nat) {cs : List en_A} {σ : en_M}  {x0 : Int32} {s0 : en_M}  (h : k_mm_ticks  σ = some (x0, s0)) : en_Mt G (d + 6) 0 0 M_mm_ticks [.inr (.inl (some (24, 0, 0)))] cs en_rf σ (.inr (some (.inl x0))) cs en_rf s0 := by
  refine en_meth (ls := [some (.inr (.inl (some (24, 0, 0)))), none, none]) md_mm_ticks rfl rfl rfl ?_
  unfold k_mm_ticks at h
  refine en_s_iconst rfl ?_
  refine en_s_istore_n (ls' := [some (.inr (.inl (some (24, 0, 0)))), some (.inl 0), none]) rfl rfl rfl ?_
  refine en_s_aload_n rfl rfl ?_
  refine en_s_getR (w := some (25, 0, 0)) rfl rfl rfl rfl ?_
  refine en_s_bipush rfl ?_
  refine en_c_iald (q := 17) rfl rfl (by decide) (by decide) ?_
  refine en_s_if_ne rfl (fun c1 => ?_) (fun c1 => ?_)
  · rw [if_neg c1] at h
    refine en_s_aload_n rfl rfl ?_
    refine en_s_getR (w := some (25, 0, 0)) rfl rfl rfl rfl ?_
    refine en_s_bipush rfl ?_
    refine en_c_iald (q := 17) rfl rfl (by decide) (by decide) ?_
    refine en_s_if_le rfl (fun c2 => ?_) (fun c2 => ?_)
    · rw [if_pos c2] at h
      refine en_s_iconst rfl ?_
      refine en_s_istore_n (ls' := [some (.inr (.inl (some (24, 0, 0)))), some (.inl 0), some (.inl 0)]) rfl rfl rfl ?_
      refine en_s_aload_n rfl rfl ?_
      refine en_s_getR (w := some (25, 0, 0)) rfl rfl rfl rfl ?_
      refine en_s_bipush rfl ?_
      refine en_s_dup2 rfl rfl rfl ?_
      refine en_c_iald (q := 12) rfl rfl (by decide) (by decide) ?_
      refine en_s_iload_n rfl rfl ?_
      refine en_s_if_eq rfl (fun _ => ?_) (fun c9 => absurd c9 (by decide))
      refine en_s_iconst rfl ?_
      refine en_s_iadd rfl ?_
      obtain ⟨s3, e4, h⟩ := en_let_h h
      refine en_c_iast (q := 12) e4 rfl rfl (by decide) (by decide) ?_
      refine en_s_aload_n rfl rfl ?_
      refine en_s_getR (w := some (25, 0, 0)) rfl rfl rfl rfl ?_
      refine en_s_bipush rfl ?_
      refine en_s_dup2 rfl rfl rfl ?_
      refine en_c_iald (q := 13) rfl rfl (by decide) (by decide) ?_
      refine en_s_iload_n rfl rfl ?_
      refine en_s_if_eq rfl (fun _ => ?_) (fun c9 => absurd c9 (by decide))
      refine en_s_iconst rfl ?_
      refine en_s_iadd rfl ?_
      obtain ⟨s5, e6, h⟩ := en_let_h h
      refine en_c_iast (q := 13) e6 rfl rfl (by decide) (by decide) ?_
      refine en_s_aload_n rfl rfl ?_
      refine en_s_getR (w := some (25, 0, 0)) rfl rfl rfl rfl ?_
      refine en_s_iconst rfl ?_
      refine en_s_dup2 rfl rfl rfl ?_
      refine en_c_iald (q := 4) rfl rfl (by decide) (by decide) ?_
      refine en_s_iconst rfl ?_
      refine en_s_iadd rfl ?_
      obtain ⟨s7, e8, h⟩ := en_let_h h
      refine en_c_iast (q := 4) e8 rfl rfl (by decide) (by decide) ?_
      refine en_s_iload_n rfl rfl ?_
      refine en_s_if_eq rfl (fun _ => ?_) (fun c9 => absurd c9 (by decide))
      refine en_s_iload_n rfl rfl ?_
      cases h
      exact en_s_zret rfl rfl (Or.inl rfl)
    · rw [if_neg c2] at h
      refine en_s_iconst rfl ?_
      refine en_s_goto rfl ?_
      refine en_s_istore_n (ls' := [some (.inr (.inl (some (24, 0, 0)))), some (.inl 0), some (.inl 1)]) rfl rfl rfl ?_
      refine en_s_aload_n rfl rfl ?_
      refine en_s_getR (w := some (25, 0, 0)) rfl rfl rfl rfl ?_
      refine en_s_bipush rfl ?_
      refine en_s_dup2 rfl rfl rfl ?_
      refine en_c_iald (q := 12) rfl rfl (by decide) (by decide) ?_
      refine en_s_iload_n rfl rfl ?_
      refine en_s_if_eq rfl (fun c9 => absurd c9 (by decide)) (fun _ => ?_)
      refine en_s_iconst rfl ?_
      refine en_s_goto rfl ?_
      refine en_s_iadd rfl ?_
      obtain ⟨s9, e10, h⟩ := en_let_h h
      refine en_c_iast (q := 12) e10 rfl rfl (by decide) (by decide) ?_
      refine en_s_aload_n rfl rfl ?_
      refine en_s_getR (w := some (25, 0, 0)) rfl rfl rfl rfl ?_
      refine en_s_bipush rfl ?_
      refine en_s_dup2 rfl rfl rfl ?_
      refine en_c_iald (q := 13) rfl rfl (by decide) (by decide) ?_
      refine en_s_iload_n rfl rfl ?_
      refine en_s_if_eq rfl (fun c9 => absurd c9 (by decide)) (fun _ => ?_)
      refine en_s_iconst rfl ?_
      refine en_s_goto rfl ?_
      refine en_s_iadd rfl ?_
      obtain ⟨s11, e12, h⟩ := en_let_h h
      refine en_c_iast (q := 13) e12 rfl rfl (by decide) (by decide) ?_
      refine en_s_aload_n rfl rfl ?_
      refine en_s_getR (w := some (25, 0, 0)) rfl rfl rfl rfl ?_
      refine en_s_iconst rfl ?_
      refine en_s_dup2 rfl rfl rfl ?_
      refine en_c_iald (q := 4) rfl rfl (by decide) (by decide) ?_
      refine en_s_iconst rfl ?_
      refine en_s_iadd rfl ?_
      obtain ⟨s13, e14, h⟩ := en_let_h h
      refine en_c_iast (q := 4) e14 rfl rfl (by decide) (by decide) ?_
      refine en_s_iload_n rfl rfl ?_
      refine en_s_if_eq rfl (fun c9 => absurd c9 (by decide)) (fun _ => ?_)
      refine en_s_aload_n rfl rfl ?_
      refine en_s_getR (w := some (25, 0, 0)) rfl rfl rfl rfl ?_
      refine en_s_bipush rfl ?_
      refine en_s_dup2 rfl rfl rfl ?_
      refine en_c_iald (q := 17) rfl rfl (by decide) (by decide) ?_
      refine en_s_iconst rfl ?_
      refine en_s_isub rfl ?_
      obtain ⟨s15, e16, h⟩ := en_let_h h
      refine en_c_iast (q := 17) e16 rfl rfl (by decide) (by decide) ?_
      refine en_s_aload_n rfl rfl ?_
      refine en_s_getR (w := some (25, 0, 0)) rfl rfl rfl rfl ?_
      refine en_s_bipush rfl ?_
      refine en_c_iald (q := 17) rfl rfl (by decide) (by decide) ?_
      refine en_s_if_ne rfl (fun c17 => ?_) (fun c17 => ?_)
      · rw [if_neg c17] at h
        refine en_s_iload_n rfl rfl ?_
        cases h
        exact en_s_zret rfl rfl (Or.inl rfl)
      · rw [if_pos c17] at h
        refine en_s_aload_n rfl rfl ?_
        obtain ⟨s18, h19, h⟩ := en_b1_h h
        refine en_callV (as := []) (rest := []) (bc' := 0) (bs' := 0) hz rfl (s_mm_isGone G hz (d + 0) h19) lk_10_158 mv_mm_isGone rfl rfl rfl rfl rfl (fun _ h => h) (Nat.le_refl _) (Nat.le_refl _) ?_
        refine en_s_iload_n rfl rfl ?_
        cases h
        exact en_s_zret rfl rfl (Or.inl rfl)
  · rw [if_pos c1] at h
    refine en_s_aload_n rfl rfl ?_
    obtain ⟨s20, h21, h⟩ := en_b1_h h
    refine en_callV (as := []) (rest := []) (bc' := 0) (bs' := 0) hz rfl (s_mm_times G hz (d + 1) h21) lk_10_144 mv_mm_times rfl rfl rfl rfl rfl (fun _ h => h) (Nat.le_refl _) (Nat.le_refl _) ?_
    refine en_s_aload_n rfl rfl ?_
    refine en_s_aload_n rfl rfl ?_
    refine en_s_getR (w := some (25, 0, 0)) rfl rfl rfl rfl ?_
    refine en_s_iconst rfl ?_
    refine en_c_iald (q := 4) rfl rfl (by decide) (by decide) ?_
    obtain ⟨t22, s23, h24, h⟩ := en_b2_h h
    refine en_callV (as := [.inl (s20 25 0 0 4)]) (rest := []) (bc' := 0) (bs' := 0) hz rfl (s_mm_finds1 G hz (d + 1) h24) lk_10_147 mv_mm_finds1 rfl rfl rfl rfl rfl (fun _ h => h) (Nat.le_refl _) (Nat.le_refl _) ?_
    refine en_s_istore_n (ls' := [some (.inr (.inl (some (24, 0, 0)))), some (.inl t22), none]) rfl rfl rfl ?_
    refine en_s_iload_n rfl rfl ?_
    refine en_s_if_eq rfl (fun c25 => ?_) (fun c25 => ?_)
    · rw [if_pos c25] at h
      refine en_s_aload_n rfl rfl ?_
      refine en_s_getR (w := some (25, 0, 0)) rfl rfl rfl rfl ?_
      refine en_s_bipush rfl ?_
      refine en_s_dup2 rfl rfl rfl ?_
      refine en_c_iald (q := 14) rfl rfl (by decide) (by decide) ?_
      refine en_s_aload_n rfl rfl ?_
      obtain ⟨t26, h27, h⟩ := en_b1_h h
      refine en_callV (as := []) (rest := [.inl (s23 25 0 0 14), .inl 14, .inr (.inl (some (25, 0, 0)))]) (bc' := 0) (bs' := 0) hz rfl (s_mm_isStarved G hz (d + 1) h27) lk_10_154 mv_mm_isStarved rfl rfl rfl rfl rfl (fun _ h => h) (Nat.le_refl _) (Nat.le_refl _) ?_
      refine en_s_if_eq rfl (fun c28 => ?_) (fun c28 => ?_)
      · rw [if_pos c28] at h
        refine en_s_iconst rfl ?_
        refine en_s_iadd rfl ?_
        obtain ⟨s29, e30, h⟩ := en_let_h h
        refine en_c_iast (q := 14) e30 rfl rfl (by decide) (by decide) ?_
        refine en_s_aload_n rfl rfl ?_
        refine en_s_getR (w := some (25, 0, 0)) rfl rfl rfl rfl ?_
        refine en_s_bipush rfl ?_
        refine en_c_iald (q := 17) rfl rfl (by decide) (by decide) ?_
        refine en_s_if_le rfl (fun c31 => ?_) (fun c31 => ?_)
        · rw [if_pos c31] at h
          refine en_s_iconst rfl ?_
          refine en_s_istore_n (ls' := [some (.inr (.inl (some (24, 0, 0)))), some (.inl t22), some (.inl 0)]) rfl rfl rfl ?_
          refine en_s_aload_n rfl rfl ?_
          refine en_s_getR (w := some (25, 0, 0)) rfl rfl rfl rfl ?_
          refine en_s_bipush rfl ?_
          refine en_s_dup2 rfl rfl rfl ?_
          refine en_c_iald (q := 12) rfl rfl (by decide) (by decide) ?_
          refine en_s_iload_n rfl rfl ?_
          refine en_s_if_eq rfl (fun _ => ?_) (fun c9 => absurd c9 (by decide))
          refine en_s_iconst rfl ?_
          refine en_s_iadd rfl ?_
          obtain ⟨s32, e33, h⟩ := en_let_h h
          refine en_c_iast (q := 12) e33 rfl rfl (by decide) (by decide) ?_
          refine en_s_aload_n rfl rfl ?_
          refine en_s_getR (w := some (25, 0, 0)) rfl rfl rfl rfl ?_
          refine en_s_bipush rfl ?_
          refine en_s_dup2 rfl rfl rfl ?_
          refine en_c_iald (q := 13) rfl rfl (by decide) (by decide) ?_
          refine en_s_iload_n rfl rfl ?_
          refine en_s_if_eq rfl (fun _ => ?_) (fun c9 => absurd c9 (by decide))
          refine en_s_iconst rfl ?_
          refine en_s_iadd rfl ?_
          obtain ⟨s34, e35, h⟩ := en_let_h h
          refine en_c_iast (q := 13) e35 rfl rfl (by decide) (by decide) ?_
          refine en_s_aload_n rfl rfl ?_
          refine en_s_getR (w := some (25, 0, 0)) rfl rfl rfl rfl ?_
          refine en_s_iconst rfl ?_
          refine en_s_dup2 rfl rfl rfl ?_
          refine en_c_iald (q := 4) rfl rfl (by decide) (by decide) ?_
          refine en_s_iconst rfl ?_
          refine en_s_iadd rfl ?_
          obtain ⟨s36, e37, h⟩ := en_let_h h
          refine en_c_iast (q := 4) e37 rfl rfl (by decide) (by decide) ?_
          refine en_s_iload_n rfl rfl ?_
          refine en_s_if_eq rfl (fun _ => ?_) (fun c9 => absurd c9 (by decide))
          refine en_s_iload_n rfl rfl ?_
          obtain ⟨t38, z39, h⟩ := en_b1_h h
          cases h
          obtain ⟨z391, z392⟩ := en_bz_h z39
          subst z392
          exact en_s_zret rfl rfl z391
        · rw [if_neg c31] at h
          refine en_s_iconst rfl ?_
          refine en_s_goto rfl ?_
          refine en_s_istore_n (ls' := [some (.inr (.inl (some (24, 0, 0)))), some (.inl t22), some (.inl 1)]) rfl rfl rfl ?_
          refine en_s_aload_n rfl rfl ?_
          refine en_s_getR (w := some (25, 0, 0)) rfl rfl rfl rfl ?_
          refine en_s_bipush rfl ?_
          refine en_s_dup2 rfl rfl rfl ?_
          refine en_c_iald (q := 12) rfl rfl (by decide) (by decide) ?_
          refine en_s_iload_n rfl rfl ?_
          refine en_s_if_eq rfl (fun c9 => absurd c9 (by decide)) (fun _ => ?_)
          refine en_s_iconst rfl ?_
          refine en_s_goto rfl ?_
          refine en_s_iadd rfl ?_
          obtain ⟨s40, e41, h⟩ := en_let_h h
          refine en_c_iast (q := 12) e41 rfl rfl (by decide) (by decide) ?_
          refine en_s_aload_n rfl rfl ?_
          refine en_s_getR (w := some (25, 0, 0)) rfl rfl rfl rfl ?_
          refine en_s_bipush rfl ?_
          refine en_s_dup2 rfl rfl rfl ?_
          refine en_c_iald (q := 13) rfl rfl (by decide) (by decide) ?_
          refine en_s_iload_n rfl rfl ?_
          refine en_s_if_eq rfl (fun c9 => absurd c9 (by decide)) (fun _ => ?_)
          refine en_s_iconst rfl ?_
          refine en_s_goto rfl ?_
          refine en_s_iadd rfl ?_
          obtain ⟨s42, e43, h⟩ := en_let_h h
          refine en_c_iast (q := 13) e43 rfl rfl (by decide) (by decide) ?_
          refine en_s_aload_n rfl rfl ?_
          refine en_s_getR (w := some (25, 0, 0)) rfl rfl rfl rfl ?_
          refine en_s_iconst rfl ?_
          refine en_s_dup2 rfl rfl rfl ?_
          refine en_c_iald (q := 4) rfl rfl (by decide) (by decide) ?_
          refine en_s_iconst rfl ?_
          refine en_s_iadd rfl ?_
          obtain ⟨s44, e45, h⟩ := en_let_h h
          refine en_c_iast (q := 4) e45 rfl rfl (by decide) (by decide) ?_
          refine en_s_iload_n rfl rfl ?_
          refine en_s_if_eq rfl (fun c9 => absurd c9 (by decide)) (fun _ => ?_)
          refine en_s_aload_n rfl rfl ?_
          refine en_s_getR (w := some (25, 0, 0)) rfl rfl rfl rfl ?_
          refine en_s_bipush rfl ?_
          refine en_s_dup2 rfl rfl rfl ?_
          refine en_c_iald (q := 17) rfl rfl (by decide) (by decide) ?_
          refine en_s_iconst rfl ?_
          refine en_s_isub rfl ?_
          obtain ⟨s46, e47, h⟩ := en_let_h h
          refine en_c_iast (q := 17) e47 rfl rfl (by decide) (by decide) ?_
          refine en_s_aload_n rfl rfl ?_
          refine en_s_getR (w := some (25, 0, 0)) rfl rfl rfl rfl ?_
          refine en_s_bipush rfl ?_
          refine en_c_iald (q := 17) rfl rfl (by decide) (by decide) ?_
          refine en_s_if_ne rfl (fun c48 => ?_) (fun c48 => ?_)
          · rw [if_neg c48] at h
            refine en_s_iload_n rfl rfl ?_
            obtain ⟨t49, z50, h⟩ := en_b1_h h
            cases h
            obtain ⟨z501, z502⟩ := en_bz_h z50
            subst z502
            exact en_s_zret rfl rfl z501
          · rw [if_pos c48] at h
            refine en_s_aload_n rfl rfl ?_
            obtain ⟨s51, h52, h⟩ := en_b1_h h
            refine en_callV (as := []) (rest := []) (bc' := 0) (bs' := 0) hz rfl (s_mm_isGone G hz (d + 0) h52) lk_10_158 mv_mm_isGone rfl rfl rfl rfl rfl (fun _ h => h) (Nat.le_refl _) (Nat.le_refl _) ?_
            refine en_s_iload_n rfl rfl ?_
            obtain ⟨t53, z54, h⟩ := en_b1_h h
            cases h
            obtain ⟨z541, z542⟩ := en_bz_h z54
            subst z542
            exact en_s_zret rfl rfl z541
      · rw [if_neg c28] at h
        refine en_s_iconst rfl ?_
        refine en_s_goto rfl ?_
        refine en_s_iadd rfl ?_
        obtain ⟨s55, e56, h⟩ := en_let_h h
        refine en_c_iast (q := 14) e56 rfl rfl (by decide) (by decide) ?_
        refine en_s_aload_n rfl rfl ?_
        refine en_s_getR (w := some (25, 0, 0)) rfl rfl rfl rfl ?_
        refine en_s_bipush rfl ?_
        refine en_c_iald (q := 17) rfl rfl (by decide) (by decide) ?_
        refine en_s_if_le rfl (fun c57 => ?_) (fun c57 => ?_)
        · rw [if_pos c57] at h
          refine en_s_iconst rfl ?_
          refine en_s_istore_n (ls' := [some (.inr (.inl (some (24, 0, 0)))), some (.inl t22), some (.inl 0)]) rfl rfl rfl ?_
          refine en_s_aload_n rfl rfl ?_
          refine en_s_getR (w := some (25, 0, 0)) rfl rfl rfl rfl ?_
          refine en_s_bipush rfl ?_
          refine en_s_dup2 rfl rfl rfl ?_
          refine en_c_iald (q := 12) rfl rfl (by decide) (by decide) ?_
          refine en_s_iload_n rfl rfl ?_
          refine en_s_if_eq rfl (fun _ => ?_) (fun c9 => absurd c9 (by decide))
          refine en_s_iconst rfl ?_
          refine en_s_iadd rfl ?_
          obtain ⟨s58, e59, h⟩ := en_let_h h
          refine en_c_iast (q := 12) e59 rfl rfl (by decide) (by decide) ?_
          refine en_s_aload_n rfl rfl ?_
          refine en_s_getR (w := some (25, 0, 0)) rfl rfl rfl rfl ?_
          refine en_s_bipush rfl ?_
          refine en_s_dup2 rfl rfl rfl ?_
          refine en_c_iald (q := 13) rfl rfl (by decide) (by decide) ?_
          refine en_s_iload_n rfl rfl ?_
          refine en_s_if_eq rfl (fun _ => ?_) (fun c9 => absurd c9 (by decide))
          refine en_s_iconst rfl ?_
          refine en_s_iadd rfl ?_
          obtain ⟨s60, e61, h⟩ := en_let_h h
          refine en_c_iast (q := 13) e61 rfl rfl (by decide) (by decide) ?_
          refine en_s_aload_n rfl rfl ?_
          refine en_s_getR (w := some (25, 0, 0)) rfl rfl rfl rfl ?_
          refine en_s_iconst rfl ?_
          refine en_s_dup2 rfl rfl rfl ?_
          refine en_c_iald (q := 4) rfl rfl (by decide) (by decide) ?_
          refine en_s_iconst rfl ?_
          refine en_s_iadd rfl ?_
          obtain ⟨s62, e63, h⟩ := en_let_h h
          refine en_c_iast (q := 4) e63 rfl rfl (by decide) (by decide) ?_
          refine en_s_iload_n rfl rfl ?_
          refine en_s_if_eq rfl (fun _ => ?_) (fun c9 => absurd c9 (by decide))
          refine en_s_iload_n rfl rfl ?_
          obtain ⟨t64, z65, h⟩ := en_b1_h h
          cases h
          obtain ⟨z651, z652⟩ := en_bz_h z65
          subst z652
          exact en_s_zret rfl rfl z651
        · rw [if_neg c57] at h
          refine en_s_iconst rfl ?_
          refine en_s_goto rfl ?_
          refine en_s_istore_n (ls' := [some (.inr (.inl (some (24, 0, 0)))), some (.inl t22), some (.inl 1)]) rfl rfl rfl ?_
          refine en_s_aload_n rfl rfl ?_
          refine en_s_getR (w := some (25, 0, 0)) rfl rfl rfl rfl ?_
          refine en_s_bipush rfl ?_
          refine en_s_dup2 rfl rfl rfl ?_
          refine en_c_iald (q := 12) rfl rfl (by decide) (by decide) ?_
          refine en_s_iload_n rfl rfl ?_
          refine en_s_if_eq rfl (fun c9 => absurd c9 (by decide)) (fun _ => ?_)
          refine en_s_iconst rfl ?_
          refine en_s_goto rfl ?_
          refine en_s_iadd rfl ?_
          obtain ⟨s66, e67, h⟩ := en_let_h h
          refine en_c_iast (q := 12) e67 rfl rfl (by decide) (by decide) ?_
          refine en_s_aload_n rfl rfl ?_
          refine en_s_getR (w := some (25, 0, 0)) rfl rfl rfl rfl ?_
          refine en_s_bipush rfl ?_
          refine en_s_dup2 rfl rfl rfl ?_
          refine en_c_iald (q := 13) rfl rfl (by decide) (by decide) ?_
          refine en_s_iload_n rfl rfl ?_
          refine en_s_if_eq rfl (fun c9 => absurd c9 (by decide)) (fun _ => ?_)
          refine en_s_iconst rfl ?_
          refine en_s_goto rfl ?_
          refine en_s_iadd rfl ?_
          obtain ⟨s68, e69, h⟩ := en_let_h h
          refine en_c_iast (q := 13) e69 rfl rfl (by decide) (by decide) ?_
          refine en_s_aload_n rfl rfl ?_
          refine en_s_getR (w := some (25, 0, 0)) rfl rfl rfl rfl ?_
          refine en_s_iconst rfl ?_
          refine en_s_dup2 rfl rfl rfl ?_
          refine en_c_iald (q := 4) rfl rfl (by decide) (by decide) ?_
          refine en_s_iconst rfl ?_
          refine en_s_iadd rfl ?_
          obtain ⟨s70, e71, h⟩ := en_let_h h
          refine en_c_iast (q := 4) e71 rfl rfl (by decide) (by decide) ?_
          refine en_s_iload_n rfl rfl ?_
          refine en_s_if_eq rfl (fun c9 => absurd c9 (by decide)) (fun _ => ?_)
          refine en_s_aload_n rfl rfl ?_
          refine en_s_getR (w := some (25, 0, 0)) rfl rfl rfl rfl ?_
          refine en_s_bipush rfl ?_
          refine en_s_dup2 rfl rfl rfl ?_
          refine en_c_iald (q := 17) rfl rfl (by decide) (by decide) ?_
          refine en_s_iconst rfl ?_
          refine en_s_isub rfl ?_
          obtain ⟨s72, e73, h⟩ := en_let_h h
          refine en_c_iast (q := 17) e73 rfl rfl (by decide) (by decide) ?_
          refine en_s_aload_n rfl rfl ?_
          refine en_s_getR (w := some (25, 0, 0)) rfl rfl rfl rfl ?_
          refine en_s_bipush rfl ?_
          refine en_c_iald (q := 17) rfl rfl (by decide) (by decide) ?_
          refine en_s_if_ne rfl (fun c74 => ?_) (fun c74 => ?_)
          · rw [if_neg c74] at h
            refine en_s_iload_n rfl rfl ?_
            obtain ⟨t75, z76, h⟩ := en_b1_h h
            cases h
            obtain ⟨z761, z762⟩ := en_bz_h z76
            subst z762
            exact en_s_zret rfl rfl z761
          · rw [if_pos c74] at h
            refine en_s_aload_n rfl rfl ?_
            obtain ⟨s77, h78, h⟩ := en_b1_h h
            refine en_callV (as := []) (rest := []) (bc' := 0) (bs' := 0) hz rfl (s_mm_isGone G hz (d + 0) h78) lk_10_158 mv_mm_isGone rfl rfl rfl rfl rfl (fun _ h => h) (Nat.le_refl _) (Nat.le_refl _) ?_
            refine en_s_iload_n rfl rfl ?_
            obtain ⟨t79, z80, h⟩ := en_b1_h h
            cases h
            obtain ⟨z801, z802⟩ := en_bz_h z80
            subst z802
            exact en_s_zret rfl rfl z801
    · rw [if_neg c25] at h
      refine en_s_aload_n rfl rfl ?_
      refine en_s_aload_n rfl rfl ?_
      refine en_s_getI rfl rfl rfl ?_
      refine en_s_aload_n rfl rfl ?_
      refine en_s_getI rfl rfl rfl ?_
      obtain ⟨s81, h82, h⟩ := en_b1_h h
      refine en_callV (as := [.inl (s23 24 0 0 20), .inl (s23 24 0 0 21)]) (rest := []) (bc' := 0) (bs' := 0) hz rfl (s_mm_leaves G hz (d + 0) h82) lk_10_150 mv_mm_leaves rfl rfl rfl rfl rfl (fun _ h => h) (Nat.le_refl _) (Nat.le_refl _) ?_
      refine en_s_goto rfl ?_
      refine en_s_aload_n rfl rfl ?_
      refine en_s_getR (w := some (25, 0, 0)) rfl rfl rfl rfl ?_
      refine en_s_bipush rfl ?_
      refine en_c_iald (q := 17) rfl rfl (by decide) (by decide) ?_
      refine en_s_if_le rfl (fun c83 => ?_) (fun c83 => ?_)
      · rw [if_pos c83] at h
        refine en_s_iconst rfl ?_
        refine en_s_istore_n (ls' := [some (.inr (.inl (some (24, 0, 0)))), some (.inl t22), some (.inl 0)]) rfl rfl rfl ?_
        refine en_s_aload_n rfl rfl ?_
        refine en_s_getR (w := some (25, 0, 0)) rfl rfl rfl rfl ?_
        refine en_s_bipush rfl ?_
        refine en_s_dup2 rfl rfl rfl ?_
        refine en_c_iald (q := 12) rfl rfl (by decide) (by decide) ?_
        refine en_s_iload_n rfl rfl ?_
        refine en_s_if_eq rfl (fun _ => ?_) (fun c9 => absurd c9 (by decide))
        refine en_s_iconst rfl ?_
        refine en_s_iadd rfl ?_
        obtain ⟨s84, e85, h⟩ := en_let_h h
        refine en_c_iast (q := 12) e85 rfl rfl (by decide) (by decide) ?_
        refine en_s_aload_n rfl rfl ?_
        refine en_s_getR (w := some (25, 0, 0)) rfl rfl rfl rfl ?_
        refine en_s_bipush rfl ?_
        refine en_s_dup2 rfl rfl rfl ?_
        refine en_c_iald (q := 13) rfl rfl (by decide) (by decide) ?_
        refine en_s_iload_n rfl rfl ?_
        refine en_s_if_eq rfl (fun _ => ?_) (fun c9 => absurd c9 (by decide))
        refine en_s_iconst rfl ?_
        refine en_s_iadd rfl ?_
        obtain ⟨s86, e87, h⟩ := en_let_h h
        refine en_c_iast (q := 13) e87 rfl rfl (by decide) (by decide) ?_
        refine en_s_aload_n rfl rfl ?_
        refine en_s_getR (w := some (25, 0, 0)) rfl rfl rfl rfl ?_
        refine en_s_iconst rfl ?_
        refine en_s_dup2 rfl rfl rfl ?_
        refine en_c_iald (q := 4) rfl rfl (by decide) (by decide) ?_
        refine en_s_iconst rfl ?_
        refine en_s_iadd rfl ?_
        obtain ⟨s88, e89, h⟩ := en_let_h h
        refine en_c_iast (q := 4) e89 rfl rfl (by decide) (by decide) ?_
        refine en_s_iload_n rfl rfl ?_
        refine en_s_if_eq rfl (fun _ => ?_) (fun c9 => absurd c9 (by decide))
        refine en_s_iload_n rfl rfl ?_
        obtain ⟨t90, z91, h⟩ := en_b1_h h
        cases h
        obtain ⟨z911, z912⟩ := en_bz_h z91
        subst z912
        exact en_s_zret rfl rfl z911
      · rw [if_neg c83] at h
        refine en_s_iconst rfl ?_
        refine en_s_goto rfl ?_
        refine en_s_istore_n (ls' := [some (.inr (.inl (some (24, 0, 0)))), some (.inl t22), some (.inl 1)]) rfl rfl rfl ?_
        refine en_s_aload_n rfl rfl ?_
        refine en_s_getR (w := some (25, 0, 0)) rfl rfl rfl rfl ?_
        refine en_s_bipush rfl ?_
        refine en_s_dup2 rfl rfl rfl ?_
        refine en_c_iald (q := 12) rfl rfl (by decide) (by decide) ?_
        refine en_s_iload_n rfl rfl ?_
        refine en_s_if_eq rfl (fun c9 => absurd c9 (by decide)) (fun _ => ?_)
        refine en_s_iconst rfl ?_
        refine en_s_goto rfl ?_
        refine en_s_iadd rfl ?_
        obtain ⟨s92, e93, h⟩ := en_let_h h
        refine en_c_iast (q := 12) e93 rfl rfl (by decide) (by decide) ?_
        refine en_s_aload_n rfl rfl ?_
        refine en_s_getR (w := some (25, 0, 0)) rfl rfl rfl rfl ?_
        refine en_s_bipush rfl ?_
        refine en_s_dup2 rfl rfl rfl ?_
        refine en_c_iald (q := 13) rfl rfl (by decide) (by decide) ?_
        refine en_s_iload_n rfl rfl ?_
        refine en_s_if_eq rfl (fun c9 => absurd c9 (by decide)) (fun _ => ?_)
        refine en_s_iconst rfl ?_
        refine en_s_goto rfl ?_
        refine en_s_iadd rfl ?_
        obtain ⟨s94, e95, h⟩ := en_let_h h
        refine en_c_iast (q := 13) e95 rfl rfl (by decide) (by decide) ?_
        refine en_s_aload_n rfl rfl ?_
        refine en_s_getR (w := some (25, 0, 0)) rfl rfl rfl rfl ?_
        refine en_s_iconst rfl ?_
        refine en_s_dup2 rfl rfl rfl ?_
        refine en_c_iald (q := 4) rfl rfl (by decide) (by decide) ?_
        refine en_s_iconst rfl ?_
        refine en_s_iadd rfl ?_
        obtain ⟨s96, e97, h⟩ := en_let_h h
        refine en_c_iast (q := 4) e97 rfl rfl (by decide) (by decide) ?_
        refine en_s_iload_n rfl rfl ?_
        refine en_s_if_eq rfl (fun c9 => absurd c9 (by decide)) (fun _ => ?_)
        refine en_s_aload_n rfl rfl ?_
        refine en_s_getR (w := some (25, 0, 0)) rfl rfl rfl rfl ?_
        refine en_s_bipush rfl ?_
        refine en_s_dup2 rfl rfl rfl ?_
        refine en_c_iald (q := 17) rfl rfl (by decide) (by decide) ?_
        refine en_s_iconst rfl ?_
        refine en_s_isub rfl ?_
        obtain ⟨s98, e99, h⟩ := en_let_h h
        refine en_c_iast (q := 17) e99 rfl rfl (by decide) (by decide) ?_
        refine en_s_aload_n rfl rfl ?_
        refine en_s_getR (w := some (25, 0, 0)) rfl rfl rfl rfl ?_
        refine en_s_bipush rfl ?_
        refine en_c_iald (q := 17) rfl rfl (by decide) (by decide) ?_
        refine en_s_if_ne rfl (fun c100 => ?_) (fun c100 => ?_)
        · rw [if_neg c100] at h
          refine en_s_iload_n rfl rfl ?_
          obtain ⟨t101, z102, h⟩ := en_b1_h h
          cases h
          obtain ⟨z1021, z1022⟩ := en_bz_h z102
          subst z1022
          exact en_s_zret rfl rfl z1021
        · rw [if_pos c100] at h
          refine en_s_aload_n rfl rfl ?_
          obtain ⟨s103, h104, h⟩ := en_b1_h h
          refine en_callV (as := []) (rest := []) (bc' := 0) (bs' := 0) hz rfl (s_mm_isGone G hz (d + 0) h104) lk_10_158 mv_mm_isGone rfl rfl rfl rfl rfl (fun _ h => h) (Nat.le_refl _) (Nat.le_refl _) ?_
          refine en_s_iload_n rfl rfl ?_
          obtain ⟨t105, z106, h⟩ := en_b1_h h
          cases h
          obtain ⟨z1061, z1062⟩ := en_bz_h z106
          subst z1062
          exact en_s_zret rfl rfl z1061
def k_mm_tick0_22 (f0 : Nat) (v1 : Int32) (v2 : Int32) (σ : en_M) : Option (en_M) := match f0 with
  | 0 => none
  | f9 + 1 =>
    if v1 ≤ v2 then
      some (σ)
    else
      if 9999 ≤ (σ 25 0 0 4) then
        some (σ)
      else
        en_b2 (k_mm_ticks σ) fun t6 s7 =>
        if t6 = 0 then
          en_let (en_wr s7 24 0 0 22 ((σ 24 0 0 22) + 0)) fun s10 =>
          k_mm_tick0_22 f9 v1 (v2 + 1) s10
        else
          en_let (en_wr s7 24 0 0 22 ((σ 24 0 0 22) + 1)) fun s12 =>
          k_mm_tick0_22 f9 v1 (v2 + 1) s12
def k_mm_tick0 (v1 : Int32) (σ : en_M) : Option (Int32 × en_M) :=
  en_let (en_wr σ 24 0 0 22 0) fun s1 =>
  if (s1 25 0 0 4) = 9999 then
    some (6, s1)
  else
    en_b1 (k_mm_tick0_22 en_fu v1 0 s1) fun s15 =>
    some (0, s15)
set_option maxRecDepth 100000 in
set_option maxHeartbeats 4000000 in
theorem s_mm_tick0_22 (G : en_G) (hz : G.2.2.2.2.2.2.2.2 = none) {d : Nat} {r : en_P} {cs cs' : List en_A} {ρ' : en_R} {σ' : en_M} : ∀ (f0 : Nat) {v1 : Int32} {v2 : Int32}  {σ : en_M} {s0 : en_M} , k_mm_tick0_22 f0 v1 v2 σ = some (s0) →
    (∀ (f2 : Option en_V), en_W G (d + 7) 0 0 M_mm_tick0 r cs' ρ' σ' 0 0 66 [some (.inr (.inl (some (24, 0, 0)))), some (.inl v1), f2] [] cs en_rf s0) → en_W G (d + 7) 0 0 M_mm_tick0 r cs' ρ' σ' 0 0 22 [some (.inr (.inl (some (24, 0, 0)))), some (.inl v1), some (.inl v2)] [] cs en_rf σ := by
  intro f0
  induction f0 with
  | zero =>
    intros
    rename_i h _
    cases h
  | succ f9 ih =>
    intro v1 v2 σ s0 h hk
    rw [k_mm_tick0_22] at h
    refine en_s_iload_n rfl rfl ?_
    refine en_s_iload_n rfl rfl ?_
    refine en_s_icmp_ge rfl (fun c4 => ?_) (fun c4 => ?_)
    · rw [if_pos c4] at h
      cases h
      exact hk (some (.inl v2))
    · rw [if_neg c4] at h
      refine en_s_aload_n rfl rfl ?_
      refine en_s_getR (w := some (25, 0, 0)) rfl rfl rfl rfl ?_
      refine en_s_iconst rfl ?_
      refine en_c_iald (q := 4) rfl rfl (by decide) (by decide) ?_
      refine en_s_sipush rfl ?_
      refine en_s_icmp_ge rfl (fun c5 => ?_) (fun c5 => ?_)
      · rw [if_pos c5] at h
        cases h
        exact hk (some (.inl v2))
      · rw [if_neg c5] at h
        refine en_s_aload_n rfl rfl ?_
        refine en_s_dup rfl rfl ?_
        refine en_s_getI rfl rfl rfl ?_
        refine en_s_aload_n rfl rfl ?_
        obtain ⟨t6, s7, h8, h⟩ := en_b2_h h
        refine en_callV (as := []) (rest := [.inl (σ 24 0 0 22), .inr (.inl (some (24, 0, 0)))]) (bc' := 0) (bs' := 0) hz rfl (s_mm_ticks G hz (d + 0) h8) lk_10_164 mv_mm_ticks rfl rfl rfl rfl rfl (fun _ h => h) (Nat.le_refl _) (Nat.le_refl _) ?_
        refine en_s_if_eq rfl (fun c9 => ?_) (fun c9 => ?_)
        · rw [if_pos c9] at h
          refine en_s_iconst rfl ?_
          refine en_s_iadd rfl ?_
          obtain ⟨s10, e11, h⟩ := en_let_h h
          refine en_p_putI e11 rfl rfl rfl rfl rfl ?_
          refine en_s_iinc (ls' := [some (.inr (.inl (some (24, 0, 0)))), some (.inl v1), some (.inl (v2 + 1))]) rfl rfl rfl ?_
          refine en_s_goto rfl ?_
          exact ih  h hk
        · rw [if_neg c9] at h
          refine en_s_iconst rfl ?_
          refine en_s_goto rfl ?_
          refine en_s_iadd rfl ?_
          obtain ⟨s12, e13, h⟩ := en_let_h h
          refine en_p_putI e13 rfl rfl rfl rfl rfl ?_
          refine en_s_iinc (ls' := [some (.inr (.inl (some (24, 0, 0)))), some (.inl v1), some (.inl (v2 + 1))]) rfl rfl rfl ?_
          refine en_s_goto rfl ?_
          exact ih  h hk
set_option maxRecDepth 100000 in
set_option maxHeartbeats 4000000 in
theorem s_mm_tick0 (G : en_G) (hz : G.2.2.2.2.2.2.2.2 = none) (d : Nat) {cs : List en_A} {σ : en_M} {v1 : Int32} {x0 : Int32} {s0 : en_M}  (h : k_mm_tick0 v1 σ = some (x0, s0)) : en_Mt G (d + 7) 0 0 M_mm_tick0 [.inr (.inl (some (24, 0, 0))), .inl v1] cs en_rf σ (.inr (some (.inl x0))) cs en_rf s0 := by
  refine en_meth (ls := [some (.inr (.inl (some (24, 0, 0)))), some (.inl v1), none]) md_mm_tick0 rfl rfl rfl ?_
  unfold k_mm_tick0 at h
  refine en_s_aload_n rfl rfl ?_
  refine en_s_iconst rfl ?_
  obtain ⟨s1, e2, h⟩ := en_let_h h
  refine en_p_putI e2 rfl rfl rfl rfl rfl ?_
  refine en_s_aload_n rfl rfl ?_
  refine en_s_getR (w := some (25, 0, 0)) rfl rfl rfl rfl ?_
  refine en_s_iconst rfl ?_
  refine en_c_iald (q := 4) rfl rfl (by decide) (by decide) ?_
  refine en_s_sipush rfl ?_
  refine en_s_icmp_ne rfl (fun c3 => ?_) (fun c3 => ?_)
  · rw [if_neg c3] at h
    refine en_s_iconst rfl ?_
    refine en_s_istore_n (ls' := [some (.inr (.inl (some (24, 0, 0)))), some (.inl v1), some (.inl 0)]) rfl rfl rfl ?_
    obtain ⟨s15, h16, h⟩ := en_b1_h h
    refine s_mm_tick0_22 G hz en_fu  h16 (fun f14 => ?_)
    refine en_s_iconst rfl ?_
    cases h
    exact en_s_iret rfl rfl
  · rw [if_pos c3] at h
    refine en_s_bipush rfl ?_
    cases h
    exact en_s_iret rfl rfl
def k_mm_putsAside_2 (f0 : Nat) (v1 : Int32) (σ : en_M) : Option (en_M) := match f0 with
  | 0 => none
  | f9 + 1 =>
    if 938 ≤ v1 then
      some (σ)
    else
      en_b1 (en_rd 938 (σ 25 0 0) v1) fun t2 =>
      en_b1 (en_wa 938 σ 26 0 0 v1 t2) fun s4 =>
      k_mm_putsAside_2 f9 (v1 + 1) s4
def k_mm_putsAside  (σ : en_M) : Option (en_M) :=
  en_b1 (k_mm_putsAside_2 en_fu 0 σ) fun s7 =>
  some s7
set_option maxRecDepth 100000 in
set_option maxHeartbeats 4000000 in
theorem s_mm_putsAside_2 (G : en_G) (hz : G.2.2.2.2.2.2.2.2 = none) {d : Nat} {r : en_P} {cs cs' : List en_A} {ρ' : en_R} {σ' : en_M} : ∀ (f0 : Nat) {v1 : Int32}  {σ : en_M} {s0 : en_M} , k_mm_putsAside_2 f0 v1 σ = some (s0) →
    (∀ (f1 : Option en_V), en_W G (d + 0) 0 0 M_mm_putsAside r cs' ρ' σ' 0 0 27 [some (.inr (.inl (some (24, 0, 0)))), f1] [] cs en_rf s0) → en_W G (d + 0) 0 0 M_mm_putsAside r cs' ρ' σ' 0 0 2 [some (.inr (.inl (some (24, 0, 0)))), some (.inl v1)] [] cs en_rf σ := by
  intro f0
  induction f0 with
  | zero =>
    intros
    rename_i h _
    cases h
  | succ f9 ih =>
    intro v1 σ s0 h hk
    rw [k_mm_putsAside_2] at h
    refine en_s_iload_n rfl rfl ?_
    refine en_s_sipush rfl ?_
    refine en_s_icmp_ge rfl (fun c1 => ?_) (fun c1 => ?_)
    · rw [if_pos c1] at h
      cases h
      exact hk (some (.inl v1))
    · rw [if_neg c1] at h
      refine en_s_aload_n rfl rfl ?_
      refine en_s_getR (w := some (26, 0, 0)) rfl rfl rfl rfl ?_
      refine en_s_iload_n rfl rfl ?_
      refine en_s_aload_n rfl rfl ?_
      refine en_s_getR (w := some (25, 0, 0)) rfl rfl rfl rfl ?_
      refine en_s_iload_n rfl rfl ?_
      obtain ⟨t2, h3, h⟩ := en_b1_h h
      refine en_s_iald rfl rfl h3 ?_
      obtain ⟨s4, e5, h⟩ := en_b1_h h
      refine en_s_iast rfl rfl e5 ?_
      refine en_s_iinc (ls' := [some (.inr (.inl (some (24, 0, 0)))), some (.inl (v1 + 1))]) rfl rfl rfl ?_
      refine en_s_goto rfl ?_
      exact ih  h hk
set_option maxRecDepth 100000 in
set_option maxHeartbeats 4000000 in
theorem s_mm_putsAside (G : en_G) (hz : G.2.2.2.2.2.2.2.2 = none) (d : Nat) {cs : List en_A} {σ : en_M}  {s0 : en_M}  (h : k_mm_putsAside  σ = some s0) : en_Mt G (d + 0) 0 0 M_mm_putsAside [.inr (.inl (some (24, 0, 0)))] cs en_rf σ (.inr (none)) cs en_rf s0 := by
  refine en_meth (ls := [some (.inr (.inl (some (24, 0, 0)))), none]) md_mm_putsAside rfl rfl rfl ?_
  unfold k_mm_putsAside at h
  refine en_s_iconst rfl ?_
  refine en_s_istore_n (ls' := [some (.inr (.inl (some (24, 0, 0)))), some (.inl 0)]) rfl rfl rfl ?_
  obtain ⟨s7, h8, h⟩ := en_b1_h h
  refine s_mm_putsAside_2 G hz en_fu  h8 (fun f6 => ?_)
  cases h
  exact en_s_vret rfl rfl
def k_mm_back_16 (f0 : Nat) (v1 : Int32) (σ : en_M) : Option (en_M) := match f0 with
  | 0 => none
  | f9 + 1 =>
    if 938 ≤ v1 then
      some (σ)
    else
      en_b1 (en_rd 938 (σ 27 0 0) v1) fun t5 =>
      en_b1 (en_wa 938 σ 25 0 0 v1 t5) fun s7 =>
      k_mm_back_16 f9 (v1 + 1) s7
def k_mm_back  (σ : en_M) : Option (Int32 × en_M) :=
  en_let (en_wr σ 24 0 0 0 0) fun s1 =>
  if (s1 24 0 0 6) = 0 then
    some (0, s1)
  else
    en_b1 (k_mm_back_16 en_fu 0 s1) fun s10 =>
    en_let (en_wr s10 24 0 0 5 0) fun s12 =>
    some (1, s12)
set_option maxRecDepth 100000 in
set_option maxHeartbeats 4000000 in
theorem s_mm_back_16 (G : en_G) (hz : G.2.2.2.2.2.2.2.2 = none) {d : Nat} {r : en_P} {cs cs' : List en_A} {ρ' : en_R} {σ' : en_M} : ∀ (f0 : Nat) {v1 : Int32}  {σ : en_M} {s0 : en_M} , k_mm_back_16 f0 v1 σ = some (s0) →
    (∀ (f1 : Option en_V), en_W G (d + 0) 0 0 M_mm_back r cs' ρ' σ' 0 0 41 [some (.inr (.inl (some (24, 0, 0)))), f1] [] cs en_rf s0) → en_W G (d + 0) 0 0 M_mm_back r cs' ρ' σ' 0 0 16 [some (.inr (.inl (some (24, 0, 0)))), some (.inl v1)] [] cs en_rf σ := by
  intro f0
  induction f0 with
  | zero =>
    intros
    rename_i h _
    cases h
  | succ f9 ih =>
    intro v1 σ s0 h hk
    rw [k_mm_back_16] at h
    refine en_s_iload_n rfl rfl ?_
    refine en_s_sipush rfl ?_
    refine en_s_icmp_ge rfl (fun c4 => ?_) (fun c4 => ?_)
    · rw [if_pos c4] at h
      cases h
      exact hk (some (.inl v1))
    · rw [if_neg c4] at h
      refine en_s_aload_n rfl rfl ?_
      refine en_s_getR (w := some (25, 0, 0)) rfl rfl rfl rfl ?_
      refine en_s_iload_n rfl rfl ?_
      refine en_s_aload_n rfl rfl ?_
      refine en_s_getR (w := some (27, 0, 0)) rfl rfl rfl rfl ?_
      refine en_s_iload_n rfl rfl ?_
      obtain ⟨t5, h6, h⟩ := en_b1_h h
      refine en_s_iald rfl rfl h6 ?_
      obtain ⟨s7, e8, h⟩ := en_b1_h h
      refine en_s_iast rfl rfl e8 ?_
      refine en_s_iinc (ls' := [some (.inr (.inl (some (24, 0, 0)))), some (.inl (v1 + 1))]) rfl rfl rfl ?_
      refine en_s_goto rfl ?_
      exact ih  h hk
set_option maxRecDepth 100000 in
set_option maxHeartbeats 4000000 in
theorem s_mm_back (G : en_G) (hz : G.2.2.2.2.2.2.2.2 = none) (d : Nat) {cs : List en_A} {σ : en_M}  {x0 : Int32} {s0 : en_M}  (h : k_mm_back  σ = some (x0, s0)) : en_Mt G (d + 0) 0 0 M_mm_back [.inr (.inl (some (24, 0, 0)))] cs en_rf σ (.inr (some (.inl x0))) cs en_rf s0 := by
  refine en_meth (ls := [some (.inr (.inl (some (24, 0, 0)))), none]) md_mm_back rfl rfl rfl ?_
  unfold k_mm_back at h
  refine en_s_aload_n rfl rfl ?_
  refine en_s_iconst rfl ?_
  obtain ⟨s1, e2, h⟩ := en_let_h h
  refine en_p_putI e2 rfl rfl rfl rfl rfl ?_
  refine en_s_aload_n rfl rfl ?_
  refine en_s_getI rfl rfl rfl ?_
  refine en_s_if_ne rfl (fun c3 => ?_) (fun c3 => ?_)
  · rw [if_neg c3] at h
    refine en_s_iconst rfl ?_
    refine en_s_istore_n (ls' := [some (.inr (.inl (some (24, 0, 0)))), some (.inl 0)]) rfl rfl rfl ?_
    obtain ⟨s10, h11, h⟩ := en_b1_h h
    refine s_mm_back_16 G hz en_fu  h11 (fun f9 => ?_)
    refine en_s_aload_n rfl rfl ?_
    refine en_s_iconst rfl ?_
    obtain ⟨s12, e13, h⟩ := en_let_h h
    refine en_p_putI e13 rfl rfl rfl rfl rfl ?_
    refine en_s_iconst rfl ?_
    cases h
    exact en_s_zret rfl rfl (Or.inr rfl)
  · rw [if_pos c3] at h
    refine en_s_iconst rfl ?_
    cases h
    exact en_s_zret rfl rfl (Or.inl rfl)
def k_mm_remembers_52 (f0 : Nat) (v1 : Int32) (σ : en_M) : Option (en_M) := match f0 with
  | 0 => none
  | f9 + 1 =>
    if 938 ≤ v1 then
      some (σ)
    else
      en_b1 (en_rd 938 (σ 26 0 0) v1) fun t3 =>
      en_b1 (en_wa 7504 σ 28 0 0 ((938 * (σ 24 0 0 5)) + v1) t3) fun s5 =>
      k_mm_remembers_52 f9 (v1 + 1) s5
def k_mm_remembers_11 (f0 : Nat) (v1 : Int32) (σ : en_M) : Option (en_M) := match f0 with
  | 0 => none
  | f9 + 1 =>
    if 6566 ≤ v1 then
      some (σ)
    else
      en_b1 (en_rd 7504 (σ 28 0 0) (v1 + 938)) fun t13 =>
      en_b1 (en_wa 7504 σ 28 0 0 v1 t13) fun s15 =>
      k_mm_remembers_11 f9 (v1 + 1) s15
def k_mm_remembers  (σ : en_M) : Option (en_M) :=
  if (σ 24 0 0 5) = 8 then
    en_b1 (k_mm_remembers_11 en_fu 0 σ) fun s18 =>
    en_let (en_wr s18 24 0 0 5 ((s18 24 0 0 5) - 1)) fun s20 =>
    en_b1 (k_mm_remembers_52 en_fu 0 s20) fun s23 =>
    en_let (en_wr s23 24 0 0 5 ((s23 24 0 0 5) + 1)) fun s25 =>
    some s25
  else
    en_b1 (k_mm_remembers_52 en_fu 0 σ) fun s8 =>
    en_let (en_wr s8 24 0 0 5 ((s8 24 0 0 5) + 1)) fun s10 =>
    some s10
set_option maxRecDepth 100000 in
set_option maxHeartbeats 4000000 in
theorem s_mm_remembers_52 (G : en_G) (hz : G.2.2.2.2.2.2.2.2 = none) {d : Nat} {r : en_P} {cs cs' : List en_A} {ρ' : en_R} {σ' : en_M} : ∀ (f0 : Nat) {v1 : Int32}  {σ : en_M} {s0 : en_M} , k_mm_remembers_52 f0 v1 σ = some (s0) →
    (∀ (f1 : Option en_V), en_W G (d + 0) 0 0 M_mm_remembers r cs' ρ' σ' 0 0 86 [some (.inr (.inl (some (24, 0, 0)))), f1] [] cs en_rf s0) → en_W G (d + 0) 0 0 M_mm_remembers r cs' ρ' σ' 0 0 52 [some (.inr (.inl (some (24, 0, 0)))), some (.inl v1)] [] cs en_rf σ := by
  intro f0
  induction f0 with
  | zero =>
    intros
    rename_i h _
    cases h
  | succ f9 ih =>
    intro v1 σ s0 h hk
    rw [k_mm_remembers_52] at h
    refine en_s_iload_n rfl rfl ?_
    refine en_s_sipush rfl ?_
    refine en_s_icmp_ge rfl (fun c2 => ?_) (fun c2 => ?_)
    · rw [if_pos c2] at h
      cases h
      exact hk (some (.inl v1))
    · rw [if_neg c2] at h
      refine en_s_aload_n rfl rfl ?_
      refine en_s_getR (w := some (28, 0, 0)) rfl rfl rfl rfl ?_
      refine en_s_sipush rfl ?_
      refine en_s_aload_n rfl rfl ?_
      refine en_s_getI rfl rfl rfl ?_
      refine en_s_imul rfl ?_
      refine en_s_iload_n rfl rfl ?_
      refine en_s_iadd rfl ?_
      refine en_s_aload_n rfl rfl ?_
      refine en_s_getR (w := some (26, 0, 0)) rfl rfl rfl rfl ?_
      refine en_s_iload_n rfl rfl ?_
      obtain ⟨t3, h4, h⟩ := en_b1_h h
      refine en_s_iald rfl rfl h4 ?_
      obtain ⟨s5, e6, h⟩ := en_b1_h h
      refine en_s_iast rfl rfl e6 ?_
      refine en_s_iinc (ls' := [some (.inr (.inl (some (24, 0, 0)))), some (.inl (v1 + 1))]) rfl rfl rfl ?_
      refine en_s_goto rfl ?_
      exact ih  h hk
set_option maxRecDepth 100000 in
set_option maxHeartbeats 4000000 in
theorem s_mm_remembers_11 (G : en_G) (hz : G.2.2.2.2.2.2.2.2 = none) {d : Nat} {r : en_P} {cs cs' : List en_A} {ρ' : en_R} {σ' : en_M} : ∀ (f0 : Nat) {v1 : Int32}  {σ : en_M} {s0 : en_M} , k_mm_remembers_11 f0 v1 σ = some (s0) →
    (∀ (f1 : Option en_V), en_W G (d + 0) 0 0 M_mm_remembers r cs' ρ' σ' 0 0 40 [some (.inr (.inl (some (24, 0, 0)))), f1] [] cs en_rf s0) → en_W G (d + 0) 0 0 M_mm_remembers r cs' ρ' σ' 0 0 11 [some (.inr (.inl (some (24, 0, 0)))), some (.inl v1)] [] cs en_rf σ := by
  intro f0
  induction f0 with
  | zero =>
    intros
    rename_i h _
    cases h
  | succ f9 ih =>
    intro v1 σ s0 h hk
    rw [k_mm_remembers_11] at h
    refine en_s_iload_n rfl rfl ?_
    refine en_s_sipush rfl ?_
    refine en_s_icmp_ge rfl (fun c12 => ?_) (fun c12 => ?_)
    · rw [if_pos c12] at h
      cases h
      exact hk (some (.inl v1))
    · rw [if_neg c12] at h
      refine en_s_aload_n rfl rfl ?_
      refine en_s_getR (w := some (28, 0, 0)) rfl rfl rfl rfl ?_
      refine en_s_iload_n rfl rfl ?_
      refine en_s_aload_n rfl rfl ?_
      refine en_s_getR (w := some (28, 0, 0)) rfl rfl rfl rfl ?_
      refine en_s_iload_n rfl rfl ?_
      refine en_s_sipush rfl ?_
      refine en_s_iadd rfl ?_
      obtain ⟨t13, h14, h⟩ := en_b1_h h
      refine en_s_iald rfl rfl h14 ?_
      obtain ⟨s15, e16, h⟩ := en_b1_h h
      refine en_s_iast rfl rfl e16 ?_
      refine en_s_iinc (ls' := [some (.inr (.inl (some (24, 0, 0)))), some (.inl (v1 + 1))]) rfl rfl rfl ?_
      refine en_s_goto rfl ?_
      exact ih  h hk
set_option maxRecDepth 100000 in
set_option maxHeartbeats 4000000 in
theorem s_mm_remembers (G : en_G) (hz : G.2.2.2.2.2.2.2.2 = none) (d : Nat) {cs : List en_A} {σ : en_M}  {s0 : en_M}  (h : k_mm_remembers  σ = some s0) : en_Mt G (d + 0) 0 0 M_mm_remembers [.inr (.inl (some (24, 0, 0)))] cs en_rf σ (.inr (none)) cs en_rf s0 := by
  refine en_meth (ls := [some (.inr (.inl (some (24, 0, 0)))), none]) md_mm_remembers rfl rfl rfl ?_
  unfold k_mm_remembers at h
  refine en_s_aload_n rfl rfl ?_
  refine en_s_getI rfl rfl rfl ?_
  refine en_s_bipush rfl ?_
  refine en_s_icmp_ne rfl (fun c1 => ?_) (fun c1 => ?_)
  · rw [if_neg c1] at h
    refine en_s_iconst rfl ?_
    refine en_s_istore_n (ls' := [some (.inr (.inl (some (24, 0, 0)))), some (.inl 0)]) rfl rfl rfl ?_
    obtain ⟨s8, h9, h⟩ := en_b1_h h
    refine s_mm_remembers_52 G hz en_fu  h9 (fun f7 => ?_)
    refine en_s_aload_n rfl rfl ?_
    refine en_s_dup rfl rfl ?_
    refine en_s_getI rfl rfl rfl ?_
    refine en_s_iconst rfl ?_
    refine en_s_iadd rfl ?_
    obtain ⟨s10, e11, h⟩ := en_let_h h
    refine en_p_putI e11 rfl rfl rfl rfl rfl ?_
    cases h
    exact en_s_vret rfl rfl
  · rw [if_pos c1] at h
    refine en_s_iconst rfl ?_
    refine en_s_istore_n (ls' := [some (.inr (.inl (some (24, 0, 0)))), some (.inl 0)]) rfl rfl rfl ?_
    obtain ⟨s18, h19, h⟩ := en_b1_h h
    refine s_mm_remembers_11 G hz en_fu  h19 (fun f17 => ?_)
    refine en_s_aload_n rfl rfl ?_
    refine en_s_dup rfl rfl ?_
    refine en_s_getI rfl rfl rfl ?_
    refine en_s_iconst rfl ?_
    refine en_s_isub rfl ?_
    obtain ⟨s20, e21, h⟩ := en_let_h h
    refine en_p_putI e21 rfl rfl rfl rfl rfl ?_
    refine en_s_iconst rfl ?_
    refine en_s_istore_n (ls' := [some (.inr (.inl (some (24, 0, 0)))), some (.inl 0)]) rfl rfl rfl ?_
    obtain ⟨s23, h24, h⟩ := en_b1_h h
    refine s_mm_remembers_52 G hz en_fu  h24 (fun f22 => ?_)
    refine en_s_aload_n rfl rfl ?_
    refine en_s_dup rfl rfl ?_
    refine en_s_getI rfl rfl rfl ?_
    refine en_s_iconst rfl ?_
    refine en_s_iadd rfl ?_
    obtain ⟨s25, e26, h⟩ := en_let_h h
    refine en_p_putI e26 rfl rfl rfl rfl rfl ?_
    cases h
    exact en_s_vret rfl rfl
def k_mm_isTold (v1 : Int32) (v2 : Int32) (σ : en_M) : Option (Int32 × en_M) :=
  en_let (en_wr σ 24 0 0 7 v1) fun s1 =>
  if v1 ≤ 0 then
    en_let (en_wr s1 24 0 0 0 0) fun s4 =>
    if v1 = 0 then
      en_b1 (k_mm_remembers s4) fun s8 =>
      if v1 = 0 then
        some (1, s8)
      else
        some (0, s8)
    else
      if v1 = 0 then
        some (1, s4)
      else
        some (0, s4)
  else
    en_let (en_wr s1 24 0 0 0 v2) fun s11 =>
    if v1 = 0 then
      en_b1 (k_mm_remembers s11) fun s15 =>
      if v1 = 0 then
        some (1, s15)
      else
        some (0, s15)
    else
      if v1 = 0 then
        some (1, s11)
      else
        some (0, s11)
set_option maxRecDepth 100000 in
set_option maxHeartbeats 4000000 in
theorem s_mm_isTold (G : en_G) (hz : G.2.2.2.2.2.2.2.2 = none) (d : Nat) {cs : List en_A} {σ : en_M} {v1 : Int32} {v2 : Int32} {x0 : Int32} {s0 : en_M}  (h : k_mm_isTold v1 v2 σ = some (x0, s0)) : en_Mt G (d + 1) 0 0 M_mm_isTold [.inr (.inl (some (24, 0, 0))), .inl v1, .inl v2] cs en_rf σ (.inr (some (.inl x0))) cs en_rf s0 := by
  refine en_meth (ls := [some (.inr (.inl (some (24, 0, 0)))), some (.inl v1), some (.inl v2)]) md_mm_isTold rfl rfl rfl ?_
  unfold k_mm_isTold at h
  refine en_s_aload_n rfl rfl ?_
  refine en_s_iload_n rfl rfl ?_
  obtain ⟨s1, e2, h⟩ := en_let_h h
  refine en_p_putI e2 rfl rfl rfl rfl rfl ?_
  refine en_s_aload_n rfl rfl ?_
  refine en_s_iload_n rfl rfl ?_
  refine en_s_if_le rfl (fun c3 => ?_) (fun c3 => ?_)
  · rw [if_pos c3] at h
    refine en_s_iconst rfl ?_
    obtain ⟨s4, e5, h⟩ := en_let_h h
    refine en_p_putI e5 rfl rfl rfl rfl rfl ?_
    refine en_s_iload_n rfl rfl ?_
    refine en_s_if_ne rfl (fun c6 => ?_) (fun c6 => ?_)
    · rw [if_neg c6] at h
      refine en_s_iload_n rfl rfl ?_
      refine en_s_if_ne rfl (fun c7 => ?_) (fun c7 => ?_)
      · rw [if_neg c7] at h
        refine en_s_iconst rfl ?_
        cases h
        exact en_s_zret rfl rfl (Or.inl rfl)
      · rw [if_pos c7] at h
        refine en_s_iconst rfl ?_
        refine en_s_goto rfl ?_
        cases h
        exact en_s_zret rfl rfl (Or.inr rfl)
    · rw [if_pos c6] at h
      refine en_s_aload_n rfl rfl ?_
      obtain ⟨s8, h9, h⟩ := en_b1_h h
      refine en_callV (as := []) (rest := []) (bc' := 0) (bs' := 0) hz rfl (s_mm_remembers G hz (d + 0) h9) lk_10_173 mv_mm_remembers rfl rfl rfl rfl rfl (fun _ h => h) (Nat.le_refl _) (Nat.le_refl _) ?_
      refine en_s_iload_n rfl rfl ?_
      refine en_s_if_ne rfl (fun c10 => ?_) (fun c10 => ?_)
      · rw [if_neg c10] at h
        refine en_s_iconst rfl ?_
        cases h
        exact en_s_zret rfl rfl (Or.inl rfl)
      · rw [if_pos c10] at h
        refine en_s_iconst rfl ?_
        refine en_s_goto rfl ?_
        cases h
        exact en_s_zret rfl rfl (Or.inr rfl)
  · rw [if_neg c3] at h
    refine en_s_iload_n rfl rfl ?_
    refine en_s_goto rfl ?_
    obtain ⟨s11, e12, h⟩ := en_let_h h
    refine en_p_putI e12 rfl rfl rfl rfl rfl ?_
    refine en_s_iload_n rfl rfl ?_
    refine en_s_if_ne rfl (fun c13 => ?_) (fun c13 => ?_)
    · rw [if_neg c13] at h
      refine en_s_iload_n rfl rfl ?_
      refine en_s_if_ne rfl (fun c14 => ?_) (fun c14 => ?_)
      · rw [if_neg c14] at h
        refine en_s_iconst rfl ?_
        cases h
        exact en_s_zret rfl rfl (Or.inl rfl)
      · rw [if_pos c14] at h
        refine en_s_iconst rfl ?_
        refine en_s_goto rfl ?_
        cases h
        exact en_s_zret rfl rfl (Or.inr rfl)
    · rw [if_pos c13] at h
      refine en_s_aload_n rfl rfl ?_
      obtain ⟨s15, h16, h⟩ := en_b1_h h
      refine en_callV (as := []) (rest := []) (bc' := 0) (bs' := 0) hz rfl (s_mm_remembers G hz (d + 0) h16) lk_10_173 mv_mm_remembers rfl rfl rfl rfl rfl (fun _ h => h) (Nat.le_refl _) (Nat.le_refl _) ?_
      refine en_s_iload_n rfl rfl ?_
      refine en_s_if_ne rfl (fun c17 => ?_) (fun c17 => ?_)
      · rw [if_neg c17] at h
        refine en_s_iconst rfl ?_
        cases h
        exact en_s_zret rfl rfl (Or.inl rfl)
      · rw [if_pos c17] at h
        refine en_s_iconst rfl ?_
        refine en_s_goto rfl ?_
        cases h
        exact en_s_zret rfl rfl (Or.inr rfl)
def k_mm_bell  (σ : en_M) : Option (Int32 × en_M) :=
  en_b1 (k_mm_putsAside σ) fun s1 =>
  en_b2 (k_mm_bell0 s1) fun t3 s4 =>
  en_b2 (k_mm_isTold 0 0 s4) fun t6 s7 =>
  if t6 = 0 then
    some (0, s7)
  else
    some (t3, s7)
set_option maxRecDepth 100000 in
set_option maxHeartbeats 4000000 in
theorem s_mm_bell (G : en_G) (hz : G.2.2.2.2.2.2.2.2 = none) (d : Nat) {cs : List en_A} {σ : en_M}  {x0 : Int32} {s0 : en_M}  (h : k_mm_bell  σ = some (x0, s0)) : en_Mt G (d + 3) 0 0 M_mm_bell [.inr (.inl (some (24, 0, 0)))] cs en_rf σ (.inr (some (.inl x0))) cs en_rf s0 := by
  refine en_meth (ls := [some (.inr (.inl (some (24, 0, 0)))), none]) md_mm_bell rfl rfl rfl ?_
  unfold k_mm_bell at h
  refine en_s_aload_n rfl rfl ?_
  obtain ⟨s1, h2, h⟩ := en_b1_h h
  refine en_callV (as := []) (rest := []) (bc' := 0) (bs' := 0) hz rfl (s_mm_putsAside G hz (d + 2) h2) lk_10_262 mv_mm_putsAside rfl rfl rfl rfl rfl (fun _ h => h) (Nat.le_refl _) (Nat.le_refl _) ?_
  refine en_s_aload_n rfl rfl ?_
  obtain ⟨t3, s4, h5, h⟩ := en_b2_h h
  refine en_callV (as := []) (rest := []) (bc' := 0) (bs' := 0) hz rfl (s_mm_bell0 G hz (d + 0) h5) lk_10_109 mv_mm_bell0 rfl rfl rfl rfl rfl (fun _ h => h) (Nat.le_refl _) (Nat.le_refl _) ?_
  refine en_s_istore_n (ls' := [some (.inr (.inl (some (24, 0, 0)))), some (.inl t3)]) rfl rfl rfl ?_
  refine en_s_aload_n rfl rfl ?_
  refine en_s_iconst rfl ?_
  refine en_s_iconst rfl ?_
  obtain ⟨t6, s7, h8, h⟩ := en_b2_h h
  refine en_callV (as := [.inl 0, .inl 0]) (rest := []) (bc' := 0) (bs' := 0) hz rfl (s_mm_isTold G hz (d + 1) h8) lk_10_268 mv_mm_isTold rfl rfl rfl rfl rfl (fun _ h => h) (Nat.le_refl _) (Nat.le_refl _) ?_
  refine en_s_if_eq rfl (fun c9 => ?_) (fun c9 => ?_)
  · rw [if_pos c9] at h
    refine en_s_iconst rfl ?_
    cases h
    exact en_s_iret rfl rfl
  · rw [if_neg c9] at h
    refine en_s_iload_n rfl rfl ?_
    refine en_s_goto rfl ?_
    cases h
    exact en_s_iret rfl rfl
def k_mm_isKnown (v1 : Int32) (σ : en_M) : Int32 :=
  k_mm_isIn v1 (k_mm_greater 0 ((σ 25 0 0 5) - (σ 25 0 0 0))) ((σ 25 0 0 5) - 1)
theorem z_mm_isKnown {v1 : Int32} {σ : en_M} : k_mm_isKnown v1 σ = 0 ∨ k_mm_isKnown v1 σ = 1 := by
  unfold k_mm_isKnown
  (repeat' split) <;> first | exact Or.inl rfl | exact Or.inr rfl | exact z_mm_isIn
set_option maxRecDepth 100000 in
set_option maxHeartbeats 4000000 in
theorem s_mm_isKnown (G : en_G) (hz : G.2.2.2.2.2.2.2.2 = none) (d : Nat) {cs : List en_A} {σ : en_M} {v1 : Int32} {x0 : Int32}  (h : k_mm_isKnown v1 σ = x0) : en_Mt G (d + 1) 0 0 M_mm_isKnown [.inr (.inl (some (24, 0, 0))), .inl v1] cs en_rf σ (.inr (some (.inl x0))) cs en_rf σ := by
  refine en_meth (ls := [some (.inr (.inl (some (24, 0, 0)))), some (.inl v1)]) md_mm_isKnown rfl rfl rfl ?_
  unfold k_mm_isKnown at h
  refine en_s_iload_n rfl rfl ?_
  refine en_s_iconst rfl ?_
  refine en_s_aload_n rfl rfl ?_
  refine en_s_getR (w := some (25, 0, 0)) rfl rfl rfl rfl ?_
  refine en_s_iconst rfl ?_
  refine en_c_iald (q := 5) rfl rfl (by decide) (by decide) ?_
  refine en_s_aload_n rfl rfl ?_
  refine en_s_getR (w := some (25, 0, 0)) rfl rfl rfl rfl ?_
  refine en_s_iconst rfl ?_
  refine en_c_iald (q := 0) rfl rfl (by decide) (by decide) ?_
  refine en_s_isub rfl ?_
  refine en_callS (as := [.inl 0, .inl ((σ 25 0 0 5) - (σ 25 0 0 0))]) (rest := [.inl v1]) (bc' := 0) (bs' := 0) hz rfl (s_mm_greater G hz (d + 0) rfl) lk_10_62 mv_mm_greater rfl rfl rfl (fun _ h => h) (Nat.le_refl _) (Nat.le_refl _) ?_
  refine en_s_aload_n rfl rfl ?_
  refine en_s_getR (w := some (25, 0, 0)) rfl rfl rfl rfl ?_
  refine en_s_iconst rfl ?_
  refine en_c_iald (q := 5) rfl rfl (by decide) (by decide) ?_
  refine en_s_iconst rfl ?_
  refine en_s_isub rfl ?_
  refine en_callS (as := [.inl v1, .inl (k_mm_greater 0 ((σ 25 0 0 5) - (σ 25 0 0 0))), .inl ((σ 25 0 0 5) - 1)]) (rest := []) (bc' := 0) (bs' := 0) hz rfl (s_mm_isIn G hz (d + 0) rfl) lk_10_54 mv_mm_isIn rfl rfl rfl (fun _ h => h) (Nat.le_refl _) (Nat.le_refl _) ?_
  subst h
  exact en_s_zret rfl rfl z_mm_isIn
def k_mm_isPiece (v1 : Int32) (v2 : Int32) (σ : en_M) : Option (Int32) :=
  if (k_mm_isKnown v1 σ) = 0 then
    some 0
  else
    en_b1 (k_mm_piecesOf v1 σ) fun t2 =>
    if (k_mm_isIn v2 0 (t2 - 1)) = 0 then
      some 0
    else
      some 1
set_option maxRecDepth 100000 in
set_option maxHeartbeats 4000000 in
theorem s_mm_isPiece (G : en_G) (hz : G.2.2.2.2.2.2.2.2 = none) (d : Nat) {cs : List en_A} {σ : en_M} {v1 : Int32} {v2 : Int32} {x0 : Int32}  (h : k_mm_isPiece v1 v2 σ = some x0) : en_Mt G (d + 4) 0 0 M_mm_isPiece [.inr (.inl (some (24, 0, 0))), .inl v1, .inl v2] cs en_rf σ (.inr (some (.inl x0))) cs en_rf σ := by
  refine en_meth (ls := [some (.inr (.inl (some (24, 0, 0)))), some (.inl v1), some (.inl v2)]) md_mm_isPiece rfl rfl rfl ?_
  unfold k_mm_isPiece at h
  refine en_s_aload_n rfl rfl ?_
  refine en_s_iload_n rfl rfl ?_
  refine en_callV (as := [.inl v1]) (rest := []) (bc' := 0) (bs' := 0) hz rfl (s_mm_isKnown G hz (d + 2) rfl) lk_10_274 mv_mm_isKnown rfl rfl rfl rfl rfl (fun _ h => h) (Nat.le_refl _) (Nat.le_refl _) ?_
  refine en_s_if_eq rfl (fun c1 => ?_) (fun c1 => ?_)
  · rw [if_pos c1] at h
    refine en_s_iconst rfl ?_
    cases h
    exact en_s_zret rfl rfl (Or.inl rfl)
  · rw [if_neg c1] at h
    refine en_s_iload_n rfl rfl ?_
    refine en_s_iconst rfl ?_
    refine en_s_aload_n rfl rfl ?_
    refine en_s_iload_n rfl rfl ?_
    obtain ⟨t2, h3, h⟩ := en_b1_h h
    refine en_callV (as := [.inl v1]) (rest := [.inl 0, .inl v2]) (bc' := 0) (bs' := 0) hz rfl (s_mm_piecesOf G hz (d + 0) h3) lk_10_82 mv_mm_piecesOf rfl rfl rfl rfl rfl (fun _ h => h) (Nat.le_refl _) (Nat.le_refl _) ?_
    refine en_s_iconst rfl ?_
    refine en_s_isub rfl ?_
    refine en_callS (as := [.inl v2, .inl 0, .inl (t2 - 1)]) (rest := []) (bc' := 0) (bs' := 0) hz rfl (s_mm_isIn G hz (d + 3) rfl) lk_10_54 mv_mm_isIn rfl rfl rfl (fun _ h => h) (Nat.le_refl _) (Nat.le_refl _) ?_
    refine en_s_if_eq rfl (fun c4 => ?_) (fun c4 => ?_)
    · rw [if_pos c4] at h
      refine en_s_iconst rfl ?_
      cases h
      exact en_s_zret rfl rfl (Or.inl rfl)
    · rw [if_neg c4] at h
      refine en_s_iconst rfl ?_
      refine en_s_goto rfl ?_
      cases h
      exact en_s_zret rfl rfl (Or.inr rfl)
def k_mm_byteOf (v1 : Int32) (v2 : Int32) (σ : en_M) : Option (Int32) :=
  en_b1 (k_mm_of v1 0 σ) fun t1 =>
  some (((((v2 * v2) + (13 * v2)) + (7 * v1)) + t1) - ((((v2 * v2) + (13 * v2)) + (7 * v1)) + t1) / 256 * 256)
set_option maxRecDepth 100000 in
set_option maxHeartbeats 4000000 in
theorem s_mm_byteOf (G : en_G) (hz : G.2.2.2.2.2.2.2.2 = none) (d : Nat) {cs : List en_A} {σ : en_M} {v1 : Int32} {v2 : Int32} {x0 : Int32}  (h : k_mm_byteOf v1 v2 σ = some x0) : en_Mt G (d + 2) 0 0 M_mm_byteOf [.inr (.inl (some (24, 0, 0))), .inl v1, .inl v2] cs en_rf σ (.inr (some (.inl x0))) cs en_rf σ := by
  refine en_meth (ls := [some (.inr (.inl (some (24, 0, 0)))), some (.inl v1), some (.inl v2)]) md_mm_byteOf rfl rfl rfl ?_
  unfold k_mm_byteOf at h
  refine en_s_iload_n rfl rfl ?_
  refine en_s_iload_n rfl rfl ?_
  refine en_s_imul rfl ?_
  refine en_s_bipush rfl ?_
  refine en_s_iload_n rfl rfl ?_
  refine en_s_imul rfl ?_
  refine en_s_iadd rfl ?_
  refine en_s_bipush rfl ?_
  refine en_s_iload_n rfl rfl ?_
  refine en_s_imul rfl ?_
  refine en_s_iadd rfl ?_
  refine en_s_aload_n rfl rfl ?_
  refine en_s_iload_n rfl rfl ?_
  refine en_s_iconst rfl ?_
  obtain ⟨t1, h2, h⟩ := en_b1_h h
  refine en_callV (as := [.inl v1, .inl 0]) (rest := [.inl (((v2 * v2) + (13 * v2)) + (7 * v1))]) (bc' := 0) (bs' := 0) hz rfl (s_mm_of G hz (d + 0) h2) lk_10_66 mv_mm_of rfl rfl rfl rfl rfl (fun _ h => h) (Nat.le_refl _) (Nat.le_refl _) ?_
  refine en_s_iadd rfl ?_
  refine en_s_sipush rfl ?_
  refine en_s_irem rfl (by decide) ?_
  cases h
  exact en_s_iret rfl rfl

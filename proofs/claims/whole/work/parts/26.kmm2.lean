/-! By program: the methods as functions, and that they are these. -/
def k_mm_has_5 (f0 : Nat) (v1 : Nat) (v2 : Int32) (σ : en_M) : Option (Int32) := match f0 with
  | 0 => none
  | f9 + 1 =>
    if (σ 24 0 0 10) ≤ v2 then
      some (v2)
    else
      en_b1 (en_rd 400 (σ 29 0 0) v2) fun t5 =>
      if (k_mm_isIn t5 97 122) = 0 then
        some (v2)
      else
        k_mm_has_5 f9 v1 (v2 + 1) σ
def k_mm_has_60 (f0 : Nat) (v1 : Nat) (v2 : Int32) (v3 : Int32) (σ : en_M) : Option ((Int32 × en_M) ⊕ (Unit)) := match f0 with
  | 0 => none
  | f9 + 1 =>
    if (en_len v1) ≤ v3 then
      some (.inr ())
    else
      en_b1 (en_rd 400 (σ 29 0 0) ((σ 24 0 0 11) + v3)) fun t13 =>
      en_b1 (en_chr v1 v3) fun t15 =>
      if t13 = t15 then
        k_mm_has_60 f9 v1 v2 (v3 + 1) σ
      else
        some (.inl (0, σ))
def k_mm_has (v1 : Nat) (σ : en_M) : Option (Int32 × en_M) :=
  en_b2 (k_mm_here σ) fun t1 s2 =>
  en_b1 (k_mm_has_5 en_fu v1 t1 s2) fun x8 =>
  if (s2 24 0 0 12) = (-1) then
    if (x8 - (s2 24 0 0 11)) = (en_len v1) then
      en_rx (k_mm_has_60 en_fu v1 x8 0 s2) (fun r20 => some r20) (fun u22 =>
      en_let (en_wr s2 24 0 0 11 x8) fun s23 =>
      some (1, s23))
    else
      some (0, s2)
  else
    some (0, s2)
set_option maxRecDepth 100000 in
set_option maxHeartbeats 4000000 in
theorem s_mm_has_5 (G : en_G) (hz : G.2.2.2.2.2.2.2.2 = none) {d : Nat} {r : en_P} {cs cs' : List en_A} {ρ' : en_R} {σ' : en_M} : ∀ (f0 : Nat) {v1 : Nat} {v2 : Int32} {e3 : Option en_V} {σ : en_M} {x2 : Int32} (hxv1 : 1 ≤ v1 ∧ v1 ≤ 11), k_mm_has_5 f0 v1 v2 σ = some (x2) →
    (∀ (_ : Unit), en_W G (d + 4) 0 0 M_mm_has r cs' ρ' σ' 0 0 35 [some (.inr (.inl (some (24, 0, 0)))), some (.inr (.inr (.inr v1))), some (.inl x2), e3] [] cs en_rf σ) → en_W G (d + 4) 0 0 M_mm_has r cs' ρ' σ' 0 0 5 [some (.inr (.inl (some (24, 0, 0)))), some (.inr (.inr (.inr v1))), some (.inl v2), e3] [] cs en_rf σ := by
  intro f0
  induction f0 with
  | zero =>
    intros
    rename_i h _
    cases h
  | succ f9 ih =>
    intro v1 v2 e3 σ x2 hxv1 h hk
    rw [k_mm_has_5] at h
    refine en_s_iload_n rfl rfl ?_
    refine en_s_aload_n rfl rfl ?_
    refine en_s_getI rfl rfl rfl ?_
    refine en_s_icmp_ge rfl (fun c4 => ?_) (fun c4 => ?_)
    · rw [if_pos c4] at h
      cases h
      exact hk ()
    · rw [if_neg c4] at h
      refine en_s_aload_n rfl rfl ?_
      refine en_s_getR (w := some (29, 0, 0)) rfl rfl rfl rfl ?_
      refine en_s_iload_n rfl rfl ?_
      obtain ⟨t5, h6, h⟩ := en_b1_h h
      refine en_s_iald rfl rfl h6 ?_
      refine en_s_bipush rfl ?_
      refine en_s_bipush rfl ?_
      refine en_callS (as := [.inl t5, .inl 97, .inl 122]) (rest := []) (bc' := 0) (bs' := 0) hz rfl (s_mm_isIn G hz (d + 3) rfl) lk_10_54 mv_mm_isIn rfl rfl rfl (fun _ h => h) (Nat.le_refl _) (Nat.le_refl _) ?_
      refine en_s_if_eq rfl (fun c7 => ?_) (fun c7 => ?_)
      · rw [if_pos c7] at h
        cases h
        exact hk ()
      · rw [if_neg c7] at h
        refine en_s_iinc (ls' := [some (.inr (.inl (some (24, 0, 0)))), some (.inr (.inr (.inr v1))), some (.inl (v2 + 1)), e3]) rfl rfl rfl ?_
        refine en_s_goto rfl ?_
        exact ih (e3 := e3) hxv1 h hk
set_option maxRecDepth 100000 in
set_option maxHeartbeats 4000000 in
theorem s_mm_has_60 (G : en_G) (hz : G.2.2.2.2.2.2.2.2 = none) {d : Nat} {r : en_P} {cs cs' : List en_A} {ρ' : en_R} {σ' : en_M} : ∀ (f0 : Nat) {v1 : Nat} {v2 : Int32} {v3 : Int32}  {σ : en_M} {x9 : ((Int32 × en_M) ⊕ (Unit))} (hxv1 : 1 ≤ v1 ∧ v1 ≤ 11), k_mm_has_60 f0 v1 v2 v3 σ = some x9 →
    (∀ a9, x9 = .inl a9 → r = .inr (some (.inl a9.1)) ∧ cs' = cs ∧ ρ' = en_rf ∧ σ' = a9.2) →
    (∀ (b9 : Unit), x9 = .inr b9 → ∀ (f3 : Option en_V), en_W G (d + 4) 0 0 M_mm_has r cs' ρ' σ' 0 0 95 [some (.inr (.inl (some (24, 0, 0)))), some (.inr (.inr (.inr v1))), some (.inl v2), f3] [] cs en_rf σ) → en_W G (d + 4) 0 0 M_mm_has r cs' ρ' σ' 0 0 60 [some (.inr (.inl (some (24, 0, 0)))), some (.inr (.inr (.inr v1))), some (.inl v2), some (.inl v3)] [] cs en_rf σ := by
  intro f0
  induction f0 with
  | zero =>
    intros
    rename_i h _ _
    cases h
  | succ f9 ih =>
    intro v1 v2 v3 σ x9 hxv1 h hr hk
    rw [k_mm_has_60] at h
    refine en_s_iload_n rfl rfl ?_
    refine en_s_aload_nX rfl rfl ?_
    refine en_s_slen hz rfl hxv1 (en_tw_of (i := 1528) (by decide +kernel) (by decide +kernel)) rfl ?_
    refine en_s_icmp_ge rfl (fun c12 => ?_) (fun c12 => ?_)
    · rw [if_pos c12] at h
      obtain rfl := Option.some.inj h
      exact hk _ rfl (some (.inl v3))
    · rw [if_neg c12] at h
      refine en_s_aload_n rfl rfl ?_
      refine en_s_getR (w := some (29, 0, 0)) rfl rfl rfl rfl ?_
      refine en_s_aload_n rfl rfl ?_
      refine en_s_getI rfl rfl rfl ?_
      refine en_s_iload_n rfl rfl ?_
      refine en_s_iadd rfl ?_
      obtain ⟨t13, h14, h⟩ := en_b1_h h
      refine en_s_iald rfl rfl h14 ?_
      refine en_s_aload_nX rfl rfl ?_
      refine en_s_iload_n rfl rfl ?_
      obtain ⟨t15, h16, h⟩ := en_b1_h h
      refine en_s_char hz h16 rfl hxv1 (en_tw_of (i := 1529) (by decide +kernel) (by decide +kernel)) rfl ?_
      refine en_s_icmp_eq rfl (fun c17 => ?_) (fun c17 => ?_)
      · rw [if_pos c17] at h
        refine en_s_iinc (ls' := [some (.inr (.inl (some (24, 0, 0)))), some (.inr (.inr (.inr v1))), some (.inl v2), some (.inl (v3 + 1))]) rfl rfl rfl ?_
        refine en_s_goto rfl ?_
        exact ih  hxv1 h hr hk
      · rw [if_neg c17] at h
        refine en_s_iconst rfl ?_
        obtain rfl := Option.some.inj h
        obtain ⟨rfl, rfl, rfl, rfl⟩ := hr _ rfl
        exact en_s_zret rfl rfl (Or.inl rfl)
set_option maxRecDepth 100000 in
set_option maxHeartbeats 4000000 in
theorem s_mm_has (G : en_G) (hz : G.2.2.2.2.2.2.2.2 = none) (d : Nat) {cs : List en_A} {σ : en_M} {v1 : Nat} {x0 : Int32} {s0 : en_M} (hxv1 : 1 ≤ v1 ∧ v1 ≤ 11) (h : k_mm_has v1 σ = some (x0, s0)) : en_Mt G (d + 4) 0 0 M_mm_has [.inr (.inl (some (24, 0, 0))), .inr (.inr (.inr v1))] cs en_rf σ (.inr (some (.inl x0))) cs en_rf s0 := by
  refine en_meth (ls := [some (.inr (.inl (some (24, 0, 0)))), some (.inr (.inr (.inr v1))), none, none]) md_mm_has rfl rfl rfl ?_
  unfold k_mm_has at h
  refine en_s_aload_n rfl rfl ?_
  obtain ⟨t1, s2, h3, h⟩ := en_b2_h h
  refine en_callV (as := []) (rest := []) (bc' := 0) (bs' := 0) hz rfl (s_mm_here G hz (d + 3) h3) lk_10_185 mv_mm_here rfl rfl rfl rfl rfl (fun _ h => h) (Nat.le_refl _) (Nat.le_refl _) ?_
  refine en_s_istore_n (ls' := [some (.inr (.inl (some (24, 0, 0)))), some (.inr (.inr (.inr v1))), some (.inl t1), none]) rfl rfl rfl ?_
  obtain ⟨x8, h9, h⟩ := en_b1_h h
  refine s_mm_has_5 G hz en_fu (e3 := none) hxv1 h9 (fun _ => ?_)
  refine en_s_aload_n rfl rfl ?_
  refine en_s_getI rfl rfl rfl ?_
  refine en_s_iconst rfl ?_
  refine en_s_icmp_ne rfl (fun c10 => ?_) (fun c10 => ?_)
  · rw [if_neg c10] at h
    refine en_s_iconst rfl ?_
    cases h
    exact en_s_zret rfl rfl (Or.inl rfl)
  · rw [if_pos c10] at h
    refine en_s_iload_n rfl rfl ?_
    refine en_s_aload_n rfl rfl ?_
    refine en_s_getI rfl rfl rfl ?_
    refine en_s_isub rfl ?_
    refine en_s_aload_nX rfl rfl ?_
    refine en_s_slen hz rfl hxv1 (en_tw_of (i := 1528) (by decide +kernel) (by decide +kernel)) rfl ?_
    refine en_s_icmp_eq rfl (fun c11 => ?_) (fun c11 => ?_)
    · rw [if_pos c11] at h
      refine en_s_iconst rfl ?_
      refine en_s_istore_n (ls' := [some (.inr (.inl (some (24, 0, 0)))), some (.inr (.inr (.inr v1))), some (.inl x8), some (.inl 0)]) rfl rfl rfl ?_
      rcases en_rx_h h with ⟨r20, h19, h⟩ | ⟨u22, h19, h⟩
      · obtain rfl := Option.some.inj h
        exact s_mm_has_60 G hz en_fu  hxv1 h19 (fun _ e9 => by cases e9; exact ⟨rfl, rfl, rfl, rfl⟩) (fun _ e9 => by cases e9)
      · refine s_mm_has_60 G hz en_fu  hxv1 h19 (fun _ e9 => by cases e9) (fun _ e9 f18 => ?_)
        cases e9
        refine en_s_aload_n rfl rfl ?_
        refine en_s_iload_n rfl rfl ?_
        obtain ⟨s23, e24, h⟩ := en_let_h h
        refine en_p_putI e24 rfl rfl rfl rfl rfl ?_
        refine en_s_iconst rfl ?_
        cases h
        exact en_s_zret rfl rfl (Or.inr rfl)
    · rw [if_neg c11] at h
      refine en_s_iconst rfl ?_
      cases h
      exact en_s_zret rfl rfl (Or.inl rfl)
def k_mm_flowText  (σ : en_M) : Option (Int32 × en_M) :=
  en_b2 (k_mm_number 0 999 σ) fun t1 s2 =>
  en_b2 (k_mm_has 10 s2) fun t4 s5 =>
  if t4 = 0 then
    if (s5 24 0 0 12) = (-1) then
      en_b2 (k_mm_flow0 t1 0 s5) fun t9 s10 =>
      some (t9, s10)
    else
      some (0, s5)
  else
    en_b2 (k_mm_number 0 9999 s5) fun t12 s13 =>
    if (s13 24 0 0 12) = (-1) then
      en_b2 (k_mm_flow0 t1 t12 s13) fun t16 s17 =>
      some (t16, s17)
    else
      some (0, s13)
set_option maxRecDepth 100000 in
set_option maxHeartbeats 4000000 in
theorem s_mm_flowText (G : en_G) (hz : G.2.2.2.2.2.2.2.2 = none) (d : Nat) {cs : List en_A} {σ : en_M}  {x0 : Int32} {s0 : en_M}  (h : k_mm_flowText  σ = some (x0, s0)) : en_Mt G (d + 5) 0 0 M_mm_flowText [.inr (.inl (some (24, 0, 0)))] cs en_rf σ (.inr (some (.inl x0))) cs en_rf s0 := by
  refine en_meth (ls := [some (.inr (.inl (some (24, 0, 0)))), none, none]) md_mm_flowText rfl rfl rfl ?_
  unfold k_mm_flowText at h
  refine en_s_aload_n rfl rfl ?_
  refine en_s_iconst rfl ?_
  refine en_s_sipush rfl ?_
  obtain ⟨t1, s2, h3, h⟩ := en_b2_h h
  refine en_callV (as := [.inl 0, .inl 999]) (rest := []) (bc' := 0) (bs' := 0) hz rfl (s_mm_number G hz (d + 3) h3) lk_10_200 mv_mm_number rfl rfl rfl rfl rfl (fun _ h => h) (Nat.le_refl _) (Nat.le_refl _) ?_
  refine en_s_istore_n (ls' := [some (.inr (.inl (some (24, 0, 0)))), some (.inl t1), none]) rfl rfl rfl ?_
  refine en_s_aload_n rfl rfl ?_
  refine en_s_ldcS (i := 9) (text := "from") rfl (by decide +kernel) ?_
  obtain ⟨t4, s5, h6, h⟩ := en_b2_h h
  refine en_callV (as := [.inr (.inr (.inr 10))]) (rest := []) (bc' := 0) (bs' := 0) hz rfl (s_mm_has G hz (d + 0) (by decide) h6) lk_10_205 mv_mm_has rfl rfl rfl rfl rfl (fun _ h => h) (Nat.le_refl _) (Nat.le_refl _) ?_
  refine en_s_if_eq rfl (fun c7 => ?_) (fun c7 => ?_)
  · rw [if_pos c7] at h
    refine en_s_iconst rfl ?_
    refine en_s_istore_n (ls' := [some (.inr (.inl (some (24, 0, 0)))), some (.inl t1), some (.inl 0)]) rfl rfl rfl ?_
    refine en_s_aload_n rfl rfl ?_
    refine en_s_getI rfl rfl rfl ?_
    refine en_s_iconst rfl ?_
    refine en_s_icmp_ne rfl (fun c8 => ?_) (fun c8 => ?_)
    · rw [if_neg c8] at h
      refine en_s_iconst rfl ?_
      cases h
      exact en_s_iret rfl rfl
    · rw [if_pos c8] at h
      refine en_s_aload_n rfl rfl ?_
      refine en_s_iload_n rfl rfl ?_
      refine en_s_iload_n rfl rfl ?_
      obtain ⟨t9, s10, h11, h⟩ := en_b2_h h
      refine en_callV (as := [.inl t1, .inl 0]) (rest := []) (bc' := 0) (bs' := 0) hz rfl (s_mm_flow0 G hz (d + 4) h11) lk_10_209 mv_mm_flow0 rfl rfl rfl rfl rfl (fun _ h => h) (Nat.le_refl _) (Nat.le_refl _) ?_
      refine en_s_goto rfl ?_
      cases h
      exact en_s_iret rfl rfl
  · rw [if_neg c7] at h
    refine en_s_aload_n rfl rfl ?_
    refine en_s_iconst rfl ?_
    refine en_s_sipush rfl ?_
    obtain ⟨t12, s13, h14, h⟩ := en_b2_h h
    refine en_callV (as := [.inl 0, .inl 9999]) (rest := []) (bc' := 0) (bs' := 0) hz rfl (s_mm_number G hz (d + 3) h14) lk_10_200 mv_mm_number rfl rfl rfl rfl rfl (fun _ h => h) (Nat.le_refl _) (Nat.le_refl _) ?_
    refine en_s_goto rfl ?_
    refine en_s_istore_n (ls' := [some (.inr (.inl (some (24, 0, 0)))), some (.inl t1), some (.inl t12)]) rfl rfl rfl ?_
    refine en_s_aload_n rfl rfl ?_
    refine en_s_getI rfl rfl rfl ?_
    refine en_s_iconst rfl ?_
    refine en_s_icmp_ne rfl (fun c15 => ?_) (fun c15 => ?_)
    · rw [if_neg c15] at h
      refine en_s_iconst rfl ?_
      cases h
      exact en_s_iret rfl rfl
    · rw [if_pos c15] at h
      refine en_s_aload_n rfl rfl ?_
      refine en_s_iload_n rfl rfl ?_
      refine en_s_iload_n rfl rfl ?_
      obtain ⟨t16, s17, h18, h⟩ := en_b2_h h
      refine en_callV (as := [.inl t1, .inl t12]) (rest := []) (bc' := 0) (bs' := 0) hz rfl (s_mm_flow0 G hz (d + 4) h18) lk_10_209 mv_mm_flow0 rfl rfl rfl rfl rfl (fun _ h => h) (Nat.le_refl _) (Nat.le_refl _) ?_
      refine en_s_goto rfl ?_
      cases h
      exact en_s_iret rfl rfl
def k_mm_sendText  (σ : en_M) : Option (Int32 × en_M) :=
  en_b2 (k_mm_number 0 5 σ) fun t1 s2 =>
  en_b2 (k_mm_number 1 200 s2) fun t4 s5 =>
  en_b2 (k_mm_number 10 100 s5) fun t7 s8 =>
  en_b2 (k_mm_has 11 s8) fun t10 s11 =>
  if t10 = 0 then
    if (s11 24 0 0 12) = (-1) then
      en_b2 (k_mm_send0 t1 t4 t7 0 s11) fun t15 s16 =>
      some (t15, s16)
    else
      some (0, s11)
  else
    en_b2 (k_mm_number 0 9999 s11) fun t18 s19 =>
    if (s19 24 0 0 12) = (-1) then
      en_b2 (k_mm_send0 t1 t4 t7 t18 s19) fun t22 s23 =>
      some (t22, s23)
    else
      some (0, s19)
set_option maxRecDepth 100000 in
set_option maxHeartbeats 4000000 in
theorem s_mm_sendText (G : en_G) (hz : G.2.2.2.2.2.2.2.2 = none) (d : Nat) {cs : List en_A} {σ : en_M}  {x0 : Int32} {s0 : en_M}  (h : k_mm_sendText  σ = some (x0, s0)) : en_Mt G (d + 5) 0 0 M_mm_sendText [.inr (.inl (some (24, 0, 0)))] cs en_rf σ (.inr (some (.inl x0))) cs en_rf s0 := by
  refine en_meth (ls := [some (.inr (.inl (some (24, 0, 0)))), none, none, none, none]) md_mm_sendText rfl rfl rfl ?_
  unfold k_mm_sendText at h
  refine en_s_aload_n rfl rfl ?_
  refine en_s_iconst rfl ?_
  refine en_s_iconst rfl ?_
  obtain ⟨t1, s2, h3, h⟩ := en_b2_h h
  refine en_callV (as := [.inl 0, .inl 5]) (rest := []) (bc' := 0) (bs' := 0) hz rfl (s_mm_number G hz (d + 3) h3) lk_10_200 mv_mm_number rfl rfl rfl rfl rfl (fun _ h => h) (Nat.le_refl _) (Nat.le_refl _) ?_
  refine en_s_istore_n (ls' := [some (.inr (.inl (some (24, 0, 0)))), some (.inl t1), none, none, none]) rfl rfl rfl ?_
  refine en_s_aload_n rfl rfl ?_
  refine en_s_iconst rfl ?_
  refine en_s_sipush rfl ?_
  obtain ⟨t4, s5, h6, h⟩ := en_b2_h h
  refine en_callV (as := [.inl 1, .inl 200]) (rest := []) (bc' := 0) (bs' := 0) hz rfl (s_mm_number G hz (d + 3) h6) lk_10_200 mv_mm_number rfl rfl rfl rfl rfl (fun _ h => h) (Nat.le_refl _) (Nat.le_refl _) ?_
  refine en_s_istore_n (ls' := [some (.inr (.inl (some (24, 0, 0)))), some (.inl t1), some (.inl t4), none, none]) rfl rfl rfl ?_
  refine en_s_aload_n rfl rfl ?_
  refine en_s_bipush rfl ?_
  refine en_s_bipush rfl ?_
  obtain ⟨t7, s8, h9, h⟩ := en_b2_h h
  refine en_callV (as := [.inl 10, .inl 100]) (rest := []) (bc' := 0) (bs' := 0) hz rfl (s_mm_number G hz (d + 3) h9) lk_10_200 mv_mm_number rfl rfl rfl rfl rfl (fun _ h => h) (Nat.le_refl _) (Nat.le_refl _) ?_
  refine en_s_istore_n (ls' := [some (.inr (.inl (some (24, 0, 0)))), some (.inl t1), some (.inl t4), some (.inl t7), none]) rfl rfl rfl ?_
  refine en_s_aload_n rfl rfl ?_
  refine en_s_ldcS (i := 10) (text := "at") rfl (by decide +kernel) ?_
  obtain ⟨t10, s11, h12, h⟩ := en_b2_h h
  refine en_callV (as := [.inr (.inr (.inr 11))]) (rest := []) (bc' := 0) (bs' := 0) hz rfl (s_mm_has G hz (d + 0) (by decide) h12) lk_10_205 mv_mm_has rfl rfl rfl rfl rfl (fun _ h => h) (Nat.le_refl _) (Nat.le_refl _) ?_
  refine en_s_if_eq rfl (fun c13 => ?_) (fun c13 => ?_)
  · rw [if_pos c13] at h
    refine en_s_iconst rfl ?_
    refine en_s_istore (ls' := [some (.inr (.inl (some (24, 0, 0)))), some (.inl t1), some (.inl t4), some (.inl t7), some (.inl 0)]) rfl rfl rfl ?_
    refine en_s_aload_n rfl rfl ?_
    refine en_s_getI rfl rfl rfl ?_
    refine en_s_iconst rfl ?_
    refine en_s_icmp_ne rfl (fun c14 => ?_) (fun c14 => ?_)
    · rw [if_neg c14] at h
      refine en_s_iconst rfl ?_
      cases h
      exact en_s_iret rfl rfl
    · rw [if_pos c14] at h
      refine en_s_aload_n rfl rfl ?_
      refine en_s_iload_n rfl rfl ?_
      refine en_s_iload_n rfl rfl ?_
      refine en_s_iload_n rfl rfl ?_
      refine en_s_iload rfl rfl ?_
      obtain ⟨t15, s16, h17, h⟩ := en_b2_h h
      refine en_callV (as := [.inl t1, .inl t4, .inl t7, .inl 0]) (rest := []) (bc' := 0) (bs' := 0) hz rfl (s_mm_send0 G hz (d + 1) h17) lk_10_213 mv_mm_send0 rfl rfl rfl rfl rfl (fun _ h => h) (Nat.le_refl _) (Nat.le_refl _) ?_
      refine en_s_goto rfl ?_
      cases h
      exact en_s_iret rfl rfl
  · rw [if_neg c13] at h
    refine en_s_aload_n rfl rfl ?_
    refine en_s_iconst rfl ?_
    refine en_s_sipush rfl ?_
    obtain ⟨t18, s19, h20, h⟩ := en_b2_h h
    refine en_callV (as := [.inl 0, .inl 9999]) (rest := []) (bc' := 0) (bs' := 0) hz rfl (s_mm_number G hz (d + 3) h20) lk_10_200 mv_mm_number rfl rfl rfl rfl rfl (fun _ h => h) (Nat.le_refl _) (Nat.le_refl _) ?_
    refine en_s_goto rfl ?_
    refine en_s_istore (ls' := [some (.inr (.inl (some (24, 0, 0)))), some (.inl t1), some (.inl t4), some (.inl t7), some (.inl t18)]) rfl rfl rfl ?_
    refine en_s_aload_n rfl rfl ?_
    refine en_s_getI rfl rfl rfl ?_
    refine en_s_iconst rfl ?_
    refine en_s_icmp_ne rfl (fun c21 => ?_) (fun c21 => ?_)
    · rw [if_neg c21] at h
      refine en_s_iconst rfl ?_
      cases h
      exact en_s_iret rfl rfl
    · rw [if_pos c21] at h
      refine en_s_aload_n rfl rfl ?_
      refine en_s_iload_n rfl rfl ?_
      refine en_s_iload_n rfl rfl ?_
      refine en_s_iload_n rfl rfl ?_
      refine en_s_iload rfl rfl ?_
      obtain ⟨t22, s23, h24, h⟩ := en_b2_h h
      refine en_callV (as := [.inl t1, .inl t4, .inl t7, .inl t18]) (rest := []) (bc' := 0) (bs' := 0) hz rfl (s_mm_send0 G hz (d + 1) h24) lk_10_213 mv_mm_send0 rfl rfl rfl rfl rfl (fun _ h => h) (Nat.le_refl _) (Nat.le_refl _) ?_
      refine en_s_goto rfl ?_
      cases h
      exact en_s_iret rfl rfl
def k_mm_act  (σ : en_M) : Option (Int32 × en_M) :=
  en_b2 (k_mm_here σ) fun t1 s2 =>
  en_b2 (k_mm_has 1 s2) fun t4 s5 =>
  if t4 = 0 then
    en_b2 (k_mm_has 2 s5) fun t8 s9 =>
    if t8 = 0 then
      en_b2 (k_mm_has 3 s9) fun t12 s13 =>
      if t12 = 0 then
        en_b2 (k_mm_has 4 s13) fun t16 s17 =>
        if t16 = 0 then
          en_b2 (k_mm_has 5 s17) fun t20 s21 =>
          if t20 = 0 then
            en_b2 (k_mm_has 6 s21) fun t24 s25 =>
            if t24 = 0 then
              en_b2 (k_mm_has 7 s25) fun t28 s29 =>
              if t28 = 0 then
                en_b2 (k_mm_has 8 s29) fun t32 s33 =>
                if t32 = 0 then
                  en_b2 (k_mm_has 9 s33) fun t36 s37 =>
                  if t36 = 0 then
                    en_b1 (k_mm_wrong t1 s37) fun s40 =>
                    some (0, s40)
                  else
                    en_b2 (k_mm_number 1 99 s37) fun t42 s43 =>
                    if (s43 24 0 0 12) = (-1) then
                      en_b2 (k_mm_tick0 t42 s43) fun t46 s47 =>
                      if t46 ≤ 0 then
                        some (t46, s47)
                      else
                        en_b1 (k_mm_wrong t1 s47) fun s50 =>
                        some (t46, s50)
                    else
                      some (0, s43)
                else
                  en_b2 (k_mm_rateText s33) fun t52 s53 =>
                  if t52 ≤ 0 then
                    some (t52, s53)
                  else
                    en_b1 (k_mm_wrong t1 s53) fun s56 =>
                    some (t52, s56)
              else
                en_b2 (k_mm_pauseText 0 s29) fun t58 s59 =>
                if t58 ≤ 0 then
                  some (t58, s59)
                else
                  en_b1 (k_mm_wrong t1 s59) fun s62 =>
                  some (t58, s62)
            else
              en_b2 (k_mm_pauseText 1 s25) fun t64 s65 =>
              if t64 ≤ 0 then
                some (t64, s65)
              else
                en_b1 (k_mm_wrong t1 s65) fun s68 =>
                some (t64, s68)
          else
            en_b2 (k_mm_number 0 9999 s21) fun t70 s71 =>
            if (s71 24 0 0 12) = (-1) then
              en_b2 (k_mm_drop0 t70 s71) fun t74 s75 =>
              if t74 ≤ 0 then
                some (t74, s75)
              else
                en_b1 (k_mm_wrong t1 s75) fun s78 =>
                some (t74, s78)
            else
              some (0, s71)
        else
          en_b2 (k_mm_bell0 s17) fun t80 s81 =>
          some (0, s81)
      else
        en_b2 (k_mm_sendText s13) fun t83 s84 =>
        if t83 ≤ 0 then
          some (t83, s84)
        else
          en_b1 (k_mm_wrong t1 s84) fun s87 =>
          some (t83, s87)
    else
      en_b2 (k_mm_flowText s9) fun t89 s90 =>
      if t89 ≤ 0 then
        some (t89, s90)
      else
        en_b1 (k_mm_wrong t1 s90) fun s93 =>
        some (t89, s93)
  else
    en_b1 (k_mm_cardText s5) fun s95 =>
    some (0, s95)
set_option maxRecDepth 100000 in
set_option maxHeartbeats 4000000 in
theorem s_mm_act (G : en_G) (hz : G.2.2.2.2.2.2.2.2 = none) (d : Nat) {cs : List en_A} {σ : en_M}  {x0 : Int32} {s0 : en_M}  (h : k_mm_act  σ = some (x0, s0)) : en_Mt G (d + 8) 0 0 M_mm_act [.inr (.inl (some (24, 0, 0)))] cs en_rf σ (.inr (some (.inl x0))) cs en_rf s0 := by
  refine en_meth (ls := [some (.inr (.inl (some (24, 0, 0)))), none, none, none]) md_mm_act rfl rfl rfl ?_
  unfold k_mm_act at h
  refine en_s_aload_n rfl rfl ?_
  obtain ⟨t1, s2, h3, h⟩ := en_b2_h h
  refine en_callV (as := []) (rest := []) (bc' := 0) (bs' := 0) hz rfl (s_mm_here G hz (d + 7) h3) lk_10_185 mv_mm_here rfl rfl rfl rfl rfl (fun _ h => h) (Nat.le_refl _) (Nat.le_refl _) ?_
  refine en_s_istore_n (ls' := [some (.inr (.inl (some (24, 0, 0)))), some (.inl t1), none, none]) rfl rfl rfl ?_
  refine en_s_iconst rfl ?_
  refine en_s_istore_n (ls' := [some (.inr (.inl (some (24, 0, 0)))), some (.inl t1), some (.inl 0), none]) rfl rfl rfl ?_
  refine en_s_aload_n rfl rfl ?_
  refine en_s_ldcS (i := 0) (text := "card") rfl (by decide +kernel) ?_
  obtain ⟨t4, s5, h6, h⟩ := en_b2_h h
  refine en_callV (as := [.inr (.inr (.inr 1))]) (rest := []) (bc' := 0) (bs' := 0) hz rfl (s_mm_has G hz (d + 3) (by decide) h6) lk_10_205 mv_mm_has rfl rfl rfl rfl rfl (fun _ h => h) (Nat.le_refl _) (Nat.le_refl _) ?_
  refine en_s_if_eq rfl (fun c7 => ?_) (fun c7 => ?_)
  · rw [if_pos c7] at h
    refine en_s_aload_n rfl rfl ?_
    refine en_s_ldcS (i := 1) (text := "flow") rfl (by decide +kernel) ?_
    obtain ⟨t8, s9, h10, h⟩ := en_b2_h h
    refine en_callV (as := [.inr (.inr (.inr 2))]) (rest := []) (bc' := 0) (bs' := 0) hz rfl (s_mm_has G hz (d + 3) (by decide) h10) lk_10_205 mv_mm_has rfl rfl rfl rfl rfl (fun _ h => h) (Nat.le_refl _) (Nat.le_refl _) ?_
    refine en_s_if_eq rfl (fun c11 => ?_) (fun c11 => ?_)
    · rw [if_pos c11] at h
      refine en_s_aload_n rfl rfl ?_
      refine en_s_ldcS (i := 2) (text := "send") rfl (by decide +kernel) ?_
      obtain ⟨t12, s13, h14, h⟩ := en_b2_h h
      refine en_callV (as := [.inr (.inr (.inr 3))]) (rest := []) (bc' := 0) (bs' := 0) hz rfl (s_mm_has G hz (d + 3) (by decide) h14) lk_10_205 mv_mm_has rfl rfl rfl rfl rfl (fun _ h => h) (Nat.le_refl _) (Nat.le_refl _) ?_
      refine en_s_if_eq rfl (fun c15 => ?_) (fun c15 => ?_)
      · rw [if_pos c15] at h
        refine en_s_aload_n rfl rfl ?_
        refine en_s_ldcS (i := 3) (text := "bell") rfl (by decide +kernel) ?_
        obtain ⟨t16, s17, h18, h⟩ := en_b2_h h
        refine en_callV (as := [.inr (.inr (.inr 4))]) (rest := []) (bc' := 0) (bs' := 0) hz rfl (s_mm_has G hz (d + 3) (by decide) h18) lk_10_205 mv_mm_has rfl rfl rfl rfl rfl (fun _ h => h) (Nat.le_refl _) (Nat.le_refl _) ?_
        refine en_s_if_eq rfl (fun c19 => ?_) (fun c19 => ?_)
        · rw [if_pos c19] at h
          refine en_s_aload_n rfl rfl ?_
          refine en_s_ldcS (i := 4) (text := "drop") rfl (by decide +kernel) ?_
          obtain ⟨t20, s21, h22, h⟩ := en_b2_h h
          refine en_callV (as := [.inr (.inr (.inr 5))]) (rest := []) (bc' := 0) (bs' := 0) hz rfl (s_mm_has G hz (d + 3) (by decide) h22) lk_10_205 mv_mm_has rfl rfl rfl rfl rfl (fun _ h => h) (Nat.le_refl _) (Nat.le_refl _) ?_
          refine en_s_if_eq rfl (fun c23 => ?_) (fun c23 => ?_)
          · rw [if_pos c23] at h
            refine en_s_aload_n rfl rfl ?_
            refine en_s_ldcS (i := 5) (text := "pause") rfl (by decide +kernel) ?_
            obtain ⟨t24, s25, h26, h⟩ := en_b2_h h
            refine en_callV (as := [.inr (.inr (.inr 6))]) (rest := []) (bc' := 0) (bs' := 0) hz rfl (s_mm_has G hz (d + 3) (by decide) h26) lk_10_205 mv_mm_has rfl rfl rfl rfl rfl (fun _ h => h) (Nat.le_refl _) (Nat.le_refl _) ?_
            refine en_s_if_eq rfl (fun c27 => ?_) (fun c27 => ?_)
            · rw [if_pos c27] at h
              refine en_s_aload_n rfl rfl ?_
              refine en_s_ldcS (i := 6) (text := "go") rfl (by decide +kernel) ?_
              obtain ⟨t28, s29, h30, h⟩ := en_b2_h h
              refine en_callV (as := [.inr (.inr (.inr 7))]) (rest := []) (bc' := 0) (bs' := 0) hz rfl (s_mm_has G hz (d + 3) (by decide) h30) lk_10_205 mv_mm_has rfl rfl rfl rfl rfl (fun _ h => h) (Nat.le_refl _) (Nat.le_refl _) ?_
              refine en_s_if_eq rfl (fun c31 => ?_) (fun c31 => ?_)
              · rw [if_pos c31] at h
                refine en_s_aload_n rfl rfl ?_
                refine en_s_ldcS (i := 7) (text := "rate") rfl (by decide +kernel) ?_
                obtain ⟨t32, s33, h34, h⟩ := en_b2_h h
                refine en_callV (as := [.inr (.inr (.inr 8))]) (rest := []) (bc' := 0) (bs' := 0) hz rfl (s_mm_has G hz (d + 3) (by decide) h34) lk_10_205 mv_mm_has rfl rfl rfl rfl rfl (fun _ h => h) (Nat.le_refl _) (Nat.le_refl _) ?_
                refine en_s_if_eq rfl (fun c35 => ?_) (fun c35 => ?_)
                · rw [if_pos c35] at h
                  refine en_s_aload_n rfl rfl ?_
                  refine en_s_ldcwS (i := 8) (text := "tick") rfl (by decide +kernel) ?_
                  obtain ⟨t36, s37, h38, h⟩ := en_b2_h h
                  refine en_callV (as := [.inr (.inr (.inr 9))]) (rest := []) (bc' := 0) (bs' := 0) hz rfl (s_mm_has G hz (d + 3) (by decide) h38) lk_10_205 mv_mm_has rfl rfl rfl rfl rfl (fun _ h => h) (Nat.le_refl _) (Nat.le_refl _) ?_
                  refine en_s_if_eq rfl (fun c39 => ?_) (fun c39 => ?_)
                  · rw [if_pos c39] at h
                    refine en_s_aload_n rfl rfl ?_
                    refine en_s_iload_n rfl rfl ?_
                    obtain ⟨s40, h41, h⟩ := en_b1_h h
                    refine en_callV (as := [.inl t1]) (rest := []) (bc' := 0) (bs' := 0) hz rfl (s_mm_wrong G hz (d + 7) h41) lk_10_197 mv_mm_wrong rfl rfl rfl rfl rfl (fun _ h => h) (Nat.le_refl _) (Nat.le_refl _) ?_
                    refine en_s_iload_n rfl rfl ?_
                    refine en_s_if_le rfl (fun _ => ?_) (fun c9 => absurd c9 (by decide))
                    refine en_s_iload_n rfl rfl ?_
                    cases h
                    exact en_s_iret rfl rfl
                  · rw [if_neg c39] at h
                    refine en_s_aload_n rfl rfl ?_
                    refine en_s_iconst rfl ?_
                    refine en_s_bipush rfl ?_
                    obtain ⟨t42, s43, h44, h⟩ := en_b2_h h
                    refine en_callV (as := [.inl 1, .inl 99]) (rest := []) (bc' := 0) (bs' := 0) hz rfl (s_mm_number G hz (d + 6) h44) lk_10_200 mv_mm_number rfl rfl rfl rfl rfl (fun _ h => h) (Nat.le_refl _) (Nat.le_refl _) ?_
                    refine en_s_istore_n (ls' := [some (.inr (.inl (some (24, 0, 0)))), some (.inl t1), some (.inl 0), some (.inl t42)]) rfl rfl rfl ?_
                    refine en_s_aload_n rfl rfl ?_
                    refine en_s_getI rfl rfl rfl ?_
                    refine en_s_iconst rfl ?_
                    refine en_s_icmp_ne rfl (fun c45 => ?_) (fun c45 => ?_)
                    · rw [if_neg c45] at h
                      refine en_s_iconst rfl ?_
                      refine en_s_istore_n (ls' := [some (.inr (.inl (some (24, 0, 0)))), some (.inl t1), some (.inl 0), some (.inl t42)]) rfl rfl rfl ?_
                      refine en_s_goto rfl ?_
                      refine en_s_iload_n rfl rfl ?_
                      refine en_s_if_le rfl (fun _ => ?_) (fun c9 => absurd c9 (by decide))
                      refine en_s_iload_n rfl rfl ?_
                      cases h
                      exact en_s_iret rfl rfl
                    · rw [if_pos c45] at h
                      refine en_s_aload_n rfl rfl ?_
                      refine en_s_iload_n rfl rfl ?_
                      obtain ⟨t46, s47, h48, h⟩ := en_b2_h h
                      refine en_callV (as := [.inl t42]) (rest := []) (bc' := 0) (bs' := 0) hz rfl (s_mm_tick0 G hz (d + 0) h48) lk_10_259 mv_mm_tick0 rfl rfl rfl rfl rfl (fun _ h => h) (Nat.le_refl _) (Nat.le_refl _) ?_
                      refine en_s_goto rfl ?_
                      refine en_s_istore_n (ls' := [some (.inr (.inl (some (24, 0, 0)))), some (.inl t1), some (.inl t46), some (.inl t42)]) rfl rfl rfl ?_
                      refine en_s_goto rfl ?_
                      refine en_s_iload_n rfl rfl ?_
                      refine en_s_if_le rfl (fun c49 => ?_) (fun c49 => ?_)
                      · rw [if_pos c49] at h
                        refine en_s_iload_n rfl rfl ?_
                        cases h
                        exact en_s_iret rfl rfl
                      · rw [if_neg c49] at h
                        refine en_s_aload_n rfl rfl ?_
                        refine en_s_iload_n rfl rfl ?_
                        obtain ⟨s50, h51, h⟩ := en_b1_h h
                        refine en_callV (as := [.inl t1]) (rest := []) (bc' := 0) (bs' := 0) hz rfl (s_mm_wrong G hz (d + 7) h51) lk_10_197 mv_mm_wrong rfl rfl rfl rfl rfl (fun _ h => h) (Nat.le_refl _) (Nat.le_refl _) ?_
                        refine en_s_iload_n rfl rfl ?_
                        cases h
                        exact en_s_iret rfl rfl
                · rw [if_neg c35] at h
                  refine en_s_aload_n rfl rfl ?_
                  obtain ⟨t52, s53, h54, h⟩ := en_b2_h h
                  refine en_callV (as := []) (rest := []) (bc' := 0) (bs' := 0) hz rfl (s_mm_rateText G hz (d + 4) h54) lk_10_254 mv_mm_rateText rfl rfl rfl rfl rfl (fun _ h => h) (Nat.le_refl _) (Nat.le_refl _) ?_
                  refine en_s_istore_n (ls' := [some (.inr (.inl (some (24, 0, 0)))), some (.inl t1), some (.inl t52), none]) rfl rfl rfl ?_
                  refine en_s_goto rfl ?_
                  refine en_s_iload_n rfl rfl ?_
                  refine en_s_if_le rfl (fun c55 => ?_) (fun c55 => ?_)
                  · rw [if_pos c55] at h
                    refine en_s_iload_n rfl rfl ?_
                    cases h
                    exact en_s_iret rfl rfl
                  · rw [if_neg c55] at h
                    refine en_s_aload_n rfl rfl ?_
                    refine en_s_iload_n rfl rfl ?_
                    obtain ⟨s56, h57, h⟩ := en_b1_h h
                    refine en_callV (as := [.inl t1]) (rest := []) (bc' := 0) (bs' := 0) hz rfl (s_mm_wrong G hz (d + 7) h57) lk_10_197 mv_mm_wrong rfl rfl rfl rfl rfl (fun _ h => h) (Nat.le_refl _) (Nat.le_refl _) ?_
                    refine en_s_iload_n rfl rfl ?_
                    cases h
                    exact en_s_iret rfl rfl
              · rw [if_neg c31] at h
                refine en_s_aload_n rfl rfl ?_
                refine en_s_iconst rfl ?_
                obtain ⟨t58, s59, h60, h⟩ := en_b2_h h
                refine en_callV (as := [.inl 0]) (rest := []) (bc' := 0) (bs' := 0) hz rfl (s_mm_pauseText G hz (d + 4) h60) lk_10_247 mv_mm_pauseText rfl rfl rfl rfl rfl (fun _ h => h) (Nat.le_refl _) (Nat.le_refl _) ?_
                refine en_s_istore_n (ls' := [some (.inr (.inl (some (24, 0, 0)))), some (.inl t1), some (.inl t58), none]) rfl rfl rfl ?_
                refine en_s_goto rfl ?_
                refine en_s_iload_n rfl rfl ?_
                refine en_s_if_le rfl (fun c61 => ?_) (fun c61 => ?_)
                · rw [if_pos c61] at h
                  refine en_s_iload_n rfl rfl ?_
                  cases h
                  exact en_s_iret rfl rfl
                · rw [if_neg c61] at h
                  refine en_s_aload_n rfl rfl ?_
                  refine en_s_iload_n rfl rfl ?_
                  obtain ⟨s62, h63, h⟩ := en_b1_h h
                  refine en_callV (as := [.inl t1]) (rest := []) (bc' := 0) (bs' := 0) hz rfl (s_mm_wrong G hz (d + 7) h63) lk_10_197 mv_mm_wrong rfl rfl rfl rfl rfl (fun _ h => h) (Nat.le_refl _) (Nat.le_refl _) ?_
                  refine en_s_iload_n rfl rfl ?_
                  cases h
                  exact en_s_iret rfl rfl
            · rw [if_neg c27] at h
              refine en_s_aload_n rfl rfl ?_
              refine en_s_iconst rfl ?_
              obtain ⟨t64, s65, h66, h⟩ := en_b2_h h
              refine en_callV (as := [.inl 1]) (rest := []) (bc' := 0) (bs' := 0) hz rfl (s_mm_pauseText G hz (d + 4) h66) lk_10_247 mv_mm_pauseText rfl rfl rfl rfl rfl (fun _ h => h) (Nat.le_refl _) (Nat.le_refl _) ?_
              refine en_s_istore_n (ls' := [some (.inr (.inl (some (24, 0, 0)))), some (.inl t1), some (.inl t64), none]) rfl rfl rfl ?_
              refine en_s_goto rfl ?_
              refine en_s_iload_n rfl rfl ?_
              refine en_s_if_le rfl (fun c67 => ?_) (fun c67 => ?_)
              · rw [if_pos c67] at h
                refine en_s_iload_n rfl rfl ?_
                cases h
                exact en_s_iret rfl rfl
              · rw [if_neg c67] at h
                refine en_s_aload_n rfl rfl ?_
                refine en_s_iload_n rfl rfl ?_
                obtain ⟨s68, h69, h⟩ := en_b1_h h
                refine en_callV (as := [.inl t1]) (rest := []) (bc' := 0) (bs' := 0) hz rfl (s_mm_wrong G hz (d + 7) h69) lk_10_197 mv_mm_wrong rfl rfl rfl rfl rfl (fun _ h => h) (Nat.le_refl _) (Nat.le_refl _) ?_
                refine en_s_iload_n rfl rfl ?_
                cases h
                exact en_s_iret rfl rfl
          · rw [if_neg c23] at h
            refine en_s_aload_n rfl rfl ?_
            refine en_s_iconst rfl ?_
            refine en_s_sipush rfl ?_
            obtain ⟨t70, s71, h72, h⟩ := en_b2_h h
            refine en_callV (as := [.inl 0, .inl 9999]) (rest := []) (bc' := 0) (bs' := 0) hz rfl (s_mm_number G hz (d + 6) h72) lk_10_200 mv_mm_number rfl rfl rfl rfl rfl (fun _ h => h) (Nat.le_refl _) (Nat.le_refl _) ?_
            refine en_s_istore_n (ls' := [some (.inr (.inl (some (24, 0, 0)))), some (.inl t1), some (.inl 0), some (.inl t70)]) rfl rfl rfl ?_
            refine en_s_aload_n rfl rfl ?_
            refine en_s_getI rfl rfl rfl ?_
            refine en_s_iconst rfl ?_
            refine en_s_icmp_ne rfl (fun c73 => ?_) (fun c73 => ?_)
            · rw [if_neg c73] at h
              refine en_s_iconst rfl ?_
              refine en_s_istore_n (ls' := [some (.inr (.inl (some (24, 0, 0)))), some (.inl t1), some (.inl 0), some (.inl t70)]) rfl rfl rfl ?_
              refine en_s_goto rfl ?_
              refine en_s_iload_n rfl rfl ?_
              refine en_s_if_le rfl (fun _ => ?_) (fun c9 => absurd c9 (by decide))
              refine en_s_iload_n rfl rfl ?_
              cases h
              exact en_s_iret rfl rfl
            · rw [if_pos c73] at h
              refine en_s_aload_n rfl rfl ?_
              refine en_s_iload_n rfl rfl ?_
              obtain ⟨t74, s75, h76, h⟩ := en_b2_h h
              refine en_callV (as := [.inl t70]) (rest := []) (bc' := 0) (bs' := 0) hz rfl (s_mm_drop0 G hz (d + 2) h76) lk_10_242 mv_mm_drop0 rfl rfl rfl rfl rfl (fun _ h => h) (Nat.le_refl _) (Nat.le_refl _) ?_
              refine en_s_goto rfl ?_
              refine en_s_istore_n (ls' := [some (.inr (.inl (some (24, 0, 0)))), some (.inl t1), some (.inl t74), some (.inl t70)]) rfl rfl rfl ?_
              refine en_s_goto rfl ?_
              refine en_s_iload_n rfl rfl ?_
              refine en_s_if_le rfl (fun c77 => ?_) (fun c77 => ?_)
              · rw [if_pos c77] at h
                refine en_s_iload_n rfl rfl ?_
                cases h
                exact en_s_iret rfl rfl
              · rw [if_neg c77] at h
                refine en_s_aload_n rfl rfl ?_
                refine en_s_iload_n rfl rfl ?_
                obtain ⟨s78, h79, h⟩ := en_b1_h h
                refine en_callV (as := [.inl t1]) (rest := []) (bc' := 0) (bs' := 0) hz rfl (s_mm_wrong G hz (d + 7) h79) lk_10_197 mv_mm_wrong rfl rfl rfl rfl rfl (fun _ h => h) (Nat.le_refl _) (Nat.le_refl _) ?_
                refine en_s_iload_n rfl rfl ?_
                cases h
                exact en_s_iret rfl rfl
        · rw [if_neg c19] at h
          refine en_s_aload_n rfl rfl ?_
          obtain ⟨t80, s81, h82, h⟩ := en_b2_h h
          refine en_callV (as := []) (rest := []) (bc' := 0) (bs' := 0) hz rfl (s_mm_bell0 G hz (d + 5) h82) lk_10_109 mv_mm_bell0 rfl rfl rfl rfl rfl (fun _ h => h) (Nat.le_refl _) (Nat.le_refl _) ?_
          refine en_s_istore_n (ls' := [some (.inr (.inl (some (24, 0, 0)))), some (.inl t1), some (.inl 0), some (.inl t80)]) rfl rfl rfl ?_
          refine en_s_goto rfl ?_
          refine en_s_iload_n rfl rfl ?_
          refine en_s_if_le rfl (fun _ => ?_) (fun c9 => absurd c9 (by decide))
          refine en_s_iload_n rfl rfl ?_
          cases h
          exact en_s_iret rfl rfl
      · rw [if_neg c15] at h
        refine en_s_aload_n rfl rfl ?_
        obtain ⟨t83, s84, h85, h⟩ := en_b2_h h
        refine en_callV (as := []) (rest := []) (bc' := 0) (bs' := 0) hz rfl (s_mm_sendText G hz (d + 2) h85) lk_10_235 mv_mm_sendText rfl rfl rfl rfl rfl (fun _ h => h) (Nat.le_refl _) (Nat.le_refl _) ?_
        refine en_s_istore_n (ls' := [some (.inr (.inl (some (24, 0, 0)))), some (.inl t1), some (.inl t83), none]) rfl rfl rfl ?_
        refine en_s_goto rfl ?_
        refine en_s_iload_n rfl rfl ?_
        refine en_s_if_le rfl (fun c86 => ?_) (fun c86 => ?_)
        · rw [if_pos c86] at h
          refine en_s_iload_n rfl rfl ?_
          cases h
          exact en_s_iret rfl rfl
        · rw [if_neg c86] at h
          refine en_s_aload_n rfl rfl ?_
          refine en_s_iload_n rfl rfl ?_
          obtain ⟨s87, h88, h⟩ := en_b1_h h
          refine en_callV (as := [.inl t1]) (rest := []) (bc' := 0) (bs' := 0) hz rfl (s_mm_wrong G hz (d + 7) h88) lk_10_197 mv_mm_wrong rfl rfl rfl rfl rfl (fun _ h => h) (Nat.le_refl _) (Nat.le_refl _) ?_
          refine en_s_iload_n rfl rfl ?_
          cases h
          exact en_s_iret rfl rfl
    · rw [if_neg c11] at h
      refine en_s_aload_n rfl rfl ?_
      obtain ⟨t89, s90, h91, h⟩ := en_b2_h h
      refine en_callV (as := []) (rest := []) (bc' := 0) (bs' := 0) hz rfl (s_mm_flowText G hz (d + 2) h91) lk_10_230 mv_mm_flowText rfl rfl rfl rfl rfl (fun _ h => h) (Nat.le_refl _) (Nat.le_refl _) ?_
      refine en_s_istore_n (ls' := [some (.inr (.inl (some (24, 0, 0)))), some (.inl t1), some (.inl t89), none]) rfl rfl rfl ?_
      refine en_s_goto rfl ?_
      refine en_s_iload_n rfl rfl ?_
      refine en_s_if_le rfl (fun c92 => ?_) (fun c92 => ?_)
      · rw [if_pos c92] at h
        refine en_s_iload_n rfl rfl ?_
        cases h
        exact en_s_iret rfl rfl
      · rw [if_neg c92] at h
        refine en_s_aload_n rfl rfl ?_
        refine en_s_iload_n rfl rfl ?_
        obtain ⟨s93, h94, h⟩ := en_b1_h h
        refine en_callV (as := [.inl t1]) (rest := []) (bc' := 0) (bs' := 0) hz rfl (s_mm_wrong G hz (d + 7) h94) lk_10_197 mv_mm_wrong rfl rfl rfl rfl rfl (fun _ h => h) (Nat.le_refl _) (Nat.le_refl _) ?_
        refine en_s_iload_n rfl rfl ?_
        cases h
        exact en_s_iret rfl rfl
  · rw [if_neg c7] at h
    refine en_s_aload_n rfl rfl ?_
    obtain ⟨s95, h96, h⟩ := en_b1_h h
    refine en_callV (as := []) (rest := []) (bc' := 0) (bs' := 0) hz rfl (s_mm_cardText G hz (d + 5) h96) lk_10_225 mv_mm_cardText rfl rfl rfl rfl rfl (fun _ h => h) (Nat.le_refl _) (Nat.le_refl _) ?_
    refine en_s_goto rfl ?_
    refine en_s_iload_n rfl rfl ?_
    refine en_s_if_le rfl (fun _ => ?_) (fun c9 => absurd c9 (by decide))
    refine en_s_iload_n rfl rfl ?_
    cases h
    exact en_s_iret rfl rfl
def k_mm_acts_48 (f0 : Nat) (v1 : Int32) (v2 : Int32) (v3 : Int32) (σ : en_M) : Option (Int32 × Int32 × en_M) := match f0 with
  | 0 => none
  | f9 + 1 =>
    if v3 = 0 then
      some (v1, v2, σ)
    else
      if (σ 24 0 0 12) = (-1) then
        if v1 = 14 then
          en_b2 (k_mm_here σ) fun t50 s51 =>
          en_b1 (k_mm_wrong t50 s51) fun s53 =>
          if (s53 24 0 0 12) = (-1) then
            en_b2 (k_mm_act s53) fun t70 s71 =>
            en_b2 (k_mm_here s71) fun t73 s74 =>
            if (s74 24 0 0 10) ≤ t73 then
              k_mm_acts_48 f9 (v1 + 1) t70 0 s74
            else
              if (s74 24 0 0 12) = (-1) then
                en_b1 (en_rd 400 (s74 29 0 0) (s74 24 0 0 11)) fun t78 =>
                if t78 = 59 then
                  en_let (en_wr s74 24 0 0 11 ((s74 24 0 0 11) + 1)) fun s81 =>
                  k_mm_acts_48 f9 (v1 + 1) t70 1 s81
                else
                  en_b1 (k_mm_wrong (s74 24 0 0 11) s74) fun s83 =>
                  en_let (en_wr s83 24 0 0 11 ((s83 24 0 0 11) + 1)) fun s85 =>
                  k_mm_acts_48 f9 (v1 + 1) t70 1 s85
              else
                k_mm_acts_48 f9 (v1 + 1) t70 1 s74
          else
            en_b2 (k_mm_here s53) fun t56 s57 =>
            if (s57 24 0 0 10) ≤ t56 then
              k_mm_acts_48 f9 (v1 + 1) v2 0 s57
            else
              if (s57 24 0 0 12) = (-1) then
                en_b1 (en_rd 400 (s57 29 0 0) (s57 24 0 0 11)) fun t61 =>
                if t61 = 59 then
                  en_let (en_wr s57 24 0 0 11 ((s57 24 0 0 11) + 1)) fun s64 =>
                  k_mm_acts_48 f9 (v1 + 1) v2 1 s64
                else
                  en_b1 (k_mm_wrong (s57 24 0 0 11) s57) fun s66 =>
                  en_let (en_wr s66 24 0 0 11 ((s66 24 0 0 11) + 1)) fun s68 =>
                  k_mm_acts_48 f9 (v1 + 1) v2 1 s68
              else
                k_mm_acts_48 f9 (v1 + 1) v2 1 s57
        else
          if (σ 24 0 0 12) = (-1) then
            en_b2 (k_mm_act σ) fun t33 s34 =>
            en_b2 (k_mm_here s34) fun t36 s37 =>
            if (s37 24 0 0 10) ≤ t36 then
              k_mm_acts_48 f9 (v1 + 1) t33 0 s37
            else
              if (s37 24 0 0 12) = (-1) then
                en_b1 (en_rd 400 (s37 29 0 0) (s37 24 0 0 11)) fun t41 =>
                if t41 = 59 then
                  en_let (en_wr s37 24 0 0 11 ((s37 24 0 0 11) + 1)) fun s44 =>
                  k_mm_acts_48 f9 (v1 + 1) t33 1 s44
                else
                  en_b1 (k_mm_wrong (s37 24 0 0 11) s37) fun s46 =>
                  en_let (en_wr s46 24 0 0 11 ((s46 24 0 0 11) + 1)) fun s48 =>
                  k_mm_acts_48 f9 (v1 + 1) t33 1 s48
              else
                k_mm_acts_48 f9 (v1 + 1) t33 1 s37
          else
            en_b2 (k_mm_here σ) fun t19 s20 =>
            if (s20 24 0 0 10) ≤ t19 then
              k_mm_acts_48 f9 (v1 + 1) v2 0 s20
            else
              if (s20 24 0 0 12) = (-1) then
                en_b1 (en_rd 400 (s20 29 0 0) (s20 24 0 0 11)) fun t24 =>
                if t24 = 59 then
                  en_let (en_wr s20 24 0 0 11 ((s20 24 0 0 11) + 1)) fun s27 =>
                  k_mm_acts_48 f9 (v1 + 1) v2 1 s27
                else
                  en_b1 (k_mm_wrong (s20 24 0 0 11) s20) fun s29 =>
                  en_let (en_wr s29 24 0 0 11 ((s29 24 0 0 11) + 1)) fun s31 =>
                  k_mm_acts_48 f9 (v1 + 1) v2 1 s31
              else
                k_mm_acts_48 f9 (v1 + 1) v2 1 s20
      else
        some (v1, v2, σ)
def k_mm_acts_220 (f0 : Nat) (v4 : Int32) (σ : en_M) : Option (en_M) := match f0 with
  | 0 => none
  | f9 + 1 =>
    if 938 ≤ v4 then
      some (σ)
    else
      en_b1 (en_rd 938 (σ 26 0 0) v4) fun t100 =>
      en_b1 (en_wa 938 σ 25 0 0 v4 t100) fun s102 =>
      k_mm_acts_220 f9 (v4 + 1) s102
def k_mm_acts  (σ : en_M) : Option (Int32 × en_M) :=
  en_let (en_wr σ 24 0 0 12 (-1)) fun s1 =>
  en_let (en_wr s1 24 0 0 10 (s1 24 0 0 9)) fun s3 =>
  en_let (en_wr s3 24 0 0 9 0) fun s5 =>
  en_let (en_wr s5 24 0 0 11 0) fun s7 =>
  en_b1 (k_mm_putsAside s7) fun s9 =>
  en_b2 (k_mm_here s9) fun t11 s12 =>
  if (s12 24 0 0 10) ≤ t11 then
    en_b3 (k_mm_acts_48 en_fu 0 0 0 s12) fun x87 x88 s90 =>
    if (s90 24 0 0 12) = (-1) then
      en_let (en_wr s90 24 0 0 0 0) fun s121 =>
      if (s121 24 0 0 0) = 0 then
        if x87 ≤ 0 then
          en_let (en_wr s121 24 0 0 7 (s121 24 0 0 7)) fun s136 =>
          en_let (en_wr s136 24 0 0 5 0) fun s138 =>
          some (x87, s138)
        else
          en_let (en_wr s121 24 0 0 7 0) fun s140 =>
          en_let (en_wr s140 24 0 0 5 0) fun s142 =>
          some (x87, s142)
      else
        if x88 ≤ 0 then
          en_let (en_wr s121 24 0 0 7 (s121 24 0 0 7)) fun s125 =>
          en_b1 (k_mm_acts_220 en_fu 0 s125) fun s128 =>
          some (0, s128)
        else
          en_let (en_wr s121 24 0 0 7 x88) fun s130 =>
          en_b1 (k_mm_acts_220 en_fu 0 s130) fun s133 =>
          some (0, s133)
    else
      en_let (en_wr s90 24 0 0 0 1) fun s93 =>
      if (s93 24 0 0 0) = 0 then
        if x87 ≤ 0 then
          en_let (en_wr s93 24 0 0 7 (s93 24 0 0 7)) fun s113 =>
          en_let (en_wr s113 24 0 0 5 0) fun s115 =>
          some (x87, s115)
        else
          en_let (en_wr s93 24 0 0 7 0) fun s117 =>
          en_let (en_wr s117 24 0 0 5 0) fun s119 =>
          some (x87, s119)
      else
        if x88 ≤ 0 then
          en_let (en_wr s93 24 0 0 7 (s93 24 0 0 7)) fun s97 =>
          en_b1 (k_mm_acts_220 en_fu 0 s97) fun s105 =>
          some (0, s105)
        else
          en_let (en_wr s93 24 0 0 7 x88) fun s107 =>
          en_b1 (k_mm_acts_220 en_fu 0 s107) fun s110 =>
          some (0, s110)
  else
    en_b3 (k_mm_acts_48 en_fu 0 0 1 s12) fun x144 x145 s147 =>
    if (s147 24 0 0 12) = (-1) then
      en_let (en_wr s147 24 0 0 0 0) fun s173 =>
      if (s173 24 0 0 0) = 0 then
        if x144 ≤ 0 then
          en_let (en_wr s173 24 0 0 7 (s173 24 0 0 7)) fun s188 =>
          en_let (en_wr s188 24 0 0 5 0) fun s190 =>
          some (x144, s190)
        else
          en_let (en_wr s173 24 0 0 7 0) fun s192 =>
          en_let (en_wr s192 24 0 0 5 0) fun s194 =>
          some (x144, s194)
      else
        if x145 ≤ 0 then
          en_let (en_wr s173 24 0 0 7 (s173 24 0 0 7)) fun s177 =>
          en_b1 (k_mm_acts_220 en_fu 0 s177) fun s180 =>
          some (0, s180)
        else
          en_let (en_wr s173 24 0 0 7 x145) fun s182 =>
          en_b1 (k_mm_acts_220 en_fu 0 s182) fun s185 =>
          some (0, s185)
    else
      en_let (en_wr s147 24 0 0 0 1) fun s150 =>
      if (s150 24 0 0 0) = 0 then
        if x144 ≤ 0 then
          en_let (en_wr s150 24 0 0 7 (s150 24 0 0 7)) fun s165 =>
          en_let (en_wr s165 24 0 0 5 0) fun s167 =>
          some (x144, s167)
        else
          en_let (en_wr s150 24 0 0 7 0) fun s169 =>
          en_let (en_wr s169 24 0 0 5 0) fun s171 =>
          some (x144, s171)
      else
        if x145 ≤ 0 then
          en_let (en_wr s150 24 0 0 7 (s150 24 0 0 7)) fun s154 =>
          en_b1 (k_mm_acts_220 en_fu 0 s154) fun s157 =>
          some (0, s157)
        else
          en_let (en_wr s150 24 0 0 7 x145) fun s159 =>
          en_b1 (k_mm_acts_220 en_fu 0 s159) fun s162 =>
          some (0, s162)
set_option maxRecDepth 100000 in
set_option maxHeartbeats 4000000 in
theorem s_mm_acts_48 (G : en_G) (hz : G.2.2.2.2.2.2.2.2 = none) {d : Nat} {r : en_P} {cs cs' : List en_A} {ρ' : en_R} {σ' : en_M} : ∀ (f0 : Nat) {v1 : Int32} {v2 : Int32} {v3 : Int32} {e4 : Option en_V} {σ : en_M} {x1 : Int32} {x2 : Int32} {s0 : en_M} , k_mm_acts_48 f0 v1 v2 v3 σ = some (x1, x2, s0) →
    (∀ (f3 : Option en_V), en_W G (d + 9) 0 0 M_mm_acts r cs' ρ' σ' 0 0 154 [some (.inr (.inl (some (24, 0, 0)))), some (.inl x1), some (.inl x2), f3, e4] [] cs en_rf s0) → en_W G (d + 9) 0 0 M_mm_acts r cs' ρ' σ' 0 0 48 [some (.inr (.inl (some (24, 0, 0)))), some (.inl v1), some (.inl v2), some (.inl v3), e4] [] cs en_rf σ := by
  intro f0
  induction f0 with
  | zero =>
    intros
    rename_i h _
    cases h
  | succ f9 ih =>
    intro v1 v2 v3 e4 σ x1 x2 s0 h hk
    rw [k_mm_acts_48] at h
    refine en_s_iload_n rfl rfl ?_
    refine en_s_if_eq rfl (fun c15 => ?_) (fun c15 => ?_)
    · rw [if_pos c15] at h
      cases h
      exact hk (some (.inl v3))
    · rw [if_neg c15] at h
      refine en_s_aload_n rfl rfl ?_
      refine en_s_getI rfl rfl rfl ?_
      refine en_s_iconst rfl ?_
      refine en_s_icmp_ne rfl (fun c16 => ?_) (fun c16 => ?_)
      · rw [if_neg c16] at h
        cases h
        exact hk (some (.inl v3))
      · rw [if_pos c16] at h
        refine en_s_iload_n rfl rfl ?_
        refine en_s_bipush rfl ?_
        refine en_s_icmp_ne rfl (fun c17 => ?_) (fun c17 => ?_)
        · rw [if_neg c17] at h
          refine en_s_aload_n rfl rfl ?_
          refine en_s_getI rfl rfl rfl ?_
          refine en_s_iconst rfl ?_
          refine en_s_icmp_ne rfl (fun c18 => ?_) (fun c18 => ?_)
          · rw [if_neg c18] at h
            refine en_s_iinc (ls' := [some (.inr (.inl (some (24, 0, 0)))), some (.inl (v1 + 1)), some (.inl v2), some (.inl v3), e4]) rfl rfl rfl ?_
            refine en_s_aload_n rfl rfl ?_
            obtain ⟨t19, s20, h21, h⟩ := en_b2_h h
            refine en_callV (as := []) (rest := []) (bc' := 0) (bs' := 0) hz rfl (s_mm_here G hz (d + 8) h21) lk_10_185 mv_mm_here rfl rfl rfl rfl rfl (fun _ h => h) (Nat.le_refl _) (Nat.le_refl _) ?_
            refine en_s_aload_n rfl rfl ?_
            refine en_s_getI rfl rfl rfl ?_
            refine en_s_icmp_ge rfl (fun c22 => ?_) (fun c22 => ?_)
            · rw [if_pos c22] at h
              refine en_s_iconst rfl ?_
              refine en_s_istore_n (ls' := [some (.inr (.inl (some (24, 0, 0)))), some (.inl (v1 + 1)), some (.inl v2), some (.inl 0), e4]) rfl rfl rfl ?_
              refine en_s_iload_n rfl rfl ?_
              refine en_s_if_eq rfl (fun _ => ?_) (fun c9 => absurd c9 (by decide))
              exact ih (e4 := e4) h hk
            · rw [if_neg c22] at h
              refine en_s_iconst rfl ?_
              refine en_s_goto rfl ?_
              refine en_s_istore_n (ls' := [some (.inr (.inl (some (24, 0, 0)))), some (.inl (v1 + 1)), some (.inl v2), some (.inl 1), e4]) rfl rfl rfl ?_
              refine en_s_iload_n rfl rfl ?_
              refine en_s_if_eq rfl (fun c9 => absurd c9 (by decide)) (fun _ => ?_)
              refine en_s_aload_n rfl rfl ?_
              refine en_s_getI rfl rfl rfl ?_
              refine en_s_iconst rfl ?_
              refine en_s_icmp_ne rfl (fun c23 => ?_) (fun c23 => ?_)
              · rw [if_neg c23] at h
                exact ih (e4 := e4) h hk
              · rw [if_pos c23] at h
                refine en_s_aload_n rfl rfl ?_
                refine en_s_getR (w := some (29, 0, 0)) rfl rfl rfl rfl ?_
                refine en_s_aload_n rfl rfl ?_
                refine en_s_getI rfl rfl rfl ?_
                obtain ⟨t24, h25, h⟩ := en_b1_h h
                refine en_s_iald rfl rfl h25 ?_
                refine en_s_bipush rfl ?_
                refine en_s_icmp_eq rfl (fun c26 => ?_) (fun c26 => ?_)
                · rw [if_pos c26] at h
                  refine en_s_aload_n rfl rfl ?_
                  refine en_s_dup rfl rfl ?_
                  refine en_s_getI rfl rfl rfl ?_
                  refine en_s_iconst rfl ?_
                  refine en_s_iadd rfl ?_
                  obtain ⟨s27, e28, h⟩ := en_let_h h
                  refine en_p_putI e28 rfl rfl rfl rfl rfl ?_
                  refine en_s_goto rfl ?_
                  exact ih (e4 := e4) h hk
                · rw [if_neg c26] at h
                  refine en_s_aload_n rfl rfl ?_
                  refine en_s_aload_n rfl rfl ?_
                  refine en_s_getI rfl rfl rfl ?_
                  obtain ⟨s29, h30, h⟩ := en_b1_h h
                  refine en_callV (as := [.inl (s20 24 0 0 11)]) (rest := []) (bc' := 0) (bs' := 0) hz rfl (s_mm_wrong G hz (d + 8) h30) lk_10_197 mv_mm_wrong rfl rfl rfl rfl rfl (fun _ h => h) (Nat.le_refl _) (Nat.le_refl _) ?_
                  refine en_s_aload_n rfl rfl ?_
                  refine en_s_dup rfl rfl ?_
                  refine en_s_getI rfl rfl rfl ?_
                  refine en_s_iconst rfl ?_
                  refine en_s_iadd rfl ?_
                  obtain ⟨s31, e32, h⟩ := en_let_h h
                  refine en_p_putI e32 rfl rfl rfl rfl rfl ?_
                  refine en_s_goto rfl ?_
                  exact ih (e4 := e4) h hk
          · rw [if_pos c18] at h
            refine en_s_aload_n rfl rfl ?_
            obtain ⟨t33, s34, h35, h⟩ := en_b2_h h
            refine en_callV (as := []) (rest := []) (bc' := 0) (bs' := 0) hz rfl (s_mm_act G hz (d + 0) h35) lk_10_265 mv_mm_act rfl rfl rfl rfl rfl (fun _ h => h) (Nat.le_refl _) (Nat.le_refl _) ?_
            refine en_s_istore_n (ls' := [some (.inr (.inl (some (24, 0, 0)))), some (.inl v1), some (.inl t33), some (.inl v3), e4]) rfl rfl rfl ?_
            refine en_s_iinc (ls' := [some (.inr (.inl (some (24, 0, 0)))), some (.inl (v1 + 1)), some (.inl t33), some (.inl v3), e4]) rfl rfl rfl ?_
            refine en_s_aload_n rfl rfl ?_
            obtain ⟨t36, s37, h38, h⟩ := en_b2_h h
            refine en_callV (as := []) (rest := []) (bc' := 0) (bs' := 0) hz rfl (s_mm_here G hz (d + 8) h38) lk_10_185 mv_mm_here rfl rfl rfl rfl rfl (fun _ h => h) (Nat.le_refl _) (Nat.le_refl _) ?_
            refine en_s_aload_n rfl rfl ?_
            refine en_s_getI rfl rfl rfl ?_
            refine en_s_icmp_ge rfl (fun c39 => ?_) (fun c39 => ?_)
            · rw [if_pos c39] at h
              refine en_s_iconst rfl ?_
              refine en_s_istore_n (ls' := [some (.inr (.inl (some (24, 0, 0)))), some (.inl (v1 + 1)), some (.inl t33), some (.inl 0), e4]) rfl rfl rfl ?_
              refine en_s_iload_n rfl rfl ?_
              refine en_s_if_eq rfl (fun _ => ?_) (fun c9 => absurd c9 (by decide))
              exact ih (e4 := e4) h hk
            · rw [if_neg c39] at h
              refine en_s_iconst rfl ?_
              refine en_s_goto rfl ?_
              refine en_s_istore_n (ls' := [some (.inr (.inl (some (24, 0, 0)))), some (.inl (v1 + 1)), some (.inl t33), some (.inl 1), e4]) rfl rfl rfl ?_
              refine en_s_iload_n rfl rfl ?_
              refine en_s_if_eq rfl (fun c9 => absurd c9 (by decide)) (fun _ => ?_)
              refine en_s_aload_n rfl rfl ?_
              refine en_s_getI rfl rfl rfl ?_
              refine en_s_iconst rfl ?_
              refine en_s_icmp_ne rfl (fun c40 => ?_) (fun c40 => ?_)
              · rw [if_neg c40] at h
                exact ih (e4 := e4) h hk
              · rw [if_pos c40] at h
                refine en_s_aload_n rfl rfl ?_
                refine en_s_getR (w := some (29, 0, 0)) rfl rfl rfl rfl ?_
                refine en_s_aload_n rfl rfl ?_
                refine en_s_getI rfl rfl rfl ?_
                obtain ⟨t41, h42, h⟩ := en_b1_h h
                refine en_s_iald rfl rfl h42 ?_
                refine en_s_bipush rfl ?_
                refine en_s_icmp_eq rfl (fun c43 => ?_) (fun c43 => ?_)
                · rw [if_pos c43] at h
                  refine en_s_aload_n rfl rfl ?_
                  refine en_s_dup rfl rfl ?_
                  refine en_s_getI rfl rfl rfl ?_
                  refine en_s_iconst rfl ?_
                  refine en_s_iadd rfl ?_
                  obtain ⟨s44, e45, h⟩ := en_let_h h
                  refine en_p_putI e45 rfl rfl rfl rfl rfl ?_
                  refine en_s_goto rfl ?_
                  exact ih (e4 := e4) h hk
                · rw [if_neg c43] at h
                  refine en_s_aload_n rfl rfl ?_
                  refine en_s_aload_n rfl rfl ?_
                  refine en_s_getI rfl rfl rfl ?_
                  obtain ⟨s46, h47, h⟩ := en_b1_h h
                  refine en_callV (as := [.inl (s37 24 0 0 11)]) (rest := []) (bc' := 0) (bs' := 0) hz rfl (s_mm_wrong G hz (d + 8) h47) lk_10_197 mv_mm_wrong rfl rfl rfl rfl rfl (fun _ h => h) (Nat.le_refl _) (Nat.le_refl _) ?_
                  refine en_s_aload_n rfl rfl ?_
                  refine en_s_dup rfl rfl ?_
                  refine en_s_getI rfl rfl rfl ?_
                  refine en_s_iconst rfl ?_
                  refine en_s_iadd rfl ?_
                  obtain ⟨s48, e49, h⟩ := en_let_h h
                  refine en_p_putI e49 rfl rfl rfl rfl rfl ?_
                  refine en_s_goto rfl ?_
                  exact ih (e4 := e4) h hk
        · rw [if_pos c17] at h
          refine en_s_aload_n rfl rfl ?_
          refine en_s_aload_n rfl rfl ?_
          obtain ⟨t50, s51, h52, h⟩ := en_b2_h h
          refine en_callV (as := []) (rest := [.inr (.inl (some (24, 0, 0)))]) (bc' := 0) (bs' := 0) hz rfl (s_mm_here G hz (d + 8) h52) lk_10_185 mv_mm_here rfl rfl rfl rfl rfl (fun _ h => h) (Nat.le_refl _) (Nat.le_refl _) ?_
          obtain ⟨s53, h54, h⟩ := en_b1_h h
          refine en_callV (as := [.inl t50]) (rest := []) (bc' := 0) (bs' := 0) hz rfl (s_mm_wrong G hz (d + 8) h54) lk_10_197 mv_mm_wrong rfl rfl rfl rfl rfl (fun _ h => h) (Nat.le_refl _) (Nat.le_refl _) ?_
          refine en_s_aload_n rfl rfl ?_
          refine en_s_getI rfl rfl rfl ?_
          refine en_s_iconst rfl ?_
          refine en_s_icmp_ne rfl (fun c55 => ?_) (fun c55 => ?_)
          · rw [if_neg c55] at h
            refine en_s_iinc (ls' := [some (.inr (.inl (some (24, 0, 0)))), some (.inl (v1 + 1)), some (.inl v2), some (.inl v3), e4]) rfl rfl rfl ?_
            refine en_s_aload_n rfl rfl ?_
            obtain ⟨t56, s57, h58, h⟩ := en_b2_h h
            refine en_callV (as := []) (rest := []) (bc' := 0) (bs' := 0) hz rfl (s_mm_here G hz (d + 8) h58) lk_10_185 mv_mm_here rfl rfl rfl rfl rfl (fun _ h => h) (Nat.le_refl _) (Nat.le_refl _) ?_
            refine en_s_aload_n rfl rfl ?_
            refine en_s_getI rfl rfl rfl ?_
            refine en_s_icmp_ge rfl (fun c59 => ?_) (fun c59 => ?_)
            · rw [if_pos c59] at h
              refine en_s_iconst rfl ?_
              refine en_s_istore_n (ls' := [some (.inr (.inl (some (24, 0, 0)))), some (.inl (v1 + 1)), some (.inl v2), some (.inl 0), e4]) rfl rfl rfl ?_
              refine en_s_iload_n rfl rfl ?_
              refine en_s_if_eq rfl (fun _ => ?_) (fun c9 => absurd c9 (by decide))
              exact ih (e4 := e4) h hk
            · rw [if_neg c59] at h
              refine en_s_iconst rfl ?_
              refine en_s_goto rfl ?_
              refine en_s_istore_n (ls' := [some (.inr (.inl (some (24, 0, 0)))), some (.inl (v1 + 1)), some (.inl v2), some (.inl 1), e4]) rfl rfl rfl ?_
              refine en_s_iload_n rfl rfl ?_
              refine en_s_if_eq rfl (fun c9 => absurd c9 (by decide)) (fun _ => ?_)
              refine en_s_aload_n rfl rfl ?_
              refine en_s_getI rfl rfl rfl ?_
              refine en_s_iconst rfl ?_
              refine en_s_icmp_ne rfl (fun c60 => ?_) (fun c60 => ?_)
              · rw [if_neg c60] at h
                exact ih (e4 := e4) h hk
              · rw [if_pos c60] at h
                refine en_s_aload_n rfl rfl ?_
                refine en_s_getR (w := some (29, 0, 0)) rfl rfl rfl rfl ?_
                refine en_s_aload_n rfl rfl ?_
                refine en_s_getI rfl rfl rfl ?_
                obtain ⟨t61, h62, h⟩ := en_b1_h h
                refine en_s_iald rfl rfl h62 ?_
                refine en_s_bipush rfl ?_
                refine en_s_icmp_eq rfl (fun c63 => ?_) (fun c63 => ?_)
                · rw [if_pos c63] at h
                  refine en_s_aload_n rfl rfl ?_
                  refine en_s_dup rfl rfl ?_
                  refine en_s_getI rfl rfl rfl ?_
                  refine en_s_iconst rfl ?_
                  refine en_s_iadd rfl ?_
                  obtain ⟨s64, e65, h⟩ := en_let_h h
                  refine en_p_putI e65 rfl rfl rfl rfl rfl ?_
                  refine en_s_goto rfl ?_
                  exact ih (e4 := e4) h hk
                · rw [if_neg c63] at h
                  refine en_s_aload_n rfl rfl ?_
                  refine en_s_aload_n rfl rfl ?_
                  refine en_s_getI rfl rfl rfl ?_
                  obtain ⟨s66, h67, h⟩ := en_b1_h h
                  refine en_callV (as := [.inl (s57 24 0 0 11)]) (rest := []) (bc' := 0) (bs' := 0) hz rfl (s_mm_wrong G hz (d + 8) h67) lk_10_197 mv_mm_wrong rfl rfl rfl rfl rfl (fun _ h => h) (Nat.le_refl _) (Nat.le_refl _) ?_
                  refine en_s_aload_n rfl rfl ?_
                  refine en_s_dup rfl rfl ?_
                  refine en_s_getI rfl rfl rfl ?_
                  refine en_s_iconst rfl ?_
                  refine en_s_iadd rfl ?_
                  obtain ⟨s68, e69, h⟩ := en_let_h h
                  refine en_p_putI e69 rfl rfl rfl rfl rfl ?_
                  refine en_s_goto rfl ?_
                  exact ih (e4 := e4) h hk
          · rw [if_pos c55] at h
            refine en_s_aload_n rfl rfl ?_
            obtain ⟨t70, s71, h72, h⟩ := en_b2_h h
            refine en_callV (as := []) (rest := []) (bc' := 0) (bs' := 0) hz rfl (s_mm_act G hz (d + 0) h72) lk_10_265 mv_mm_act rfl rfl rfl rfl rfl (fun _ h => h) (Nat.le_refl _) (Nat.le_refl _) ?_
            refine en_s_istore_n (ls' := [some (.inr (.inl (some (24, 0, 0)))), some (.inl v1), some (.inl t70), some (.inl v3), e4]) rfl rfl rfl ?_
            refine en_s_iinc (ls' := [some (.inr (.inl (some (24, 0, 0)))), some (.inl (v1 + 1)), some (.inl t70), some (.inl v3), e4]) rfl rfl rfl ?_
            refine en_s_aload_n rfl rfl ?_
            obtain ⟨t73, s74, h75, h⟩ := en_b2_h h
            refine en_callV (as := []) (rest := []) (bc' := 0) (bs' := 0) hz rfl (s_mm_here G hz (d + 8) h75) lk_10_185 mv_mm_here rfl rfl rfl rfl rfl (fun _ h => h) (Nat.le_refl _) (Nat.le_refl _) ?_
            refine en_s_aload_n rfl rfl ?_
            refine en_s_getI rfl rfl rfl ?_
            refine en_s_icmp_ge rfl (fun c76 => ?_) (fun c76 => ?_)
            · rw [if_pos c76] at h
              refine en_s_iconst rfl ?_
              refine en_s_istore_n (ls' := [some (.inr (.inl (some (24, 0, 0)))), some (.inl (v1 + 1)), some (.inl t70), some (.inl 0), e4]) rfl rfl rfl ?_
              refine en_s_iload_n rfl rfl ?_
              refine en_s_if_eq rfl (fun _ => ?_) (fun c9 => absurd c9 (by decide))
              exact ih (e4 := e4) h hk
            · rw [if_neg c76] at h
              refine en_s_iconst rfl ?_
              refine en_s_goto rfl ?_
              refine en_s_istore_n (ls' := [some (.inr (.inl (some (24, 0, 0)))), some (.inl (v1 + 1)), some (.inl t70), some (.inl 1), e4]) rfl rfl rfl ?_
              refine en_s_iload_n rfl rfl ?_
              refine en_s_if_eq rfl (fun c9 => absurd c9 (by decide)) (fun _ => ?_)
              refine en_s_aload_n rfl rfl ?_
              refine en_s_getI rfl rfl rfl ?_
              refine en_s_iconst rfl ?_
              refine en_s_icmp_ne rfl (fun c77 => ?_) (fun c77 => ?_)
              · rw [if_neg c77] at h
                exact ih (e4 := e4) h hk
              · rw [if_pos c77] at h
                refine en_s_aload_n rfl rfl ?_
                refine en_s_getR (w := some (29, 0, 0)) rfl rfl rfl rfl ?_
                refine en_s_aload_n rfl rfl ?_
                refine en_s_getI rfl rfl rfl ?_
                obtain ⟨t78, h79, h⟩ := en_b1_h h
                refine en_s_iald rfl rfl h79 ?_
                refine en_s_bipush rfl ?_
                refine en_s_icmp_eq rfl (fun c80 => ?_) (fun c80 => ?_)
                · rw [if_pos c80] at h
                  refine en_s_aload_n rfl rfl ?_
                  refine en_s_dup rfl rfl ?_
                  refine en_s_getI rfl rfl rfl ?_
                  refine en_s_iconst rfl ?_
                  refine en_s_iadd rfl ?_
                  obtain ⟨s81, e82, h⟩ := en_let_h h
                  refine en_p_putI e82 rfl rfl rfl rfl rfl ?_
                  refine en_s_goto rfl ?_
                  exact ih (e4 := e4) h hk
                · rw [if_neg c80] at h
                  refine en_s_aload_n rfl rfl ?_
                  refine en_s_aload_n rfl rfl ?_
                  refine en_s_getI rfl rfl rfl ?_
                  obtain ⟨s83, h84, h⟩ := en_b1_h h
                  refine en_callV (as := [.inl (s74 24 0 0 11)]) (rest := []) (bc' := 0) (bs' := 0) hz rfl (s_mm_wrong G hz (d + 8) h84) lk_10_197 mv_mm_wrong rfl rfl rfl rfl rfl (fun _ h => h) (Nat.le_refl _) (Nat.le_refl _) ?_
                  refine en_s_aload_n rfl rfl ?_
                  refine en_s_dup rfl rfl ?_
                  refine en_s_getI rfl rfl rfl ?_
                  refine en_s_iconst rfl ?_
                  refine en_s_iadd rfl ?_
                  obtain ⟨s85, e86, h⟩ := en_let_h h
                  refine en_p_putI e86 rfl rfl rfl rfl rfl ?_
                  refine en_s_goto rfl ?_
                  exact ih (e4 := e4) h hk
set_option maxRecDepth 100000 in
set_option maxHeartbeats 4000000 in
theorem s_mm_acts_220 (G : en_G) (hz : G.2.2.2.2.2.2.2.2 = none) {d : Nat} {r : en_P} {cs cs' : List en_A} {ρ' : en_R} {σ' : en_M} : ∀ (f0 : Nat) {v4 : Int32} {e1 e2 e3 : Option en_V} {σ : en_M} {s0 : en_M} , k_mm_acts_220 f0 v4 σ = some (s0) →
    (∀ (f4 : Option en_V), en_W G (d + 9) 0 0 M_mm_acts r cs' ρ' σ' 0 0 248 [some (.inr (.inl (some (24, 0, 0)))), e1, e2, e3, f4] [] cs en_rf s0) → en_W G (d + 9) 0 0 M_mm_acts r cs' ρ' σ' 0 0 220 [some (.inr (.inl (some (24, 0, 0)))), e1, e2, e3, some (.inl v4)] [] cs en_rf σ := by
  intro f0
  induction f0 with
  | zero =>
    intros
    rename_i h _
    cases h
  | succ f9 ih =>
    intro v4 e1 e2 e3 σ s0 h hk
    rw [k_mm_acts_220] at h
    refine en_s_iload rfl rfl ?_
    refine en_s_sipush rfl ?_
    refine en_s_icmp_ge rfl (fun c99 => ?_) (fun c99 => ?_)
    · rw [if_pos c99] at h
      cases h
      exact hk (some (.inl v4))
    · rw [if_neg c99] at h
      refine en_s_aload_n rfl rfl ?_
      refine en_s_getR (w := some (25, 0, 0)) rfl rfl rfl rfl ?_
      refine en_s_iload rfl rfl ?_
      refine en_s_aload_n rfl rfl ?_
      refine en_s_getR (w := some (26, 0, 0)) rfl rfl rfl rfl ?_
      refine en_s_iload rfl rfl ?_
      obtain ⟨t100, h101, h⟩ := en_b1_h h
      refine en_s_iald rfl rfl h101 ?_
      obtain ⟨s102, e103, h⟩ := en_b1_h h
      refine en_s_iast rfl rfl e103 ?_
      refine en_s_iinc (ls' := [some (.inr (.inl (some (24, 0, 0)))), e1, e2, e3, some (.inl (v4 + 1))]) rfl rfl rfl ?_
      refine en_s_goto rfl ?_
      exact ih (e1 := e1) (e2 := e2) (e3 := e3) h hk
set_option maxRecDepth 100000 in
set_option maxHeartbeats 4000000 in
theorem s_mm_acts (G : en_G) (hz : G.2.2.2.2.2.2.2.2 = none) (d : Nat) {cs : List en_A} {σ : en_M}  {x0 : Int32} {s0 : en_M}  (h : k_mm_acts  σ = some (x0, s0)) : en_Mt G (d + 9) 0 0 M_mm_acts [.inr (.inl (some (24, 0, 0)))] cs en_rf σ (.inr (some (.inl x0))) cs en_rf s0 := by
  refine en_meth (ls := [some (.inr (.inl (some (24, 0, 0)))), none, none, none, none]) md_mm_acts rfl rfl rfl ?_
  unfold k_mm_acts at h
  refine en_s_aload_n rfl rfl ?_
  refine en_s_iconst rfl ?_
  obtain ⟨s1, e2, h⟩ := en_let_h h
  refine en_p_putI e2 rfl rfl rfl rfl rfl ?_
  refine en_s_aload_n rfl rfl ?_
  refine en_s_aload_n rfl rfl ?_
  refine en_s_getI rfl rfl rfl ?_
  obtain ⟨s3, e4, h⟩ := en_let_h h
  refine en_p_putI e4 rfl rfl rfl rfl rfl ?_
  refine en_s_aload_n rfl rfl ?_
  refine en_s_iconst rfl ?_
  obtain ⟨s5, e6, h⟩ := en_let_h h
  refine en_p_putI e6 rfl rfl rfl rfl rfl ?_
  refine en_s_aload_n rfl rfl ?_
  refine en_s_iconst rfl ?_
  obtain ⟨s7, e8, h⟩ := en_let_h h
  refine en_p_putI e8 rfl rfl rfl rfl rfl ?_
  refine en_s_aload_n rfl rfl ?_
  obtain ⟨s9, h10, h⟩ := en_b1_h h
  refine en_callV (as := []) (rest := []) (bc' := 0) (bs' := 0) hz rfl (s_mm_putsAside G hz (d + 8) h10) lk_10_262 mv_mm_putsAside rfl rfl rfl rfl rfl (fun _ h => h) (Nat.le_refl _) (Nat.le_refl _) ?_
  refine en_s_iconst rfl ?_
  refine en_s_istore_n (ls' := [some (.inr (.inl (some (24, 0, 0)))), some (.inl 0), none, none, none]) rfl rfl rfl ?_
  refine en_s_iconst rfl ?_
  refine en_s_istore_n (ls' := [some (.inr (.inl (some (24, 0, 0)))), some (.inl 0), some (.inl 0), none, none]) rfl rfl rfl ?_
  refine en_s_aload_n rfl rfl ?_
  obtain ⟨t11, s12, h13, h⟩ := en_b2_h h
  refine en_callV (as := []) (rest := []) (bc' := 0) (bs' := 0) hz rfl (s_mm_here G hz (d + 8) h13) lk_10_185 mv_mm_here rfl rfl rfl rfl rfl (fun _ h => h) (Nat.le_refl _) (Nat.le_refl _) ?_
  refine en_s_aload_n rfl rfl ?_
  refine en_s_getI rfl rfl rfl ?_
  refine en_s_icmp_ge rfl (fun c14 => ?_) (fun c14 => ?_)
  · rw [if_pos c14] at h
    refine en_s_iconst rfl ?_
    refine en_s_istore_n (ls' := [some (.inr (.inl (some (24, 0, 0)))), some (.inl 0), some (.inl 0), some (.inl 0), none]) rfl rfl rfl ?_
    obtain ⟨x87, x88, s90, h91, h⟩ := en_b3_h h
    refine s_mm_acts_48 G hz en_fu (e4 := none) h91 (fun f89 => ?_)
    refine en_s_aload_n rfl rfl ?_
    refine en_s_aload_n rfl rfl ?_
    refine en_s_getI rfl rfl rfl ?_
    refine en_s_iconst rfl ?_
    refine en_s_icmp_ne rfl (fun c92 => ?_) (fun c92 => ?_)
    · rw [if_neg c92] at h
      refine en_s_iconst rfl ?_
      obtain ⟨s93, e94, h⟩ := en_let_h h
      refine en_p_putI e94 rfl rfl rfl rfl rfl ?_
      refine en_s_aload_n rfl rfl ?_
      refine en_s_getI rfl rfl rfl ?_
      refine en_s_if_ne rfl (fun c95 => ?_) (fun c95 => ?_)
      · rw [if_neg c95] at h
        refine en_s_aload_n rfl rfl ?_
        refine en_s_iload_n rfl rfl ?_
        refine en_s_if_le rfl (fun c96 => ?_) (fun c96 => ?_)
        · rw [if_pos c96] at h
          refine en_s_aload_n rfl rfl ?_
          refine en_s_getI rfl rfl rfl ?_
          obtain ⟨s97, e98, h⟩ := en_let_h h
          refine en_p_putI e98 rfl rfl rfl rfl rfl ?_
          refine en_s_iconst rfl ?_
          refine en_s_istore (ls' := [some (.inr (.inl (some (24, 0, 0)))), some (.inl x87), some (.inl x88), f89, some (.inl 0)]) rfl rfl rfl ?_
          obtain ⟨s105, h106, h⟩ := en_b1_h h
          refine s_mm_acts_220 G hz en_fu (e1 := some (.inl x87)) (e2 := some (.inl x88)) (e3 := f89) h106 (fun f104 => ?_)
          refine en_s_iconst rfl ?_
          cases h
          exact en_s_iret rfl rfl
        · rw [if_neg c96] at h
          refine en_s_iload_n rfl rfl ?_
          refine en_s_goto rfl ?_
          obtain ⟨s107, e108, h⟩ := en_let_h h
          refine en_p_putI e108 rfl rfl rfl rfl rfl ?_
          refine en_s_iconst rfl ?_
          refine en_s_istore (ls' := [some (.inr (.inl (some (24, 0, 0)))), some (.inl x87), some (.inl x88), f89, some (.inl 0)]) rfl rfl rfl ?_
          obtain ⟨s110, h111, h⟩ := en_b1_h h
          refine s_mm_acts_220 G hz en_fu (e1 := some (.inl x87)) (e2 := some (.inl x88)) (e3 := f89) h111 (fun f109 => ?_)
          refine en_s_iconst rfl ?_
          cases h
          exact en_s_iret rfl rfl
      · rw [if_pos c95] at h
        refine en_s_aload_n rfl rfl ?_
        refine en_s_iload_n rfl rfl ?_
        refine en_s_if_le rfl (fun c112 => ?_) (fun c112 => ?_)
        · rw [if_pos c112] at h
          refine en_s_aload_n rfl rfl ?_
          refine en_s_getI rfl rfl rfl ?_
          obtain ⟨s113, e114, h⟩ := en_let_h h
          refine en_p_putI e114 rfl rfl rfl rfl rfl ?_
          refine en_s_aload_n rfl rfl ?_
          refine en_s_iconst rfl ?_
          obtain ⟨s115, e116, h⟩ := en_let_h h
          refine en_p_putI e116 rfl rfl rfl rfl rfl ?_
          refine en_s_iload_n rfl rfl ?_
          cases h
          exact en_s_iret rfl rfl
        · rw [if_neg c112] at h
          refine en_s_iconst rfl ?_
          refine en_s_goto rfl ?_
          obtain ⟨s117, e118, h⟩ := en_let_h h
          refine en_p_putI e118 rfl rfl rfl rfl rfl ?_
          refine en_s_aload_n rfl rfl ?_
          refine en_s_iconst rfl ?_
          obtain ⟨s119, e120, h⟩ := en_let_h h
          refine en_p_putI e120 rfl rfl rfl rfl rfl ?_
          refine en_s_iload_n rfl rfl ?_
          cases h
          exact en_s_iret rfl rfl
    · rw [if_pos c92] at h
      refine en_s_iconst rfl ?_
      refine en_s_goto rfl ?_
      obtain ⟨s121, e122, h⟩ := en_let_h h
      refine en_p_putI e122 rfl rfl rfl rfl rfl ?_
      refine en_s_aload_n rfl rfl ?_
      refine en_s_getI rfl rfl rfl ?_
      refine en_s_if_ne rfl (fun c123 => ?_) (fun c123 => ?_)
      · rw [if_neg c123] at h
        refine en_s_aload_n rfl rfl ?_
        refine en_s_iload_n rfl rfl ?_
        refine en_s_if_le rfl (fun c124 => ?_) (fun c124 => ?_)
        · rw [if_pos c124] at h
          refine en_s_aload_n rfl rfl ?_
          refine en_s_getI rfl rfl rfl ?_
          obtain ⟨s125, e126, h⟩ := en_let_h h
          refine en_p_putI e126 rfl rfl rfl rfl rfl ?_
          refine en_s_iconst rfl ?_
          refine en_s_istore (ls' := [some (.inr (.inl (some (24, 0, 0)))), some (.inl x87), some (.inl x88), f89, some (.inl 0)]) rfl rfl rfl ?_
          obtain ⟨s128, h129, h⟩ := en_b1_h h
          refine s_mm_acts_220 G hz en_fu (e1 := some (.inl x87)) (e2 := some (.inl x88)) (e3 := f89) h129 (fun f127 => ?_)
          refine en_s_iconst rfl ?_
          cases h
          exact en_s_iret rfl rfl
        · rw [if_neg c124] at h
          refine en_s_iload_n rfl rfl ?_
          refine en_s_goto rfl ?_
          obtain ⟨s130, e131, h⟩ := en_let_h h
          refine en_p_putI e131 rfl rfl rfl rfl rfl ?_
          refine en_s_iconst rfl ?_
          refine en_s_istore (ls' := [some (.inr (.inl (some (24, 0, 0)))), some (.inl x87), some (.inl x88), f89, some (.inl 0)]) rfl rfl rfl ?_
          obtain ⟨s133, h134, h⟩ := en_b1_h h
          refine s_mm_acts_220 G hz en_fu (e1 := some (.inl x87)) (e2 := some (.inl x88)) (e3 := f89) h134 (fun f132 => ?_)
          refine en_s_iconst rfl ?_
          cases h
          exact en_s_iret rfl rfl
      · rw [if_pos c123] at h
        refine en_s_aload_n rfl rfl ?_
        refine en_s_iload_n rfl rfl ?_
        refine en_s_if_le rfl (fun c135 => ?_) (fun c135 => ?_)
        · rw [if_pos c135] at h
          refine en_s_aload_n rfl rfl ?_
          refine en_s_getI rfl rfl rfl ?_
          obtain ⟨s136, e137, h⟩ := en_let_h h
          refine en_p_putI e137 rfl rfl rfl rfl rfl ?_
          refine en_s_aload_n rfl rfl ?_
          refine en_s_iconst rfl ?_
          obtain ⟨s138, e139, h⟩ := en_let_h h
          refine en_p_putI e139 rfl rfl rfl rfl rfl ?_
          refine en_s_iload_n rfl rfl ?_
          cases h
          exact en_s_iret rfl rfl
        · rw [if_neg c135] at h
          refine en_s_iconst rfl ?_
          refine en_s_goto rfl ?_
          obtain ⟨s140, e141, h⟩ := en_let_h h
          refine en_p_putI e141 rfl rfl rfl rfl rfl ?_
          refine en_s_aload_n rfl rfl ?_
          refine en_s_iconst rfl ?_
          obtain ⟨s142, e143, h⟩ := en_let_h h
          refine en_p_putI e143 rfl rfl rfl rfl rfl ?_
          refine en_s_iload_n rfl rfl ?_
          cases h
          exact en_s_iret rfl rfl
  · rw [if_neg c14] at h
    refine en_s_iconst rfl ?_
    refine en_s_goto rfl ?_
    refine en_s_istore_n (ls' := [some (.inr (.inl (some (24, 0, 0)))), some (.inl 0), some (.inl 0), some (.inl 1), none]) rfl rfl rfl ?_
    obtain ⟨x144, x145, s147, h148, h⟩ := en_b3_h h
    refine s_mm_acts_48 G hz en_fu (e4 := none) h148 (fun f146 => ?_)
    refine en_s_aload_n rfl rfl ?_
    refine en_s_aload_n rfl rfl ?_
    refine en_s_getI rfl rfl rfl ?_
    refine en_s_iconst rfl ?_
    refine en_s_icmp_ne rfl (fun c149 => ?_) (fun c149 => ?_)
    · rw [if_neg c149] at h
      refine en_s_iconst rfl ?_
      obtain ⟨s150, e151, h⟩ := en_let_h h
      refine en_p_putI e151 rfl rfl rfl rfl rfl ?_
      refine en_s_aload_n rfl rfl ?_
      refine en_s_getI rfl rfl rfl ?_
      refine en_s_if_ne rfl (fun c152 => ?_) (fun c152 => ?_)
      · rw [if_neg c152] at h
        refine en_s_aload_n rfl rfl ?_
        refine en_s_iload_n rfl rfl ?_
        refine en_s_if_le rfl (fun c153 => ?_) (fun c153 => ?_)
        · rw [if_pos c153] at h
          refine en_s_aload_n rfl rfl ?_
          refine en_s_getI rfl rfl rfl ?_
          obtain ⟨s154, e155, h⟩ := en_let_h h
          refine en_p_putI e155 rfl rfl rfl rfl rfl ?_
          refine en_s_iconst rfl ?_
          refine en_s_istore (ls' := [some (.inr (.inl (some (24, 0, 0)))), some (.inl x144), some (.inl x145), f146, some (.inl 0)]) rfl rfl rfl ?_
          obtain ⟨s157, h158, h⟩ := en_b1_h h
          refine s_mm_acts_220 G hz en_fu (e1 := some (.inl x144)) (e2 := some (.inl x145)) (e3 := f146) h158 (fun f156 => ?_)
          refine en_s_iconst rfl ?_
          cases h
          exact en_s_iret rfl rfl
        · rw [if_neg c153] at h
          refine en_s_iload_n rfl rfl ?_
          refine en_s_goto rfl ?_
          obtain ⟨s159, e160, h⟩ := en_let_h h
          refine en_p_putI e160 rfl rfl rfl rfl rfl ?_
          refine en_s_iconst rfl ?_
          refine en_s_istore (ls' := [some (.inr (.inl (some (24, 0, 0)))), some (.inl x144), some (.inl x145), f146, some (.inl 0)]) rfl rfl rfl ?_
          obtain ⟨s162, h163, h⟩ := en_b1_h h
          refine s_mm_acts_220 G hz en_fu (e1 := some (.inl x144)) (e2 := some (.inl x145)) (e3 := f146) h163 (fun f161 => ?_)
          refine en_s_iconst rfl ?_
          cases h
          exact en_s_iret rfl rfl
      · rw [if_pos c152] at h
        refine en_s_aload_n rfl rfl ?_
        refine en_s_iload_n rfl rfl ?_
        refine en_s_if_le rfl (fun c164 => ?_) (fun c164 => ?_)
        · rw [if_pos c164] at h
          refine en_s_aload_n rfl rfl ?_
          refine en_s_getI rfl rfl rfl ?_
          obtain ⟨s165, e166, h⟩ := en_let_h h
          refine en_p_putI e166 rfl rfl rfl rfl rfl ?_
          refine en_s_aload_n rfl rfl ?_
          refine en_s_iconst rfl ?_
          obtain ⟨s167, e168, h⟩ := en_let_h h
          refine en_p_putI e168 rfl rfl rfl rfl rfl ?_
          refine en_s_iload_n rfl rfl ?_
          cases h
          exact en_s_iret rfl rfl
        · rw [if_neg c164] at h
          refine en_s_iconst rfl ?_
          refine en_s_goto rfl ?_
          obtain ⟨s169, e170, h⟩ := en_let_h h
          refine en_p_putI e170 rfl rfl rfl rfl rfl ?_
          refine en_s_aload_n rfl rfl ?_
          refine en_s_iconst rfl ?_
          obtain ⟨s171, e172, h⟩ := en_let_h h
          refine en_p_putI e172 rfl rfl rfl rfl rfl ?_
          refine en_s_iload_n rfl rfl ?_
          cases h
          exact en_s_iret rfl rfl
    · rw [if_pos c149] at h
      refine en_s_iconst rfl ?_
      refine en_s_goto rfl ?_
      obtain ⟨s173, e174, h⟩ := en_let_h h
      refine en_p_putI e174 rfl rfl rfl rfl rfl ?_
      refine en_s_aload_n rfl rfl ?_
      refine en_s_getI rfl rfl rfl ?_
      refine en_s_if_ne rfl (fun c175 => ?_) (fun c175 => ?_)
      · rw [if_neg c175] at h
        refine en_s_aload_n rfl rfl ?_
        refine en_s_iload_n rfl rfl ?_
        refine en_s_if_le rfl (fun c176 => ?_) (fun c176 => ?_)
        · rw [if_pos c176] at h
          refine en_s_aload_n rfl rfl ?_
          refine en_s_getI rfl rfl rfl ?_
          obtain ⟨s177, e178, h⟩ := en_let_h h
          refine en_p_putI e178 rfl rfl rfl rfl rfl ?_
          refine en_s_iconst rfl ?_
          refine en_s_istore (ls' := [some (.inr (.inl (some (24, 0, 0)))), some (.inl x144), some (.inl x145), f146, some (.inl 0)]) rfl rfl rfl ?_
          obtain ⟨s180, h181, h⟩ := en_b1_h h
          refine s_mm_acts_220 G hz en_fu (e1 := some (.inl x144)) (e2 := some (.inl x145)) (e3 := f146) h181 (fun f179 => ?_)
          refine en_s_iconst rfl ?_
          cases h
          exact en_s_iret rfl rfl
        · rw [if_neg c176] at h
          refine en_s_iload_n rfl rfl ?_
          refine en_s_goto rfl ?_
          obtain ⟨s182, e183, h⟩ := en_let_h h
          refine en_p_putI e183 rfl rfl rfl rfl rfl ?_
          refine en_s_iconst rfl ?_
          refine en_s_istore (ls' := [some (.inr (.inl (some (24, 0, 0)))), some (.inl x144), some (.inl x145), f146, some (.inl 0)]) rfl rfl rfl ?_
          obtain ⟨s185, h186, h⟩ := en_b1_h h
          refine s_mm_acts_220 G hz en_fu (e1 := some (.inl x144)) (e2 := some (.inl x145)) (e3 := f146) h186 (fun f184 => ?_)
          refine en_s_iconst rfl ?_
          cases h
          exact en_s_iret rfl rfl
      · rw [if_pos c175] at h
        refine en_s_aload_n rfl rfl ?_
        refine en_s_iload_n rfl rfl ?_
        refine en_s_if_le rfl (fun c187 => ?_) (fun c187 => ?_)
        · rw [if_pos c187] at h
          refine en_s_aload_n rfl rfl ?_
          refine en_s_getI rfl rfl rfl ?_
          obtain ⟨s188, e189, h⟩ := en_let_h h
          refine en_p_putI e189 rfl rfl rfl rfl rfl ?_
          refine en_s_aload_n rfl rfl ?_
          refine en_s_iconst rfl ?_
          obtain ⟨s190, e191, h⟩ := en_let_h h
          refine en_p_putI e191 rfl rfl rfl rfl rfl ?_
          refine en_s_iload_n rfl rfl ?_
          cases h
          exact en_s_iret rfl rfl
        · rw [if_neg c187] at h
          refine en_s_iconst rfl ?_
          refine en_s_goto rfl ?_
          obtain ⟨s192, e193, h⟩ := en_let_h h
          refine en_p_putI e193 rfl rfl rfl rfl rfl ?_
          refine en_s_aload_n rfl rfl ?_
          refine en_s_iconst rfl ?_
          obtain ⟨s194, e195, h⟩ := en_let_h h
          refine en_p_putI e195 rfl rfl rfl rfl rfl ?_
          refine en_s_iload_n rfl rfl ?_
          cases h
          exact en_s_iret rfl rfl

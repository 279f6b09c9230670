/-! By program: the methods as functions, and that they are these. -/
def k_cd_putDeparts_109 (f0 : Nat) (g : Nat) (v1 : Int32) (v2 : Int32) (g3 : Nat) (i3 : Nat) (j3 : Nat) (v5 : Int32) (v6 : Int32) (i7 : Nat) (v8 : Int32) (v9 : Int32) (σ : en_M) : Option (Int32 × en_M) := match f0 with
  | 0 => none
  | f9 + 1 =>
    if (σ 13 g i7 6) ≤ v9 then
      some (v5, σ)
    else
      if 160 ≤ (k_sd_indexOf g i7 v9 σ) then
        en_b1 (k_cc_gapOf (k_sd_sizeOf g i7 v9 σ) v2) fun t12 =>
        k_cd_putDeparts_109 f9 g v1 v2 g3 i3 j3 ((if v8 < v5 then v5 else v8) + t12) v6 i7 v8 (v9 + 1) σ
      else
        en_b1 (en_wa 160 σ j3 g3 i3 (k_sd_indexOf g i7 v9 σ) (if v8 < v5 then v5 else v8)) fun s14 =>
        en_b1 (k_cc_gapOf (k_sd_sizeOf g i7 v9 s14) v2) fun t16 =>
        k_cd_putDeparts_109 f9 g v1 v2 g3 i3 j3 ((if v8 < v5 then v5 else v8) + t16) v6 i7 v8 (v9 + 1) s14
def k_cd_putDeparts_48 (f0 : Nat) (g : Nat) (v1 : Int32) (v2 : Int32) (g3 : Nat) (i3 : Nat) (j3 : Nat) (v5 : Int32) (v6 : Int32) (σ : en_M) : Option (Int32 × en_M) := match f0 with
  | 0 => none
  | f9 + 1 =>
    if (σ 0 g 0 13) ≤ v6 then
      some (v5, σ)
    else
      en_b1 (k_cd_sendAt g v6 σ) fun t5 =>
      (match t5 with
      | none =>
        k_cd_putDeparts_48 f9 g v1 v2 g3 i3 j3 v5 (v6 + 1) σ
      | some z7 =>
        if (k_sd_waits g z7 σ) = 0 then
          k_cd_putDeparts_48 f9 g v1 v2 g3 i3 j3 v5 (v6 + 1) σ
        else
          if (σ 13 g z7 1) = v1 then
            en_b2 (k_cd_putDeparts_109 en_fu g v1 v2 g3 i3 j3 v5 v6 z7 (if (σ 13 g z7 8) < (σ 13 g z7 4) then (σ 13 g z7 4) else (σ 13 g z7 8)) (σ 13 g z7 7) σ) fun x18 s22 =>
            k_cd_putDeparts_48 f9 g v1 v2 g3 i3 j3 x18 (v6 + 1) s22
          else
            k_cd_putDeparts_48 f9 g v1 v2 g3 i3 j3 v5 (v6 + 1) σ)
def k_cd_putDeparts (g : Nat) (v1 : Int32) (v2 : Int32) (j3 : Nat) (g3 : Nat) (i3 : Nat) (σ : en_M) : Option (Int32 × en_M) :=
  en_b1 (k_cd_flowAt g v1 σ) fun t1 =>
  (match t1 with
  | none =>
    en_b2 (k_cd_putDeparts_48 en_fu g v1 v2 g3 i3 j3 0 (σ 0 g 0 14) σ) fun x24 s31 =>
    some (x24, s31)
  | some z3 =>
    if (σ 12 g z3 4) = (-1) then
      en_b2 (k_cd_putDeparts_48 en_fu g v1 v2 g3 i3 j3 0 (σ 0 g 0 14) σ) fun x45 s52 =>
      some (x45, s52)
    else
      en_b1 (k_cc_gapOf (σ 12 g z3 5) v2) fun t34 =>
      en_b2 (k_cd_putDeparts_48 en_fu g v1 v2 g3 i3 j3 ((σ 12 g z3 4) + t34) (σ 0 g 0 14) σ) fun x36 s43 =>
      some (x36, s43))
set_option maxRecDepth 100000 in
set_option maxHeartbeats 4000000 in
theorem s_cd_putDeparts_109 (G : en_G) (hz : G.2.2.2.2.2.2.2.2 = none) {d : Nat} {r : en_P} {cs cs' : List en_A} {ρ' : en_R} {σ' : en_M} : ∀ (f0 : Nat) {g : Nat} {v1 : Int32} {v2 : Int32} {g3 : Nat} {i3 : Nat} {j3 : Nat} {v5 : Int32} {v6 : Int32} {i7 : Nat} {v8 : Int32} {v9 : Int32} {e4 e10 e11 : Option en_V} {σ : en_M} {x5 : Int32} {s0 : en_M} (hj3 : en_kd j3 = (1, 160)), k_cd_putDeparts_109 f0 g v1 v2 g3 i3 j3 v5 v6 i7 v8 v9 σ = some (x5, s0) →
    (∀ (f9 : Option en_V) (f10 : Option en_V) (f11 : Option en_V), en_W G (d + 1) 0 0 M_cd_putDeparts r cs' ρ' σ' 0 0 172 [some (.inr (.inl (some (0, g, 0)))), some (.inl v1), some (.inl v2), some (.inr (.inl (some (j3, g3, i3)))), e4, some (.inl x5), some (.inl v6), some (.inr (.inl (some (13, g, i7)))), some (.inl v8), f9, f10, f11] [] cs en_rf s0) → en_W G (d + 1) 0 0 M_cd_putDeparts r cs' ρ' σ' 0 0 109 [some (.inr (.inl (some (0, g, 0)))), some (.inl v1), some (.inl v2), some (.inr (.inl (some (j3, g3, i3)))), e4, some (.inl v5), some (.inl v6), some (.inr (.inl (some (13, g, i7)))), some (.inl v8), some (.inl v9), e10, e11] [] cs en_rf σ := by
  intro f0
  induction f0 with
  | zero =>
    intros
    rename_i h _
    cases h
  | succ f9 ih =>
    intro g v1 v2 g3 i3 j3 v5 v6 i7 v8 v9 e4 e10 e11 σ x5 s0 hj3 h hk
    rw [k_cd_putDeparts_109] at h
    refine en_s_iload rfl rfl ?_
    refine en_s_aload rfl rfl ?_
    refine en_s_getI rfl rfl rfl ?_
    refine en_s_icmp_ge rfl (fun c10 => ?_) (fun c10 => ?_)
    · rw [if_pos c10] at h
      cases h
      exact hk (some (.inl v9)) (e10) (e11)
    · rw [if_neg c10] at h
      refine en_s_aload rfl rfl ?_
      refine en_s_iload rfl rfl ?_
      refine en_callV (as := [.inl v9]) (rest := []) (bc' := 0) (bs' := 0) hz rfl (s_sd_indexOf G hz (d + 0) rfl) lk_0_179 mv_sd_indexOf rfl rfl rfl rfl rfl (fun _ h => h) (Nat.le_refl _) (Nat.le_refl _) ?_
      refine en_s_istore (ls' := [some (.inr (.inl (some (0, g, 0)))), some (.inl v1), some (.inl v2), some (.inr (.inl (some (j3, g3, i3)))), e4, some (.inl v5), some (.inl v6), some (.inr (.inl (some (13, g, i7)))), some (.inl v8), some (.inl v9), some (.inl (k_sd_indexOf g i7 v9 σ)), e11]) rfl rfl rfl ?_
      refine en_s_iload rfl rfl ?_
      refine en_s_iload rfl rfl ?_
      refine en_s_max rfl (en_tw_of (i := 676) (by decide +kernel) (by decide +kernel)) mx_st_max mx_in mx_cd_max rfl ?_
      refine en_s_istore (ls' := [some (.inr (.inl (some (0, g, 0)))), some (.inl v1), some (.inl v2), some (.inr (.inl (some (j3, g3, i3)))), e4, some (.inl v5), some (.inl v6), some (.inr (.inl (some (13, g, i7)))), some (.inl v8), some (.inl v9), some (.inl (k_sd_indexOf g i7 v9 σ)), some (.inl ((if v8 < v5 then v5 else v8)))]) rfl rfl rfl ?_
      refine en_s_iload rfl rfl ?_
      refine en_s_aload_n rfl rfl ?_
      refine en_s_alen (x := 160) rfl hj3 rfl rfl ?_
      refine en_s_icmp_ge rfl (fun c11 => ?_) (fun c11 => ?_)
      · rw [if_pos c11] at h
        refine en_s_iload rfl rfl ?_
        refine en_s_aload rfl rfl ?_
        refine en_s_iload rfl rfl ?_
        refine en_callV (as := [.inl v9]) (rest := [.inl ((if v8 < v5 then v5 else v8))]) (bc' := 0) (bs' := 0) hz rfl (s_sd_sizeOf G hz (d + 0) rfl) lk_0_233 mv_sd_sizeOf rfl rfl rfl rfl rfl (fun _ h => h) (Nat.le_refl _) (Nat.le_refl _) ?_
        refine en_s_iload_n rfl rfl ?_
        obtain ⟨t12, h13, h⟩ := en_b1_h h
        refine en_callN (as := [.inl (k_sd_sizeOf g i7 v9 σ), .inl v2]) (rest := [.inl ((if v8 < v5 then v5 else v8))]) (bc' := 0) (bs' := 0) hz rfl (s_cc_gapOf G hz (d + 0) h13) lk_0_266 mv_cc_gapOf rfl rfl rfl (fun _ h => h) (Nat.le_refl _) (Nat.le_refl _) ?_
        refine en_s_iadd rfl ?_
        refine en_s_istore (ls' := [some (.inr (.inl (some (0, g, 0)))), some (.inl v1), some (.inl v2), some (.inr (.inl (some (j3, g3, i3)))), e4, some (.inl ((if v8 < v5 then v5 else v8) + t12)), some (.inl v6), some (.inr (.inl (some (13, g, i7)))), some (.inl v8), some (.inl v9), some (.inl (k_sd_indexOf g i7 v9 σ)), some (.inl ((if v8 < v5 then v5 else v8)))]) rfl rfl rfl ?_
        refine en_s_iinc (ls' := [some (.inr (.inl (some (0, g, 0)))), some (.inl v1), some (.inl v2), some (.inr (.inl (some (j3, g3, i3)))), e4, some (.inl ((if v8 < v5 then v5 else v8) + t12)), some (.inl v6), some (.inr (.inl (some (13, g, i7)))), some (.inl v8), some (.inl (v9 + 1)), some (.inl (k_sd_indexOf g i7 v9 σ)), some (.inl ((if v8 < v5 then v5 else v8)))]) rfl rfl rfl ?_
        refine en_s_goto rfl ?_
        exact ih (e4 := e4) (e10 := some (.inl (k_sd_indexOf g i7 v9 σ))) (e11 := some (.inl ((if v8 < v5 then v5 else v8)))) hj3 h hk
      · rw [if_neg c11] at h
        refine en_s_aload_n rfl rfl ?_
        refine en_s_iload rfl rfl ?_
        refine en_s_iload rfl rfl ?_
        obtain ⟨s14, e15, h⟩ := en_b1_h h
        refine en_s_iast rfl hj3 e15 ?_
        refine en_s_iload rfl rfl ?_
        refine en_s_aload rfl rfl ?_
        refine en_s_iload rfl rfl ?_
        refine en_callV (as := [.inl v9]) (rest := [.inl ((if v8 < v5 then v5 else v8))]) (bc' := 0) (bs' := 0) hz rfl (s_sd_sizeOf G hz (d + 0) rfl) lk_0_233 mv_sd_sizeOf rfl rfl rfl rfl rfl (fun _ h => h) (Nat.le_refl _) (Nat.le_refl _) ?_
        refine en_s_iload_n rfl rfl ?_
        obtain ⟨t16, h17, h⟩ := en_b1_h h
        refine en_callN (as := [.inl (k_sd_sizeOf g i7 v9 s14), .inl v2]) (rest := [.inl ((if v8 < v5 then v5 else v8))]) (bc' := 0) (bs' := 0) hz rfl (s_cc_gapOf G hz (d + 0) h17) lk_0_266 mv_cc_gapOf rfl rfl rfl (fun _ h => h) (Nat.le_refl _) (Nat.le_refl _) ?_
        refine en_s_iadd rfl ?_
        refine en_s_istore (ls' := [some (.inr (.inl (some (0, g, 0)))), some (.inl v1), some (.inl v2), some (.inr (.inl (some (j3, g3, i3)))), e4, some (.inl ((if v8 < v5 then v5 else v8) + t16)), some (.inl v6), some (.inr (.inl (some (13, g, i7)))), some (.inl v8), some (.inl v9), some (.inl (k_sd_indexOf g i7 v9 σ)), some (.inl ((if v8 < v5 then v5 else v8)))]) rfl rfl rfl ?_
        refine en_s_iinc (ls' := [some (.inr (.inl (some (0, g, 0)))), some (.inl v1), some (.inl v2), some (.inr (.inl (some (j3, g3, i3)))), e4, some (.inl ((if v8 < v5 then v5 else v8) + t16)), some (.inl v6), some (.inr (.inl (some (13, g, i7)))), some (.inl v8), some (.inl (v9 + 1)), some (.inl (k_sd_indexOf g i7 v9 σ)), some (.inl ((if v8 < v5 then v5 else v8)))]) rfl rfl rfl ?_
        refine en_s_goto rfl ?_
        exact ih (e4 := e4) (e10 := some (.inl (k_sd_indexOf g i7 v9 σ))) (e11 := some (.inl ((if v8 < v5 then v5 else v8)))) hj3 h hk
set_option maxRecDepth 100000 in
set_option maxHeartbeats 4000000 in
theorem s_cd_putDeparts_48 (G : en_G) (hz : G.2.2.2.2.2.2.2.2 = none) {d : Nat} {r : en_P} {cs cs' : List en_A} {ρ' : en_R} {σ' : en_M} : ∀ (f0 : Nat) {g : Nat} {v1 : Int32} {v2 : Int32} {g3 : Nat} {i3 : Nat} {j3 : Nat} {v5 : Int32} {v6 : Int32} {e4 e7 e8 e9 e10 e11 : Option en_V} {σ : en_M} {x5 : Int32} {s0 : en_M} (hj3 : en_kd j3 = (1, 160)), k_cd_putDeparts_48 f0 g v1 v2 g3 i3 j3 v5 v6 σ = some (x5, s0) →
    (∀ (f6 : Option en_V) (f7 : Option en_V) (f8 : Option en_V) (f9 : Option en_V) (f10 : Option en_V) (f11 : Option en_V), en_W G (d + 1) 0 0 M_cd_putDeparts r cs' ρ' σ' 0 0 178 [some (.inr (.inl (some (0, g, 0)))), some (.inl v1), some (.inl v2), some (.inr (.inl (some (j3, g3, i3)))), e4, some (.inl x5), f6, f7, f8, f9, f10, f11] [] cs en_rf s0) → en_W G (d + 1) 0 0 M_cd_putDeparts r cs' ρ' σ' 0 0 48 [some (.inr (.inl (some (0, g, 0)))), some (.inl v1), some (.inl v2), some (.inr (.inl (some (j3, g3, i3)))), e4, some (.inl v5), some (.inl v6), e7, e8, e9, e10, e11] [] cs en_rf σ := by
  intro f0
  induction f0 with
  | zero =>
    intros
    rename_i h _
    cases h
  | succ f9 ih =>
    intro g v1 v2 g3 i3 j3 v5 v6 e4 e7 e8 e9 e10 e11 σ x5 s0 hj3 h hk
    rw [k_cd_putDeparts_48] at h
    refine en_s_iload rfl rfl ?_
    refine en_s_aload_n rfl rfl ?_
    refine en_s_getI rfl rfl rfl ?_
    refine en_s_icmp_ge rfl (fun c4 => ?_) (fun c4 => ?_)
    · rw [if_pos c4] at h
      cases h
      exact hk (some (.inl v6)) (e7) (e8) (e9) (e10) (e11)
    · rw [if_neg c4] at h
      refine en_s_aload_n rfl rfl ?_
      refine en_s_iload rfl rfl ?_
      obtain ⟨t5, h6, h⟩ := en_b1_h h
      refine en_callV (as := [.inl v6]) (rest := []) (bc' := 0) (bs' := 0) hz rfl (s_cd_sendAt G hz (d + 0) h6) lk_0_115 mv_cd_sendAt rfl rfl rfl rfl rfl (fun _ h => h) (Nat.le_refl _) (Nat.le_refl _) ?_
      refine en_o_astore (ls' := [some (.inr (.inl (some (0, g, 0)))), some (.inl v1), some (.inl v2), some (.inr (.inl (some (j3, g3, i3)))), e4, some (.inl v5), some (.inl v6), some (.inr (.inl (t5.map (fun z9 => (13, g, z9))))), e8, e9, e10, e11]) rfl rfl rfl ?_
      refine en_o_aload rfl rfl ?_
      cases t5 with
      | none =>
        dsimp only at h
        refine en_s_ifnullN rfl ?_
        refine en_s_iinc (ls' := [some (.inr (.inl (some (0, g, 0)))), some (.inl v1), some (.inl v2), some (.inr (.inl (some (j3, g3, i3)))), e4, some (.inl v5), some (.inl (v6 + 1)), some (.inr (.inl none)), e8, e9, e10, e11]) rfl rfl rfl ?_
        refine en_s_goto rfl ?_
        exact ih (e4 := e4) (e7 := some (.inr (.inl none))) (e8 := e8) (e9 := e9) (e10 := e10) (e11 := e11) hj3 h hk
      | some z7 =>
        dsimp only at h
        refine en_s_ifnull rfl ?_
        refine en_s_aload rfl rfl ?_
        refine en_callV (as := []) (rest := []) (bc' := 0) (bs' := 0) hz rfl (s_sd_waits G hz (d + 0) rfl) lk_0_245 mv_sd_waits rfl rfl rfl rfl rfl (fun _ h => h) (Nat.le_refl _) (Nat.le_refl _) ?_
        refine en_s_if_eq rfl (fun c8 => ?_) (fun c8 => ?_)
        · rw [if_pos c8] at h
          refine en_s_iinc (ls' := [some (.inr (.inl (some (0, g, 0)))), some (.inl v1), some (.inl v2), some (.inr (.inl (some (j3, g3, i3)))), e4, some (.inl v5), some (.inl (v6 + 1)), some (.inr (.inl (some (13, g, z7)))), e8, e9, e10, e11]) rfl rfl rfl ?_
          refine en_s_goto rfl ?_
          exact ih (e4 := e4) (e7 := some (.inr (.inl (some (13, g, z7))))) (e8 := e8) (e9 := e9) (e10 := e10) (e11 := e11) hj3 h hk
        · rw [if_neg c8] at h
          refine en_s_aload rfl rfl ?_
          refine en_s_getI rfl rfl rfl ?_
          refine en_s_iload_n rfl rfl ?_
          refine en_s_icmp_ne rfl (fun c9 => ?_) (fun c9 => ?_)
          · rw [if_neg c9] at h
            refine en_s_iinc (ls' := [some (.inr (.inl (some (0, g, 0)))), some (.inl v1), some (.inl v2), some (.inr (.inl (some (j3, g3, i3)))), e4, some (.inl v5), some (.inl (v6 + 1)), some (.inr (.inl (some (13, g, z7)))), e8, e9, e10, e11]) rfl rfl rfl ?_
            refine en_s_goto rfl ?_
            exact ih (e4 := e4) (e7 := some (.inr (.inl (some (13, g, z7))))) (e8 := e8) (e9 := e9) (e10 := e10) (e11 := e11) hj3 h hk
          · rw [if_pos c9] at h
            refine en_s_aload rfl rfl ?_
            refine en_s_getI rfl rfl rfl ?_
            refine en_s_aload rfl rfl ?_
            refine en_s_getI rfl rfl rfl ?_
            refine en_s_max rfl (en_tw_of (i := 676) (by decide +kernel) (by decide +kernel)) mx_st_max mx_in mx_cd_max rfl ?_
            refine en_s_istore (ls' := [some (.inr (.inl (some (0, g, 0)))), some (.inl v1), some (.inl v2), some (.inr (.inl (some (j3, g3, i3)))), e4, some (.inl v5), some (.inl v6), some (.inr (.inl (some (13, g, z7)))), some (.inl ((if (σ 13 g z7 8) < (σ 13 g z7 4) then (σ 13 g z7 4) else (σ 13 g z7 8)))), e9, e10, e11]) rfl rfl rfl ?_
            refine en_s_aload rfl rfl ?_
            refine en_s_getI rfl rfl rfl ?_
            refine en_s_istore (ls' := [some (.inr (.inl (some (0, g, 0)))), some (.inl v1), some (.inl v2), some (.inr (.inl (some (j3, g3, i3)))), e4, some (.inl v5), some (.inl v6), some (.inr (.inl (some (13, g, z7)))), some (.inl ((if (σ 13 g z7 8) < (σ 13 g z7 4) then (σ 13 g z7 4) else (σ 13 g z7 8)))), some (.inl (σ 13 g z7 7)), e10, e11]) rfl rfl rfl ?_
            obtain ⟨x18, s22, h23, h⟩ := en_b2_h h
            refine s_cd_putDeparts_109 G hz en_fu (e4 := e4) (e10 := e10) (e11 := e11) hj3 h23 (fun f19 f20 f21 => ?_)
            refine en_s_iinc (ls' := [some (.inr (.inl (some (0, g, 0)))), some (.inl v1), some (.inl v2), some (.inr (.inl (some (j3, g3, i3)))), e4, some (.inl x18), some (.inl (v6 + 1)), some (.inr (.inl (some (13, g, z7)))), some (.inl ((if (σ 13 g z7 8) < (σ 13 g z7 4) then (σ 13 g z7 4) else (σ 13 g z7 8)))), f19, f20, f21]) rfl rfl rfl ?_
            refine en_s_goto rfl ?_
            exact ih (e4 := e4) (e7 := some (.inr (.inl (some (13, g, z7))))) (e8 := some (.inl ((if (σ 13 g z7 8) < (σ 13 g z7 4) then (σ 13 g z7 4) else (σ 13 g z7 8))))) (e9 := f19) (e10 := f20) (e11 := f21) hj3 h hk
set_option maxRecDepth 100000 in
set_option maxHeartbeats 4000000 in
theorem s_cd_putDeparts (G : en_G) (hz : G.2.2.2.2.2.2.2.2 = none) (d : Nat) {cs : List en_A} {σ : en_M} {g : Nat} {v1 : Int32} {v2 : Int32} {j3 : Nat} {g3 : Nat} {i3 : Nat} {x0 : Int32} {s0 : en_M} (hj3 : en_kd j3 = (1, 160)) (h : k_cd_putDeparts g v1 v2 j3 g3 i3 σ = some (x0, s0)) : en_Mt G (d + 1) 0 0 M_cd_putDeparts [.inr (.inl (some (0, g, 0))), .inl v1, .inl v2, .inr (.inl (some (j3, g3, i3)))] cs en_rf σ (.inr (some (.inl x0))) cs en_rf s0 := by
  refine en_meth (ls := [some (.inr (.inl (some (0, g, 0)))), some (.inl v1), some (.inl v2), some (.inr (.inl (some (j3, g3, i3)))), none, none, none, none, none, none, none, none]) md_cd_putDeparts rfl rfl rfl ?_
  unfold k_cd_putDeparts at h
  refine en_s_aload_n rfl rfl ?_
  refine en_s_iload_n rfl rfl ?_
  obtain ⟨t1, h2, h⟩ := en_b1_h h
  refine en_callV (as := [.inl v1]) (rest := []) (bc' := 0) (bs' := 0) hz rfl (s_cd_flowAt G hz (d + 0) h2) lk_0_123 mv_cd_flowAt rfl rfl rfl rfl rfl (fun _ h => h) (Nat.le_refl _) (Nat.le_refl _) ?_
  refine en_o_astore (ls' := [some (.inr (.inl (some (0, g, 0)))), some (.inl v1), some (.inl v2), some (.inr (.inl (some (j3, g3, i3)))), some (.inr (.inl (t1.map (fun z9 => (12, g, z9))))), none, none, none, none, none, none, none]) rfl rfl rfl ?_
  refine en_o_aload rfl rfl ?_
  cases t1 with
  | none =>
    dsimp only at h
    refine en_s_ifnullN rfl ?_
    refine en_s_iconst rfl ?_
    refine en_s_goto rfl ?_
    refine en_s_istore (ls' := [some (.inr (.inl (some (0, g, 0)))), some (.inl v1), some (.inl v2), some (.inr (.inl (some (j3, g3, i3)))), some (.inr (.inl none)), some (.inl 0), none, none, none, none, none, none]) rfl rfl rfl ?_
    refine en_s_aload_n rfl rfl ?_
    refine en_s_getI rfl rfl rfl ?_
    refine en_s_istore (ls' := [some (.inr (.inl (some (0, g, 0)))), some (.inl v1), some (.inl v2), some (.inr (.inl (some (j3, g3, i3)))), some (.inr (.inl none)), some (.inl 0), some (.inl (σ 0 g 0 14)), none, none, none, none, none]) rfl rfl rfl ?_
    obtain ⟨x24, s31, h32, h⟩ := en_b2_h h
    refine s_cd_putDeparts_48 G hz en_fu (e4 := some (.inr (.inl none))) (e7 := none) (e8 := none) (e9 := none) (e10 := none) (e11 := none) hj3 h32 (fun f25 f26 f27 f28 f29 f30 => ?_)
    refine en_s_iload rfl rfl ?_
    cases h
    exact en_s_iret rfl rfl
  | some z3 =>
    dsimp only at h
    refine en_s_ifnull rfl ?_
    refine en_s_aload rfl rfl ?_
    refine en_s_getI rfl rfl rfl ?_
    refine en_s_iconst rfl ?_
    refine en_s_icmp_ne rfl (fun c33 => ?_) (fun c33 => ?_)
    · rw [if_neg c33] at h
      refine en_s_aload rfl rfl ?_
      refine en_s_getI rfl rfl rfl ?_
      refine en_s_aload rfl rfl ?_
      refine en_s_getI rfl rfl rfl ?_
      refine en_s_iload_n rfl rfl ?_
      obtain ⟨t34, h35, h⟩ := en_b1_h h
      refine en_callN (as := [.inl (σ 12 g z3 5), .inl v2]) (rest := [.inl (σ 12 g z3 4)]) (bc' := 0) (bs' := 0) hz rfl (s_cc_gapOf G hz (d + 0) h35) lk_0_266 mv_cc_gapOf rfl rfl rfl (fun _ h => h) (Nat.le_refl _) (Nat.le_refl _) ?_
      refine en_s_iadd rfl ?_
      refine en_s_istore (ls' := [some (.inr (.inl (some (0, g, 0)))), some (.inl v1), some (.inl v2), some (.inr (.inl (some (j3, g3, i3)))), some (.inr (.inl (some (12, g, z3)))), some (.inl ((σ 12 g z3 4) + t34)), none, none, none, none, none, none]) rfl rfl rfl ?_
      refine en_s_aload_n rfl rfl ?_
      refine en_s_getI rfl rfl rfl ?_
      refine en_s_istore (ls' := [some (.inr (.inl (some (0, g, 0)))), some (.inl v1), some (.inl v2), some (.inr (.inl (some (j3, g3, i3)))), some (.inr (.inl (some (12, g, z3)))), some (.inl ((σ 12 g z3 4) + t34)), some (.inl (σ 0 g 0 14)), none, none, none, none, none]) rfl rfl rfl ?_
      obtain ⟨x36, s43, h44, h⟩ := en_b2_h h
      refine s_cd_putDeparts_48 G hz en_fu (e4 := some (.inr (.inl (some (12, g, z3))))) (e7 := none) (e8 := none) (e9 := none) (e10 := none) (e11 := none) hj3 h44 (fun f37 f38 f39 f40 f41 f42 => ?_)
      refine en_s_iload rfl rfl ?_
      cases h
      exact en_s_iret rfl rfl
    · rw [if_pos c33] at h
      refine en_s_iconst rfl ?_
      refine en_s_goto rfl ?_
      refine en_s_istore (ls' := [some (.inr (.inl (some (0, g, 0)))), some (.inl v1), some (.inl v2), some (.inr (.inl (some (j3, g3, i3)))), some (.inr (.inl (some (12, g, z3)))), some (.inl 0), none, none, none, none, none, none]) rfl rfl rfl ?_
      refine en_s_aload_n rfl rfl ?_
      refine en_s_getI rfl rfl rfl ?_
      refine en_s_istore (ls' := [some (.inr (.inl (some (0, g, 0)))), some (.inl v1), some (.inl v2), some (.inr (.inl (some (j3, g3, i3)))), some (.inr (.inl (some (12, g, z3)))), some (.inl 0), some (.inl (σ 0 g 0 14)), none, none, none, none, none]) rfl rfl rfl ?_
      obtain ⟨x45, s52, h53, h⟩ := en_b2_h h
      refine s_cd_putDeparts_48 G hz en_fu (e4 := some (.inr (.inl (some (12, g, z3))))) (e7 := none) (e8 := none) (e9 := none) (e10 := none) (e11 := none) hj3 h53 (fun f46 f47 f48 f49 f50 f51 => ?_)
      refine en_s_iload rfl rfl ?_
      cases h
      exact en_s_iret rfl rfl
def k_cd_reclaim_5 (f0 : Nat) (g : Nat) (v1 : Int32) (σ : en_M) : Option ((en_M) ⊕ (en_M)) := match f0 with
  | 0 => none
  | f9 + 1 =>
    if (σ 0 g 0 13) ≤ v1 then
      some (.inr (σ))
    else
      en_b1 (k_cd_sendAt g v1 σ) fun t2 =>
      (match t2 with
      | none =>
        en_let (en_wr σ 0 g 0 14 (v1 + 1)) fun s5 =>
        k_cd_reclaim_5 f9 g (v1 + 1) s5
      | some z4 =>
        if (k_sd_isOver g z4 σ) = 0 then
          some (.inl (σ))
        else
          en_let (en_wr σ 0 g 0 14 (v1 + 1)) fun s8 =>
          k_cd_reclaim_5 f9 g (v1 + 1) s8)
def k_cd_reclaim (g : Nat) (σ : en_M) : Option (en_M) :=
  en_rx (k_cd_reclaim_5 en_fu g (σ 0 g 0 14) σ) (fun r14 => some r14) (fun s12 =>
  some s12)
set_option maxRecDepth 100000 in
set_option maxHeartbeats 4000000 in
theorem s_cd_reclaim_5 (G : en_G) (hz : G.2.2.2.2.2.2.2.2 = none) {d : Nat} {r : en_P} {cs cs' : List en_A} {ρ' : en_R} {σ' : en_M} : ∀ (f0 : Nat) {g : Nat} {v1 : Int32} {e2 : Option en_V} {σ : en_M} {x9 : ((en_M) ⊕ (en_M))} , k_cd_reclaim_5 f0 g v1 σ = some x9 →
    (∀ a9, x9 = .inl a9 → r = .inr (none) ∧ cs' = cs ∧ ρ' = en_rf ∧ σ' = a9) →
    (∀ (s0 : en_M), x9 = .inr s0 → ∀ (f1 : Option en_V) (f2 : Option en_V), en_W G (d + 1) 0 0 M_cd_reclaim r cs' ρ' σ' 0 0 44 [some (.inr (.inl (some (0, g, 0)))), f1, f2] [] cs en_rf s0) → en_W G (d + 1) 0 0 M_cd_reclaim r cs' ρ' σ' 0 0 5 [some (.inr (.inl (some (0, g, 0)))), some (.inl v1), e2] [] cs en_rf σ := by
  intro f0
  induction f0 with
  | zero =>
    intros
    rename_i h _ _
    cases h
  | succ f9 ih =>
    intro g v1 e2 σ x9 h hr hk
    rw [k_cd_reclaim_5] at h
    refine en_s_iload_n rfl rfl ?_
    refine en_s_aload_n rfl rfl ?_
    refine en_s_getI rfl rfl rfl ?_
    refine en_s_icmp_ge rfl (fun c1 => ?_) (fun c1 => ?_)
    · rw [if_pos c1] at h
      obtain rfl := Option.some.inj h
      exact hk _ rfl (some (.inl v1)) (e2)
    · rw [if_neg c1] at h
      refine en_s_aload_n rfl rfl ?_
      refine en_s_iload_n rfl rfl ?_
      obtain ⟨t2, h3, h⟩ := en_b1_h h
      refine en_callV (as := [.inl v1]) (rest := []) (bc' := 0) (bs' := 0) hz rfl (s_cd_sendAt G hz (d + 0) h3) lk_0_115 mv_cd_sendAt rfl rfl rfl rfl rfl (fun _ h => h) (Nat.le_refl _) (Nat.le_refl _) ?_
      refine en_o_astore_n (ls' := [some (.inr (.inl (some (0, g, 0)))), some (.inl v1), some (.inr (.inl (t2.map (fun z9 => (13, g, z9)))))]) rfl rfl rfl ?_
      refine en_o_aload_n rfl rfl ?_
      cases t2 with
      | none =>
        dsimp only at h
        refine en_s_ifnullN rfl ?_
        refine en_s_aload_n rfl rfl ?_
        refine en_s_iload_n rfl rfl ?_
        refine en_s_iconst rfl ?_
        refine en_s_iadd rfl ?_
        obtain ⟨s5, e6, h⟩ := en_let_h h
        refine en_p_putI e6 rfl rfl rfl rfl rfl ?_
        refine en_s_iinc (ls' := [some (.inr (.inl (some (0, g, 0)))), some (.inl (v1 + 1)), some (.inr (.inl none))]) rfl rfl rfl ?_
        refine en_s_goto rfl ?_
        exact ih (e2 := some (.inr (.inl none))) h hr hk
      | some z4 =>
        dsimp only at h
        refine en_s_ifnull rfl ?_
        refine en_s_aload_n rfl rfl ?_
        refine en_callV (as := []) (rest := []) (bc' := 0) (bs' := 0) hz rfl (s_sd_isOver G hz (d + 0) rfl) lk_0_130 mv_sd_isOver rfl rfl rfl rfl rfl (fun _ h => h) (Nat.le_refl _) (Nat.le_refl _) ?_
        refine en_s_if_ne rfl (fun c7 => ?_) (fun c7 => ?_)
        · rw [if_neg c7] at h
          refine en_s_aload_n rfl rfl ?_
          refine en_s_iload_n rfl rfl ?_
          refine en_s_iconst rfl ?_
          refine en_s_iadd rfl ?_
          obtain ⟨s8, e9, h⟩ := en_let_h h
          refine en_p_putI e9 rfl rfl rfl rfl rfl ?_
          refine en_s_iinc (ls' := [some (.inr (.inl (some (0, g, 0)))), some (.inl (v1 + 1)), some (.inr (.inl (some (13, g, z4))))]) rfl rfl rfl ?_
          refine en_s_goto rfl ?_
          exact ih (e2 := some (.inr (.inl (some (13, g, z4))))) h hr hk
        · rw [if_pos c7] at h
          obtain rfl := Option.some.inj h
          obtain ⟨rfl, rfl, rfl, rfl⟩ := hr _ rfl
          exact en_s_vret rfl rfl
set_option maxRecDepth 100000 in
set_option maxHeartbeats 4000000 in
theorem s_cd_reclaim (G : en_G) (hz : G.2.2.2.2.2.2.2.2 = none) (d : Nat) {cs : List en_A} {σ : en_M} {g : Nat} {s0 : en_M}  (h : k_cd_reclaim g σ = some s0) : en_Mt G (d + 1) 0 0 M_cd_reclaim [.inr (.inl (some (0, g, 0)))] cs en_rf σ (.inr (none)) cs en_rf s0 := by
  refine en_meth (ls := [some (.inr (.inl (some (0, g, 0)))), none, none]) md_cd_reclaim rfl rfl rfl ?_
  unfold k_cd_reclaim at h
  refine en_s_aload_n rfl rfl ?_
  refine en_s_getI rfl rfl rfl ?_
  refine en_s_istore_n (ls' := [some (.inr (.inl (some (0, g, 0)))), some (.inl (σ 0 g 0 14)), none]) rfl rfl rfl ?_
  rcases en_rx_h h with ⟨r14, h13, h⟩ | ⟨s12, h13, h⟩
  · obtain rfl := Option.some.inj h
    exact s_cd_reclaim_5 G hz en_fu (e2 := none) h13 (fun _ e9 => by cases e9; exact ⟨rfl, rfl, rfl, rfl⟩) (fun _ e9 => by cases e9)
  · refine s_cd_reclaim_5 G hz en_fu (e2 := none) h13 (fun _ e9 => by cases e9) (fun _ e9 f10 f11 => ?_)
    cases e9
    cases h
    exact en_s_vret rfl rfl
def k_cd_dropSend (g : Nat) (v1 : Int32) (σ : en_M) : Option (Int32 × en_M) :=
  en_b1 (k_cd_knownSend g v1 σ) fun t1 =>
  (match t1 with
  | none =>
    some ((-1), σ)
  | some z3 =>
    en_b1 (k_cd_flowAt g (σ 13 g z3 1) σ) fun t4 =>
    (match t4 with
    | none =>
      some ((-1), σ)
    | some z6 =>
      en_let (en_wr σ 13 g z3 5 3) fun s7 =>
      en_let (en_wr s7 13 g z3 6 0) fun s9 =>
      en_b2 (k_cd_putDeparts g (s9 13 g z3 1) (s9 12 g z6 0) 3 g 0 s9) fun t11 s12 =>
      en_let (en_wr s12 12 g z6 6 t11) fun s14 =>
      en_b1 (k_cd_reclaim g s14) fun s16 =>
      some (σ 13 g z3 6, s16)))
set_option maxRecDepth 100000 in
set_option maxHeartbeats 4000000 in
theorem s_cd_dropSend (G : en_G) (hz : G.2.2.2.2.2.2.2.2 = none) (d : Nat) {cs : List en_A} {σ : en_M} {g : Nat} {v1 : Int32} {x0 : Int32} {s0 : en_M}  (h : k_cd_dropSend g v1 σ = some (x0, s0)) : en_Mt G (d + 2) 0 0 M_cd_dropSend [.inr (.inl (some (0, g, 0))), .inl v1] cs en_rf σ (.inr (some (.inl x0))) cs en_rf s0 := by
  refine en_meth (ls := [some (.inr (.inl (some (0, g, 0)))), some (.inl v1), none, none, none]) md_cd_dropSend rfl rfl rfl ?_
  unfold k_cd_dropSend at h
  refine en_s_aload_n rfl rfl ?_
  refine en_s_iload_n rfl rfl ?_
  obtain ⟨t1, h2, h⟩ := en_b1_h h
  refine en_callV (as := [.inl v1]) (rest := []) (bc' := 0) (bs' := 0) hz rfl (s_cd_knownSend G hz (d + 0) h2) lk_0_127 mv_cd_knownSend rfl rfl rfl rfl rfl (fun _ h => h) (Nat.le_refl _) (Nat.le_refl _) ?_
  refine en_o_astore_n (ls' := [some (.inr (.inl (some (0, g, 0)))), some (.inl v1), some (.inr (.inl (t1.map (fun z9 => (13, g, z9))))), none, none]) rfl rfl rfl ?_
  refine en_o_aload_n rfl rfl ?_
  cases t1 with
  | none =>
    dsimp only at h
    refine en_s_ifnonnullN rfl ?_
    refine en_s_null rfl ?_
    refine en_s_goto rfl ?_
    refine en_s_astore_nN (ls' := [some (.inr (.inl (some (0, g, 0)))), some (.inl v1), some (.inr (.inl none)), some (.inr (.inl none)), none]) rfl rfl rfl ?_
    refine en_s_aload_nN rfl rfl ?_
    refine en_s_ifnullN rfl ?_
    refine en_s_iconst rfl ?_
    cases h
    exact en_s_iret rfl rfl
  | some z3 =>
    dsimp only at h
    refine en_s_ifnonnull rfl ?_
    refine en_s_aload_n rfl rfl ?_
    refine en_s_aload_n rfl rfl ?_
    refine en_s_getI rfl rfl rfl ?_
    obtain ⟨t4, h5, h⟩ := en_b1_h h
    refine en_callV (as := [.inl (σ 13 g z3 1)]) (rest := []) (bc' := 0) (bs' := 0) hz rfl (s_cd_flowAt G hz (d + 1) h5) lk_0_123 mv_cd_flowAt rfl rfl rfl rfl rfl (fun _ h => h) (Nat.le_refl _) (Nat.le_refl _) ?_
    refine en_o_astore_n (ls' := [some (.inr (.inl (some (0, g, 0)))), some (.inl v1), some (.inr (.inl (some (13, g, z3)))), some (.inr (.inl (t4.map (fun z9 => (12, g, z9))))), none]) rfl rfl rfl ?_
    refine en_s_aload_n rfl rfl ?_
    refine en_s_ifnull rfl ?_
    refine en_o_aload_n rfl rfl ?_
    cases t4 with
    | none =>
      dsimp only at h
      refine en_s_ifnonnullN rfl ?_
      refine en_s_iconst rfl ?_
      cases h
      exact en_s_iret rfl rfl
    | some z6 =>
      dsimp only at h
      refine en_s_ifnonnull rfl ?_
      refine en_s_aload_n rfl rfl ?_
      refine en_s_getI rfl rfl rfl ?_
      refine en_s_istore (ls' := [some (.inr (.inl (some (0, g, 0)))), some (.inl v1), some (.inr (.inl (some (13, g, z3)))), some (.inr (.inl (some (12, g, z6)))), some (.inl (σ 13 g z3 6))]) rfl rfl rfl ?_
      refine en_s_aload_n rfl rfl ?_
      refine en_s_iconst rfl ?_
      obtain ⟨s7, e8, h⟩ := en_let_h h
      refine en_p_putI e8 rfl rfl rfl rfl rfl ?_
      refine en_s_aload_n rfl rfl ?_
      refine en_s_iconst rfl ?_
      obtain ⟨s9, e10, h⟩ := en_let_h h
      refine en_p_putI e10 rfl rfl rfl rfl rfl ?_
      refine en_s_aload_n rfl rfl ?_
      refine en_s_aload_n rfl rfl ?_
      refine en_s_aload_n rfl rfl ?_
      refine en_s_getI rfl rfl rfl ?_
      refine en_s_aload_n rfl rfl ?_
      refine en_s_getI rfl rfl rfl ?_
      refine en_s_aload_n rfl rfl ?_
      refine en_s_getR (w := some (3, g, 0)) rfl rfl rfl rfl ?_
      obtain ⟨t11, s12, h13, h⟩ := en_b2_h h
      refine en_callV (as := [.inl (s9 13 g z3 1), .inl (s9 12 g z6 0), .inr (.inl (some (3, g, 0)))]) (rest := [.inr (.inl (some (12, g, z6)))]) (bc' := 0) (bs' := 0) hz rfl (s_cd_putDeparts G hz (d + 0) rfl h13) lk_0_185 mv_cd_putDeparts rfl rfl rfl rfl rfl (fun _ h => h) (Nat.le_refl _) (Nat.le_refl _) ?_
      obtain ⟨s14, e15, h⟩ := en_let_h h
      refine en_p_putI e15 rfl rfl rfl rfl rfl ?_
      refine en_s_aload_n rfl rfl ?_
      obtain ⟨s16, h17, h⟩ := en_b1_h h
      refine en_callV (as := []) (rest := []) (bc' := 0) (bs' := 0) hz rfl (s_cd_reclaim G hz (d + 0) h17) lk_0_201 mv_cd_reclaim rfl rfl rfl rfl rfl (fun _ h => h) (Nat.le_refl _) (Nat.le_refl _) ?_
      refine en_s_iload rfl rfl ?_
      cases h
      exact en_s_iret rfl rfl
def k_cd_inState_7 (f0 : Nat) (g : Nat) (v1 : Int32) (v2 : Int32) (v3 : Int32) (σ : en_M) : Option (Int32) := match f0 with
  | 0 => none
  | f9 + 1 =>
    if (σ 0 g 0 13) ≤ v3 then
      some (v2)
    else
      en_b1 (k_cd_sendAt g v3 σ) fun t2 =>
      (match t2 with
      | none =>
        k_cd_inState_7 f9 g v1 v2 (v3 + 1) σ
      | some z4 =>
        if (σ 13 g z4 5) = v1 then
          k_cd_inState_7 f9 g v1 (v2 + 1) (v3 + 1) σ
        else
          k_cd_inState_7 f9 g v1 v2 (v3 + 1) σ)
def k_cd_inState (g : Nat) (v1 : Int32) (σ : en_M) : Option (Int32) :=
  en_b1 (k_cd_inState_7 en_fu g v1 0 (σ 0 g 0 14) σ) fun x6 =>
  some x6
set_option maxRecDepth 100000 in
set_option maxHeartbeats 4000000 in
theorem s_cd_inState_7 (G : en_G) (hz : G.2.2.2.2.2.2.2.2 = none) {d : Nat} {r : en_P} {cs cs' : List en_A} {ρ' : en_R} {σ' : en_M} : ∀ (f0 : Nat) {g : Nat} {v1 : Int32} {v2 : Int32} {v3 : Int32} {e4 : Option en_V} {σ : en_M} {x2 : Int32} , k_cd_inState_7 f0 g v1 v2 v3 σ = some (x2) →
    (∀ (f3 : Option en_V) (f4 : Option en_V), en_W G (d + 1) 0 0 M_cd_inState r cs' ρ' σ' 0 0 45 [some (.inr (.inl (some (0, g, 0)))), some (.inl v1), some (.inl x2), f3, f4] [] cs en_rf σ) → en_W G (d + 1) 0 0 M_cd_inState r cs' ρ' σ' 0 0 7 [some (.inr (.inl (some (0, g, 0)))), some (.inl v1), some (.inl v2), some (.inl v3), e4] [] cs en_rf σ := by
  intro f0
  induction f0 with
  | zero =>
    intros
    rename_i h _
    cases h
  | succ f9 ih =>
    intro g v1 v2 v3 e4 σ x2 h hk
    rw [k_cd_inState_7] at h
    refine en_s_iload_n rfl rfl ?_
    refine en_s_aload_n rfl rfl ?_
    refine en_s_getI rfl rfl rfl ?_
    refine en_s_icmp_ge rfl (fun c1 => ?_) (fun c1 => ?_)
    · rw [if_pos c1] at h
      cases h
      exact hk (some (.inl v3)) (e4)
    · rw [if_neg c1] at h
      refine en_s_aload_n rfl rfl ?_
      refine en_s_iload_n rfl rfl ?_
      obtain ⟨t2, h3, h⟩ := en_b1_h h
      refine en_callV (as := [.inl v3]) (rest := []) (bc' := 0) (bs' := 0) hz rfl (s_cd_sendAt G hz (d + 0) h3) lk_0_115 mv_cd_sendAt rfl rfl rfl rfl rfl (fun _ h => h) (Nat.le_refl _) (Nat.le_refl _) ?_
      refine en_o_astore (ls' := [some (.inr (.inl (some (0, g, 0)))), some (.inl v1), some (.inl v2), some (.inl v3), some (.inr (.inl (t2.map (fun z9 => (13, g, z9)))))]) rfl rfl rfl ?_
      refine en_o_aload rfl rfl ?_
      cases t2 with
      | none =>
        dsimp only at h
        refine en_s_ifnullN rfl ?_
        refine en_s_iinc (ls' := [some (.inr (.inl (some (0, g, 0)))), some (.inl v1), some (.inl v2), some (.inl (v3 + 1)), some (.inr (.inl none))]) rfl rfl rfl ?_
        refine en_s_goto rfl ?_
        exact ih (e4 := some (.inr (.inl none))) h hk
      | some z4 =>
        dsimp only at h
        refine en_s_ifnull rfl ?_
        refine en_s_aload rfl rfl ?_
        refine en_s_getI rfl rfl rfl ?_
        refine en_s_iload_n rfl rfl ?_
        refine en_s_icmp_ne rfl (fun c5 => ?_) (fun c5 => ?_)
        · rw [if_neg c5] at h
          refine en_s_iinc (ls' := [some (.inr (.inl (some (0, g, 0)))), some (.inl v1), some (.inl v2), some (.inl (v3 + 1)), some (.inr (.inl (some (13, g, z4))))]) rfl rfl rfl ?_
          refine en_s_goto rfl ?_
          exact ih (e4 := some (.inr (.inl (some (13, g, z4))))) h hk
        · rw [if_pos c5] at h
          refine en_s_iinc (ls' := [some (.inr (.inl (some (0, g, 0)))), some (.inl v1), some (.inl (v2 + 1)), some (.inl v3), some (.inr (.inl (some (13, g, z4))))]) rfl rfl rfl ?_
          refine en_s_iinc (ls' := [some (.inr (.inl (some (0, g, 0)))), some (.inl v1), some (.inl (v2 + 1)), some (.inl (v3 + 1)), some (.inr (.inl (some (13, g, z4))))]) rfl rfl rfl ?_
          refine en_s_goto rfl ?_
          exact ih (e4 := some (.inr (.inl (some (13, g, z4))))) h hk
set_option maxRecDepth 100000 in
set_option maxHeartbeats 4000000 in
theorem s_cd_inState (G : en_G) (hz : G.2.2.2.2.2.2.2.2 = none) (d : Nat) {cs : List en_A} {σ : en_M} {g : Nat} {v1 : Int32} {x0 : Int32}  (h : k_cd_inState g v1 σ = some x0) : en_Mt G (d + 1) 0 0 M_cd_inState [.inr (.inl (some (0, g, 0))), .inl v1] cs en_rf σ (.inr (some (.inl x0))) cs en_rf σ := by
  refine en_meth (ls := [some (.inr (.inl (some (0, g, 0)))), some (.inl v1), none, none, none]) md_cd_inState rfl rfl rfl ?_
  unfold k_cd_inState at h
  refine en_s_iconst rfl ?_
  refine en_s_istore_n (ls' := [some (.inr (.inl (some (0, g, 0)))), some (.inl v1), some (.inl 0), none, none]) rfl rfl rfl ?_
  refine en_s_aload_n rfl rfl ?_
  refine en_s_getI rfl rfl rfl ?_
  refine en_s_istore_n (ls' := [some (.inr (.inl (some (0, g, 0)))), some (.inl v1), some (.inl 0), some (.inl (σ 0 g 0 14)), none]) rfl rfl rfl ?_
  obtain ⟨x6, h9, h⟩ := en_b1_h h
  refine s_cd_inState_7 G hz en_fu (e4 := none) h9 (fun f7 f8 => ?_)
  refine en_s_iload_n rfl rfl ?_
  cases h
  exact en_s_iret rfl rfl
def k_cd_isPaused (g : Nat) (v1 : Int32) (σ : en_M) : Option (Int32) :=
  if v1 < 0 then
    some 1
  else
    if 6 ≤ v1 then
      some 1
    else
      en_b1 (en_ix 6 v1) fun q3 =>
      if (σ 12 g q3 2) = 0 then
        some 0
      else
        some 1
set_option maxRecDepth 100000 in
set_option maxHeartbeats 4000000 in
theorem s_cd_isPaused (G : en_G) (hz : G.2.2.2.2.2.2.2.2 = none) (d : Nat) {cs : List en_A} {σ : en_M} {g : Nat} {v1 : Int32} {x0 : Int32}  (h : k_cd_isPaused g v1 σ = some x0) : en_Mt G (d + 0) 0 0 M_cd_isPaused [.inr (.inl (some (0, g, 0))), .inl v1] cs en_rf σ (.inr (some (.inl x0))) cs en_rf σ := by
  refine en_meth (ls := [some (.inr (.inl (some (0, g, 0)))), some (.inl v1)]) md_cd_isPaused rfl rfl rfl ?_
  unfold k_cd_isPaused at h
  refine en_s_iload_n rfl rfl ?_
  refine en_s_if_lt rfl (fun c1 => ?_) (fun c1 => ?_)
  · rw [if_pos c1] at h
    refine en_s_iconst rfl ?_
    refine en_s_goto rfl ?_
    cases h
    exact en_s_zret rfl rfl (Or.inr rfl)
  · rw [if_neg c1] at h
    refine en_s_iload_n rfl rfl ?_
    refine en_s_bipush rfl ?_
    refine en_s_icmp_ge rfl (fun c2 => ?_) (fun c2 => ?_)
    · rw [if_pos c2] at h
      refine en_s_iconst rfl ?_
      refine en_s_goto rfl ?_
      cases h
      exact en_s_zret rfl rfl (Or.inr rfl)
    · rw [if_neg c2] at h
      refine en_s_aload_n rfl rfl ?_
      refine en_s_getR (w := some (1, g, 0)) rfl rfl rfl rfl ?_
      refine en_s_iload_n rfl rfl ?_
      obtain ⟨q3, h4, h⟩ := en_b1_h h
      refine en_p_aald (t := 0) (w := some (12, g, q3)) h4 rfl rfl (fun _ => rfl) rfl ?_
      refine en_s_getI rfl rfl rfl ?_
      refine en_s_if_eq rfl (fun c5 => ?_) (fun c5 => ?_)
      · rw [if_pos c5] at h
        refine en_s_iconst rfl ?_
        cases h
        exact en_s_zret rfl rfl (Or.inl rfl)
      · rw [if_neg c5] at h
        refine en_s_iconst rfl ?_
        refine en_s_goto rfl ?_
        cases h
        exact en_s_zret rfl rfl (Or.inr rfl)
def k_cd_letGo (g : Nat) (σ : en_M) : Option (en_M) :=
  en_b1 (k_cd_sendAt g (σ 0 g 0 15) σ) fun t1 =>
  (match t1 with
  | none =>
    en_let (en_wr σ 0 g 0 15 (-1)) fun s4 =>
    some s4
  | some z3 =>
    en_b1 (k_cd_flowAt g (σ 13 g z3 1) σ) fun t6 =>
    en_let (en_wr σ 0 g 0 15 (-1)) fun s8 =>
    (match t6 with
    | none =>
      some s8
    | some z10 =>
      en_b1 (en_wa 160 s8 5 g 0 (k_sd_indexOf g z3 ((s8 13 g z3 7) - 1) s8) (s8 0 g 0 11)) fun s11 =>
      en_let (en_wr s11 12 g z10 7 ((s11 12 g z10 7) + ((k_sd_sizeOf g z3 ((s8 13 g z3 7) - 1) s11) - 12))) fun s13 =>
      if (s13 13 g z3 6) ≤ (s13 13 g z3 7) then
        en_let (en_wr s13 13 g z3 5 2) fun s16 =>
        en_let (en_wr s16 13 g z3 9 (s16 0 g 0 11)) fun s18 =>
        en_let (en_wr s18 12 g z10 8 ((s18 12 g z10 8) + 1)) fun s20 =>
        en_b1 (k_fi_add g (s20 13 g z3 0) (s20 0 g 0 11) s20) fun s22 =>
        if (s22 13 g z3 0) ≤ (s22 0 g 0 14) then
          en_let (en_wr s22 11 g 0 2 ((s22 11 g 0 2) + 0)) fun s25 =>
          en_b1 (k_cd_reclaim g s25) fun s27 =>
          some s27
        else
          en_let (en_wr s22 11 g 0 2 ((s22 11 g 0 2) + 1)) fun s29 =>
          en_b1 (k_cd_reclaim g s29) fun s31 =>
          some s31
      else
        some s13))
set_option maxRecDepth 100000 in
set_option maxHeartbeats 4000000 in
theorem s_cd_letGo (G : en_G) (hz : G.2.2.2.2.2.2.2.2 = none) (d : Nat) {cs : List en_A} {σ : en_M} {g : Nat} {s0 : en_M}  (h : k_cd_letGo g σ = some s0) : en_Mt G (d + 2) 0 0 M_cd_letGo [.inr (.inl (some (0, g, 0)))] cs en_rf σ (.inr (none)) cs en_rf s0 := by
  refine en_meth (ls := [some (.inr (.inl (some (0, g, 0)))), none, none, none]) md_cd_letGo rfl rfl rfl ?_
  unfold k_cd_letGo at h
  refine en_s_aload_n rfl rfl ?_
  refine en_s_aload_n rfl rfl ?_
  refine en_s_getI rfl rfl rfl ?_
  obtain ⟨t1, h2, h⟩ := en_b1_h h
  refine en_callV (as := [.inl (σ 0 g 0 15)]) (rest := []) (bc' := 0) (bs' := 0) hz rfl (s_cd_sendAt G hz (d + 1) h2) lk_0_115 mv_cd_sendAt rfl rfl rfl rfl rfl (fun _ h => h) (Nat.le_refl _) (Nat.le_refl _) ?_
  refine en_o_astore_n (ls' := [some (.inr (.inl (some (0, g, 0)))), some (.inr (.inl (t1.map (fun z9 => (13, g, z9))))), none, none]) rfl rfl rfl ?_
  refine en_o_aload_n rfl rfl ?_
  cases t1 with
  | none =>
    dsimp only at h
    refine en_s_ifnonnullN rfl ?_
    refine en_s_null rfl ?_
    refine en_s_goto rfl ?_
    refine en_s_astore_nN (ls' := [some (.inr (.inl (some (0, g, 0)))), some (.inr (.inl none)), some (.inr (.inl none)), none]) rfl rfl rfl ?_
    refine en_s_aload_n rfl rfl ?_
    refine en_s_iconst rfl ?_
    obtain ⟨s4, e5, h⟩ := en_let_h h
    refine en_p_putI e5 rfl rfl rfl rfl rfl ?_
    refine en_s_aload_nN rfl rfl ?_
    refine en_s_ifnullN rfl ?_
    cases h
    exact en_s_vret rfl rfl
  | some z3 =>
    dsimp only at h
    refine en_s_ifnonnull rfl ?_
    refine en_s_aload_n rfl rfl ?_
    refine en_s_aload_n rfl rfl ?_
    refine en_s_getI rfl rfl rfl ?_
    obtain ⟨t6, h7, h⟩ := en_b1_h h
    refine en_callV (as := [.inl (σ 13 g z3 1)]) (rest := []) (bc' := 0) (bs' := 0) hz rfl (s_cd_flowAt G hz (d + 1) h7) lk_0_123 mv_cd_flowAt rfl rfl rfl rfl rfl (fun _ h => h) (Nat.le_refl _) (Nat.le_refl _) ?_
    refine en_o_astore_n (ls' := [some (.inr (.inl (some (0, g, 0)))), some (.inr (.inl (some (13, g, z3)))), some (.inr (.inl (t6.map (fun z9 => (12, g, z9))))), none]) rfl rfl rfl ?_
    refine en_s_aload_n rfl rfl ?_
    refine en_s_iconst rfl ?_
    obtain ⟨s8, e9, h⟩ := en_let_h h
    refine en_p_putI e9 rfl rfl rfl rfl rfl ?_
    refine en_s_aload_n rfl rfl ?_
    refine en_s_ifnull rfl ?_
    refine en_o_aload_n rfl rfl ?_
    cases t6 with
    | none =>
      dsimp only at h
      refine en_s_ifnonnullN rfl ?_
      cases h
      exact en_s_vret rfl rfl
    | some z10 =>
      dsimp only at h
      refine en_s_ifnonnull rfl ?_
      refine en_s_aload_n rfl rfl ?_
      refine en_s_getI rfl rfl rfl ?_
      refine en_s_iconst rfl ?_
      refine en_s_isub rfl ?_
      refine en_s_istore_n (ls' := [some (.inr (.inl (some (0, g, 0)))), some (.inr (.inl (some (13, g, z3)))), some (.inr (.inl (some (12, g, z10)))), some (.inl ((s8 13 g z3 7) - 1))]) rfl rfl rfl ?_
      refine en_s_aload_n rfl rfl ?_
      refine en_s_getR (w := some (5, g, 0)) rfl rfl rfl rfl ?_
      refine en_s_aload_n rfl rfl ?_
      refine en_s_iload_n rfl rfl ?_
      refine en_callV (as := [.inl ((s8 13 g z3 7) - 1)]) (rest := [.inr (.inl (some (5, g, 0)))]) (bc' := 0) (bs' := 0) hz rfl (s_sd_indexOf G hz (d + 1) rfl) lk_0_179 mv_sd_indexOf rfl rfl rfl rfl rfl (fun _ h => h) (Nat.le_refl _) (Nat.le_refl _) ?_
      refine en_s_aload_n rfl rfl ?_
      refine en_s_getI rfl rfl rfl ?_
      obtain ⟨s11, e12, h⟩ := en_b1_h h
      refine en_s_iast rfl rfl e12 ?_
      refine en_s_aload_n rfl rfl ?_
      refine en_s_dup rfl rfl ?_
      refine en_s_getI rfl rfl rfl ?_
      refine en_s_aload_n rfl rfl ?_
      refine en_s_iload_n rfl rfl ?_
      refine en_callV (as := [.inl ((s8 13 g z3 7) - 1)]) (rest := [.inl (s11 12 g z10 7), .inr (.inl (some (12, g, z10)))]) (bc' := 0) (bs' := 0) hz rfl (s_sd_sizeOf G hz (d + 1) rfl) lk_0_233 mv_sd_sizeOf rfl rfl rfl rfl rfl (fun _ h => h) (Nat.le_refl _) (Nat.le_refl _) ?_
      refine en_s_bipush rfl ?_
      refine en_s_isub rfl ?_
      refine en_s_iadd rfl ?_
      obtain ⟨s13, e14, h⟩ := en_let_h h
      refine en_p_putI e14 rfl rfl rfl rfl rfl ?_
      refine en_s_aload_n rfl rfl ?_
      refine en_s_getI rfl rfl rfl ?_
      refine en_s_aload_n rfl rfl ?_
      refine en_s_getI rfl rfl rfl ?_
      refine en_s_icmp_ge rfl (fun c15 => ?_) (fun c15 => ?_)
      · rw [if_pos c15] at h
        refine en_s_aload_n rfl rfl ?_
        refine en_s_iconst rfl ?_
        obtain ⟨s16, e17, h⟩ := en_let_h h
        refine en_p_putI e17 rfl rfl rfl rfl rfl ?_
        refine en_s_aload_n rfl rfl ?_
        refine en_s_aload_n rfl rfl ?_
        refine en_s_getI rfl rfl rfl ?_
        obtain ⟨s18, e19, h⟩ := en_let_h h
        refine en_p_putI e19 rfl rfl rfl rfl rfl ?_
        refine en_s_aload_n rfl rfl ?_
        refine en_s_dup rfl rfl ?_
        refine en_s_getI rfl rfl rfl ?_
        refine en_s_iconst rfl ?_
        refine en_s_iadd rfl ?_
        obtain ⟨s20, e21, h⟩ := en_let_h h
        refine en_p_putI e21 rfl rfl rfl rfl rfl ?_
        refine en_s_aload_n rfl rfl ?_
        refine en_s_getR (w := some (8, g, 0)) rfl rfl rfl rfl ?_
        refine en_s_aload_n rfl rfl ?_
        refine en_s_getI rfl rfl rfl ?_
        refine en_s_aload_n rfl rfl ?_
        refine en_s_getI rfl rfl rfl ?_
        obtain ⟨s22, h23, h⟩ := en_b1_h h
        refine en_callV (as := [.inl (s20 13 g z3 0), .inl (s20 0 g 0 11)]) (rest := []) (bc' := 0) (bs' := 0) hz rfl (s_fi_add G hz (d + 0) h23) lk_0_261 mv_fi_add rfl rfl rfl rfl rfl (fun _ h => h) (Nat.le_refl _) (Nat.le_refl _) ?_
        refine en_s_aload_n rfl rfl ?_
        refine en_s_getR (w := some (11, g, 0)) rfl rfl rfl rfl ?_
        refine en_s_dup rfl rfl ?_
        refine en_s_getI rfl rfl rfl ?_
        refine en_s_aload_n rfl rfl ?_
        refine en_s_getI rfl rfl rfl ?_
        refine en_s_aload_n rfl rfl ?_
        refine en_s_getI rfl rfl rfl ?_
        refine en_s_icmp_le rfl (fun c24 => ?_) (fun c24 => ?_)
        · rw [if_pos c24] at h
          refine en_s_iconst rfl ?_
          refine en_s_iadd rfl ?_
          obtain ⟨s25, e26, h⟩ := en_let_h h
          refine en_p_putI e26 rfl rfl rfl rfl rfl ?_
          refine en_s_aload_n rfl rfl ?_
          obtain ⟨s27, h28, h⟩ := en_b1_h h
          refine en_callV (as := []) (rest := []) (bc' := 0) (bs' := 0) hz rfl (s_cd_reclaim G hz (d + 0) h28) lk_0_201 mv_cd_reclaim rfl rfl rfl rfl rfl (fun _ h => h) (Nat.le_refl _) (Nat.le_refl _) ?_
          cases h
          exact en_s_vret rfl rfl
        · rw [if_neg c24] at h
          refine en_s_iconst rfl ?_
          refine en_s_goto rfl ?_
          refine en_s_iadd rfl ?_
          obtain ⟨s29, e30, h⟩ := en_let_h h
          refine en_p_putI e30 rfl rfl rfl rfl rfl ?_
          refine en_s_aload_n rfl rfl ?_
          obtain ⟨s31, h32, h⟩ := en_b1_h h
          refine en_callV (as := []) (rest := []) (bc' := 0) (bs' := 0) hz rfl (s_cd_reclaim G hz (d + 0) h32) lk_0_201 mv_cd_reclaim rfl rfl rfl rfl rfl (fun _ h => h) (Nat.le_refl _) (Nat.le_refl _) ?_
          cases h
          exact en_s_vret rfl rfl
      · rw [if_neg c15] at h
        cases h
        exact en_s_vret rfl rfl
def k_cd_readySend_15 (f0 : Nat) (g : Nat) (v1 : Int32) (v2 : Option Nat) (v3 : Int32) (v4 : Int32) (σ : en_M) : Option (Option Nat) := match f0 with
  | 0 => none
  | f9 + 1 =>
    if (σ 0 g 0 13) ≤ v4 then
      some (v2)
    else
      en_b1 (k_cd_sendAt g v4 σ) fun t2 =>
      (match t2 with
      | none =>
        k_cd_readySend_15 f9 g v1 v2 v3 (v4 + 1) σ
      | some z4 =>
        if (k_sd_waits g z4 σ) = 0 then
          k_cd_readySend_15 f9 g v1 v2 v3 (v4 + 1) σ
        else
          if v1 = 0 then
            en_b1 (k_cd_isPaused g (σ 13 g z4 1) σ) fun t12 =>
            if t12 = 0 then
              en_b1 (en_rd 160 (σ 3 g 0) (k_sd_indexOf g z4 (σ 13 g z4 7) σ)) fun t15 =>
              if v3 ≤ t15 then
                k_cd_readySend_15 f9 g v1 v2 v3 (v4 + 1) σ
              else
                en_b1 (en_rd 160 (σ 3 g 0) (k_sd_indexOf g z4 (σ 13 g z4 7) σ)) fun t18 =>
                k_cd_readySend_15 f9 g v1 (some z4) t18 (v4 + 1) σ
            else
              k_cd_readySend_15 f9 g v1 v2 v3 (v4 + 1) σ
          else
            en_b1 (en_rd 160 (σ 3 g 0) (k_sd_indexOf g z4 (σ 13 g z4 7) σ)) fun t7 =>
            if v3 ≤ t7 then
              k_cd_readySend_15 f9 g v1 v2 v3 (v4 + 1) σ
            else
              en_b1 (en_rd 160 (σ 3 g 0) (k_sd_indexOf g z4 (σ 13 g z4 7) σ)) fun t10 =>
              k_cd_readySend_15 f9 g v1 (some z4) t10 (v4 + 1) σ)
def k_cd_readySend (g : Nat) (v1 : Int32) (σ : en_M) : Option (Option Nat) :=
  en_b1 (k_cd_readySend_15 en_fu g v1 none ((σ 0 g 0 11) + 1) (σ 0 g 0 14) σ) fun x20 =>
  some x20
set_option maxRecDepth 100000 in
set_option maxHeartbeats 4000000 in
theorem s_cd_readySend_15 (G : en_G) (hz : G.2.2.2.2.2.2.2.2 = none) {d : Nat} {r : en_P} {cs cs' : List en_A} {ρ' : en_R} {σ' : en_M} : ∀ (f0 : Nat) {g : Nat} {v1 : Int32} {v2 : Option Nat} {v3 : Int32} {v4 : Int32} {e5 : Option en_V} {σ : en_M} {x2 : Option Nat} , k_cd_readySend_15 f0 g v1 v2 v3 v4 σ = some (x2) →
    (∀ (f3 : Option en_V) (f4 : Option en_V) (f5 : Option en_V), en_W G (d + 1) 0 0 M_cd_readySend r cs' ρ' σ' 0 0 105 [some (.inr (.inl (some (0, g, 0)))), some (.inl v1), some (.inr (.inl (x2.map (fun z9 => (13, g, z9))))), f3, f4, f5] [] cs en_rf σ) → en_W G (d + 1) 0 0 M_cd_readySend r cs' ρ' σ' 0 0 15 [some (.inr (.inl (some (0, g, 0)))), some (.inl v1), some (.inr (.inl (v2.map (fun z9 => (13, g, z9))))), some (.inl v3), some (.inl v4), e5] [] cs en_rf σ := by
  intro f0
  induction f0 with
  | zero =>
    intros
    rename_i h _
    cases h
  | succ f9 ih =>
    intro g v1 v2 v3 v4 e5 σ x2 h hk
    rw [k_cd_readySend_15] at h
    refine en_s_iload rfl rfl ?_
    refine en_s_aload_n rfl rfl ?_
    refine en_s_getI rfl rfl rfl ?_
    refine en_s_icmp_ge rfl (fun c1 => ?_) (fun c1 => ?_)
    · rw [if_pos c1] at h
      cases h
      exact hk (some (.inl v3)) (some (.inl v4)) (e5)
    · rw [if_neg c1] at h
      refine en_s_aload_n rfl rfl ?_
      refine en_s_iload rfl rfl ?_
      obtain ⟨t2, h3, h⟩ := en_b1_h h
      refine en_callV (as := [.inl v4]) (rest := []) (bc' := 0) (bs' := 0) hz rfl (s_cd_sendAt G hz (d + 0) h3) lk_0_115 mv_cd_sendAt rfl rfl rfl rfl rfl (fun _ h => h) (Nat.le_refl _) (Nat.le_refl _) ?_
      refine en_o_astore (ls' := [some (.inr (.inl (some (0, g, 0)))), some (.inl v1), some (.inr (.inl (v2.map (fun z9 => (13, g, z9))))), some (.inl v3), some (.inl v4), some (.inr (.inl (t2.map (fun z9 => (13, g, z9)))))]) rfl rfl rfl ?_
      refine en_o_aload rfl rfl ?_
      cases t2 with
      | none =>
        dsimp only at h
        refine en_s_ifnullN rfl ?_
        refine en_s_iinc (ls' := [some (.inr (.inl (some (0, g, 0)))), some (.inl v1), some (.inr (.inl (v2.map (fun z9 => (13, g, z9))))), some (.inl v3), some (.inl (v4 + 1)), some (.inr (.inl none))]) rfl rfl rfl ?_
        refine en_s_goto rfl ?_
        exact ih (e5 := some (.inr (.inl none))) h hk
      | some z4 =>
        dsimp only at h
        refine en_s_ifnull rfl ?_
        refine en_s_aload rfl rfl ?_
        refine en_callV (as := []) (rest := []) (bc' := 0) (bs' := 0) hz rfl (s_sd_waits G hz (d + 0) rfl) lk_0_245 mv_sd_waits rfl rfl rfl rfl rfl (fun _ h => h) (Nat.le_refl _) (Nat.le_refl _) ?_
        refine en_s_if_eq rfl (fun c5 => ?_) (fun c5 => ?_)
        · rw [if_pos c5] at h
          refine en_s_iinc (ls' := [some (.inr (.inl (some (0, g, 0)))), some (.inl v1), some (.inr (.inl (v2.map (fun z9 => (13, g, z9))))), some (.inl v3), some (.inl (v4 + 1)), some (.inr (.inl (some (13, g, z4))))]) rfl rfl rfl ?_
          refine en_s_goto rfl ?_
          exact ih (e5 := some (.inr (.inl (some (13, g, z4))))) h hk
        · rw [if_neg c5] at h
          refine en_s_iload_n rfl rfl ?_
          refine en_s_if_ne rfl (fun c6 => ?_) (fun c6 => ?_)
          · rw [if_neg c6] at h
            refine en_s_aload_n rfl rfl ?_
            refine en_s_getR (w := some (3, g, 0)) rfl rfl rfl rfl ?_
            refine en_s_aload rfl rfl ?_
            refine en_s_aload rfl rfl ?_
            refine en_s_getI rfl rfl rfl ?_
            refine en_callV (as := [.inl (σ 13 g z4 7)]) (rest := [.inr (.inl (some (3, g, 0)))]) (bc' := 0) (bs' := 0) hz rfl (s_sd_indexOf G hz (d + 0) rfl) lk_0_179 mv_sd_indexOf rfl rfl rfl rfl rfl (fun _ h => h) (Nat.le_refl _) (Nat.le_refl _) ?_
            obtain ⟨t7, h8, h⟩ := en_b1_h h
            refine en_s_iald rfl rfl h8 ?_
            refine en_s_iload_n rfl rfl ?_
            refine en_s_icmp_ge rfl (fun c9 => ?_) (fun c9 => ?_)
            · rw [if_pos c9] at h
              refine en_s_iinc (ls' := [some (.inr (.inl (some (0, g, 0)))), some (.inl v1), some (.inr (.inl (v2.map (fun z9 => (13, g, z9))))), some (.inl v3), some (.inl (v4 + 1)), some (.inr (.inl (some (13, g, z4))))]) rfl rfl rfl ?_
              refine en_s_goto rfl ?_
              exact ih (e5 := some (.inr (.inl (some (13, g, z4))))) h hk
            · rw [if_neg c9] at h
              refine en_s_aload rfl rfl ?_
              refine en_s_astore_n (ls' := [some (.inr (.inl (some (0, g, 0)))), some (.inl v1), some (.inr (.inl (some (13, g, z4)))), some (.inl v3), some (.inl v4), some (.inr (.inl (some (13, g, z4))))]) rfl rfl rfl ?_
              refine en_s_aload_n rfl rfl ?_
              refine en_s_getR (w := some (3, g, 0)) rfl rfl rfl rfl ?_
              refine en_s_aload rfl rfl ?_
              refine en_s_aload rfl rfl ?_
              refine en_s_getI rfl rfl rfl ?_
              refine en_callV (as := [.inl (σ 13 g z4 7)]) (rest := [.inr (.inl (some (3, g, 0)))]) (bc' := 0) (bs' := 0) hz rfl (s_sd_indexOf G hz (d + 0) rfl) lk_0_179 mv_sd_indexOf rfl rfl rfl rfl rfl (fun _ h => h) (Nat.le_refl _) (Nat.le_refl _) ?_
              obtain ⟨t10, h11, h⟩ := en_b1_h h
              refine en_s_iald rfl rfl h11 ?_
              refine en_s_istore_n (ls' := [some (.inr (.inl (some (0, g, 0)))), some (.inl v1), some (.inr (.inl (some (13, g, z4)))), some (.inl t10), some (.inl v4), some (.inr (.inl (some (13, g, z4))))]) rfl rfl rfl ?_
              refine en_s_iinc (ls' := [some (.inr (.inl (some (0, g, 0)))), some (.inl v1), some (.inr (.inl (some (13, g, z4)))), some (.inl t10), some (.inl (v4 + 1)), some (.inr (.inl (some (13, g, z4))))]) rfl rfl rfl ?_
              refine en_s_goto rfl ?_
              exact ih (e5 := some (.inr (.inl (some (13, g, z4))))) h hk
          · rw [if_pos c6] at h
            refine en_s_aload_n rfl rfl ?_
            refine en_s_aload rfl rfl ?_
            refine en_s_getI rfl rfl rfl ?_
            obtain ⟨t12, h13, h⟩ := en_b1_h h
            refine en_callV (as := [.inl (σ 13 g z4 1)]) (rest := []) (bc' := 0) (bs' := 0) hz rfl (s_cd_isPaused G hz (d + 0) h13) lk_0_248 mv_cd_isPaused rfl rfl rfl rfl rfl (fun _ h => h) (Nat.le_refl _) (Nat.le_refl _) ?_
            refine en_s_if_ne rfl (fun c14 => ?_) (fun c14 => ?_)
            · rw [if_neg c14] at h
              refine en_s_iinc (ls' := [some (.inr (.inl (some (0, g, 0)))), some (.inl v1), some (.inr (.inl (v2.map (fun z9 => (13, g, z9))))), some (.inl v3), some (.inl (v4 + 1)), some (.inr (.inl (some (13, g, z4))))]) rfl rfl rfl ?_
              refine en_s_goto rfl ?_
              exact ih (e5 := some (.inr (.inl (some (13, g, z4))))) h hk
            · rw [if_pos c14] at h
              refine en_s_aload_n rfl rfl ?_
              refine en_s_getR (w := some (3, g, 0)) rfl rfl rfl rfl ?_
              refine en_s_aload rfl rfl ?_
              refine en_s_aload rfl rfl ?_
              refine en_s_getI rfl rfl rfl ?_
              refine en_callV (as := [.inl (σ 13 g z4 7)]) (rest := [.inr (.inl (some (3, g, 0)))]) (bc' := 0) (bs' := 0) hz rfl (s_sd_indexOf G hz (d + 0) rfl) lk_0_179 mv_sd_indexOf rfl rfl rfl rfl rfl (fun _ h => h) (Nat.le_refl _) (Nat.le_refl _) ?_
              obtain ⟨t15, h16, h⟩ := en_b1_h h
              refine en_s_iald rfl rfl h16 ?_
              refine en_s_iload_n rfl rfl ?_
              refine en_s_icmp_ge rfl (fun c17 => ?_) (fun c17 => ?_)
              · rw [if_pos c17] at h
                refine en_s_iinc (ls' := [some (.inr (.inl (some (0, g, 0)))), some (.inl v1), some (.inr (.inl (v2.map (fun z9 => (13, g, z9))))), some (.inl v3), some (.inl (v4 + 1)), some (.inr (.inl (some (13, g, z4))))]) rfl rfl rfl ?_
                refine en_s_goto rfl ?_
                exact ih (e5 := some (.inr (.inl (some (13, g, z4))))) h hk
              · rw [if_neg c17] at h
                refine en_s_aload rfl rfl ?_
                refine en_s_astore_n (ls' := [some (.inr (.inl (some (0, g, 0)))), some (.inl v1), some (.inr (.inl (some (13, g, z4)))), some (.inl v3), some (.inl v4), some (.inr (.inl (some (13, g, z4))))]) rfl rfl rfl ?_
                refine en_s_aload_n rfl rfl ?_
                refine en_s_getR (w := some (3, g, 0)) rfl rfl rfl rfl ?_
                refine en_s_aload rfl rfl ?_
                refine en_s_aload rfl rfl ?_
                refine en_s_getI rfl rfl rfl ?_
                refine en_callV (as := [.inl (σ 13 g z4 7)]) (rest := [.inr (.inl (some (3, g, 0)))]) (bc' := 0) (bs' := 0) hz rfl (s_sd_indexOf G hz (d + 0) rfl) lk_0_179 mv_sd_indexOf rfl rfl rfl rfl rfl (fun _ h => h) (Nat.le_refl _) (Nat.le_refl _) ?_
                obtain ⟨t18, h19, h⟩ := en_b1_h h
                refine en_s_iald rfl rfl h19 ?_
                refine en_s_istore_n (ls' := [some (.inr (.inl (some (0, g, 0)))), some (.inl v1), some (.inr (.inl (some (13, g, z4)))), some (.inl t18), some (.inl v4), some (.inr (.inl (some (13, g, z4))))]) rfl rfl rfl ?_
                refine en_s_iinc (ls' := [some (.inr (.inl (some (0, g, 0)))), some (.inl v1), some (.inr (.inl (some (13, g, z4)))), some (.inl t18), some (.inl (v4 + 1)), some (.inr (.inl (some (13, g, z4))))]) rfl rfl rfl ?_
                refine en_s_goto rfl ?_
                exact ih (e5 := some (.inr (.inl (some (13, g, z4))))) h hk
set_option maxRecDepth 100000 in
set_option maxHeartbeats 4000000 in
theorem s_cd_readySend (G : en_G) (hz : G.2.2.2.2.2.2.2.2 = none) (d : Nat) {cs : List en_A} {σ : en_M} {g : Nat} {v1 : Int32} {x0 : Option Nat}  (h : k_cd_readySend g v1 σ = some x0) : en_Mt G (d + 1) 0 0 M_cd_readySend [.inr (.inl (some (0, g, 0))), .inl v1] cs en_rf σ (.inr (some (.inr (.inl (x0.map (fun z9 => (13, g, z9))))))) cs en_rf σ := by
  refine en_meth (ls := [some (.inr (.inl (some (0, g, 0)))), some (.inl v1), none, none, none, none]) md_cd_readySend rfl rfl rfl ?_
  unfold k_cd_readySend at h
  refine en_s_null rfl ?_
  refine en_s_astore_nN (ls' := [some (.inr (.inl (some (0, g, 0)))), some (.inl v1), some (.inr (.inl none)), none, none, none]) rfl rfl rfl ?_
  refine en_s_aload_n rfl rfl ?_
  refine en_s_getI rfl rfl rfl ?_
  refine en_s_iconst rfl ?_
  refine en_s_iadd rfl ?_
  refine en_s_istore_n (ls' := [some (.inr (.inl (some (0, g, 0)))), some (.inl v1), some (.inr (.inl none)), some (.inl ((σ 0 g 0 11) + 1)), none, none]) rfl rfl rfl ?_
  refine en_s_aload_n rfl rfl ?_
  refine en_s_getI rfl rfl rfl ?_
  refine en_s_istore (ls' := [some (.inr (.inl (some (0, g, 0)))), some (.inl v1), some (.inr (.inl none)), some (.inl ((σ 0 g 0 11) + 1)), some (.inl (σ 0 g 0 14)), none]) rfl rfl rfl ?_
  obtain ⟨x20, h24, h⟩ := en_b1_h h
  refine s_cd_readySend_15 G hz en_fu (e5 := none) h24 (fun f21 f22 f23 => ?_)
  refine en_o_aload_n rfl rfl ?_
  cases h
  exact en_s_aret rfl rfl
def k_cd_letLeave (g : Nat) (σ : en_M) : Option (Int32 × en_M) :=
  en_b1 (k_cd_readySend g 0 σ) fun t1 =>
  (match t1 with
  | none =>
    some (0, σ)
  | some z3 =>
    en_b1 (k_cd_flowAt g (σ 13 g z3 1) σ) fun t4 =>
    (match t4 with
    | none =>
      some (0, σ)
    | some z6 =>
      en_b1 (en_wa 160 σ 4 g 0 (k_sd_indexOf g z3 (σ 13 g z3 7) σ) (σ 0 g 0 11)) fun s7 =>
      en_b1 (en_rd 160 (s7 3 g 0) (k_sd_indexOf g z3 (σ 13 g z3 7) σ)) fun t9 =>
      en_b1 (k_lg_add g g z3 (σ 13 g z3 7) t9 (s7 0 g 0 11) s7) fun s11 =>
      en_b1 (en_rd 160 (s11 3 g 0) (k_sd_indexOf g z3 (σ 13 g z3 7) σ)) fun t13 =>
      en_let (en_wr s11 12 g z6 4 t13) fun s15 =>
      en_let (en_wr s15 12 g z6 5 (k_sd_sizeOf g z3 (σ 13 g z3 7) s15)) fun s17 =>
      en_let (en_wr s17 0 g 0 15 (s17 13 g z3 0)) fun s19 =>
      en_b1 (k_cc_roundedUp (s19 12 g z6 5) (s19 0 g 0 9)) fun t21 =>
      en_let (en_wr s19 0 g 0 16 ((s19 0 g 0 11) + t21)) fun s23 =>
      en_let (en_wr s23 13 g z3 7 ((s23 13 g z3 7) + 1)) fun s25 =>
      some (1, s25)))
set_option maxRecDepth 100000 in
set_option maxHeartbeats 4000000 in
theorem s_cd_letLeave (G : en_G) (hz : G.2.2.2.2.2.2.2.2 = none) (d : Nat) {cs : List en_A} {σ : en_M} {g : Nat} {x0 : Int32} {s0 : en_M}  (h : k_cd_letLeave g σ = some (x0, s0)) : en_Mt G (d + 2) 0 0 M_cd_letLeave [.inr (.inl (some (0, g, 0)))] cs en_rf σ (.inr (some (.inl x0))) cs en_rf s0 := by
  refine en_meth (ls := [some (.inr (.inl (some (0, g, 0)))), none, none, none, none]) md_cd_letLeave rfl rfl rfl ?_
  unfold k_cd_letLeave at h
  refine en_s_aload_n rfl rfl ?_
  refine en_s_iconst rfl ?_
  obtain ⟨t1, h2, h⟩ := en_b1_h h
  refine en_callV (as := [.inl 0]) (rest := []) (bc' := 0) (bs' := 0) hz rfl (s_cd_readySend G hz (d + 0) h2) lk_0_219 mv_cd_readySend rfl rfl rfl rfl rfl (fun _ h => h) (Nat.le_refl _) (Nat.le_refl _) ?_
  refine en_o_astore_n (ls' := [some (.inr (.inl (some (0, g, 0)))), some (.inr (.inl (t1.map (fun z9 => (13, g, z9))))), none, none, none]) rfl rfl rfl ?_
  refine en_o_aload_n rfl rfl ?_
  cases t1 with
  | none =>
    dsimp only at h
    refine en_s_ifnonnullN rfl ?_
    refine en_s_null rfl ?_
    refine en_s_goto rfl ?_
    refine en_s_astore_nN (ls' := [some (.inr (.inl (some (0, g, 0)))), some (.inr (.inl none)), some (.inr (.inl none)), none, none]) rfl rfl rfl ?_
    refine en_s_aload_nN rfl rfl ?_
    refine en_s_ifnullN rfl ?_
    refine en_s_iconst rfl ?_
    cases h
    exact en_s_zret rfl rfl (Or.inl rfl)
  | some z3 =>
    dsimp only at h
    refine en_s_ifnonnull rfl ?_
    refine en_s_aload_n rfl rfl ?_
    refine en_s_aload_n rfl rfl ?_
    refine en_s_getI rfl rfl rfl ?_
    obtain ⟨t4, h5, h⟩ := en_b1_h h
    refine en_callV (as := [.inl (σ 13 g z3 1)]) (rest := []) (bc' := 0) (bs' := 0) hz rfl (s_cd_flowAt G hz (d + 1) h5) lk_0_123 mv_cd_flowAt rfl rfl rfl rfl rfl (fun _ h => h) (Nat.le_refl _) (Nat.le_refl _) ?_
    refine en_o_astore_n (ls' := [some (.inr (.inl (some (0, g, 0)))), some (.inr (.inl (some (13, g, z3)))), some (.inr (.inl (t4.map (fun z9 => (12, g, z9))))), none, none]) rfl rfl rfl ?_
    refine en_s_aload_n rfl rfl ?_
    refine en_s_ifnull rfl ?_
    refine en_o_aload_n rfl rfl ?_
    cases t4 with
    | none =>
      dsimp only at h
      refine en_s_ifnonnullN rfl ?_
      refine en_s_iconst rfl ?_
      cases h
      exact en_s_zret rfl rfl (Or.inl rfl)
    | some z6 =>
      dsimp only at h
      refine en_s_ifnonnull rfl ?_
      refine en_s_aload_n rfl rfl ?_
      refine en_s_getI rfl rfl rfl ?_
      refine en_s_istore_n (ls' := [some (.inr (.inl (some (0, g, 0)))), some (.inr (.inl (some (13, g, z3)))), some (.inr (.inl (some (12, g, z6)))), some (.inl (σ 13 g z3 7)), none]) rfl rfl rfl ?_
      refine en_s_aload_n rfl rfl ?_
      refine en_s_iload_n rfl rfl ?_
      refine en_callV (as := [.inl (σ 13 g z3 7)]) (rest := []) (bc' := 0) (bs' := 0) hz rfl (s_sd_indexOf G hz (d + 1) rfl) lk_0_179 mv_sd_indexOf rfl rfl rfl rfl rfl (fun _ h => h) (Nat.le_refl _) (Nat.le_refl _) ?_
      refine en_s_istore (ls' := [some (.inr (.inl (some (0, g, 0)))), some (.inr (.inl (some (13, g, z3)))), some (.inr (.inl (some (12, g, z6)))), some (.inl (σ 13 g z3 7)), some (.inl (k_sd_indexOf g z3 (σ 13 g z3 7) σ))]) rfl rfl rfl ?_
      refine en_s_aload_n rfl rfl ?_
      refine en_s_getR (w := some (4, g, 0)) rfl rfl rfl rfl ?_
      refine en_s_iload rfl rfl ?_
      refine en_s_aload_n rfl rfl ?_
      refine en_s_getI rfl rfl rfl ?_
      obtain ⟨s7, e8, h⟩ := en_b1_h h
      refine en_s_iast rfl rfl e8 ?_
      refine en_s_aload_n rfl rfl ?_
      refine en_s_getR (w := some (6, g, 0)) rfl rfl rfl rfl ?_
      refine en_s_aload_n rfl rfl ?_
      refine en_s_iload_n rfl rfl ?_
      refine en_s_aload_n rfl rfl ?_
      refine en_s_getR (w := some (3, g, 0)) rfl rfl rfl rfl ?_
      refine en_s_iload rfl rfl ?_
      obtain ⟨t9, h10, h⟩ := en_b1_h h
      refine en_s_iald rfl rfl h10 ?_
      refine en_s_aload_n rfl rfl ?_
      refine en_s_getI rfl rfl rfl ?_
      obtain ⟨s11, h12, h⟩ := en_b1_h h
      refine en_callV (as := [.inr (.inl (some (13, g, z3))), .inl (σ 13 g z3 7), .inl t9, .inl (s7 0 g 0 11)]) (rest := []) (bc' := 0) (bs' := 0) hz rfl (s_lg_add G hz (d + 0) h12) lk_0_226 mv_lg_add rfl rfl rfl rfl rfl (fun _ h => h) (Nat.le_refl _) (Nat.le_refl _) ?_
      refine en_s_aload_n rfl rfl ?_
      refine en_s_aload_n rfl rfl ?_
      refine en_s_getR (w := some (3, g, 0)) rfl rfl rfl rfl ?_
      refine en_s_iload rfl rfl ?_
      obtain ⟨t13, h14, h⟩ := en_b1_h h
      refine en_s_iald rfl rfl h14 ?_
      obtain ⟨s15, e16, h⟩ := en_let_h h
      refine en_p_putI e16 rfl rfl rfl rfl rfl ?_
      refine en_s_aload_n rfl rfl ?_
      refine en_s_aload_n rfl rfl ?_
      refine en_s_iload_n rfl rfl ?_
      refine en_callV (as := [.inl (σ 13 g z3 7)]) (rest := [.inr (.inl (some (12, g, z6)))]) (bc' := 0) (bs' := 0) hz rfl (s_sd_sizeOf G hz (d + 1) rfl) lk_0_233 mv_sd_sizeOf rfl rfl rfl rfl rfl (fun _ h => h) (Nat.le_refl _) (Nat.le_refl _) ?_
      obtain ⟨s17, e18, h⟩ := en_let_h h
      refine en_p_putI e18 rfl rfl rfl rfl rfl ?_
      refine en_s_aload_n rfl rfl ?_
      refine en_s_aload_n rfl rfl ?_
      refine en_s_getI rfl rfl rfl ?_
      obtain ⟨s19, e20, h⟩ := en_let_h h
      refine en_p_putI e20 rfl rfl rfl rfl rfl ?_
      refine en_s_aload_n rfl rfl ?_
      refine en_s_aload_n rfl rfl ?_
      refine en_s_getI rfl rfl rfl ?_
      refine en_s_aload_n rfl rfl ?_
      refine en_s_getI rfl rfl rfl ?_
      refine en_s_aload_n rfl rfl ?_
      refine en_s_getI rfl rfl rfl ?_
      obtain ⟨t21, h22, h⟩ := en_b1_h h
      refine en_callN (as := [.inl (s19 12 g z6 5), .inl (s19 0 g 0 9)]) (rest := [.inl (s19 0 g 0 11), .inr (.inl (some (0, g, 0)))]) (bc' := 0) (bs' := 0) hz rfl (s_cc_roundedUp G hz (d + 1) h22) lk_0_242 mv_cc_roundedUp rfl rfl rfl (fun _ h => h) (Nat.le_refl _) (Nat.le_refl _) ?_
      refine en_s_iadd rfl ?_
      obtain ⟨s23, e24, h⟩ := en_let_h h
      refine en_p_putI e24 rfl rfl rfl rfl rfl ?_
      refine en_s_aload_n rfl rfl ?_
      refine en_s_dup rfl rfl ?_
      refine en_s_getI rfl rfl rfl ?_
      refine en_s_iconst rfl ?_
      refine en_s_iadd rfl ?_
      obtain ⟨s25, e26, h⟩ := en_let_h h
      refine en_p_putI e26 rfl rfl rfl rfl rfl ?_
      refine en_s_iconst rfl ?_
      cases h
      exact en_s_zret rfl rfl (Or.inr rfl)
def k_cd_ringBell_91 (f0 : Nat) (g : Nat) (v1 : Int32) (v2 : Int32) (i3 : Nat) (v5 : Int32) (σ : en_M) : Option (en_M) := match f0 with
  | 0 => none
  | f9 + 1 =>
    if (σ 13 g i3 6) ≤ v5 then
      some (σ)
    else
      en_b1 (en_wa 160 σ 4 g 0 (k_sd_indexOf g i3 v5 σ) (-1)) fun s14 =>
      en_b1 (en_wa 160 s14 5 g 0 (k_sd_indexOf g i3 v5 s14) (-1)) fun s16 =>
      k_cd_ringBell_91 f9 g v1 v2 i3 (v5 + 1) s16
def k_cd_ringBell_7 (f0 : Nat) (g : Nat) (v1 : Int32) (v2 : Int32) (σ : en_M) : Option (Int32 × en_M) := match f0 with
  | 0 => none
  | f9 + 1 =>
    if (σ 0 g 0 13) ≤ v2 then
      some (v1, σ)
    else
      en_b1 (k_cd_sendAt g v2 σ) fun t2 =>
      (match t2 with
      | none =>
        k_cd_ringBell_7 f9 g v1 (v2 + 1) σ
      | some z4 =>
        en_b1 (k_cd_flowAt g (σ 13 g z4 1) σ) fun t5 =>
        (match t5 with
        | none =>
          k_cd_ringBell_7 f9 g v1 (v2 + 1) σ
        | some z7 =>
          if (σ 13 g z4 5) = 0 then
            en_b1 (k_sd_cutUp g z4 (σ 0 g 0 11) ((σ 12 g z7 1) + (σ 12 g z7 3)) σ) fun s9 =>
            en_let (en_wr s9 12 g z7 3 ((s9 12 g z7 3) + (s9 13 g z4 2))) fun s11 =>
            en_b1 (k_cd_ringBell_91 en_fu g v1 v2 z4 0 s11) fun s19 =>
            k_cd_ringBell_7 f9 g (v1 + 1) (v2 + 1) s19
          else
            k_cd_ringBell_7 f9 g v1 (v2 + 1) σ))
def k_cd_ringBell_141 (f0 : Nat) (g : Nat) (v1 : Int32) (v2 : Int32) (σ : en_M) : Option (en_M) := match f0 with
  | 0 => none
  | f9 + 1 =>
    if (σ 0 g 0 12) ≤ v2 then
      some (σ)
    else
      if 6 ≤ v2 then
        some (σ)
      else
        en_b1 (en_ix 6 v2) fun q30 =>
        en_b1 (en_ix 6 v2) fun q32 =>
        en_b2 (k_cd_putDeparts g v2 (σ 12 g q32 0) 3 g 0 σ) fun t34 s35 =>
        en_let (en_wr s35 12 g q30 6 t34) fun s37 =>
        k_cd_ringBell_141 f9 g v1 (v2 + 1) s37
def k_cd_ringBell (g : Nat) (σ : en_M) : Option (Int32 × en_M) :=
  en_b2 (k_cd_ringBell_7 en_fu g 0 (σ 0 g 0 14) σ) fun x21 s26 =>
  en_b1 (k_cd_ringBell_141 en_fu g x21 0 s26) fun s40 =>
  en_let (en_wr s40 11 g 0 0 ((s40 11 g 0 0) + 1)) fun s42 =>
  en_let (en_wr s42 11 g 0 1 ((s42 11 g 0 1) + (if 0 < (x21 - 1) then (x21 - 1) else 0))) fun s44 =>
  some (x21, s44)
set_option maxRecDepth 100000 in
set_option maxHeartbeats 4000000 in
theorem s_cd_ringBell_91 (G : en_G) (hz : G.2.2.2.2.2.2.2.2 = none) {d : Nat} {r : en_P} {cs cs' : List en_A} {ρ' : en_R} {σ' : en_M} : ∀ (f0 : Nat) {g : Nat} {v1 : Int32} {v2 : Int32} {i3 : Nat} {v5 : Int32} {e4 : Option en_V} {σ : en_M} {s0 : en_M} , k_cd_ringBell_91 f0 g v1 v2 i3 v5 σ = some (s0) →
    (∀ (f5 : Option en_V), en_W G (d + 2) 0 0 M_cd_ringBell r cs' ρ' σ' 0 0 130 [some (.inr (.inl (some (0, g, 0)))), some (.inl v1), some (.inl v2), some (.inr (.inl (some (13, g, i3)))), e4, f5] [] cs en_rf s0) → en_W G (d + 2) 0 0 M_cd_ringBell r cs' ρ' σ' 0 0 91 [some (.inr (.inl (some (0, g, 0)))), some (.inl v1), some (.inl v2), some (.inr (.inl (some (13, g, i3)))), e4, some (.inl v5)] [] cs en_rf σ := by
  intro f0
  induction f0 with
  | zero =>
    intros
    rename_i h _
    cases h
  | succ f9 ih =>
    intro g v1 v2 i3 v5 e4 σ s0 h hk
    rw [k_cd_ringBell_91] at h
    refine en_s_iload rfl rfl ?_
    refine en_s_aload_n rfl rfl ?_
    refine en_s_getI rfl rfl rfl ?_
    refine en_s_icmp_ge rfl (fun c13 => ?_) (fun c13 => ?_)
    · rw [if_pos c13] at h
      cases h
      exact hk (some (.inl v5))
    · rw [if_neg c13] at h
      refine en_s_aload_n rfl rfl ?_
      refine en_s_getR (w := some (4, g, 0)) rfl rfl rfl rfl ?_
      refine en_s_aload_n rfl rfl ?_
      refine en_s_iload rfl rfl ?_
      refine en_callV (as := [.inl v5]) (rest := [.inr (.inl (some (4, g, 0)))]) (bc' := 0) (bs' := 0) hz rfl (s_sd_indexOf G hz (d + 1) rfl) lk_0_179 mv_sd_indexOf rfl rfl rfl rfl rfl (fun _ h => h) (Nat.le_refl _) (Nat.le_refl _) ?_
      refine en_s_iconst rfl ?_
      obtain ⟨s14, e15, h⟩ := en_b1_h h
      refine en_s_iast rfl rfl e15 ?_
      refine en_s_aload_n rfl rfl ?_
      refine en_s_getR (w := some (5, g, 0)) rfl rfl rfl rfl ?_
      refine en_s_aload_n rfl rfl ?_
      refine en_s_iload rfl rfl ?_
      refine en_callV (as := [.inl v5]) (rest := [.inr (.inl (some (5, g, 0)))]) (bc' := 0) (bs' := 0) hz rfl (s_sd_indexOf G hz (d + 1) rfl) lk_0_179 mv_sd_indexOf rfl rfl rfl rfl rfl (fun _ h => h) (Nat.le_refl _) (Nat.le_refl _) ?_
      refine en_s_iconst rfl ?_
      obtain ⟨s16, e17, h⟩ := en_b1_h h
      refine en_s_iast rfl rfl e17 ?_
      refine en_s_iinc (ls' := [some (.inr (.inl (some (0, g, 0)))), some (.inl v1), some (.inl v2), some (.inr (.inl (some (13, g, i3)))), e4, some (.inl (v5 + 1))]) rfl rfl rfl ?_
      refine en_s_goto rfl ?_
      exact ih (e4 := e4) h hk
set_option maxRecDepth 100000 in
set_option maxHeartbeats 4000000 in
theorem s_cd_ringBell_7 (G : en_G) (hz : G.2.2.2.2.2.2.2.2 = none) {d : Nat} {r : en_P} {cs cs' : List en_A} {ρ' : en_R} {σ' : en_M} : ∀ (f0 : Nat) {g : Nat} {v1 : Int32} {v2 : Int32} {e3 e4 e5 : Option en_V} {σ : en_M} {x1 : Int32} {s0 : en_M} , k_cd_ringBell_7 f0 g v1 v2 σ = some (x1, s0) →
    (∀ (f2 : Option en_V) (f3 : Option en_V) (f4 : Option en_V) (f5 : Option en_V), en_W G (d + 2) 0 0 M_cd_ringBell r cs' ρ' σ' 0 0 139 [some (.inr (.inl (some (0, g, 0)))), some (.inl x1), f2, f3, f4, f5] [] cs en_rf s0) → en_W G (d + 2) 0 0 M_cd_ringBell r cs' ρ' σ' 0 0 7 [some (.inr (.inl (some (0, g, 0)))), some (.inl v1), some (.inl v2), e3, e4, e5] [] cs en_rf σ := by
  intro f0
  induction f0 with
  | zero =>
    intros
    rename_i h _
    cases h
  | succ f9 ih =>
    intro g v1 v2 e3 e4 e5 σ x1 s0 h hk
    rw [k_cd_ringBell_7] at h
    refine en_s_iload_n rfl rfl ?_
    refine en_s_aload_n rfl rfl ?_
    refine en_s_getI rfl rfl rfl ?_
    refine en_s_icmp_ge rfl (fun c1 => ?_) (fun c1 => ?_)
    · rw [if_pos c1] at h
      cases h
      exact hk (some (.inl v2)) (e3) (e4) (e5)
    · rw [if_neg c1] at h
      refine en_s_aload_n rfl rfl ?_
      refine en_s_iload_n rfl rfl ?_
      obtain ⟨t2, h3, h⟩ := en_b1_h h
      refine en_callV (as := [.inl v2]) (rest := []) (bc' := 0) (bs' := 0) hz rfl (s_cd_sendAt G hz (d + 1) h3) lk_0_115 mv_cd_sendAt rfl rfl rfl rfl rfl (fun _ h => h) (Nat.le_refl _) (Nat.le_refl _) ?_
      refine en_o_astore_n (ls' := [some (.inr (.inl (some (0, g, 0)))), some (.inl v1), some (.inl v2), some (.inr (.inl (t2.map (fun z9 => (13, g, z9))))), e4, e5]) rfl rfl rfl ?_
      refine en_o_aload_n rfl rfl ?_
      cases t2 with
      | none =>
        dsimp only at h
        refine en_s_ifnonnullN rfl ?_
        refine en_s_null rfl ?_
        refine en_s_goto rfl ?_
        refine en_s_astoreN (ls' := [some (.inr (.inl (some (0, g, 0)))), some (.inl v1), some (.inl v2), some (.inr (.inl none)), some (.inr (.inl none)), e5]) rfl rfl rfl ?_
        refine en_s_aload_nN rfl rfl ?_
        refine en_s_ifnullN rfl ?_
        refine en_s_iinc (ls' := [some (.inr (.inl (some (0, g, 0)))), some (.inl v1), some (.inl (v2 + 1)), some (.inr (.inl none)), some (.inr (.inl none)), e5]) rfl rfl rfl ?_
        refine en_s_goto rfl ?_
        exact ih (e3 := some (.inr (.inl none))) (e4 := some (.inr (.inl none))) (e5 := e5) h hk
      | some z4 =>
        dsimp only at h
        refine en_s_ifnonnull rfl ?_
        refine en_s_aload_n rfl rfl ?_
        refine en_s_aload_n rfl rfl ?_
        refine en_s_getI rfl rfl rfl ?_
        obtain ⟨t5, h6, h⟩ := en_b1_h h
        refine en_callV (as := [.inl (σ 13 g z4 1)]) (rest := []) (bc' := 0) (bs' := 0) hz rfl (s_cd_flowAt G hz (d + 1) h6) lk_0_123 mv_cd_flowAt rfl rfl rfl rfl rfl (fun _ h => h) (Nat.le_refl _) (Nat.le_refl _) ?_
        refine en_o_astore (ls' := [some (.inr (.inl (some (0, g, 0)))), some (.inl v1), some (.inl v2), some (.inr (.inl (some (13, g, z4)))), some (.inr (.inl (t5.map (fun z9 => (12, g, z9))))), e5]) rfl rfl rfl ?_
        refine en_s_aload_n rfl rfl ?_
        refine en_s_ifnull rfl ?_
        refine en_o_aload rfl rfl ?_
        cases t5 with
        | none =>
          dsimp only at h
          refine en_s_ifnullN rfl ?_
          refine en_s_iinc (ls' := [some (.inr (.inl (some (0, g, 0)))), some (.inl v1), some (.inl (v2 + 1)), some (.inr (.inl (some (13, g, z4)))), some (.inr (.inl none)), e5]) rfl rfl rfl ?_
          refine en_s_goto rfl ?_
          exact ih (e3 := some (.inr (.inl (some (13, g, z4))))) (e4 := some (.inr (.inl none))) (e5 := e5) h hk
        | some z7 =>
          dsimp only at h
          refine en_s_ifnull rfl ?_
          refine en_s_aload_n rfl rfl ?_
          refine en_s_getI rfl rfl rfl ?_
          refine en_s_if_ne rfl (fun c8 => ?_) (fun c8 => ?_)
          · rw [if_neg c8] at h
            refine en_s_iinc (ls' := [some (.inr (.inl (some (0, g, 0)))), some (.inl v1), some (.inl (v2 + 1)), some (.inr (.inl (some (13, g, z4)))), some (.inr (.inl (some (12, g, z7)))), e5]) rfl rfl rfl ?_
            refine en_s_goto rfl ?_
            exact ih (e3 := some (.inr (.inl (some (13, g, z4))))) (e4 := some (.inr (.inl (some (12, g, z7))))) (e5 := e5) h hk
          · rw [if_pos c8] at h
            refine en_s_aload_n rfl rfl ?_
            refine en_s_aload_n rfl rfl ?_
            refine en_s_getI rfl rfl rfl ?_
            refine en_s_aload rfl rfl ?_
            refine en_s_getI rfl rfl rfl ?_
            refine en_s_aload rfl rfl ?_
            refine en_s_getI rfl rfl rfl ?_
            refine en_s_iadd rfl ?_
            obtain ⟨s9, h10, h⟩ := en_b1_h h
            refine en_callV (as := [.inl (σ 0 g 0 11), .inl ((σ 12 g z7 1) + (σ 12 g z7 3))]) (rest := []) (bc' := 0) (bs' := 0) hz rfl (s_sd_cutUp G hz (d + 0) h10) lk_0_170 mv_sd_cutUp rfl rfl rfl rfl rfl (fun _ h => h) (Nat.le_refl _) (Nat.le_refl _) ?_
            refine en_s_aload rfl rfl ?_
            refine en_s_dup rfl rfl ?_
            refine en_s_getI rfl rfl rfl ?_
            refine en_s_aload_n rfl rfl ?_
            refine en_s_getI rfl rfl rfl ?_
            refine en_s_iadd rfl ?_
            obtain ⟨s11, e12, h⟩ := en_let_h h
            refine en_p_putI e12 rfl rfl rfl rfl rfl ?_
            refine en_s_iconst rfl ?_
            refine en_s_istore (ls' := [some (.inr (.inl (some (0, g, 0)))), some (.inl v1), some (.inl v2), some (.inr (.inl (some (13, g, z4)))), some (.inr (.inl (some (12, g, z7)))), some (.inl 0)]) rfl rfl rfl ?_
            obtain ⟨s19, h20, h⟩ := en_b1_h h
            refine s_cd_ringBell_91 G hz en_fu (e4 := some (.inr (.inl (some (12, g, z7))))) h20 (fun f18 => ?_)
            refine en_s_iinc (ls' := [some (.inr (.inl (some (0, g, 0)))), some (.inl (v1 + 1)), some (.inl v2), some (.inr (.inl (some (13, g, z4)))), some (.inr (.inl (some (12, g, z7)))), f18]) rfl rfl rfl ?_
            refine en_s_iinc (ls' := [some (.inr (.inl (some (0, g, 0)))), some (.inl (v1 + 1)), some (.inl (v2 + 1)), some (.inr (.inl (some (13, g, z4)))), some (.inr (.inl (some (12, g, z7)))), f18]) rfl rfl rfl ?_
            refine en_s_goto rfl ?_
            exact ih (e3 := some (.inr (.inl (some (13, g, z4))))) (e4 := some (.inr (.inl (some (12, g, z7))))) (e5 := f18) h hk
set_option maxRecDepth 100000 in
set_option maxHeartbeats 4000000 in
theorem s_cd_ringBell_141 (G : en_G) (hz : G.2.2.2.2.2.2.2.2 = none) {d : Nat} {r : en_P} {cs cs' : List en_A} {ρ' : en_R} {σ' : en_M} : ∀ (f0 : Nat) {g : Nat} {v1 : Int32} {v2 : Int32} {e3 e4 e5 : Option en_V} {σ : en_M} {s0 : en_M} , k_cd_ringBell_141 f0 g v1 v2 σ = some (s0) →
    (∀ (f2 : Option en_V), en_W G (d + 2) 0 0 M_cd_ringBell r cs' ρ' σ' 0 0 188 [some (.inr (.inl (some (0, g, 0)))), some (.inl v1), f2, e3, e4, e5] [] cs en_rf s0) → en_W G (d + 2) 0 0 M_cd_ringBell r cs' ρ' σ' 0 0 141 [some (.inr (.inl (some (0, g, 0)))), some (.inl v1), some (.inl v2), e3, e4, e5] [] cs en_rf σ := by
  intro f0
  induction f0 with
  | zero =>
    intros
    rename_i h _
    cases h
  | succ f9 ih =>
    intro g v1 v2 e3 e4 e5 σ s0 h hk
    rw [k_cd_ringBell_141] at h
    refine en_s_iload_n rfl rfl ?_
    refine en_s_aload_n rfl rfl ?_
    refine en_s_getI rfl rfl rfl ?_
    refine en_s_icmp_ge rfl (fun c28 => ?_) (fun c28 => ?_)
    · rw [if_pos c28] at h
      cases h
      exact hk (some (.inl v2))
    · rw [if_neg c28] at h
      refine en_s_iload_n rfl rfl ?_
      refine en_s_bipush rfl ?_
      refine en_s_icmp_ge rfl (fun c29 => ?_) (fun c29 => ?_)
      · rw [if_pos c29] at h
        cases h
        exact hk (some (.inl v2))
      · rw [if_neg c29] at h
        refine en_s_aload_n rfl rfl ?_
        refine en_s_getR (w := some (1, g, 0)) rfl rfl rfl rfl ?_
        refine en_s_iload_n rfl rfl ?_
        obtain ⟨q30, h31, h⟩ := en_b1_h h
        refine en_p_aald (t := 0) (w := some (12, g, q30)) h31 rfl rfl (fun _ => rfl) rfl ?_
        refine en_s_aload_n rfl rfl ?_
        refine en_s_iload_n rfl rfl ?_
        refine en_s_aload_n rfl rfl ?_
        refine en_s_getR (w := some (1, g, 0)) rfl rfl rfl rfl ?_
        refine en_s_iload_n rfl rfl ?_
        obtain ⟨q32, h33, h⟩ := en_b1_h h
        refine en_p_aald (t := 0) (w := some (12, g, q32)) h33 rfl rfl (fun _ => rfl) rfl ?_
        refine en_s_getI rfl rfl rfl ?_
        refine en_s_aload_n rfl rfl ?_
        refine en_s_getR (w := some (3, g, 0)) rfl rfl rfl rfl ?_
        obtain ⟨t34, s35, h36, h⟩ := en_b2_h h
        refine en_callV (as := [.inl v2, .inl (σ 12 g q32 0), .inr (.inl (some (3, g, 0)))]) (rest := [.inr (.inl (some (12, g, q30)))]) (bc' := 0) (bs' := 0) hz rfl (s_cd_putDeparts G hz (d + 0) rfl h36) lk_0_185 mv_cd_putDeparts rfl rfl rfl rfl rfl (fun _ h => h) (Nat.le_refl _) (Nat.le_refl _) ?_
        obtain ⟨s37, e38, h⟩ := en_let_h h
        refine en_p_putI e38 rfl rfl rfl rfl rfl ?_
        refine en_s_iinc (ls' := [some (.inr (.inl (some (0, g, 0)))), some (.inl v1), some (.inl (v2 + 1)), e3, e4, e5]) rfl rfl rfl ?_
        refine en_s_goto rfl ?_
        exact ih (e3 := e3) (e4 := e4) (e5 := e5) h hk
set_option maxRecDepth 100000 in
set_option maxHeartbeats 4000000 in
theorem s_cd_ringBell (G : en_G) (hz : G.2.2.2.2.2.2.2.2 = none) (d : Nat) {cs : List en_A} {σ : en_M} {g : Nat} {x0 : Int32} {s0 : en_M}  (h : k_cd_ringBell g σ = some (x0, s0)) : en_Mt G (d + 2) 0 0 M_cd_ringBell [.inr (.inl (some (0, g, 0)))] cs en_rf σ (.inr (some (.inl x0))) cs en_rf s0 := by
  refine en_meth (ls := [some (.inr (.inl (some (0, g, 0)))), none, none, none, none, none]) md_cd_ringBell rfl rfl rfl ?_
  unfold k_cd_ringBell at h
  refine en_s_iconst rfl ?_
  refine en_s_istore_n (ls' := [some (.inr (.inl (some (0, g, 0)))), some (.inl 0), none, none, none, none]) rfl rfl rfl ?_
  refine en_s_aload_n rfl rfl ?_
  refine en_s_getI rfl rfl rfl ?_
  refine en_s_istore_n (ls' := [some (.inr (.inl (some (0, g, 0)))), some (.inl 0), some (.inl (σ 0 g 0 14)), none, none, none]) rfl rfl rfl ?_
  obtain ⟨x21, s26, h27, h⟩ := en_b2_h h
  refine s_cd_ringBell_7 G hz en_fu (e3 := none) (e4 := none) (e5 := none) h27 (fun f22 f23 f24 f25 => ?_)
  refine en_s_iconst rfl ?_
  refine en_s_istore_n (ls' := [some (.inr (.inl (some (0, g, 0)))), some (.inl x21), some (.inl 0), f23, f24, f25]) rfl rfl rfl ?_
  obtain ⟨s40, h41, h⟩ := en_b1_h h
  refine s_cd_ringBell_141 G hz en_fu (e3 := f23) (e4 := f24) (e5 := f25) h41 (fun f39 => ?_)
  refine en_s_aload_n rfl rfl ?_
  refine en_s_getR (w := some (11, g, 0)) rfl rfl rfl rfl ?_
  refine en_s_dup rfl rfl ?_
  refine en_s_getI rfl rfl rfl ?_
  refine en_s_iconst rfl ?_
  refine en_s_iadd rfl ?_
  obtain ⟨s42, e43, h⟩ := en_let_h h
  refine en_p_putI e43 rfl rfl rfl rfl rfl ?_
  refine en_s_aload_n rfl rfl ?_
  refine en_s_getR (w := some (11, g, 0)) rfl rfl rfl rfl ?_
  refine en_s_dup rfl rfl ?_
  refine en_s_getI rfl rfl rfl ?_
  refine en_s_iconst rfl ?_
  refine en_s_iload_n rfl rfl ?_
  refine en_s_iconst rfl ?_
  refine en_s_isub rfl ?_
  refine en_s_max rfl (en_tw_of (i := 676) (by decide +kernel) (by decide +kernel)) mx_st_max mx_in mx_cd_max rfl ?_
  refine en_s_iadd rfl ?_
  obtain ⟨s44, e45, h⟩ := en_let_h h
  refine en_p_putI e45 rfl rfl rfl rfl rfl ?_
  refine en_s_iload_n rfl rfl ?_
  cases h
  exact en_s_iret rfl rfl
def k_cd_post (g : Nat) (v1 : Int32) (v2 : Int32) (v3 : Int32) (v4 : Int32) (σ : en_M) : Option (Int32 × en_M) :=
  en_b1 (en_ix 8 (en_fm (σ 0 g 0 13) 8)) fun q1 =>
  en_b1 (k_sd_begin g q1 (σ 0 g 0 13) v1 v2 v3 v4 σ) fun s3 =>
  en_let (en_wr s3 0 g 0 13 ((s3 0 g 0 13) + 1)) fun s5 =>
  en_b1 (k_cd_inState g 0 s5) fun t7 =>
  if t7 < (s5 0 g 0 10) then
    some (σ 0 g 0 13, s5)
  else
    en_b2 (k_cd_ringBell g s5) fun t10 s11 =>
    some (σ 0 g 0 13, s11)
set_option maxRecDepth 100000 in
set_option maxHeartbeats 4000000 in
theorem s_cd_post (G : en_G) (hz : G.2.2.2.2.2.2.2.2 = none) (d : Nat) {cs : List en_A} {σ : en_M} {g : Nat} {v1 : Int32} {v2 : Int32} {v3 : Int32} {v4 : Int32} {x0 : Int32} {s0 : en_M}  (h : k_cd_post g v1 v2 v3 v4 σ = some (x0, s0)) : en_Mt G (d + 3) 0 0 M_cd_post [.inr (.inl (some (0, g, 0))), .inl v1, .inl v2, .inl v3, .inl v4] cs en_rf σ (.inr (some (.inl x0))) cs en_rf s0 := by
  refine en_meth (ls := [some (.inr (.inl (some (0, g, 0)))), some (.inl v1), some (.inl v2), some (.inl v3), some (.inl v4), none]) md_cd_post rfl rfl rfl ?_
  unfold k_cd_post at h
  refine en_s_aload_n rfl rfl ?_
  refine en_s_getI rfl rfl rfl ?_
  refine en_s_istore (ls' := [some (.inr (.inl (some (0, g, 0)))), some (.inl v1), some (.inl v2), some (.inl v3), some (.inl v4), some (.inl (σ 0 g 0 13))]) rfl rfl rfl ?_
  refine en_s_aload_n rfl rfl ?_
  refine en_s_getR (w := some (2, g, 0)) rfl rfl rfl rfl ?_
  refine en_s_iload rfl rfl ?_
  refine en_s_bipush rfl ?_
  refine en_s_fmod hz rfl (en_tw_of (i := 1001) (by decide +kernel) (by decide +kernel)) (by decide) rfl ?_
  obtain ⟨q1, h2, h⟩ := en_b1_h h
  refine en_p_aald (t := 1) (w := some (13, g, q1)) h2 rfl rfl (fun _ => rfl) rfl ?_
  refine en_s_iload rfl rfl ?_
  refine en_s_iload_n rfl rfl ?_
  refine en_s_iload_n rfl rfl ?_
  refine en_s_iload_n rfl rfl ?_
  refine en_s_iload rfl rfl ?_
  obtain ⟨s3, h4, h⟩ := en_b1_h h
  refine en_callV (as := [.inl (σ 0 g 0 13), .inl v1, .inl v2, .inl v3, .inl v4]) (rest := []) (bc' := 0) (bs' := 0) hz rfl (s_sd_begin G hz (d + 2) h4) lk_0_147 mv_sd_begin rfl rfl rfl rfl rfl (fun _ h => h) (Nat.le_refl _) (Nat.le_refl _) ?_
  refine en_s_aload_n rfl rfl ?_
  refine en_s_dup rfl rfl ?_
  refine en_s_getI rfl rfl rfl ?_
  refine en_s_iconst rfl ?_
  refine en_s_iadd rfl ?_
  obtain ⟨s5, e6, h⟩ := en_let_h h
  refine en_p_putI e6 rfl rfl rfl rfl rfl ?_
  refine en_s_aload_n rfl rfl ?_
  refine en_s_iconst rfl ?_
  obtain ⟨t7, h8, h⟩ := en_b1_h h
  refine en_callV (as := [.inl 0]) (rest := []) (bc' := 0) (bs' := 0) hz rfl (s_cd_inState G hz (d + 1) h8) lk_0_150 mv_cd_inState rfl rfl rfl rfl rfl (fun _ h => h) (Nat.le_refl _) (Nat.le_refl _) ?_
  refine en_s_aload_n rfl rfl ?_
  refine en_s_getI rfl rfl rfl ?_
  refine en_s_icmp_lt rfl (fun c9 => ?_) (fun c9 => ?_)
  · rw [if_pos c9] at h
    refine en_s_iload rfl rfl ?_
    cases h
    exact en_s_iret rfl rfl
  · rw [if_neg c9] at h
    refine en_s_aload_n rfl rfl ?_
    obtain ⟨t10, s11, h12, h⟩ := en_b2_h h
    refine en_callV (as := []) (rest := []) (bc' := 0) (bs' := 0) hz rfl (s_cd_ringBell G hz (d + 0) h12) lk_0_154 mv_cd_ringBell rfl rfl rfl rfl rfl (fun _ h => h) (Nat.le_refl _) (Nat.le_refl _) ?_
    refine en_s_pop rfl rfl ?_
    refine en_s_iload rfl rfl ?_
    cases h
    exact en_s_iret rfl rfl
def k_cd_reset (g : Nat) (v1 : Int32) (v2 : Int32) (v3 : Int32) (σ : en_M) : Option (en_M) :=
  en_let (en_wr σ 0 g 0 8 v1) fun s1 =>
  en_let (en_wr s1 0 g 0 9 v2) fun s3 =>
  en_let (en_wr s3 0 g 0 10 v3) fun s5 =>
  en_let (en_wr s5 0 g 0 11 0) fun s7 =>
  en_let (en_wr s7 0 g 0 12 0) fun s9 =>
  en_let (en_wr s9 0 g 0 13 0) fun s11 =>
  en_let (en_wr s11 0 g 0 14 0) fun s13 =>
  en_let (en_wr s13 0 g 0 15 (-1)) fun s15 =>
  en_let (en_wr s15 0 g 0 16 0) fun s17 =>
  en_b1 (k_lg_clear g s17) fun s19 =>
  en_b1 (k_fi_clear g s19) fun s21 =>
  en_b1 (k_ta_clear g s21) fun s23 =>
  some s23
set_option maxRecDepth 100000 in
set_option maxHeartbeats 4000000 in
theorem s_cd_reset (G : en_G) (hz : G.2.2.2.2.2.2.2.2 = none) (d : Nat) {cs : List en_A} {σ : en_M} {g : Nat} {v1 : Int32} {v2 : Int32} {v3 : Int32} {s0 : en_M}  (h : k_cd_reset g v1 v2 v3 σ = some s0) : en_Mt G (d + 1) 0 0 M_cd_reset [.inr (.inl (some (0, g, 0))), .inl v1, .inl v2, .inl v3] cs en_rf σ (.inr (none)) cs en_rf s0 := by
  refine en_meth (ls := [some (.inr (.inl (some (0, g, 0)))), some (.inl v1), some (.inl v2), some (.inl v3)]) md_cd_reset rfl rfl rfl ?_
  unfold k_cd_reset at h
  refine en_s_aload_n rfl rfl ?_
  refine en_s_iload_n rfl rfl ?_
  obtain ⟨s1, e2, h⟩ := en_let_h h
  refine en_p_putI e2 rfl rfl rfl rfl rfl ?_
  refine en_s_aload_n rfl rfl ?_
  refine en_s_iload_n rfl rfl ?_
  obtain ⟨s3, e4, h⟩ := en_let_h h
  refine en_p_putI e4 rfl rfl rfl rfl rfl ?_
  refine en_s_aload_n rfl rfl ?_
  refine en_s_iload_n rfl rfl ?_
  obtain ⟨s5, e6, h⟩ := en_let_h h
  refine en_p_putI e6 rfl rfl rfl rfl rfl ?_
  refine en_s_aload_n rfl rfl ?_
  refine en_s_iconst rfl ?_
  obtain ⟨s7, e8, h⟩ := en_let_h h
  refine en_p_putI e8 rfl rfl rfl rfl rfl ?_
  refine en_s_aload_n rfl rfl ?_
  refine en_s_iconst rfl ?_
  obtain ⟨s9, e10, h⟩ := en_let_h h
  refine en_p_putI e10 rfl rfl rfl rfl rfl ?_
  refine en_s_aload_n rfl rfl ?_
  refine en_s_iconst rfl ?_
  obtain ⟨s11, e12, h⟩ := en_let_h h
  refine en_p_putI e12 rfl rfl rfl rfl rfl ?_
  refine en_s_aload_n rfl rfl ?_
  refine en_s_iconst rfl ?_
  obtain ⟨s13, e14, h⟩ := en_let_h h
  refine en_p_putI e14 rfl rfl rfl rfl rfl ?_
  refine en_s_aload_n rfl rfl ?_
  refine en_s_iconst rfl ?_
  obtain ⟨s15, e16, h⟩ := en_let_h h
  refine en_p_putI e16 rfl rfl rfl rfl rfl ?_
  refine en_s_aload_n rfl rfl ?_
  refine en_s_iconst rfl ?_
  obtain ⟨s17, e18, h⟩ := en_let_h h
  refine en_p_putI e18 rfl rfl rfl rfl rfl ?_
  refine en_s_aload_n rfl rfl ?_
  refine en_s_getR (w := some (6, g, 0)) rfl rfl rfl rfl ?_
  obtain ⟨s19, h20, h⟩ := en_b1_h h
  refine en_callV (as := []) (rest := []) (bc' := 0) (bs' := 0) hz rfl (s_lg_clear G hz (d + 0) h20) lk_0_88 mv_lg_clear rfl rfl rfl rfl rfl (fun _ h => h) (Nat.le_refl _) (Nat.le_refl _) ?_
  refine en_s_aload_n rfl rfl ?_
  refine en_s_getR (w := some (8, g, 0)) rfl rfl rfl rfl ?_
  obtain ⟨s21, h22, h⟩ := en_b1_h h
  refine en_callV (as := []) (rest := []) (bc' := 0) (bs' := 0) hz rfl (s_fi_clear G hz (d + 0) h22) lk_0_91 mv_fi_clear rfl rfl rfl rfl rfl (fun _ h => h) (Nat.le_refl _) (Nat.le_refl _) ?_
  refine en_s_aload_n rfl rfl ?_
  refine en_s_getR (w := some (11, g, 0)) rfl rfl rfl rfl ?_
  obtain ⟨s23, h24, h⟩ := en_b1_h h
  refine en_callV (as := []) (rest := []) (bc' := 0) (bs' := 0) hz rfl (s_ta_clear G hz (d + 0) h24) lk_0_92 mv_ta_clear rfl rfl rfl rfl rfl (fun _ h => h) (Nat.le_refl _) (Nat.le_refl _) ?_
  cases h
  exact en_s_vret rfl rfl
def k_cd_runTicks_4 (f0 : Nat) (g : Nat) (v1 : Int32) (v2 : Int32) (v3 : Int32) (σ : en_M) : Option (Int32 × en_M) := match f0 with
  | 0 => none
  | f9 + 1 =>
    if v1 ≤ v3 then
      some (v2, σ)
    else
      if 9999 ≤ (σ 0 g 0 11) then
        some (v2, σ)
      else
        if (σ 0 g 0 15) = (-1) then
          en_b2 (k_cd_letLeave g σ) fun t34 s35 =>
          if t34 = 0 then
            if (s35 0 g 0 15) = (-1) then
              en_let (en_wr s35 11 g 0 4 ((s35 11 g 0 4) + 1)) fun s39 =>
              en_b1 (k_cd_readySend g 1 s39) fun t41 =>
              (match t41 with
              | none =>
                en_let (en_wr s39 11 g 0 5 ((s39 11 g 0 5) + 0)) fun s44 =>
                en_let (en_wr s44 0 g 0 11 ((s44 0 g 0 11) + 1)) fun s46 =>
                if (s46 0 g 0 15) = (-1) then
                  k_cd_runTicks_4 f9 g v1 v2 (v3 + 1) s46
                else
                  if (s46 0 g 0 11) < (s46 0 g 0 16) then
                    k_cd_runTicks_4 f9 g v1 v2 (v3 + 1) s46
                  else
                    en_b1 (k_cd_letGo g s46) fun s50 =>
                    k_cd_runTicks_4 f9 g v1 v2 (v3 + 1) s50
              | some z43 =>
                en_let (en_wr s39 11 g 0 5 ((s39 11 g 0 5) + 1)) fun s52 =>
                en_let (en_wr s52 0 g 0 11 ((s52 0 g 0 11) + 1)) fun s54 =>
                if (s54 0 g 0 15) = (-1) then
                  k_cd_runTicks_4 f9 g v1 v2 (v3 + 1) s54
                else
                  if (s54 0 g 0 11) < (s54 0 g 0 16) then
                    k_cd_runTicks_4 f9 g v1 v2 (v3 + 1) s54
                  else
                    en_b1 (k_cd_letGo g s54) fun s58 =>
                    k_cd_runTicks_4 f9 g v1 v2 (v3 + 1) s58)
            else
              en_let (en_wr s35 11 g 0 3 ((s35 11 g 0 3) + 1)) fun s60 =>
              en_let (en_wr s60 0 g 0 11 ((s60 0 g 0 11) + 1)) fun s62 =>
              if (s62 0 g 0 15) = (-1) then
                k_cd_runTicks_4 f9 g v1 v2 (v3 + 1) s62
              else
                if (s62 0 g 0 11) < (s62 0 g 0 16) then
                  k_cd_runTicks_4 f9 g v1 v2 (v3 + 1) s62
                else
                  en_b1 (k_cd_letGo g s62) fun s66 =>
                  k_cd_runTicks_4 f9 g v1 v2 (v3 + 1) s66
          else
            if (s35 0 g 0 15) = (-1) then
              en_let (en_wr s35 11 g 0 4 ((s35 11 g 0 4) + 1)) fun s69 =>
              en_b1 (k_cd_readySend g 1 s69) fun t71 =>
              (match t71 with
              | none =>
                en_let (en_wr s69 11 g 0 5 ((s69 11 g 0 5) + 0)) fun s74 =>
                en_let (en_wr s74 0 g 0 11 ((s74 0 g 0 11) + 1)) fun s76 =>
                if (s76 0 g 0 15) = (-1) then
                  k_cd_runTicks_4 f9 g v1 (v2 + 1) (v3 + 1) s76
                else
                  if (s76 0 g 0 11) < (s76 0 g 0 16) then
                    k_cd_runTicks_4 f9 g v1 (v2 + 1) (v3 + 1) s76
                  else
                    en_b1 (k_cd_letGo g s76) fun s80 =>
                    k_cd_runTicks_4 f9 g v1 (v2 + 1) (v3 + 1) s80
              | some z73 =>
                en_let (en_wr s69 11 g 0 5 ((s69 11 g 0 5) + 1)) fun s82 =>
                en_let (en_wr s82 0 g 0 11 ((s82 0 g 0 11) + 1)) fun s84 =>
                if (s84 0 g 0 15) = (-1) then
                  k_cd_runTicks_4 f9 g v1 (v2 + 1) (v3 + 1) s84
                else
                  if (s84 0 g 0 11) < (s84 0 g 0 16) then
                    k_cd_runTicks_4 f9 g v1 (v2 + 1) (v3 + 1) s84
                  else
                    en_b1 (k_cd_letGo g s84) fun s88 =>
                    k_cd_runTicks_4 f9 g v1 (v2 + 1) (v3 + 1) s88)
            else
              en_let (en_wr s35 11 g 0 3 ((s35 11 g 0 3) + 1)) fun s90 =>
              en_let (en_wr s90 0 g 0 11 ((s90 0 g 0 11) + 1)) fun s92 =>
              if (s92 0 g 0 15) = (-1) then
                k_cd_runTicks_4 f9 g v1 (v2 + 1) (v3 + 1) s92
              else
                if (s92 0 g 0 11) < (s92 0 g 0 16) then
                  k_cd_runTicks_4 f9 g v1 (v2 + 1) (v3 + 1) s92
                else
                  en_b1 (k_cd_letGo g s92) fun s96 =>
                  k_cd_runTicks_4 f9 g v1 (v2 + 1) (v3 + 1) s96
        else
          if (σ 0 g 0 15) = (-1) then
            en_let (en_wr σ 11 g 0 4 ((σ 11 g 0 4) + 1)) fun s5 =>
            en_b1 (k_cd_readySend g 1 s5) fun t7 =>
            (match t7 with
            | none =>
              en_let (en_wr s5 11 g 0 5 ((s5 11 g 0 5) + 0)) fun s10 =>
              en_let (en_wr s10 0 g 0 11 ((s10 0 g 0 11) + 1)) fun s12 =>
              if (s12 0 g 0 15) = (-1) then
                k_cd_runTicks_4 f9 g v1 v2 (v3 + 1) s12
              else
                if (s12 0 g 0 11) < (s12 0 g 0 16) then
                  k_cd_runTicks_4 f9 g v1 v2 (v3 + 1) s12
                else
                  en_b1 (k_cd_letGo g s12) fun s16 =>
                  k_cd_runTicks_4 f9 g v1 v2 (v3 + 1) s16
            | some z9 =>
              en_let (en_wr s5 11 g 0 5 ((s5 11 g 0 5) + 1)) fun s18 =>
              en_let (en_wr s18 0 g 0 11 ((s18 0 g 0 11) + 1)) fun s20 =>
              if (s20 0 g 0 15) = (-1) then
                k_cd_runTicks_4 f9 g v1 v2 (v3 + 1) s20
              else
                if (s20 0 g 0 11) < (s20 0 g 0 16) then
                  k_cd_runTicks_4 f9 g v1 v2 (v3 + 1) s20
                else
                  en_b1 (k_cd_letGo g s20) fun s24 =>
                  k_cd_runTicks_4 f9 g v1 v2 (v3 + 1) s24)
          else
            en_let (en_wr σ 11 g 0 3 ((σ 11 g 0 3) + 1)) fun s26 =>
            en_let (en_wr s26 0 g 0 11 ((s26 0 g 0 11) + 1)) fun s28 =>
            if (s28 0 g 0 15) = (-1) then
              k_cd_runTicks_4 f9 g v1 v2 (v3 + 1) s28
            else
              if (s28 0 g 0 11) < (s28 0 g 0 16) then
                k_cd_runTicks_4 f9 g v1 v2 (v3 + 1) s28
              else
                en_b1 (k_cd_letGo g s28) fun s32 =>
                k_cd_runTicks_4 f9 g v1 v2 (v3 + 1) s32
def k_cd_runTicks (g : Nat) (v1 : Int32) (σ : en_M) : Option (Int32 × en_M) :=
  en_b2 (k_cd_runTicks_4 en_fu g v1 0 0 σ) fun x98 s100 =>
  some (x98, s100)
set_option maxRecDepth 100000 in
set_option maxHeartbeats 4000000 in
theorem s_cd_runTicks_4 (G : en_G) (hz : G.2.2.2.2.2.2.2.2 = none) {d : Nat} {r : en_P} {cs cs' : List en_A} {ρ' : en_R} {σ' : en_M} : ∀ (f0 : Nat) {g : Nat} {v1 : Int32} {v2 : Int32} {v3 : Int32}  {σ : en_M} {x2 : Int32} {s0 : en_M} , k_cd_runTicks_4 f0 g v1 v2 v3 σ = some (x2, s0) →
    (∀ (f3 : Option en_V), en_W G (d + 3) 0 0 M_cd_runTicks r cs' ρ' σ' 0 0 138 [some (.inr (.inl (some (0, g, 0)))), some (.inl v1), some (.inl x2), f3] [] cs en_rf s0) → en_W G (d + 3) 0 0 M_cd_runTicks r cs' ρ' σ' 0 0 4 [some (.inr (.inl (some (0, g, 0)))), some (.inl v1), some (.inl v2), some (.inl v3)] [] cs en_rf σ := by
  intro f0
  induction f0 with
  | zero =>
    intros
    rename_i h _
    cases h
  | succ f9 ih =>
    intro g v1 v2 v3 σ x2 s0 h hk
    rw [k_cd_runTicks_4] at h
    refine en_s_iload_n rfl rfl ?_
    refine en_s_iload_n rfl rfl ?_
    refine en_s_icmp_ge rfl (fun c1 => ?_) (fun c1 => ?_)
    · rw [if_pos c1] at h
      cases h
      exact hk (some (.inl v3))
    · rw [if_neg c1] at h
      refine en_s_aload_n rfl rfl ?_
      refine en_s_getI rfl rfl rfl ?_
      refine en_s_sipush rfl ?_
      refine en_s_icmp_ge rfl (fun c2 => ?_) (fun c2 => ?_)
      · rw [if_pos c2] at h
        cases h
        exact hk (some (.inl v3))
      · rw [if_neg c2] at h
        refine en_s_aload_n rfl rfl ?_
        refine en_s_getI rfl rfl rfl ?_
        refine en_s_iconst rfl ?_
        refine en_s_icmp_ne rfl (fun c3 => ?_) (fun c3 => ?_)
        · rw [if_neg c3] at h
          refine en_s_aload_n rfl rfl ?_
          refine en_s_getI rfl rfl rfl ?_
          refine en_s_iconst rfl ?_
          refine en_s_icmp_eq rfl (fun c4 => ?_) (fun c4 => ?_)
          · rw [if_pos c4] at h
            refine en_s_aload_n rfl rfl ?_
            refine en_s_getR (w := some (11, g, 0)) rfl rfl rfl rfl ?_
            refine en_s_dup rfl rfl ?_
            refine en_s_getI rfl rfl rfl ?_
            refine en_s_iconst rfl ?_
            refine en_s_iadd rfl ?_
            obtain ⟨s5, e6, h⟩ := en_let_h h
            refine en_p_putI e6 rfl rfl rfl rfl rfl ?_
            refine en_s_aload_n rfl rfl ?_
            refine en_s_getR (w := some (11, g, 0)) rfl rfl rfl rfl ?_
            refine en_s_dup rfl rfl ?_
            refine en_s_getI rfl rfl rfl ?_
            refine en_s_aload_n rfl rfl ?_
            refine en_s_iconst rfl ?_
            obtain ⟨t7, h8, h⟩ := en_b1_h h
            refine en_callV (as := [.inl 1]) (rest := [.inl (s5 11 g 0 5), .inr (.inl (some (11, g, 0)))]) (bc' := 0) (bs' := 0) hz rfl (s_cd_readySend G hz (d + 1) h8) lk_0_219 mv_cd_readySend rfl rfl rfl rfl rfl (fun _ h => h) (Nat.le_refl _) (Nat.le_refl _) ?_
            cases t7 with
            | none =>
              dsimp only at h
              refine en_s_ifnonnullN rfl ?_
              refine en_s_iconst rfl ?_
              refine en_s_goto rfl ?_
              refine en_s_iadd rfl ?_
              obtain ⟨s10, e11, h⟩ := en_let_h h
              refine en_p_putI e11 rfl rfl rfl rfl rfl ?_
              refine en_s_aload_n rfl rfl ?_
              refine en_s_dup rfl rfl ?_
              refine en_s_getI rfl rfl rfl ?_
              refine en_s_iconst rfl ?_
              refine en_s_iadd rfl ?_
              obtain ⟨s12, e13, h⟩ := en_let_h h
              refine en_p_putI e13 rfl rfl rfl rfl rfl ?_
              refine en_s_aload_n rfl rfl ?_
              refine en_s_getI rfl rfl rfl ?_
              refine en_s_iconst rfl ?_
              refine en_s_icmp_eq rfl (fun c14 => ?_) (fun c14 => ?_)
              · rw [if_pos c14] at h
                refine en_s_iinc (ls' := [some (.inr (.inl (some (0, g, 0)))), some (.inl v1), some (.inl v2), some (.inl (v3 + 1))]) rfl rfl rfl ?_
                refine en_s_goto rfl ?_
                exact ih  h hk
              · rw [if_neg c14] at h
                refine en_s_aload_n rfl rfl ?_
                refine en_s_getI rfl rfl rfl ?_
                refine en_s_aload_n rfl rfl ?_
                refine en_s_getI rfl rfl rfl ?_
                refine en_s_icmp_gt rfl (fun c15 => ?_) (fun c15 => ?_)
                · rw [if_pos c15] at h
                  refine en_s_iinc (ls' := [some (.inr (.inl (some (0, g, 0)))), some (.inl v1), some (.inl v2), some (.inl (v3 + 1))]) rfl rfl rfl ?_
                  refine en_s_goto rfl ?_
                  exact ih  h hk
                · rw [if_neg c15] at h
                  refine en_s_aload_n rfl rfl ?_
                  obtain ⟨s16, h17, h⟩ := en_b1_h h
                  refine en_callV (as := []) (rest := []) (bc' := 0) (bs' := 0) hz rfl (s_cd_letGo G hz (d + 0) h17) lk_0_223 mv_cd_letGo rfl rfl rfl rfl rfl (fun _ h => h) (Nat.le_refl _) (Nat.le_refl _) ?_
                  refine en_s_iinc (ls' := [some (.inr (.inl (some (0, g, 0)))), some (.inl v1), some (.inl v2), some (.inl (v3 + 1))]) rfl rfl rfl ?_
                  refine en_s_goto rfl ?_
                  exact ih  h hk
            | some z9 =>
              dsimp only at h
              refine en_s_ifnonnull rfl ?_
              refine en_s_iconst rfl ?_
              refine en_s_iadd rfl ?_
              obtain ⟨s18, e19, h⟩ := en_let_h h
              refine en_p_putI e19 rfl rfl rfl rfl rfl ?_
              refine en_s_aload_n rfl rfl ?_
              refine en_s_dup rfl rfl ?_
              refine en_s_getI rfl rfl rfl ?_
              refine en_s_iconst rfl ?_
              refine en_s_iadd rfl ?_
              obtain ⟨s20, e21, h⟩ := en_let_h h
              refine en_p_putI e21 rfl rfl rfl rfl rfl ?_
              refine en_s_aload_n rfl rfl ?_
              refine en_s_getI rfl rfl rfl ?_
              refine en_s_iconst rfl ?_
              refine en_s_icmp_eq rfl (fun c22 => ?_) (fun c22 => ?_)
              · rw [if_pos c22] at h
                refine en_s_iinc (ls' := [some (.inr (.inl (some (0, g, 0)))), some (.inl v1), some (.inl v2), some (.inl (v3 + 1))]) rfl rfl rfl ?_
                refine en_s_goto rfl ?_
                exact ih  h hk
              · rw [if_neg c22] at h
                refine en_s_aload_n rfl rfl ?_
                refine en_s_getI rfl rfl rfl ?_
                refine en_s_aload_n rfl rfl ?_
                refine en_s_getI rfl rfl rfl ?_
                refine en_s_icmp_gt rfl (fun c23 => ?_) (fun c23 => ?_)
                · rw [if_pos c23] at h
                  refine en_s_iinc (ls' := [some (.inr (.inl (some (0, g, 0)))), some (.inl v1), some (.inl v2), some (.inl (v3 + 1))]) rfl rfl rfl ?_
                  refine en_s_goto rfl ?_
                  exact ih  h hk
                · rw [if_neg c23] at h
                  refine en_s_aload_n rfl rfl ?_
                  obtain ⟨s24, h25, h⟩ := en_b1_h h
                  refine en_callV (as := []) (rest := []) (bc' := 0) (bs' := 0) hz rfl (s_cd_letGo G hz (d + 0) h25) lk_0_223 mv_cd_letGo rfl rfl rfl rfl rfl (fun _ h => h) (Nat.le_refl _) (Nat.le_refl _) ?_
                  refine en_s_iinc (ls' := [some (.inr (.inl (some (0, g, 0)))), some (.inl v1), some (.inl v2), some (.inl (v3 + 1))]) rfl rfl rfl ?_
                  refine en_s_goto rfl ?_
                  exact ih  h hk
          · rw [if_neg c4] at h
            refine en_s_aload_n rfl rfl ?_
            refine en_s_getR (w := some (11, g, 0)) rfl rfl rfl rfl ?_
            refine en_s_dup rfl rfl ?_
            refine en_s_getI rfl rfl rfl ?_
            refine en_s_iconst rfl ?_
            refine en_s_iadd rfl ?_
            obtain ⟨s26, e27, h⟩ := en_let_h h
            refine en_p_putI e27 rfl rfl rfl rfl rfl ?_
            refine en_s_goto rfl ?_
            refine en_s_aload_n rfl rfl ?_
            refine en_s_dup rfl rfl ?_
            refine en_s_getI rfl rfl rfl ?_
            refine en_s_iconst rfl ?_
            refine en_s_iadd rfl ?_
            obtain ⟨s28, e29, h⟩ := en_let_h h
            refine en_p_putI e29 rfl rfl rfl rfl rfl ?_
            refine en_s_aload_n rfl rfl ?_
            refine en_s_getI rfl rfl rfl ?_
            refine en_s_iconst rfl ?_
            refine en_s_icmp_eq rfl (fun c30 => ?_) (fun c30 => ?_)
            · rw [if_pos c30] at h
              refine en_s_iinc (ls' := [some (.inr (.inl (some (0, g, 0)))), some (.inl v1), some (.inl v2), some (.inl (v3 + 1))]) rfl rfl rfl ?_
              refine en_s_goto rfl ?_
              exact ih  h hk
            · rw [if_neg c30] at h
              refine en_s_aload_n rfl rfl ?_
              refine en_s_getI rfl rfl rfl ?_
              refine en_s_aload_n rfl rfl ?_
              refine en_s_getI rfl rfl rfl ?_
              refine en_s_icmp_gt rfl (fun c31 => ?_) (fun c31 => ?_)
              · rw [if_pos c31] at h
                refine en_s_iinc (ls' := [some (.inr (.inl (some (0, g, 0)))), some (.inl v1), some (.inl v2), some (.inl (v3 + 1))]) rfl rfl rfl ?_
                refine en_s_goto rfl ?_
                exact ih  h hk
              · rw [if_neg c31] at h
                refine en_s_aload_n rfl rfl ?_
                obtain ⟨s32, h33, h⟩ := en_b1_h h
                refine en_callV (as := []) (rest := []) (bc' := 0) (bs' := 0) hz rfl (s_cd_letGo G hz (d + 0) h33) lk_0_223 mv_cd_letGo rfl rfl rfl rfl rfl (fun _ h => h) (Nat.le_refl _) (Nat.le_refl _) ?_
                refine en_s_iinc (ls' := [some (.inr (.inl (some (0, g, 0)))), some (.inl v1), some (.inl v2), some (.inl (v3 + 1))]) rfl rfl rfl ?_
                refine en_s_goto rfl ?_
                exact ih  h hk
        · rw [if_pos c3] at h
          refine en_s_aload_n rfl rfl ?_
          obtain ⟨t34, s35, h36, h⟩ := en_b2_h h
          refine en_callV (as := []) (rest := []) (bc' := 0) (bs' := 0) hz rfl (s_cd_letLeave G hz (d + 0) h36) lk_0_207 mv_cd_letLeave rfl rfl rfl rfl rfl (fun _ h => h) (Nat.le_refl _) (Nat.le_refl _) ?_
          refine en_s_if_eq rfl (fun c37 => ?_) (fun c37 => ?_)
          · rw [if_pos c37] at h
            refine en_s_aload_n rfl rfl ?_
            refine en_s_getI rfl rfl rfl ?_
            refine en_s_iconst rfl ?_
            refine en_s_icmp_eq rfl (fun c38 => ?_) (fun c38 => ?_)
            · rw [if_pos c38] at h
              refine en_s_aload_n rfl rfl ?_
              refine en_s_getR (w := some (11, g, 0)) rfl rfl rfl rfl ?_
              refine en_s_dup rfl rfl ?_
              refine en_s_getI rfl rfl rfl ?_
              refine en_s_iconst rfl ?_
              refine en_s_iadd rfl ?_
              obtain ⟨s39, e40, h⟩ := en_let_h h
              refine en_p_putI e40 rfl rfl rfl rfl rfl ?_
              refine en_s_aload_n rfl rfl ?_
              refine en_s_getR (w := some (11, g, 0)) rfl rfl rfl rfl ?_
              refine en_s_dup rfl rfl ?_
              refine en_s_getI rfl rfl rfl ?_
              refine en_s_aload_n rfl rfl ?_
              refine en_s_iconst rfl ?_
              obtain ⟨t41, h42, h⟩ := en_b1_h h
              refine en_callV (as := [.inl 1]) (rest := [.inl (s39 11 g 0 5), .inr (.inl (some (11, g, 0)))]) (bc' := 0) (bs' := 0) hz rfl (s_cd_readySend G hz (d + 1) h42) lk_0_219 mv_cd_readySend rfl rfl rfl rfl rfl (fun _ h => h) (Nat.le_refl _) (Nat.le_refl _) ?_
              cases t41 with
              | none =>
                dsimp only at h
                refine en_s_ifnonnullN rfl ?_
                refine en_s_iconst rfl ?_
                refine en_s_goto rfl ?_
                refine en_s_iadd rfl ?_
                obtain ⟨s44, e45, h⟩ := en_let_h h
                refine en_p_putI e45 rfl rfl rfl rfl rfl ?_
                refine en_s_aload_n rfl rfl ?_
                refine en_s_dup rfl rfl ?_
                refine en_s_getI rfl rfl rfl ?_
                refine en_s_iconst rfl ?_
                refine en_s_iadd rfl ?_
                obtain ⟨s46, e47, h⟩ := en_let_h h
                refine en_p_putI e47 rfl rfl rfl rfl rfl ?_
                refine en_s_aload_n rfl rfl ?_
                refine en_s_getI rfl rfl rfl ?_
                refine en_s_iconst rfl ?_
                refine en_s_icmp_eq rfl (fun c48 => ?_) (fun c48 => ?_)
                · rw [if_pos c48] at h
                  refine en_s_iinc (ls' := [some (.inr (.inl (some (0, g, 0)))), some (.inl v1), some (.inl v2), some (.inl (v3 + 1))]) rfl rfl rfl ?_
                  refine en_s_goto rfl ?_
                  exact ih  h hk
                · rw [if_neg c48] at h
                  refine en_s_aload_n rfl rfl ?_
                  refine en_s_getI rfl rfl rfl ?_
                  refine en_s_aload_n rfl rfl ?_
                  refine en_s_getI rfl rfl rfl ?_
                  refine en_s_icmp_gt rfl (fun c49 => ?_) (fun c49 => ?_)
                  · rw [if_pos c49] at h
                    refine en_s_iinc (ls' := [some (.inr (.inl (some (0, g, 0)))), some (.inl v1), some (.inl v2), some (.inl (v3 + 1))]) rfl rfl rfl ?_
                    refine en_s_goto rfl ?_
                    exact ih  h hk
                  · rw [if_neg c49] at h
                    refine en_s_aload_n rfl rfl ?_
                    obtain ⟨s50, h51, h⟩ := en_b1_h h
                    refine en_callV (as := []) (rest := []) (bc' := 0) (bs' := 0) hz rfl (s_cd_letGo G hz (d + 0) h51) lk_0_223 mv_cd_letGo rfl rfl rfl rfl rfl (fun _ h => h) (Nat.le_refl _) (Nat.le_refl _) ?_
                    refine en_s_iinc (ls' := [some (.inr (.inl (some (0, g, 0)))), some (.inl v1), some (.inl v2), some (.inl (v3 + 1))]) rfl rfl rfl ?_
                    refine en_s_goto rfl ?_
                    exact ih  h hk
              | some z43 =>
                dsimp only at h
                refine en_s_ifnonnull rfl ?_
                refine en_s_iconst rfl ?_
                refine en_s_iadd rfl ?_
                obtain ⟨s52, e53, h⟩ := en_let_h h
                refine en_p_putI e53 rfl rfl rfl rfl rfl ?_
                refine en_s_aload_n rfl rfl ?_
                refine en_s_dup rfl rfl ?_
                refine en_s_getI rfl rfl rfl ?_
                refine en_s_iconst rfl ?_
                refine en_s_iadd rfl ?_
                obtain ⟨s54, e55, h⟩ := en_let_h h
                refine en_p_putI e55 rfl rfl rfl rfl rfl ?_
                refine en_s_aload_n rfl rfl ?_
                refine en_s_getI rfl rfl rfl ?_
                refine en_s_iconst rfl ?_
                refine en_s_icmp_eq rfl (fun c56 => ?_) (fun c56 => ?_)
                · rw [if_pos c56] at h
                  refine en_s_iinc (ls' := [some (.inr (.inl (some (0, g, 0)))), some (.inl v1), some (.inl v2), some (.inl (v3 + 1))]) rfl rfl rfl ?_
                  refine en_s_goto rfl ?_
                  exact ih  h hk
                · rw [if_neg c56] at h
                  refine en_s_aload_n rfl rfl ?_
                  refine en_s_getI rfl rfl rfl ?_
                  refine en_s_aload_n rfl rfl ?_
                  refine en_s_getI rfl rfl rfl ?_
                  refine en_s_icmp_gt rfl (fun c57 => ?_) (fun c57 => ?_)
                  · rw [if_pos c57] at h
                    refine en_s_iinc (ls' := [some (.inr (.inl (some (0, g, 0)))), some (.inl v1), some (.inl v2), some (.inl (v3 + 1))]) rfl rfl rfl ?_
                    refine en_s_goto rfl ?_
                    exact ih  h hk
                  · rw [if_neg c57] at h
                    refine en_s_aload_n rfl rfl ?_
                    obtain ⟨s58, h59, h⟩ := en_b1_h h
                    refine en_callV (as := []) (rest := []) (bc' := 0) (bs' := 0) hz rfl (s_cd_letGo G hz (d + 0) h59) lk_0_223 mv_cd_letGo rfl rfl rfl rfl rfl (fun _ h => h) (Nat.le_refl _) (Nat.le_refl _) ?_
                    refine en_s_iinc (ls' := [some (.inr (.inl (some (0, g, 0)))), some (.inl v1), some (.inl v2), some (.inl (v3 + 1))]) rfl rfl rfl ?_
                    refine en_s_goto rfl ?_
                    exact ih  h hk
            · rw [if_neg c38] at h
              refine en_s_aload_n rfl rfl ?_
              refine en_s_getR (w := some (11, g, 0)) rfl rfl rfl rfl ?_
              refine en_s_dup rfl rfl ?_
              refine en_s_getI rfl rfl rfl ?_
              refine en_s_iconst rfl ?_
              refine en_s_iadd rfl ?_
              obtain ⟨s60, e61, h⟩ := en_let_h h
              refine en_p_putI e61 rfl rfl rfl rfl rfl ?_
              refine en_s_goto rfl ?_
              refine en_s_aload_n rfl rfl ?_
              refine en_s_dup rfl rfl ?_
              refine en_s_getI rfl rfl rfl ?_
              refine en_s_iconst rfl ?_
              refine en_s_iadd rfl ?_
              obtain ⟨s62, e63, h⟩ := en_let_h h
              refine en_p_putI e63 rfl rfl rfl rfl rfl ?_
              refine en_s_aload_n rfl rfl ?_
              refine en_s_getI rfl rfl rfl ?_
              refine en_s_iconst rfl ?_
              refine en_s_icmp_eq rfl (fun c64 => ?_) (fun c64 => ?_)
              · rw [if_pos c64] at h
                refine en_s_iinc (ls' := [some (.inr (.inl (some (0, g, 0)))), some (.inl v1), some (.inl v2), some (.inl (v3 + 1))]) rfl rfl rfl ?_
                refine en_s_goto rfl ?_
                exact ih  h hk
              · rw [if_neg c64] at h
                refine en_s_aload_n rfl rfl ?_
                refine en_s_getI rfl rfl rfl ?_
                refine en_s_aload_n rfl rfl ?_
                refine en_s_getI rfl rfl rfl ?_
                refine en_s_icmp_gt rfl (fun c65 => ?_) (fun c65 => ?_)
                · rw [if_pos c65] at h
                  refine en_s_iinc (ls' := [some (.inr (.inl (some (0, g, 0)))), some (.inl v1), some (.inl v2), some (.inl (v3 + 1))]) rfl rfl rfl ?_
                  refine en_s_goto rfl ?_
                  exact ih  h hk
                · rw [if_neg c65] at h
                  refine en_s_aload_n rfl rfl ?_
                  obtain ⟨s66, h67, h⟩ := en_b1_h h
                  refine en_callV (as := []) (rest := []) (bc' := 0) (bs' := 0) hz rfl (s_cd_letGo G hz (d + 0) h67) lk_0_223 mv_cd_letGo rfl rfl rfl rfl rfl (fun _ h => h) (Nat.le_refl _) (Nat.le_refl _) ?_
                  refine en_s_iinc (ls' := [some (.inr (.inl (some (0, g, 0)))), some (.inl v1), some (.inl v2), some (.inl (v3 + 1))]) rfl rfl rfl ?_
                  refine en_s_goto rfl ?_
                  exact ih  h hk
          · rw [if_neg c37] at h
            refine en_s_iinc (ls' := [some (.inr (.inl (some (0, g, 0)))), some (.inl v1), some (.inl (v2 + 1)), some (.inl v3)]) rfl rfl rfl ?_
            refine en_s_aload_n rfl rfl ?_
            refine en_s_getI rfl rfl rfl ?_
            refine en_s_iconst rfl ?_
            refine en_s_icmp_eq rfl (fun c68 => ?_) (fun c68 => ?_)
            · rw [if_pos c68] at h
              refine en_s_aload_n rfl rfl ?_
              refine en_s_getR (w := some (11, g, 0)) rfl rfl rfl rfl ?_
              refine en_s_dup rfl rfl ?_
              refine en_s_getI rfl rfl rfl ?_
              refine en_s_iconst rfl ?_
              refine en_s_iadd rfl ?_
              obtain ⟨s69, e70, h⟩ := en_let_h h
              refine en_p_putI e70 rfl rfl rfl rfl rfl ?_
              refine en_s_aload_n rfl rfl ?_
              refine en_s_getR (w := some (11, g, 0)) rfl rfl rfl rfl ?_
              refine en_s_dup rfl rfl ?_
              refine en_s_getI rfl rfl rfl ?_
              refine en_s_aload_n rfl rfl ?_
              refine en_s_iconst rfl ?_
              obtain ⟨t71, h72, h⟩ := en_b1_h h
              refine en_callV (as := [.inl 1]) (rest := [.inl (s69 11 g 0 5), .inr (.inl (some (11, g, 0)))]) (bc' := 0) (bs' := 0) hz rfl (s_cd_readySend G hz (d + 1) h72) lk_0_219 mv_cd_readySend rfl rfl rfl rfl rfl (fun _ h => h) (Nat.le_refl _) (Nat.le_refl _) ?_
              cases t71 with
              | none =>
                dsimp only at h
                refine en_s_ifnonnullN rfl ?_
                refine en_s_iconst rfl ?_
                refine en_s_goto rfl ?_
                refine en_s_iadd rfl ?_
                obtain ⟨s74, e75, h⟩ := en_let_h h
                refine en_p_putI e75 rfl rfl rfl rfl rfl ?_
                refine en_s_aload_n rfl rfl ?_
                refine en_s_dup rfl rfl ?_
                refine en_s_getI rfl rfl rfl ?_
                refine en_s_iconst rfl ?_
                refine en_s_iadd rfl ?_
                obtain ⟨s76, e77, h⟩ := en_let_h h
                refine en_p_putI e77 rfl rfl rfl rfl rfl ?_
                refine en_s_aload_n rfl rfl ?_
                refine en_s_getI rfl rfl rfl ?_
                refine en_s_iconst rfl ?_
                refine en_s_icmp_eq rfl (fun c78 => ?_) (fun c78 => ?_)
                · rw [if_pos c78] at h
                  refine en_s_iinc (ls' := [some (.inr (.inl (some (0, g, 0)))), some (.inl v1), some (.inl (v2 + 1)), some (.inl (v3 + 1))]) rfl rfl rfl ?_
                  refine en_s_goto rfl ?_
                  exact ih  h hk
                · rw [if_neg c78] at h
                  refine en_s_aload_n rfl rfl ?_
                  refine en_s_getI rfl rfl rfl ?_
                  refine en_s_aload_n rfl rfl ?_
                  refine en_s_getI rfl rfl rfl ?_
                  refine en_s_icmp_gt rfl (fun c79 => ?_) (fun c79 => ?_)
                  · rw [if_pos c79] at h
                    refine en_s_iinc (ls' := [some (.inr (.inl (some (0, g, 0)))), some (.inl v1), some (.inl (v2 + 1)), some (.inl (v3 + 1))]) rfl rfl rfl ?_
                    refine en_s_goto rfl ?_
                    exact ih  h hk
                  · rw [if_neg c79] at h
                    refine en_s_aload_n rfl rfl ?_
                    obtain ⟨s80, h81, h⟩ := en_b1_h h
                    refine en_callV (as := []) (rest := []) (bc' := 0) (bs' := 0) hz rfl (s_cd_letGo G hz (d + 0) h81) lk_0_223 mv_cd_letGo rfl rfl rfl rfl rfl (fun _ h => h) (Nat.le_refl _) (Nat.le_refl _) ?_
                    refine en_s_iinc (ls' := [some (.inr (.inl (some (0, g, 0)))), some (.inl v1), some (.inl (v2 + 1)), some (.inl (v3 + 1))]) rfl rfl rfl ?_
                    refine en_s_goto rfl ?_
                    exact ih  h hk
              | some z73 =>
                dsimp only at h
                refine en_s_ifnonnull rfl ?_
                refine en_s_iconst rfl ?_
                refine en_s_iadd rfl ?_
                obtain ⟨s82, e83, h⟩ := en_let_h h
                refine en_p_putI e83 rfl rfl rfl rfl rfl ?_
                refine en_s_aload_n rfl rfl ?_
                refine en_s_dup rfl rfl ?_
                refine en_s_getI rfl rfl rfl ?_
                refine en_s_iconst rfl ?_
                refine en_s_iadd rfl ?_
                obtain ⟨s84, e85, h⟩ := en_let_h h
                refine en_p_putI e85 rfl rfl rfl rfl rfl ?_
                refine en_s_aload_n rfl rfl ?_
                refine en_s_getI rfl rfl rfl ?_
                refine en_s_iconst rfl ?_
                refine en_s_icmp_eq rfl (fun c86 => ?_) (fun c86 => ?_)
                · rw [if_pos c86] at h
                  refine en_s_iinc (ls' := [some (.inr (.inl (some (0, g, 0)))), some (.inl v1), some (.inl (v2 + 1)), some (.inl (v3 + 1))]) rfl rfl rfl ?_
                  refine en_s_goto rfl ?_
                  exact ih  h hk
                · rw [if_neg c86] at h
                  refine en_s_aload_n rfl rfl ?_
                  refine en_s_getI rfl rfl rfl ?_
                  refine en_s_aload_n rfl rfl ?_
                  refine en_s_getI rfl rfl rfl ?_
                  refine en_s_icmp_gt rfl (fun c87 => ?_) (fun c87 => ?_)
                  · rw [if_pos c87] at h
                    refine en_s_iinc (ls' := [some (.inr (.inl (some (0, g, 0)))), some (.inl v1), some (.inl (v2 + 1)), some (.inl (v3 + 1))]) rfl rfl rfl ?_
                    refine en_s_goto rfl ?_
                    exact ih  h hk
                  · rw [if_neg c87] at h
                    refine en_s_aload_n rfl rfl ?_
                    obtain ⟨s88, h89, h⟩ := en_b1_h h
                    refine en_callV (as := []) (rest := []) (bc' := 0) (bs' := 0) hz rfl (s_cd_letGo G hz (d + 0) h89) lk_0_223 mv_cd_letGo rfl rfl rfl rfl rfl (fun _ h => h) (Nat.le_refl _) (Nat.le_refl _) ?_
                    refine en_s_iinc (ls' := [some (.inr (.inl (some (0, g, 0)))), some (.inl v1), some (.inl (v2 + 1)), some (.inl (v3 + 1))]) rfl rfl rfl ?_
                    refine en_s_goto rfl ?_
                    exact ih  h hk
            · rw [if_neg c68] at h
              refine en_s_aload_n rfl rfl ?_
              refine en_s_getR (w := some (11, g, 0)) rfl rfl rfl rfl ?_
              refine en_s_dup rfl rfl ?_
              refine en_s_getI rfl rfl rfl ?_
              refine en_s_iconst rfl ?_
              refine en_s_iadd rfl ?_
              obtain ⟨s90, e91, h⟩ := en_let_h h
              refine en_p_putI e91 rfl rfl rfl rfl rfl ?_
              refine en_s_goto rfl ?_
              refine en_s_aload_n rfl rfl ?_
              refine en_s_dup rfl rfl ?_
              refine en_s_getI rfl rfl rfl ?_
              refine en_s_iconst rfl ?_
              refine en_s_iadd rfl ?_
              obtain ⟨s92, e93, h⟩ := en_let_h h
              refine en_p_putI e93 rfl rfl rfl rfl rfl ?_
              refine en_s_aload_n rfl rfl ?_
              refine en_s_getI rfl rfl rfl ?_
              refine en_s_iconst rfl ?_
              refine en_s_icmp_eq rfl (fun c94 => ?_) (fun c94 => ?_)
              · rw [if_pos c94] at h
                refine en_s_iinc (ls' := [some (.inr (.inl (some (0, g, 0)))), some (.inl v1), some (.inl (v2 + 1)), some (.inl (v3 + 1))]) rfl rfl rfl ?_
                refine en_s_goto rfl ?_
                exact ih  h hk
              · rw [if_neg c94] at h
                refine en_s_aload_n rfl rfl ?_
                refine en_s_getI rfl rfl rfl ?_
                refine en_s_aload_n rfl rfl ?_
                refine en_s_getI rfl rfl rfl ?_
                refine en_s_icmp_gt rfl (fun c95 => ?_) (fun c95 => ?_)
                · rw [if_pos c95] at h
                  refine en_s_iinc (ls' := [some (.inr (.inl (some (0, g, 0)))), some (.inl v1), some (.inl (v2 + 1)), some (.inl (v3 + 1))]) rfl rfl rfl ?_
                  refine en_s_goto rfl ?_
                  exact ih  h hk
                · rw [if_neg c95] at h
                  refine en_s_aload_n rfl rfl ?_
                  obtain ⟨s96, h97, h⟩ := en_b1_h h
                  refine en_callV (as := []) (rest := []) (bc' := 0) (bs' := 0) hz rfl (s_cd_letGo G hz (d + 0) h97) lk_0_223 mv_cd_letGo rfl rfl rfl rfl rfl (fun _ h => h) (Nat.le_refl _) (Nat.le_refl _) ?_
                  refine en_s_iinc (ls' := [some (.inr (.inl (some (0, g, 0)))), some (.inl v1), some (.inl (v2 + 1)), some (.inl (v3 + 1))]) rfl rfl rfl ?_
                  refine en_s_goto rfl ?_
                  exact ih  h hk
set_option maxRecDepth 100000 in
set_option maxHeartbeats 4000000 in
theorem s_cd_runTicks (G : en_G) (hz : G.2.2.2.2.2.2.2.2 = none) (d : Nat) {cs : List en_A} {σ : en_M} {g : Nat} {v1 : Int32} {x0 : Int32} {s0 : en_M}  (h : k_cd_runTicks g v1 σ = some (x0, s0)) : en_Mt G (d + 3) 0 0 M_cd_runTicks [.inr (.inl (some (0, g, 0))), .inl v1] cs en_rf σ (.inr (some (.inl x0))) cs en_rf s0 := by
  refine en_meth (ls := [some (.inr (.inl (some (0, g, 0)))), some (.inl v1), none, none]) md_cd_runTicks rfl rfl rfl ?_
  unfold k_cd_runTicks at h
  refine en_s_iconst rfl ?_
  refine en_s_istore_n (ls' := [some (.inr (.inl (some (0, g, 0)))), some (.inl v1), some (.inl 0), none]) rfl rfl rfl ?_
  refine en_s_iconst rfl ?_
  refine en_s_istore_n (ls' := [some (.inr (.inl (some (0, g, 0)))), some (.inl v1), some (.inl 0), some (.inl 0)]) rfl rfl rfl ?_
  obtain ⟨x98, s100, h101, h⟩ := en_b2_h h
  refine s_cd_runTicks_4 G hz en_fu  h101 (fun f99 => ?_)
  refine en_s_iload_n rfl rfl ?_
  cases h
  exact en_s_iret rfl rfl
def k_cd_waitingOf_7 (f0 : Nat) (g : Nat) (v1 : Int32) (v2 : Int32) (v3 : Int32) (σ : en_M) : Option (Int32) := match f0 with
  | 0 => none
  | f9 + 1 =>
    if (σ 0 g 0 13) ≤ v3 then
      some (v2)
    else
      en_b1 (k_cd_sendAt g v3 σ) fun t2 =>
      (match t2 with
      | none =>
        k_cd_waitingOf_7 f9 g v1 v2 (v3 + 1) σ
      | some z4 =>
        if (k_sd_waits g z4 σ) = 0 then
          k_cd_waitingOf_7 f9 g v1 v2 (v3 + 1) σ
        else
          if (σ 13 g z4 1) = v1 then
            k_cd_waitingOf_7 f9 g v1 (v2 + ((σ 13 g z4 6) - (σ 13 g z4 7))) (v3 + 1) σ
          else
            k_cd_waitingOf_7 f9 g v1 v2 (v3 + 1) σ)
def k_cd_waitingOf (g : Nat) (v1 : Int32) (σ : en_M) : Option (Int32) :=
  en_b1 (k_cd_waitingOf_7 en_fu g v1 0 (σ 0 g 0 14) σ) fun x7 =>
  some x7
set_option maxRecDepth 100000 in
set_option maxHeartbeats 4000000 in
theorem s_cd_waitingOf_7 (G : en_G) (hz : G.2.2.2.2.2.2.2.2 = none) {d : Nat} {r : en_P} {cs cs' : List en_A} {ρ' : en_R} {σ' : en_M} : ∀ (f0 : Nat) {g : Nat} {v1 : Int32} {v2 : Int32} {v3 : Int32} {e4 : Option en_V} {σ : en_M} {x2 : Int32} , k_cd_waitingOf_7 f0 g v1 v2 v3 σ = some (x2) →
    (∀ (f3 : Option en_V) (f4 : Option en_V), en_W G (d + 1) 0 0 M_cd_waitingOf r cs' ρ' σ' 0 0 64 [some (.inr (.inl (some (0, g, 0)))), some (.inl v1), some (.inl x2), f3, f4] [] cs en_rf σ) → en_W G (d + 1) 0 0 M_cd_waitingOf r cs' ρ' σ' 0 0 7 [some (.inr (.inl (some (0, g, 0)))), some (.inl v1), some (.inl v2), some (.inl v3), e4] [] cs en_rf σ := by
  intro f0
  induction f0 with
  | zero =>
    intros
    rename_i h _
    cases h
  | succ f9 ih =>
    intro g v1 v2 v3 e4 σ x2 h hk
    rw [k_cd_waitingOf_7] at h
    refine en_s_iload_n rfl rfl ?_
    refine en_s_aload_n rfl rfl ?_
    refine en_s_getI rfl rfl rfl ?_
    refine en_s_icmp_ge rfl (fun c1 => ?_) (fun c1 => ?_)
    · rw [if_pos c1] at h
      cases h
      exact hk (some (.inl v3)) (e4)
    · rw [if_neg c1] at h
      refine en_s_aload_n rfl rfl ?_
      refine en_s_iload_n rfl rfl ?_
      obtain ⟨t2, h3, h⟩ := en_b1_h h
      refine en_callV (as := [.inl v3]) (rest := []) (bc' := 0) (bs' := 0) hz rfl (s_cd_sendAt G hz (d + 0) h3) lk_0_115 mv_cd_sendAt rfl rfl rfl rfl rfl (fun _ h => h) (Nat.le_refl _) (Nat.le_refl _) ?_
      refine en_o_astore (ls' := [some (.inr (.inl (some (0, g, 0)))), some (.inl v1), some (.inl v2), some (.inl v3), some (.inr (.inl (t2.map (fun z9 => (13, g, z9)))))]) rfl rfl rfl ?_
      refine en_o_aload rfl rfl ?_
      cases t2 with
      | none =>
        dsimp only at h
        refine en_s_ifnullN rfl ?_
        refine en_s_iinc (ls' := [some (.inr (.inl (some (0, g, 0)))), some (.inl v1), some (.inl v2), some (.inl (v3 + 1)), some (.inr (.inl none))]) rfl rfl rfl ?_
        refine en_s_goto rfl ?_
        exact ih (e4 := some (.inr (.inl none))) h hk
      | some z4 =>
        dsimp only at h
        refine en_s_ifnull rfl ?_
        refine en_s_aload rfl rfl ?_
        refine en_callV (as := []) (rest := []) (bc' := 0) (bs' := 0) hz rfl (s_sd_waits G hz (d + 0) rfl) lk_0_245 mv_sd_waits rfl rfl rfl rfl rfl (fun _ h => h) (Nat.le_refl _) (Nat.le_refl _) ?_
        refine en_s_if_eq rfl (fun c5 => ?_) (fun c5 => ?_)
        · rw [if_pos c5] at h
          refine en_s_iinc (ls' := [some (.inr (.inl (some (0, g, 0)))), some (.inl v1), some (.inl v2), some (.inl (v3 + 1)), some (.inr (.inl (some (13, g, z4))))]) rfl rfl rfl ?_
          refine en_s_goto rfl ?_
          exact ih (e4 := some (.inr (.inl (some (13, g, z4))))) h hk
        · rw [if_neg c5] at h
          refine en_s_aload rfl rfl ?_
          refine en_s_getI rfl rfl rfl ?_
          refine en_s_iload_n rfl rfl ?_
          refine en_s_icmp_ne rfl (fun c6 => ?_) (fun c6 => ?_)
          · rw [if_neg c6] at h
            refine en_s_iinc (ls' := [some (.inr (.inl (some (0, g, 0)))), some (.inl v1), some (.inl v2), some (.inl (v3 + 1)), some (.inr (.inl (some (13, g, z4))))]) rfl rfl rfl ?_
            refine en_s_goto rfl ?_
            exact ih (e4 := some (.inr (.inl (some (13, g, z4))))) h hk
          · rw [if_pos c6] at h
            refine en_s_iload_n rfl rfl ?_
            refine en_s_aload rfl rfl ?_
            refine en_s_getI rfl rfl rfl ?_
            refine en_s_aload rfl rfl ?_
            refine en_s_getI rfl rfl rfl ?_
            refine en_s_isub rfl ?_
            refine en_s_iadd rfl ?_
            refine en_s_istore_n (ls' := [some (.inr (.inl (some (0, g, 0)))), some (.inl v1), some (.inl (v2 + ((σ 13 g z4 6) - (σ 13 g z4 7)))), some (.inl v3), some (.inr (.inl (some (13, g, z4))))]) rfl rfl rfl ?_
            refine en_s_iinc (ls' := [some (.inr (.inl (some (0, g, 0)))), some (.inl v1), some (.inl (v2 + ((σ 13 g z4 6) - (σ 13 g z4 7)))), some (.inl (v3 + 1)), some (.inr (.inl (some (13, g, z4))))]) rfl rfl rfl ?_
            refine en_s_goto rfl ?_
            exact ih (e4 := some (.inr (.inl (some (13, g, z4))))) h hk
set_option maxRecDepth 100000 in
set_option maxHeartbeats 4000000 in
theorem s_cd_waitingOf (G : en_G) (hz : G.2.2.2.2.2.2.2.2 = none) (d : Nat) {cs : List en_A} {σ : en_M} {g : Nat} {v1 : Int32} {x0 : Int32}  (h : k_cd_waitingOf g v1 σ = some x0) : en_Mt G (d + 1) 0 0 M_cd_waitingOf [.inr (.inl (some (0, g, 0))), .inl v1] cs en_rf σ (.inr (some (.inl x0))) cs en_rf σ := by
  refine en_meth (ls := [some (.inr (.inl (some (0, g, 0)))), some (.inl v1), none, none, none]) md_cd_waitingOf rfl rfl rfl ?_
  unfold k_cd_waitingOf at h
  refine en_s_iconst rfl ?_
  refine en_s_istore_n (ls' := [some (.inr (.inl (some (0, g, 0)))), some (.inl v1), some (.inl 0), none, none]) rfl rfl rfl ?_
  refine en_s_aload_n rfl rfl ?_
  refine en_s_getI rfl rfl rfl ?_
  refine en_s_istore_n (ls' := [some (.inr (.inl (some (0, g, 0)))), some (.inl v1), some (.inl 0), some (.inl (σ 0 g 0 14)), none]) rfl rfl rfl ?_
  obtain ⟨x7, h10, h⟩ := en_b1_h h
  refine s_cd_waitingOf_7 G hz en_fu (e4 := none) h10 (fun f8 f9 => ?_)
  refine en_s_iload_n rfl rfl ?_
  cases h
  exact en_s_iret rfl rfl
def k_cd_setPaused (g : Nat) (v1 : Int32) (v2 : Int32) (σ : en_M) : Option (Int32 × en_M) :=
  en_b1 (k_cd_flowAt g v1 σ) fun t1 =>
  (match t1 with
  | none =>
    en_b1 (k_cd_waitingOf g v1 σ) fun t4 =>
    some (t4, σ)
  | some z3 =>
    en_b1 (en_bz v2) fun t8 =>
    en_let (en_wr σ 12 g z3 2 v2) fun s6 =>
    en_b1 (k_cd_waitingOf g v1 s6) fun t10 =>
    some (t10, s6))
set_option maxRecDepth 100000 in
set_option maxHeartbeats 4000000 in
theorem s_cd_setPaused (G : en_G) (hz : G.2.2.2.2.2.2.2.2 = none) (d : Nat) {cs : List en_A} {σ : en_M} {g : Nat} {v1 : Int32} {v2 : Int32} {x0 : Int32} {s0 : en_M}  (h : k_cd_setPaused g v1 v2 σ = some (x0, s0)) : en_Mt G (d + 2) 0 0 M_cd_setPaused [.inr (.inl (some (0, g, 0))), .inl v1, .inl v2] cs en_rf σ (.inr (some (.inl x0))) cs en_rf s0 := by
  refine en_meth (ls := [some (.inr (.inl (some (0, g, 0)))), some (.inl v1), some (.inl v2), none]) md_cd_setPaused rfl rfl rfl ?_
  unfold k_cd_setPaused at h
  refine en_s_aload_n rfl rfl ?_
  refine en_s_iload_n rfl rfl ?_
  obtain ⟨t1, h2, h⟩ := en_b1_h h
  refine en_callV (as := [.inl v1]) (rest := []) (bc' := 0) (bs' := 0) hz rfl (s_cd_flowAt G hz (d + 1) h2) lk_0_123 mv_cd_flowAt rfl rfl rfl rfl rfl (fun _ h => h) (Nat.le_refl _) (Nat.le_refl _) ?_
  refine en_o_astore_n (ls' := [some (.inr (.inl (some (0, g, 0)))), some (.inl v1), some (.inl v2), some (.inr (.inl (t1.map (fun z9 => (12, g, z9)))))]) rfl rfl rfl ?_
  refine en_o_aload_n rfl rfl ?_
  cases t1 with
  | none =>
    dsimp only at h
    refine en_s_ifnullN rfl ?_
    refine en_s_aload_n rfl rfl ?_
    refine en_s_iload_n rfl rfl ?_
    obtain ⟨t4, h5, h⟩ := en_b1_h h
    refine en_callV (as := [.inl v1]) (rest := []) (bc' := 0) (bs' := 0) hz rfl (s_cd_waitingOf G hz (d + 0) h5) lk_0_204 mv_cd_waitingOf rfl rfl rfl rfl rfl (fun _ h => h) (Nat.le_refl _) (Nat.le_refl _) ?_
    cases h
    exact en_s_iret rfl rfl
  | some z3 =>
    dsimp only at h
    refine en_s_ifnull rfl ?_
    refine en_s_aload_n rfl rfl ?_
    refine en_s_iload_n rfl rfl ?_
    obtain ⟨t8, z9, h⟩ := en_b1_h h
    obtain ⟨s6, e7, h⟩ := en_let_h h
    refine en_p_putZ e7 (en_bz_h z9).1 rfl rfl rfl rfl rfl ?_
    refine en_s_aload_n rfl rfl ?_
    refine en_s_iload_n rfl rfl ?_
    obtain ⟨t10, h11, h⟩ := en_b1_h h
    refine en_callV (as := [.inl v1]) (rest := []) (bc' := 0) (bs' := 0) hz rfl (s_cd_waitingOf G hz (d + 0) h11) lk_0_204 mv_cd_waitingOf rfl rfl rfl rfl rfl (fun _ h => h) (Nat.le_refl _) (Nat.le_refl _) ?_
    cases h
    exact en_s_iret rfl rfl
def k_cd_setRate (g : Nat) (v1 : Int32) (v2 : Int32) (σ : en_M) : Option (Int32 × en_M) :=
  en_b1 (k_cd_flowAt g v1 σ) fun t1 =>
  (match t1 with
  | none =>
    some ((-1), σ)
  | some z3 =>
    en_let (en_wr σ 12 g z3 0 v2) fun s4 =>
    en_b2 (k_cd_putDeparts g v1 v2 3 g 0 s4) fun t6 s7 =>
    en_let (en_wr s7 12 g z3 6 t6) fun s9 =>
    some (σ 12 g z3 0, s9))
set_option maxRecDepth 100000 in
set_option maxHeartbeats 4000000 in
theorem s_cd_setRate (G : en_G) (hz : G.2.2.2.2.2.2.2.2 = none) (d : Nat) {cs : List en_A} {σ : en_M} {g : Nat} {v1 : Int32} {v2 : Int32} {x0 : Int32} {s0 : en_M}  (h : k_cd_setRate g v1 v2 σ = some (x0, s0)) : en_Mt G (d + 2) 0 0 M_cd_setRate [.inr (.inl (some (0, g, 0))), .inl v1, .inl v2] cs en_rf σ (.inr (some (.inl x0))) cs en_rf s0 := by
  refine en_meth (ls := [some (.inr (.inl (some (0, g, 0)))), some (.inl v1), some (.inl v2), none, none]) md_cd_setRate rfl rfl rfl ?_
  unfold k_cd_setRate at h
  refine en_s_aload_n rfl rfl ?_
  refine en_s_iload_n rfl rfl ?_
  obtain ⟨t1, h2, h⟩ := en_b1_h h
  refine en_callV (as := [.inl v1]) (rest := []) (bc' := 0) (bs' := 0) hz rfl (s_cd_flowAt G hz (d + 1) h2) lk_0_123 mv_cd_flowAt rfl rfl rfl rfl rfl (fun _ h => h) (Nat.le_refl _) (Nat.le_refl _) ?_
  refine en_o_astore_n (ls' := [some (.inr (.inl (some (0, g, 0)))), some (.inl v1), some (.inl v2), some (.inr (.inl (t1.map (fun z9 => (12, g, z9))))), none]) rfl rfl rfl ?_
  refine en_o_aload_n rfl rfl ?_
  cases t1 with
  | none =>
    dsimp only at h
    refine en_s_ifnonnullN rfl ?_
    refine en_s_iconst rfl ?_
    cases h
    exact en_s_iret rfl rfl
  | some z3 =>
    dsimp only at h
    refine en_s_ifnonnull rfl ?_
    refine en_s_aload_n rfl rfl ?_
    refine en_s_getI rfl rfl rfl ?_
    refine en_s_istore (ls' := [some (.inr (.inl (some (0, g, 0)))), some (.inl v1), some (.inl v2), some (.inr (.inl (some (12, g, z3)))), some (.inl (σ 12 g z3 0))]) rfl rfl rfl ?_
    refine en_s_aload_n rfl rfl ?_
    refine en_s_iload_n rfl rfl ?_
    obtain ⟨s4, e5, h⟩ := en_let_h h
    refine en_p_putI e5 rfl rfl rfl rfl rfl ?_
    refine en_s_aload_n rfl rfl ?_
    refine en_s_aload_n rfl rfl ?_
    refine en_s_iload_n rfl rfl ?_
    refine en_s_iload_n rfl rfl ?_
    refine en_s_aload_n rfl rfl ?_
    refine en_s_getR (w := some (3, g, 0)) rfl rfl rfl rfl ?_
    obtain ⟨t6, s7, h8, h⟩ := en_b2_h h
    refine en_callV (as := [.inl v1, .inl v2, .inr (.inl (some (3, g, 0)))]) (rest := [.inr (.inl (some (12, g, z3)))]) (bc' := 0) (bs' := 0) hz rfl (s_cd_putDeparts G hz (d + 0) rfl h8) lk_0_185 mv_cd_putDeparts rfl rfl rfl rfl rfl (fun _ h => h) (Nat.le_refl _) (Nat.le_refl _) ?_
    obtain ⟨s9, e10, h⟩ := en_let_h h
    refine en_p_putI e10 rfl rfl rfl rfl rfl ?_
    refine en_s_iload rfl rfl ?_
    cases h
    exact en_s_iret rfl rfl
def k_cd_whyNoDrop (g : Nat) (v1 : Int32) (σ : en_M) : Option (Int32) :=
  en_b1 (k_cd_knownSend g v1 σ) fun t1 =>
  (match t1 with
  | none =>
    some 4
  | some z3 =>
    if (k_sd_isOver g z3 σ) = 0 then
      if (σ 13 g z3 7) ≤ 0 then
        some 0
      else
        some 4
    else
      some 4)
set_option maxRecDepth 100000 in
set_option maxHeartbeats 4000000 in
theorem s_cd_whyNoDrop (G : en_G) (hz : G.2.2.2.2.2.2.2.2 = none) (d : Nat) {cs : List en_A} {σ : en_M} {g : Nat} {v1 : Int32} {x0 : Int32}  (h : k_cd_whyNoDrop g v1 σ = some x0) : en_Mt G (d + 2) 0 0 M_cd_whyNoDrop [.inr (.inl (some (0, g, 0))), .inl v1] cs en_rf σ (.inr (some (.inl x0))) cs en_rf σ := by
  refine en_meth (ls := [some (.inr (.inl (some (0, g, 0)))), some (.inl v1), none]) md_cd_whyNoDrop rfl rfl rfl ?_
  unfold k_cd_whyNoDrop at h
  refine en_s_aload_n rfl rfl ?_
  refine en_s_iload_n rfl rfl ?_
  obtain ⟨t1, h2, h⟩ := en_b1_h h
  refine en_callV (as := [.inl v1]) (rest := []) (bc' := 0) (bs' := 0) hz rfl (s_cd_knownSend G hz (d + 0) h2) lk_0_127 mv_cd_knownSend rfl rfl rfl rfl rfl (fun _ h => h) (Nat.le_refl _) (Nat.le_refl _) ?_
  refine en_o_astore_n (ls' := [some (.inr (.inl (some (0, g, 0)))), some (.inl v1), some (.inr (.inl (t1.map (fun z9 => (13, g, z9)))))]) rfl rfl rfl ?_
  refine en_o_aload_n rfl rfl ?_
  cases t1 with
  | none =>
    dsimp only at h
    refine en_s_ifnullN rfl ?_
    refine en_s_iconst rfl ?_
    refine en_s_goto rfl ?_
    cases h
    exact en_s_iret rfl rfl
  | some z3 =>
    dsimp only at h
    refine en_s_ifnull rfl ?_
    refine en_s_aload_n rfl rfl ?_
    refine en_callV (as := []) (rest := []) (bc' := 0) (bs' := 0) hz rfl (s_sd_isOver G hz (d + 1) rfl) lk_0_130 mv_sd_isOver rfl rfl rfl rfl rfl (fun _ h => h) (Nat.le_refl _) (Nat.le_refl _) ?_
    refine en_s_if_ne rfl (fun c4 => ?_) (fun c4 => ?_)
    · rw [if_neg c4] at h
      refine en_s_iconst rfl ?_
      refine en_s_goto rfl ?_
      cases h
      exact en_s_iret rfl rfl
    · rw [if_pos c4] at h
      refine en_s_aload_n rfl rfl ?_
      refine en_s_getI rfl rfl rfl ?_
      refine en_s_if_le rfl (fun c5 => ?_) (fun c5 => ?_)
      · rw [if_pos c5] at h
        refine en_s_iconst rfl ?_
        cases h
        exact en_s_iret rfl rfl
      · rw [if_neg c5] at h
        refine en_s_iconst rfl ?_
        refine en_s_goto rfl ?_
        cases h
        exact en_s_iret rfl rfl
def k_cd_whyNoFlow (g : Nat) (σ : en_M) : Int32 :=
  if (σ 0 g 0 12) < 6 then
    0
  else
    1
set_option maxRecDepth 100000 in
set_option maxHeartbeats 4000000 in
theorem s_cd_whyNoFlow (G : en_G) (hz : G.2.2.2.2.2.2.2.2 = none) (d : Nat) {cs : List en_A} {σ : en_M} {g : Nat} {x0 : Int32}  (h : k_cd_whyNoFlow g σ = x0) : en_Mt G (d + 0) 0 0 M_cd_whyNoFlow [.inr (.inl (some (0, g, 0)))] cs en_rf σ (.inr (some (.inl x0))) cs en_rf σ := by
  refine en_meth (ls := [some (.inr (.inl (some (0, g, 0))))]) md_cd_whyNoFlow rfl rfl rfl ?_
  unfold k_cd_whyNoFlow at h
  refine en_s_aload_n rfl rfl ?_
  refine en_s_getI rfl rfl rfl ?_
  refine en_s_bipush rfl ?_
  refine en_s_icmp_lt rfl (fun c1 => ?_) (fun c1 => ?_)
  · rw [if_pos c1] at h
    refine en_s_iconst rfl ?_
    subst h
    exact en_s_iret rfl rfl
  · rw [if_neg c1] at h
    refine en_s_iconst rfl ?_
    refine en_s_goto rfl ?_
    subst h
    exact en_s_iret rfl rfl
def k_cd_whyNoPause (g : Nat) (v1 : Int32) (v2 : Int32) (σ : en_M) : Option (Int32) :=
  en_b1 (k_cd_flowAt g v1 σ) fun t1 =>
  (match t1 with
  | none =>
    some 2
  | some z3 =>
    if (σ 12 g z3 2) = v2 then
      some 5
    else
      some 0)
set_option maxRecDepth 100000 in
set_option maxHeartbeats 4000000 in
theorem s_cd_whyNoPause (G : en_G) (hz : G.2.2.2.2.2.2.2.2 = none) (d : Nat) {cs : List en_A} {σ : en_M} {g : Nat} {v1 : Int32} {v2 : Int32} {x0 : Int32}  (h : k_cd_whyNoPause g v1 v2 σ = some x0) : en_Mt G (d + 1) 0 0 M_cd_whyNoPause [.inr (.inl (some (0, g, 0))), .inl v1, .inl v2] cs en_rf σ (.inr (some (.inl x0))) cs en_rf σ := by
  refine en_meth (ls := [some (.inr (.inl (some (0, g, 0)))), some (.inl v1), some (.inl v2), none]) md_cd_whyNoPause rfl rfl rfl ?_
  unfold k_cd_whyNoPause at h
  refine en_s_aload_n rfl rfl ?_
  refine en_s_iload_n rfl rfl ?_
  obtain ⟨t1, h2, h⟩ := en_b1_h h
  refine en_callV (as := [.inl v1]) (rest := []) (bc' := 0) (bs' := 0) hz rfl (s_cd_flowAt G hz (d + 0) h2) lk_0_123 mv_cd_flowAt rfl rfl rfl rfl rfl (fun _ h => h) (Nat.le_refl _) (Nat.le_refl _) ?_
  refine en_o_astore_n (ls' := [some (.inr (.inl (some (0, g, 0)))), some (.inl v1), some (.inl v2), some (.inr (.inl (t1.map (fun z9 => (12, g, z9)))))]) rfl rfl rfl ?_
  refine en_o_aload_n rfl rfl ?_
  cases t1 with
  | none =>
    dsimp only at h
    refine en_s_ifnonnullN rfl ?_
    refine en_s_iconst rfl ?_
    cases h
    exact en_s_iret rfl rfl
  | some z3 =>
    dsimp only at h
    refine en_s_ifnonnull rfl ?_
    refine en_s_aload_n rfl rfl ?_
    refine en_s_getI rfl rfl rfl ?_
    refine en_s_iload_n rfl rfl ?_
    refine en_s_icmp_ne rfl (fun c4 => ?_) (fun c4 => ?_)
    · rw [if_neg c4] at h
      refine en_s_iconst rfl ?_
      cases h
      exact en_s_iret rfl rfl
    · rw [if_pos c4] at h
      refine en_s_iconst rfl ?_
      refine en_s_goto rfl ?_
      cases h
      exact en_s_iret rfl rfl
def k_cd_whyNoRate (g : Nat) (v1 : Int32) (σ : en_M) : Option (Int32) :=
  en_b1 (k_cd_flowAt g v1 σ) fun t1 =>
  (match t1 with
  | none =>
    some 2
  | some z3 =>
    some 0)
set_option maxRecDepth 100000 in
set_option maxHeartbeats 4000000 in
theorem s_cd_whyNoRate (G : en_G) (hz : G.2.2.2.2.2.2.2.2 = none) (d : Nat) {cs : List en_A} {σ : en_M} {g : Nat} {v1 : Int32} {x0 : Int32}  (h : k_cd_whyNoRate g v1 σ = some x0) : en_Mt G (d + 1) 0 0 M_cd_whyNoRate [.inr (.inl (some (0, g, 0))), .inl v1] cs en_rf σ (.inr (some (.inl x0))) cs en_rf σ := by
  refine en_meth (ls := [some (.inr (.inl (some (0, g, 0)))), some (.inl v1)]) md_cd_whyNoRate rfl rfl rfl ?_
  unfold k_cd_whyNoRate at h
  refine en_s_aload_n rfl rfl ?_
  refine en_s_iload_n rfl rfl ?_
  obtain ⟨t1, h2, h⟩ := en_b1_h h
  refine en_callV (as := [.inl v1]) (rest := []) (bc' := 0) (bs' := 0) hz rfl (s_cd_flowAt G hz (d + 0) h2) lk_0_123 mv_cd_flowAt rfl rfl rfl rfl rfl (fun _ h => h) (Nat.le_refl _) (Nat.le_refl _) ?_
  cases t1 with
  | none =>
    dsimp only at h
    refine en_s_ifnonnullN rfl ?_
    refine en_s_iconst rfl ?_
    refine en_s_goto rfl ?_
    cases h
    exact en_s_iret rfl rfl
  | some z3 =>
    dsimp only at h
    refine en_s_ifnonnull rfl ?_
    refine en_s_iconst rfl ?_
    cases h
    exact en_s_iret rfl rfl
def k_cd_whyNoSend (g : Nat) (v1 : Int32) (σ : en_M) : Option (Int32) :=
  en_b1 (k_cd_flowAt g v1 σ) fun t1 =>
  (match t1 with
  | none =>
    some 2
  | some z3 =>
    if ((σ 0 g 0 13) - (σ 0 g 0 14)) < (σ 0 g 0 8) then
      some 0
    else
      some 3)
set_option maxRecDepth 100000 in
set_option maxHeartbeats 4000000 in
theorem s_cd_whyNoSend (G : en_G) (hz : G.2.2.2.2.2.2.2.2 = none) (d : Nat) {cs : List en_A} {σ : en_M} {g : Nat} {v1 : Int32} {x0 : Int32}  (h : k_cd_whyNoSend g v1 σ = some x0) : en_Mt G (d + 1) 0 0 M_cd_whyNoSend [.inr (.inl (some (0, g, 0))), .inl v1] cs en_rf σ (.inr (some (.inl x0))) cs en_rf σ := by
  refine en_meth (ls := [some (.inr (.inl (some (0, g, 0)))), some (.inl v1)]) md_cd_whyNoSend rfl rfl rfl ?_
  unfold k_cd_whyNoSend at h
  refine en_s_aload_n rfl rfl ?_
  refine en_s_iload_n rfl rfl ?_
  obtain ⟨t1, h2, h⟩ := en_b1_h h
  refine en_callV (as := [.inl v1]) (rest := []) (bc' := 0) (bs' := 0) hz rfl (s_cd_flowAt G hz (d + 0) h2) lk_0_123 mv_cd_flowAt rfl rfl rfl rfl rfl (fun _ h => h) (Nat.le_refl _) (Nat.le_refl _) ?_
  cases t1 with
  | none =>
    dsimp only at h
    refine en_s_ifnonnullN rfl ?_
    refine en_s_iconst rfl ?_
    cases h
    exact en_s_iret rfl rfl
  | some z3 =>
    dsimp only at h
    refine en_s_ifnonnull rfl ?_
    refine en_s_aload_n rfl rfl ?_
    refine en_s_getI rfl rfl rfl ?_
    refine en_s_aload_n rfl rfl ?_
    refine en_s_getI rfl rfl rfl ?_
    refine en_s_isub rfl ?_
    refine en_s_aload_n rfl rfl ?_
    refine en_s_getI rfl rfl rfl ?_
    refine en_s_icmp_lt rfl (fun c4 => ?_) (fun c4 => ?_)
    · rw [if_pos c4] at h
      refine en_s_iconst rfl ?_
      cases h
      exact en_s_iret rfl rfl
    · rw [if_neg c4] at h
      refine en_s_iconst rfl ?_
      refine en_s_goto rfl ?_
      cases h
      exact en_s_iret rfl rfl
def k_cd_whyNoTick (g : Nat) (σ : en_M) : Int32 :=
  if (σ 0 g 0 11) < 9999 then
    0
  else
    6
set_option maxRecDepth 100000 in
set_option maxHeartbeats 4000000 in
theorem s_cd_whyNoTick (G : en_G) (hz : G.2.2.2.2.2.2.2.2 = none) (d : Nat) {cs : List en_A} {σ : en_M} {g : Nat} {x0 : Int32}  (h : k_cd_whyNoTick g σ = x0) : en_Mt G (d + 0) 0 0 M_cd_whyNoTick [.inr (.inl (some (0, g, 0)))] cs en_rf σ (.inr (some (.inl x0))) cs en_rf σ := by
  refine en_meth (ls := [some (.inr (.inl (some (0, g, 0))))]) md_cd_whyNoTick rfl rfl rfl ?_
  unfold k_cd_whyNoTick at h
  refine en_s_aload_n rfl rfl ?_
  refine en_s_getI rfl rfl rfl ?_
  refine en_s_sipush rfl ?_
  refine en_s_icmp_lt rfl (fun c1 => ?_) (fun c1 => ?_)
  · rw [if_pos c1] at h
    refine en_s_iconst rfl ?_
    subst h
    exact en_s_iret rfl rfl
  · rw [if_neg c1] at h
    refine en_s_bipush rfl ?_
    refine en_s_goto rfl ?_
    subst h
    exact en_s_iret rfl rfl
def k_hi_forget  (σ : en_M) : Option (en_M) :=
  en_let (en_wr σ 15 0 0 1 0) fun s1 =>
  en_let (en_wr s1 15 0 0 2 0) fun s3 =>
  some s3
set_option maxRecDepth 100000 in
set_option maxHeartbeats 4000000 in
theorem s_hi_forget (G : en_G) (hz : G.2.2.2.2.2.2.2.2 = none) (d : Nat) {cs : List en_A} {σ : en_M}  {s0 : en_M}  (h : k_hi_forget  σ = some s0) : en_Mt G (d + 0) 0 0 M_hi_forget [.inr (.inl (some (15, 0, 0)))] cs en_rf σ (.inr (none)) cs en_rf s0 := by
  refine en_meth (ls := [some (.inr (.inl (some (15, 0, 0))))]) md_hi_forget rfl rfl rfl ?_
  unfold k_hi_forget at h
  refine en_s_aload_n rfl rfl ?_
  refine en_s_iconst rfl ?_
  obtain ⟨s1, e2, h⟩ := en_let_h h
  refine en_p_putI e2 rfl rfl rfl rfl rfl ?_
  refine en_s_aload_n rfl rfl ?_
  refine en_s_iconst rfl ?_
  obtain ⟨s3, e4, h⟩ := en_let_h h
  refine en_p_putI e4 rfl rfl rfl rfl rfl ?_
  cases h
  exact en_s_vret rfl rfl
def k_hi_remember (g1 : Nat) (σ : en_M) : Option (en_M) :=
  en_b1 (en_ix 8 (en_fm ((σ 15 0 0 1) + (σ 15 0 0 2)) 8)) fun q1 =>
  en_b1 (k_cd_copyFrom (3 + q1) g1 σ) fun s3 =>
  if 8 ≤ (s3 15 0 0 2) then
    en_let (en_wr s3 15 0 0 1 (en_fm ((s3 15 0 0 1) + 1) 8)) fun s6 =>
    some s6
  else
    en_let (en_wr s3 15 0 0 2 ((s3 15 0 0 2) + 1)) fun s8 =>
    some s8
set_option maxRecDepth 100000 in
set_option maxHeartbeats 4000000 in
theorem s_hi_remember (G : en_G) (hz : G.2.2.2.2.2.2.2.2 = none) (d : Nat) {cs : List en_A} {σ : en_M} {g1 : Nat} {s0 : en_M}  (h : k_hi_remember g1 σ = some s0) : en_Mt G (d + 3) 0 0 M_hi_remember [.inr (.inl (some (15, 0, 0))), .inr (.inl (some (0, g1, 0)))] cs en_rf σ (.inr (none)) cs en_rf s0 := by
  refine en_meth (ls := [some (.inr (.inl (some (15, 0, 0)))), some (.inr (.inl (some (0, g1, 0))))]) md_hi_remember rfl rfl rfl ?_
  unfold k_hi_remember at h
  refine en_s_aload_n rfl rfl ?_
  refine en_s_getR (w := some (16, 0, 0)) rfl rfl rfl rfl ?_
  refine en_s_aload_n rfl rfl ?_
  refine en_s_getI rfl rfl rfl ?_
  refine en_s_aload_n rfl rfl ?_
  refine en_s_getI rfl rfl rfl ?_
  refine en_s_iadd rfl ?_
  refine en_s_bipush rfl ?_
  refine en_s_fmod hz rfl (en_tw_of (i := 607) (by decide +kernel) (by decide +kernel)) (by decide) rfl ?_
  obtain ⟨q1, h2, h⟩ := en_b1_h h
  refine en_p_aald (t := 2) (w := some (0, (3 + q1), 0)) h2 rfl rfl (fun _ => rfl) rfl ?_
  refine en_s_aload_n rfl rfl ?_
  obtain ⟨s3, h4, h⟩ := en_b1_h h
  refine en_callV (as := [.inr (.inl (some (0, g1, 0)))]) (rest := []) (bc' := 0) (bs' := 0) hz rfl (s_cd_copyFrom G hz (d + 0) h4) lk_3_31 mv_cd_copyFrom rfl rfl rfl rfl rfl (fun _ h => h) (Nat.le_refl _) (Nat.le_refl _) ?_
  refine en_s_aload_n rfl rfl ?_
  refine en_s_getI rfl rfl rfl ?_
  refine en_s_bipush rfl ?_
  refine en_s_icmp_ge rfl (fun c5 => ?_) (fun c5 => ?_)
  · rw [if_pos c5] at h
    refine en_s_aload_n rfl rfl ?_
    refine en_s_aload_n rfl rfl ?_
    refine en_s_getI rfl rfl rfl ?_
    refine en_s_iconst rfl ?_
    refine en_s_iadd rfl ?_
    refine en_s_bipush rfl ?_
    refine en_s_fmod hz rfl (en_tw_of (i := 607) (by decide +kernel) (by decide +kernel)) (by decide) rfl ?_
    obtain ⟨s6, e7, h⟩ := en_let_h h
    refine en_p_putI e7 rfl rfl rfl rfl rfl ?_
    cases h
    exact en_s_vret rfl rfl
  · rw [if_neg c5] at h
    refine en_s_aload_n rfl rfl ?_
    refine en_s_dup rfl rfl ?_
    refine en_s_getI rfl rfl rfl ?_
    refine en_s_iconst rfl ?_
    refine en_s_iadd rfl ?_
    obtain ⟨s8, e9, h⟩ := en_let_h h
    refine en_p_putI e9 rfl rfl rfl rfl rfl ?_
    refine en_s_goto rfl ?_
    cases h
    exact en_s_vret rfl rfl
def k_hi_takeBack (g1 : Nat) (σ : en_M) : Option (en_M) :=
  if (σ 15 0 0 2) ≤ 0 then
    some σ
  else
    en_let (en_wr σ 15 0 0 2 ((σ 15 0 0 2) - 1)) fun s2 =>
    en_b1 (en_ix 8 (en_fm ((s2 15 0 0 1) + (s2 15 0 0 2)) 8)) fun q4 =>
    en_b1 (k_cd_copyFrom g1 (3 + q4) s2) fun s6 =>
    some s6
set_option maxRecDepth 100000 in
set_option maxHeartbeats 4000000 in
theorem s_hi_takeBack (G : en_G) (hz : G.2.2.2.2.2.2.2.2 = none) (d : Nat) {cs : List en_A} {σ : en_M} {g1 : Nat} {s0 : en_M}  (h : k_hi_takeBack g1 σ = some s0) : en_Mt G (d + 3) 0 0 M_hi_takeBack [.inr (.inl (some (15, 0, 0))), .inr (.inl (some (0, g1, 0)))] cs en_rf σ (.inr (none)) cs en_rf s0 := by
  refine en_meth (ls := [some (.inr (.inl (some (15, 0, 0)))), some (.inr (.inl (some (0, g1, 0))))]) md_hi_takeBack rfl rfl rfl ?_
  unfold k_hi_takeBack at h
  refine en_s_aload_n rfl rfl ?_
  refine en_s_getI rfl rfl rfl ?_
  refine en_s_if_le rfl (fun c1 => ?_) (fun c1 => ?_)
  · rw [if_pos c1] at h
    cases h
    exact en_s_vret rfl rfl
  · rw [if_neg c1] at h
    refine en_s_aload_n rfl rfl ?_
    refine en_s_dup rfl rfl ?_
    refine en_s_getI rfl rfl rfl ?_
    refine en_s_iconst rfl ?_
    refine en_s_isub rfl ?_
    obtain ⟨s2, e3, h⟩ := en_let_h h
    refine en_p_putI e3 rfl rfl rfl rfl rfl ?_
    refine en_s_aload_n rfl rfl ?_
    refine en_s_aload_n rfl rfl ?_
    refine en_s_getR (w := some (16, 0, 0)) rfl rfl rfl rfl ?_
    refine en_s_aload_n rfl rfl ?_
    refine en_s_getI rfl rfl rfl ?_
    refine en_s_aload_n rfl rfl ?_
    refine en_s_getI rfl rfl rfl ?_
    refine en_s_iadd rfl ?_
    refine en_s_bipush rfl ?_
    refine en_s_fmod hz rfl (en_tw_of (i := 607) (by decide +kernel) (by decide +kernel)) (by decide) rfl ?_
    obtain ⟨q4, h5, h⟩ := en_b1_h h
    refine en_p_aald (t := 2) (w := some (0, (3 + q4), 0)) h5 rfl rfl (fun _ => rfl) rfl ?_
    obtain ⟨s6, h7, h⟩ := en_b1_h h
    refine en_callV (as := [.inr (.inl (some (0, (3 + q4), 0)))]) (rest := []) (bc' := 0) (bs' := 0) hz rfl (s_cd_copyFrom G hz (d + 0) h7) lk_3_31 mv_cd_copyFrom rfl rfl rfl rfl rfl (fun _ h => h) (Nat.le_refl _) (Nat.le_refl _) ?_
    cases h
    exact en_s_vret rfl rfl
def k_pp_begin_2 (f0 : Nat) (g1 : Nat) (v2 : Int32) (σ : en_M) : Option (en_M) := match f0 with
  | 0 => none
  | f9 + 1 =>
    if 8 ≤ v2 then
      some (σ)
    else
      en_b1 (en_ix 8 v2) fun q2 =>
      en_b1 (en_wa 8 σ 18 0 0 v2 (σ 13 g1 q2 7)) fun s4 =>
      k_pp_begin_2 f9 g1 (v2 + 1) s4
def k_pp_begin (g1 : Nat) (σ : en_M) : Option (en_M) :=
  en_b1 (k_pp_begin_2 en_fu g1 0 σ) fun s7 =>
  if (s7 0 g1 0 15) = (-1) then
    en_let (en_wr s7 17 0 0 2 (s7 0 g1 0 11)) fun s12 =>
    some s12
  else
    en_let (en_wr s7 17 0 0 2 (s7 0 g1 0 16)) fun s10 =>
    some s10
set_option maxRecDepth 100000 in
set_option maxHeartbeats 4000000 in
theorem s_pp_begin_2 (G : en_G) (hz : G.2.2.2.2.2.2.2.2 = none) {d : Nat} {r : en_P} {cs cs' : List en_A} {ρ' : en_R} {σ' : en_M} : ∀ (f0 : Nat) {g1 : Nat} {v2 : Int32}  {σ : en_M} {s0 : en_M} , k_pp_begin_2 f0 g1 v2 σ = some (s0) →
    (∀ (f2 : Option en_V), en_W G (d + 0) 0 0 M_pp_begin r cs' ρ' σ' 0 0 29 [some (.inr (.inl (some (17, 0, 0)))), some (.inr (.inl (some (0, g1, 0)))), f2] [] cs en_rf s0) → en_W G (d + 0) 0 0 M_pp_begin r cs' ρ' σ' 0 0 2 [some (.inr (.inl (some (17, 0, 0)))), some (.inr (.inl (some (0, g1, 0)))), some (.inl v2)] [] cs en_rf σ := by
  intro f0
  induction f0 with
  | zero =>
    intros
    rename_i h _
    cases h
  | succ f9 ih =>
    intro g1 v2 σ s0 h hk
    rw [k_pp_begin_2] at h
    refine en_s_iload_n rfl rfl ?_
    refine en_s_bipush rfl ?_
    refine en_s_icmp_ge rfl (fun c1 => ?_) (fun c1 => ?_)
    · rw [if_pos c1] at h
      cases h
      exact hk (some (.inl v2))
    · rw [if_neg c1] at h
      refine en_s_aload_n rfl rfl ?_
      refine en_s_getR (w := some (18, 0, 0)) rfl rfl rfl rfl ?_
      refine en_s_iload_n rfl rfl ?_
      refine en_s_aload_n rfl rfl ?_
      refine en_s_getR (w := some (2, g1, 0)) rfl rfl rfl rfl ?_
      refine en_s_iload_n rfl rfl ?_
      obtain ⟨q2, h3, h⟩ := en_b1_h h
      refine en_p_aald (t := 1) (w := some (13, g1, q2)) h3 rfl rfl (fun _ => rfl) rfl ?_
      refine en_s_getI rfl rfl rfl ?_
      obtain ⟨s4, e5, h⟩ := en_b1_h h
      refine en_s_iast rfl rfl e5 ?_
      refine en_s_iinc (ls' := [some (.inr (.inl (some (17, 0, 0)))), some (.inr (.inl (some (0, g1, 0)))), some (.inl (v2 + 1))]) rfl rfl rfl ?_
      refine en_s_goto rfl ?_
      exact ih  h hk
set_option maxRecDepth 100000 in
set_option maxHeartbeats 4000000 in
theorem s_pp_begin (G : en_G) (hz : G.2.2.2.2.2.2.2.2 = none) (d : Nat) {cs : List en_A} {σ : en_M} {g1 : Nat} {s0 : en_M}  (h : k_pp_begin g1 σ = some s0) : en_Mt G (d + 0) 0 0 M_pp_begin [.inr (.inl (some (17, 0, 0))), .inr (.inl (some (0, g1, 0)))] cs en_rf σ (.inr (none)) cs en_rf s0 := by
  refine en_meth (ls := [some (.inr (.inl (some (17, 0, 0)))), some (.inr (.inl (some (0, g1, 0)))), none]) md_pp_begin rfl rfl rfl ?_
  unfold k_pp_begin at h
  refine en_s_iconst rfl ?_
  refine en_s_istore_n (ls' := [some (.inr (.inl (some (17, 0, 0)))), some (.inr (.inl (some (0, g1, 0)))), some (.inl 0)]) rfl rfl rfl ?_
  obtain ⟨s7, h8, h⟩ := en_b1_h h
  refine s_pp_begin_2 G hz en_fu  h8 (fun f6 => ?_)
  refine en_s_aload_n rfl rfl ?_
  refine en_s_aload_n rfl rfl ?_
  refine en_s_getI rfl rfl rfl ?_
  refine en_s_iconst rfl ?_
  refine en_s_icmp_ne rfl (fun c9 => ?_) (fun c9 => ?_)
  · rw [if_neg c9] at h
    refine en_s_aload_n rfl rfl ?_
    refine en_s_getI rfl rfl rfl ?_
    obtain ⟨s10, e11, h⟩ := en_let_h h
    refine en_p_putI e11 rfl rfl rfl rfl rfl ?_
    cases h
    exact en_s_vret rfl rfl
  · rw [if_pos c9] at h
    refine en_s_aload_n rfl rfl ?_
    refine en_s_getI rfl rfl rfl ?_
    refine en_s_goto rfl ?_
    obtain ⟨s12, e13, h⟩ := en_let_h h
    refine en_p_putI e13 rfl rfl rfl rfl rfl ?_
    cases h
    exact en_s_vret rfl rfl
def k_pp_beginAsTimed (g1 : Nat) (σ : en_M) : Option (en_M) :=
  en_b1 (k_pp_begin g1 σ) fun s1 =>
  en_let (en_cp s1 3 g1 0 19 0 0 160) fun s3 =>
  some s3
set_option maxRecDepth 100000 in
set_option maxHeartbeats 4000000 in
theorem s_pp_beginAsTimed (G : en_G) (hz : G.2.2.2.2.2.2.2.2 = none) (d : Nat) {cs : List en_A} {σ : en_M} {g1 : Nat} {s0 : en_M}  (h : k_pp_beginAsTimed g1 σ = some s0) : en_Mt G (d + 1) 0 0 M_pp_beginAsTimed [.inr (.inl (some (17, 0, 0))), .inr (.inl (some (0, g1, 0)))] cs en_rf σ (.inr (none)) cs en_rf s0 := by
  refine en_meth (ls := [some (.inr (.inl (some (17, 0, 0)))), some (.inr (.inl (some (0, g1, 0))))]) md_pp_beginAsTimed rfl rfl rfl ?_
  unfold k_pp_beginAsTimed at h
  refine en_s_aload_n rfl rfl ?_
  refine en_s_aload_n rfl rfl ?_
  obtain ⟨s1, h2, h⟩ := en_b1_h h
  refine en_callV (as := [.inr (.inl (some (0, g1, 0)))]) (rest := []) (bc' := 0) (bs' := 0) hz rfl (s_pp_begin G hz (d + 0) h2) lk_5_41 mv_pp_begin rfl rfl rfl rfl rfl (fun _ h => h) (Nat.le_refl _) (Nat.le_refl _) ?_
  refine en_s_aload_n rfl rfl ?_
  refine en_s_getR (w := some (3, g1, 0)) rfl rfl rfl rfl ?_
  refine en_s_iconst rfl ?_
  refine en_s_aload_n rfl rfl ?_
  refine en_s_getR (w := some (19, 0, 0)) rfl rfl rfl rfl ?_
  refine en_s_iconst rfl ?_
  refine en_s_sipush rfl ?_
  obtain ⟨s3, e4, h⟩ := en_let_h h
  refine en_s_copy e4 rfl (en_tw_of (i := 747) (by decide +kernel) (by decide +kernel)) rfl rfl (by decide) (by decide) rfl rfl rfl ?_
  cases h
  exact en_s_vret rfl rfl
def k_pp_step_12 (f0 : Nat) (g1 : Nat) (v2 : Option Nat) (v3 : Int32) (v4 : Int32) (σ : en_M) : Option (Option Nat × Int32) := match f0 with
  | 0 => none
  | f9 + 1 =>
    if (σ 0 g1 0 13) ≤ v4 then
      some (v2, v3)
    else
      en_b1 (k_cd_sendAt g1 v4 σ) fun t2 =>
      (match t2 with
      | none =>
        k_pp_step_12 f9 g1 v2 v3 (v4 + 1) σ
      | some z4 =>
        if (k_sd_waits g1 z4 σ) = 0 then
          k_pp_step_12 f9 g1 v2 v3 (v4 + 1) σ
        else
          en_b1 (k_cd_isPaused g1 (σ 13 g1 z4 1) σ) fun t6 =>
          if t6 = 0 then
            en_b1 (en_rd 8 (σ 18 0 0) (en_fm v4 8)) fun t9 =>
            if (σ 13 g1 z4 6) ≤ t9 then
              k_pp_step_12 f9 g1 v2 v3 (v4 + 1) σ
            else
              en_b1 (en_rd 160 (σ 19 0 0) (k_sd_indexOf g1 z4 t9 σ)) fun t12 =>
              if v3 ≤ t12 then
                k_pp_step_12 f9 g1 v2 v3 (v4 + 1) σ
              else
                en_b1 (en_rd 160 (σ 19 0 0) (k_sd_indexOf g1 z4 t9 σ)) fun t15 =>
                k_pp_step_12 f9 g1 (some z4) t15 (v4 + 1) σ
          else
            k_pp_step_12 f9 g1 v2 v3 (v4 + 1) σ)
def k_pp_step (g1 : Nat) (σ : en_M) : Option (Int32 × en_M) :=
  en_b2 (k_pp_step_12 en_fu g1 none 9999 (σ 0 g1 0 14) σ) fun x17 x18 =>
  (match x17 with
  | none =>
    some (0, σ)
  | some z23 =>
    if (σ 17 0 0 2) < 9999 then
      en_let (en_wr σ 17 0 0 3 (σ 13 g1 z23 0)) fun s25 =>
      en_b1 (en_rd 8 (s25 18 0 0) (en_fm (s25 17 0 0 3) 8)) fun t27 =>
      en_b1 (en_wa 8 s25 18 0 0 (en_fm (s25 17 0 0 3) 8) (t27 + 1)) fun s29 =>
      en_let (en_wr s29 17 0 0 4 t27) fun s31 =>
      en_let (en_wr s31 17 0 0 5 (if (s31 17 0 0 2) < x18 then x18 else (s31 17 0 0 2))) fun s33 =>
      en_b1 (k_cc_roundedUp (k_sd_sizeOf g1 z23 (s33 17 0 0 4) s33) (s33 0 g1 0 9)) fun t35 =>
      en_let (en_wr s33 17 0 0 2 ((s33 17 0 0 5) + t35)) fun s37 =>
      if (s37 17 0 0 4) = ((s37 13 g1 z23 6) - 1) then
        en_let (en_wr s37 17 0 0 6 1) fun s42 =>
        some (1, s42)
      else
        en_let (en_wr s37 17 0 0 6 0) fun s40 =>
        some (1, s40)
    else
      some (0, σ))
set_option maxRecDepth 100000 in
set_option maxHeartbeats 4000000 in
theorem s_pp_step_12 (G : en_G) (hz : G.2.2.2.2.2.2.2.2 = none) {d : Nat} {r : en_P} {cs cs' : List en_A} {ρ' : en_R} {σ' : en_M} : ∀ (f0 : Nat) {g1 : Nat} {v2 : Option Nat} {v3 : Int32} {v4 : Int32} {e5 e6 : Option en_V} {σ : en_M} {x2 : Option Nat} {x3 : Int32} , k_pp_step_12 f0 g1 v2 v3 v4 σ = some (x2, x3) →
    (∀ (f4 : Option en_V) (f5 : Option en_V) (f6 : Option en_V), en_W G (d + 1) 0 0 M_pp_step r cs' ρ' σ' 0 0 116 [some (.inr (.inl (some (17, 0, 0)))), some (.inr (.inl (some (0, g1, 0)))), some (.inr (.inl (x2.map (fun z9 => (13, g1, z9))))), some (.inl x3), f4, f5, f6] [] cs en_rf σ) → en_W G (d + 1) 0 0 M_pp_step r cs' ρ' σ' 0 0 12 [some (.inr (.inl (some (17, 0, 0)))), some (.inr (.inl (some (0, g1, 0)))), some (.inr (.inl (v2.map (fun z9 => (13, g1, z9))))), some (.inl v3), some (.inl v4), e5, e6] [] cs en_rf σ := by
  intro f0
  induction f0 with
  | zero =>
    intros
    rename_i h _
    cases h
  | succ f9 ih =>
    intro g1 v2 v3 v4 e5 e6 σ x2 x3 h hk
    rw [k_pp_step_12] at h
    refine en_s_iload rfl rfl ?_
    refine en_s_aload_n rfl rfl ?_
    refine en_s_getI rfl rfl rfl ?_
    refine en_s_icmp_ge rfl (fun c1 => ?_) (fun c1 => ?_)
    · rw [if_pos c1] at h
      cases h
      exact hk (some (.inl v4)) (e5) (e6)
    · rw [if_neg c1] at h
      refine en_s_aload_n rfl rfl ?_
      refine en_s_iload rfl rfl ?_
      obtain ⟨t2, h3, h⟩ := en_b1_h h
      refine en_callV (as := [.inl v4]) (rest := []) (bc' := 0) (bs' := 0) hz rfl (s_cd_sendAt G hz (d + 0) h3) lk_5_58 mv_cd_sendAt rfl rfl rfl rfl rfl (fun _ h => h) (Nat.le_refl _) (Nat.le_refl _) ?_
      refine en_o_astore (ls' := [some (.inr (.inl (some (17, 0, 0)))), some (.inr (.inl (some (0, g1, 0)))), some (.inr (.inl (v2.map (fun z9 => (13, g1, z9))))), some (.inl v3), some (.inl v4), some (.inr (.inl (t2.map (fun z9 => (13, g1, z9))))), e6]) rfl rfl rfl ?_
      refine en_o_aload rfl rfl ?_
      cases t2 with
      | none =>
        dsimp only at h
        refine en_s_ifnullN rfl ?_
        refine en_s_iinc (ls' := [some (.inr (.inl (some (17, 0, 0)))), some (.inr (.inl (some (0, g1, 0)))), some (.inr (.inl (v2.map (fun z9 => (13, g1, z9))))), some (.inl v3), some (.inl (v4 + 1)), some (.inr (.inl none)), e6]) rfl rfl rfl ?_
        refine en_s_goto rfl ?_
        exact ih (e5 := some (.inr (.inl none))) (e6 := e6) h hk
      | some z4 =>
        dsimp only at h
        refine en_s_ifnull rfl ?_
        refine en_s_aload rfl rfl ?_
        refine en_callV (as := []) (rest := []) (bc' := 0) (bs' := 0) hz rfl (s_sd_waits G hz (d + 0) rfl) lk_5_62 mv_sd_waits rfl rfl rfl rfl rfl (fun _ h => h) (Nat.le_refl _) (Nat.le_refl _) ?_
        refine en_s_if_eq rfl (fun c5 => ?_) (fun c5 => ?_)
        · rw [if_pos c5] at h
          refine en_s_iinc (ls' := [some (.inr (.inl (some (17, 0, 0)))), some (.inr (.inl (some (0, g1, 0)))), some (.inr (.inl (v2.map (fun z9 => (13, g1, z9))))), some (.inl v3), some (.inl (v4 + 1)), some (.inr (.inl (some (13, g1, z4)))), e6]) rfl rfl rfl ?_
          refine en_s_goto rfl ?_
          exact ih (e5 := some (.inr (.inl (some (13, g1, z4))))) (e6 := e6) h hk
        · rw [if_neg c5] at h
          refine en_s_aload_n rfl rfl ?_
          refine en_s_aload rfl rfl ?_
          refine en_s_getI rfl rfl rfl ?_
          obtain ⟨t6, h7, h⟩ := en_b1_h h
          refine en_callV (as := [.inl (σ 13 g1 z4 1)]) (rest := []) (bc' := 0) (bs' := 0) hz rfl (s_cd_isPaused G hz (d + 0) h7) lk_5_69 mv_cd_isPaused rfl rfl rfl rfl rfl (fun _ h => h) (Nat.le_refl _) (Nat.le_refl _) ?_
          refine en_s_if_ne rfl (fun c8 => ?_) (fun c8 => ?_)
          · rw [if_neg c8] at h
            refine en_s_iinc (ls' := [some (.inr (.inl (some (17, 0, 0)))), some (.inr (.inl (some (0, g1, 0)))), some (.inr (.inl (v2.map (fun z9 => (13, g1, z9))))), some (.inl v3), some (.inl (v4 + 1)), some (.inr (.inl (some (13, g1, z4)))), e6]) rfl rfl rfl ?_
            refine en_s_goto rfl ?_
            exact ih (e5 := some (.inr (.inl (some (13, g1, z4))))) (e6 := e6) h hk
          · rw [if_pos c8] at h
            refine en_s_aload_n rfl rfl ?_
            refine en_s_getR (w := some (18, 0, 0)) rfl rfl rfl rfl ?_
            refine en_s_iload rfl rfl ?_
            refine en_s_bipush rfl ?_
            refine en_s_fmod hz rfl (en_tw_of (i := 758) (by decide +kernel) (by decide +kernel)) (by decide) rfl ?_
            obtain ⟨t9, h10, h⟩ := en_b1_h h
            refine en_s_iald rfl rfl h10 ?_
            refine en_s_istore (ls' := [some (.inr (.inl (some (17, 0, 0)))), some (.inr (.inl (some (0, g1, 0)))), some (.inr (.inl (v2.map (fun z9 => (13, g1, z9))))), some (.inl v3), some (.inl v4), some (.inr (.inl (some (13, g1, z4)))), some (.inl t9)]) rfl rfl rfl ?_
            refine en_s_iload rfl rfl ?_
            refine en_s_aload rfl rfl ?_
            refine en_s_getI rfl rfl rfl ?_
            refine en_s_icmp_ge rfl (fun c11 => ?_) (fun c11 => ?_)
            · rw [if_pos c11] at h
              refine en_s_iinc (ls' := [some (.inr (.inl (some (17, 0, 0)))), some (.inr (.inl (some (0, g1, 0)))), some (.inr (.inl (v2.map (fun z9 => (13, g1, z9))))), some (.inl v3), some (.inl (v4 + 1)), some (.inr (.inl (some (13, g1, z4)))), some (.inl t9)]) rfl rfl rfl ?_
              refine en_s_goto rfl ?_
              exact ih (e5 := some (.inr (.inl (some (13, g1, z4))))) (e6 := some (.inl t9)) h hk
            · rw [if_neg c11] at h
              refine en_s_aload_n rfl rfl ?_
              refine en_s_getR (w := some (19, 0, 0)) rfl rfl rfl rfl ?_
              refine en_s_aload rfl rfl ?_
              refine en_s_iload rfl rfl ?_
              refine en_callV (as := [.inl t9]) (rest := [.inr (.inl (some (19, 0, 0)))]) (bc' := 0) (bs' := 0) hz rfl (s_sd_indexOf G hz (d + 0) rfl) lk_5_82 mv_sd_indexOf rfl rfl rfl rfl rfl (fun _ h => h) (Nat.le_refl _) (Nat.le_refl _) ?_
              obtain ⟨t12, h13, h⟩ := en_b1_h h
              refine en_s_iald rfl rfl h13 ?_
              refine en_s_iload_n rfl rfl ?_
              refine en_s_icmp_ge rfl (fun c14 => ?_) (fun c14 => ?_)
              · rw [if_pos c14] at h
                refine en_s_iinc (ls' := [some (.inr (.inl (some (17, 0, 0)))), some (.inr (.inl (some (0, g1, 0)))), some (.inr (.inl (v2.map (fun z9 => (13, g1, z9))))), some (.inl v3), some (.inl (v4 + 1)), some (.inr (.inl (some (13, g1, z4)))), some (.inl t9)]) rfl rfl rfl ?_
                refine en_s_goto rfl ?_
                exact ih (e5 := some (.inr (.inl (some (13, g1, z4))))) (e6 := some (.inl t9)) h hk
              · rw [if_neg c14] at h
                refine en_s_aload rfl rfl ?_
                refine en_s_astore_n (ls' := [some (.inr (.inl (some (17, 0, 0)))), some (.inr (.inl (some (0, g1, 0)))), some (.inr (.inl (some (13, g1, z4)))), some (.inl v3), some (.inl v4), some (.inr (.inl (some (13, g1, z4)))), some (.inl t9)]) rfl rfl rfl ?_
                refine en_s_aload_n rfl rfl ?_
                refine en_s_getR (w := some (19, 0, 0)) rfl rfl rfl rfl ?_
                refine en_s_aload rfl rfl ?_
                refine en_s_iload rfl rfl ?_
                refine en_callV (as := [.inl t9]) (rest := [.inr (.inl (some (19, 0, 0)))]) (bc' := 0) (bs' := 0) hz rfl (s_sd_indexOf G hz (d + 0) rfl) lk_5_82 mv_sd_indexOf rfl rfl rfl rfl rfl (fun _ h => h) (Nat.le_refl _) (Nat.le_refl _) ?_
                obtain ⟨t15, h16, h⟩ := en_b1_h h
                refine en_s_iald rfl rfl h16 ?_
                refine en_s_istore_n (ls' := [some (.inr (.inl (some (17, 0, 0)))), some (.inr (.inl (some (0, g1, 0)))), some (.inr (.inl (some (13, g1, z4)))), some (.inl t15), some (.inl v4), some (.inr (.inl (some (13, g1, z4)))), some (.inl t9)]) rfl rfl rfl ?_
                refine en_s_iinc (ls' := [some (.inr (.inl (some (17, 0, 0)))), some (.inr (.inl (some (0, g1, 0)))), some (.inr (.inl (some (13, g1, z4)))), some (.inl t15), some (.inl (v4 + 1)), some (.inr (.inl (some (13, g1, z4)))), some (.inl t9)]) rfl rfl rfl ?_
                refine en_s_goto rfl ?_
                exact ih (e5 := some (.inr (.inl (some (13, g1, z4))))) (e6 := some (.inl t9)) h hk
set_option maxRecDepth 100000 in
set_option maxHeartbeats 4000000 in
theorem s_pp_step (G : en_G) (hz : G.2.2.2.2.2.2.2.2 = none) (d : Nat) {cs : List en_A} {σ : en_M} {g1 : Nat} {x0 : Int32} {s0 : en_M}  (h : k_pp_step g1 σ = some (x0, s0)) : en_Mt G (d + 1) 0 0 M_pp_step [.inr (.inl (some (17, 0, 0))), .inr (.inl (some (0, g1, 0)))] cs en_rf σ (.inr (some (.inl x0))) cs en_rf s0 := by
  refine en_meth (ls := [some (.inr (.inl (some (17, 0, 0)))), some (.inr (.inl (some (0, g1, 0)))), none, none, none, none, none]) md_pp_step rfl rfl rfl ?_
  unfold k_pp_step at h
  refine en_s_null rfl ?_
  refine en_s_astore_nN (ls' := [some (.inr (.inl (some (17, 0, 0)))), some (.inr (.inl (some (0, g1, 0)))), some (.inr (.inl none)), none, none, none, none]) rfl rfl rfl ?_
  refine en_s_sipush rfl ?_
  refine en_s_istore_n (ls' := [some (.inr (.inl (some (17, 0, 0)))), some (.inr (.inl (some (0, g1, 0)))), some (.inr (.inl none)), some (.inl 9999), none, none, none]) rfl rfl rfl ?_
  refine en_s_aload_n rfl rfl ?_
  refine en_s_getI rfl rfl rfl ?_
  refine en_s_istore (ls' := [some (.inr (.inl (some (17, 0, 0)))), some (.inr (.inl (some (0, g1, 0)))), some (.inr (.inl none)), some (.inl 9999), some (.inl (σ 0 g1 0 14)), none, none]) rfl rfl rfl ?_
  obtain ⟨x17, x18, h22, h⟩ := en_b2_h h
  refine s_pp_step_12 G hz en_fu (e5 := none) (e6 := none) h22 (fun f19 f20 f21 => ?_)
  refine en_o_aload_n rfl rfl ?_
  cases x17 with
  | none =>
    dsimp only at h
    refine en_s_ifnullN rfl ?_
    refine en_s_iconst rfl ?_
    cases h
    exact en_s_zret rfl rfl (Or.inl rfl)
  | some z23 =>
    dsimp only at h
    refine en_s_ifnull rfl ?_
    refine en_s_aload_n rfl rfl ?_
    refine en_s_getI rfl rfl rfl ?_
    refine en_s_sipush rfl ?_
    refine en_s_icmp_lt rfl (fun c24 => ?_) (fun c24 => ?_)
    · rw [if_pos c24] at h
      refine en_s_aload_n rfl rfl ?_
      refine en_s_aload_n rfl rfl ?_
      refine en_s_getI rfl rfl rfl ?_
      obtain ⟨s25, e26, h⟩ := en_let_h h
      refine en_p_putI e26 rfl rfl rfl rfl rfl ?_
      refine en_s_aload_n rfl rfl ?_
      refine en_s_aload_n rfl rfl ?_
      refine en_s_getR (w := some (18, 0, 0)) rfl rfl rfl rfl ?_
      refine en_s_aload_n rfl rfl ?_
      refine en_s_getI rfl rfl rfl ?_
      refine en_s_bipush rfl ?_
      refine en_s_fmod hz rfl (en_tw_of (i := 758) (by decide +kernel) (by decide +kernel)) (by decide) rfl ?_
      refine en_s_dup2 rfl rfl rfl ?_
      obtain ⟨t27, h28, h⟩ := en_b1_h h
      refine en_s_iald rfl rfl h28 ?_
      refine en_s_dup_x2 rfl rfl rfl rfl ?_
      refine en_s_iconst rfl ?_
      refine en_s_iadd rfl ?_
      obtain ⟨s29, e30, h⟩ := en_b1_h h
      refine en_s_iast rfl rfl e30 ?_
      obtain ⟨s31, e32, h⟩ := en_let_h h
      refine en_p_putI e32 rfl rfl rfl rfl rfl ?_
      refine en_s_aload_n rfl rfl ?_
      refine en_s_aload_n rfl rfl ?_
      refine en_s_getI rfl rfl rfl ?_
      refine en_s_iload_n rfl rfl ?_
      refine en_s_max rfl (en_tw_of (i := 760) (by decide +kernel) (by decide +kernel)) mx_st_max mx_in mx_cd_max rfl ?_
      obtain ⟨s33, e34, h⟩ := en_let_h h
      refine en_p_putI e34 rfl rfl rfl rfl rfl ?_
      refine en_s_aload_n rfl rfl ?_
      refine en_s_aload_n rfl rfl ?_
      refine en_s_getI rfl rfl rfl ?_
      refine en_s_aload_n rfl rfl ?_
      refine en_s_aload_n rfl rfl ?_
      refine en_s_getI rfl rfl rfl ?_
      refine en_callV (as := [.inl (s33 17 0 0 4)]) (rest := [.inl (s33 17 0 0 5), .inr (.inl (some (17, 0, 0)))]) (bc' := 0) (bs' := 0) hz rfl (s_sd_sizeOf G hz (d + 0) rfl) lk_5_99 mv_sd_sizeOf rfl rfl rfl rfl rfl (fun _ h => h) (Nat.le_refl _) (Nat.le_refl _) ?_
      refine en_s_aload_n rfl rfl ?_
      refine en_s_getI rfl rfl rfl ?_
      obtain ⟨t35, h36, h⟩ := en_b1_h h
      refine en_callN (as := [.inl (k_sd_sizeOf g1 z23 (s33 17 0 0 4) s33), .inl (s33 0 g1 0 9)]) (rest := [.inl (s33 17 0 0 5), .inr (.inl (some (17, 0, 0)))]) (bc' := 0) (bs' := 0) hz rfl (s_cc_roundedUp G hz (d + 0) h36) lk_5_105 mv_cc_roundedUp rfl rfl rfl (fun _ h => h) (Nat.le_refl _) (Nat.le_refl _) ?_
      refine en_s_iadd rfl ?_
      obtain ⟨s37, e38, h⟩ := en_let_h h
      refine en_p_putI e38 rfl rfl rfl rfl rfl ?_
      refine en_s_aload_n rfl rfl ?_
      refine en_s_aload_n rfl rfl ?_
      refine en_s_getI rfl rfl rfl ?_
      refine en_s_aload_n rfl rfl ?_
      refine en_s_getI rfl rfl rfl ?_
      refine en_s_iconst rfl ?_
      refine en_s_isub rfl ?_
      refine en_s_icmp_ne rfl (fun c39 => ?_) (fun c39 => ?_)
      · rw [if_neg c39] at h
        refine en_s_iconst rfl ?_
        obtain ⟨s40, e41, h⟩ := en_let_h h
        refine en_p_putZ e41 (by decide) rfl rfl rfl rfl rfl ?_
        refine en_s_iconst rfl ?_
        cases h
        exact en_s_zret rfl rfl (Or.inr rfl)
      · rw [if_pos c39] at h
        refine en_s_iconst rfl ?_
        refine en_s_goto rfl ?_
        obtain ⟨s42, e43, h⟩ := en_let_h h
        refine en_p_putZ e43 (by decide) rfl rfl rfl rfl rfl ?_
        refine en_s_iconst rfl ?_
        cases h
        exact en_s_zret rfl rfl (Or.inr rfl)
    · rw [if_neg c24] at h
      refine en_s_iconst rfl ?_
      cases h
      exact en_s_zret rfl rfl (Or.inl rfl)
def k_pp_busyTicks_22 (f0 : Nat) (g1 : Nat) (v2 : Int32) (v3 : Int32) (v4 : Int32) (σ : en_M) : Option (Int32 × en_M) := match f0 with
  | 0 => none
  | f9 + 1 =>
    if 160 ≤ v4 then
      some (v3, σ)
    else
      en_b2 (k_pp_step g1 σ) fun t4 s5 =>
      if t4 = 0 then
        some (v3, s5)
      else
        if v2 ≤ (s5 17 0 0 5) then
          some (v3, s5)
        else
          k_pp_busyTicks_22 f9 g1 v2 (v3 + ((if v2 < (s5 17 0 0 2) then v2 else (s5 17 0 0 2)) - (s5 17 0 0 5))) (v4 + 1) s5
def k_pp_busyTicks (g1 : Nat) (v2 : Int32) (σ : en_M) : Option (Int32 × en_M) :=
  en_b1 (k_pp_beginAsTimed g1 σ) fun s1 =>
  en_b2 (k_pp_busyTicks_22 en_fu g1 v2 ((if v2 < (s1 17 0 0 2) then v2 else (s1 17 0 0 2)) - (s1 0 g1 0 11)) 0 s1) fun x9 s11 =>
  some (x9, s11)
set_option maxRecDepth 100000 in
set_option maxHeartbeats 4000000 in
theorem s_pp_busyTicks_22 (G : en_G) (hz : G.2.2.2.2.2.2.2.2 = none) {d : Nat} {r : en_P} {cs cs' : List en_A} {ρ' : en_R} {σ' : en_M} : ∀ (f0 : Nat) {g1 : Nat} {v2 : Int32} {v3 : Int32} {v4 : Int32}  {σ : en_M} {x3 : Int32} {s0 : en_M} , k_pp_busyTicks_22 f0 g1 v2 v3 v4 σ = some (x3, s0) →
    (∀ (f4 : Option en_V), en_W G (d + 2) 0 0 M_pp_busyTicks r cs' ρ' σ' 0 0 68 [some (.inr (.inl (some (17, 0, 0)))), some (.inr (.inl (some (0, g1, 0)))), some (.inl v2), some (.inl x3), f4] [] cs en_rf s0) → en_W G (d + 2) 0 0 M_pp_busyTicks r cs' ρ' σ' 0 0 22 [some (.inr (.inl (some (17, 0, 0)))), some (.inr (.inl (some (0, g1, 0)))), some (.inl v2), some (.inl v3), some (.inl v4)] [] cs en_rf σ := by
  intro f0
  induction f0 with
  | zero =>
    intros
    rename_i h _
    cases h
  | succ f9 ih =>
    intro g1 v2 v3 v4 σ x3 s0 h hk
    rw [k_pp_busyTicks_22] at h
    refine en_s_iload rfl rfl ?_
    refine en_s_sipush rfl ?_
    refine en_s_icmp_ge rfl (fun c3 => ?_) (fun c3 => ?_)
    · rw [if_pos c3] at h
      cases h
      exact hk (some (.inl v4))
    · rw [if_neg c3] at h
      refine en_s_aload_n rfl rfl ?_
      refine en_s_aload_n rfl rfl ?_
      obtain ⟨t4, s5, h6, h⟩ := en_b2_h h
      refine en_callV (as := [.inr (.inl (some (0, g1, 0)))]) (rest := []) (bc' := 0) (bs' := 0) hz rfl (s_pp_step G hz (d + 0) h6) lk_5_115 mv_pp_step rfl rfl rfl rfl rfl (fun _ h => h) (Nat.le_refl _) (Nat.le_refl _) ?_
      refine en_s_if_eq rfl (fun c7 => ?_) (fun c7 => ?_)
      · rw [if_pos c7] at h
        cases h
        exact hk (some (.inl v4))
      · rw [if_neg c7] at h
        refine en_s_aload_n rfl rfl ?_
        refine en_s_getI rfl rfl rfl ?_
        refine en_s_iload_n rfl rfl ?_
        refine en_s_icmp_ge rfl (fun c8 => ?_) (fun c8 => ?_)
        · rw [if_pos c8] at h
          cases h
          exact hk (some (.inl v4))
        · rw [if_neg c8] at h
          refine en_s_iload_n rfl rfl ?_
          refine en_s_aload_n rfl rfl ?_
          refine en_s_getI rfl rfl rfl ?_
          refine en_s_iload_n rfl rfl ?_
          refine en_s_min rfl (en_tw_of (i := 1376) (by decide +kernel) (by decide +kernel)) mx_st_min mx_in mx_cd_min rfl ?_
          refine en_s_aload_n rfl rfl ?_
          refine en_s_getI rfl rfl rfl ?_
          refine en_s_isub rfl ?_
          refine en_s_iadd rfl ?_
          refine en_s_istore_n (ls' := [some (.inr (.inl (some (17, 0, 0)))), some (.inr (.inl (some (0, g1, 0)))), some (.inl v2), some (.inl (v3 + ((if v2 < (s5 17 0 0 2) then v2 else (s5 17 0 0 2)) - (s5 17 0 0 5)))), some (.inl v4)]) rfl rfl rfl ?_
          refine en_s_iinc (ls' := [some (.inr (.inl (some (17, 0, 0)))), some (.inr (.inl (some (0, g1, 0)))), some (.inl v2), some (.inl (v3 + ((if v2 < (s5 17 0 0 2) then v2 else (s5 17 0 0 2)) - (s5 17 0 0 5)))), some (.inl (v4 + 1))]) rfl rfl rfl ?_
          refine en_s_goto rfl ?_
          exact ih  h hk
set_option maxRecDepth 100000 in
set_option maxHeartbeats 4000000 in
theorem s_pp_busyTicks (G : en_G) (hz : G.2.2.2.2.2.2.2.2 = none) (d : Nat) {cs : List en_A} {σ : en_M} {g1 : Nat} {v2 : Int32} {x0 : Int32} {s0 : en_M}  (h : k_pp_busyTicks g1 v2 σ = some (x0, s0)) : en_Mt G (d + 2) 0 0 M_pp_busyTicks [.inr (.inl (some (17, 0, 0))), .inr (.inl (some (0, g1, 0))), .inl v2] cs en_rf σ (.inr (some (.inl x0))) cs en_rf s0 := by
  refine en_meth (ls := [some (.inr (.inl (some (17, 0, 0)))), some (.inr (.inl (some (0, g1, 0)))), some (.inl v2), none, none]) md_pp_busyTicks rfl rfl rfl ?_
  unfold k_pp_busyTicks at h
  refine en_s_aload_n rfl rfl ?_
  refine en_s_aload_n rfl rfl ?_
  obtain ⟨s1, h2, h⟩ := en_b1_h h
  refine en_callV (as := [.inr (.inl (some (0, g1, 0)))]) (rest := []) (bc' := 0) (bs' := 0) hz rfl (s_pp_beginAsTimed G hz (d + 0) h2) lk_5_112 mv_pp_beginAsTimed rfl rfl rfl rfl rfl (fun _ h => h) (Nat.le_refl _) (Nat.le_refl _) ?_
  refine en_s_aload_n rfl rfl ?_
  refine en_s_getI rfl rfl rfl ?_
  refine en_s_iload_n rfl rfl ?_
  refine en_s_min rfl (en_tw_of (i := 1376) (by decide +kernel) (by decide +kernel)) mx_st_min mx_in mx_cd_min rfl ?_
  refine en_s_aload_n rfl rfl ?_
  refine en_s_getI rfl rfl rfl ?_
  refine en_s_isub rfl ?_
  refine en_s_istore_n (ls' := [some (.inr (.inl (some (17, 0, 0)))), some (.inr (.inl (some (0, g1, 0)))), some (.inl v2), some (.inl ((if v2 < (s1 17 0 0 2) then v2 else (s1 17 0 0 2)) - (s1 0 g1 0 11))), none]) rfl rfl rfl ?_
  refine en_s_iconst rfl ?_
  refine en_s_istore (ls' := [some (.inr (.inl (some (17, 0, 0)))), some (.inr (.inl (some (0, g1, 0)))), some (.inl v2), some (.inl ((if v2 < (s1 17 0 0 2) then v2 else (s1 17 0 0 2)) - (s1 0 g1 0 11))), some (.inl 0)]) rfl rfl rfl ?_
  obtain ⟨x9, s11, h12, h⟩ := en_b2_h h
  refine s_pp_busyTicks_22 G hz en_fu  h12 (fun f10 => ?_)
  refine en_s_iload_n rfl rfl ?_
  cases h
  exact en_s_iret rfl rfl
def k_pp_runToEnd_15 (f0 : Nat) (g1 : Nat) (g2 : Nat) (i2 : Nat) (v3 : Int32) (v4 : Int32) (σ : en_M) : Option ((Int32 × en_M) ⊕ (en_M)) := match f0 with
  | 0 => none
  | f9 + 1 =>
    if 160 ≤ v4 then
      some (.inr (σ))
    else
      if v3 ≤ (σ 17 0 0 2) then
        some (.inr (σ))
      else
        en_b2 (k_pp_step g1 σ) fun t4 s5 =>
        if t4 = 0 then
          some (.inr (s5))
        else
          if (s5 17 0 0 6) = 0 then
            k_pp_runToEnd_15 f9 g1 g2 i2 v3 (v4 + 1) s5
          else
            if (s5 17 0 0 3) = (s5 13 g2 i2 0) then
              some (.inl (s5 17 0 0 2, s5))
            else
              k_pp_runToEnd_15 f9 g1 g2 i2 v3 (v4 + 1) s5
def k_pp_runToEnd (g1 : Nat) (g2 : Nat) (i2 : Nat) (v3 : Int32) (σ : en_M) : Option (Int32 × en_M) :=
  if (k_sd_waits g2 i2 σ) = 0 then
    some (σ 0 g1 0 16, σ)
  else
    en_rx (k_pp_runToEnd_15 en_fu g1 g2 i2 v3 0 σ) (fun r13 => some r13) (fun s11 =>
    some (10000, s11))
set_option maxRecDepth 100000 in
set_option maxHeartbeats 4000000 in
theorem s_pp_runToEnd_15 (G : en_G) (hz : G.2.2.2.2.2.2.2.2 = none) {d : Nat} {r : en_P} {cs cs' : List en_A} {ρ' : en_R} {σ' : en_M} : ∀ (f0 : Nat) {g1 : Nat} {g2 : Nat} {i2 : Nat} {v3 : Int32} {v4 : Int32}  {σ : en_M} {x9 : ((Int32 × en_M) ⊕ (en_M))} , k_pp_runToEnd_15 f0 g1 g2 i2 v3 v4 σ = some x9 →
    (∀ a9, x9 = .inl a9 → r = .inr (some (.inl a9.1)) ∧ cs' = cs ∧ ρ' = en_rf ∧ σ' = a9.2) →
    (∀ (s0 : en_M), x9 = .inr s0 → ∀ (f4 : Option en_V), en_W G (d + 2) 0 0 M_pp_runToEnd r cs' ρ' σ' 0 0 68 [some (.inr (.inl (some (17, 0, 0)))), some (.inr (.inl (some (0, g1, 0)))), some (.inr (.inl (some (13, g2, i2)))), some (.inl v3), f4] [] cs en_rf s0) → en_W G (d + 2) 0 0 M_pp_runToEnd r cs' ρ' σ' 0 0 15 [some (.inr (.inl (some (17, 0, 0)))), some (.inr (.inl (some (0, g1, 0)))), some (.inr (.inl (some (13, g2, i2)))), some (.inl v3), some (.inl v4)] [] cs en_rf σ := by
  intro f0
  induction f0 with
  | zero =>
    intros
    rename_i h _ _
    cases h
  | succ f9 ih =>
    intro g1 g2 i2 v3 v4 σ x9 h hr hk
    rw [k_pp_runToEnd_15] at h
    refine en_s_iload rfl rfl ?_
    refine en_s_sipush rfl ?_
    refine en_s_icmp_ge rfl (fun c2 => ?_) (fun c2 => ?_)
    · rw [if_pos c2] at h
      obtain rfl := Option.some.inj h
      exact hk _ rfl (some (.inl v4))
    · rw [if_neg c2] at h
      refine en_s_aload_n rfl rfl ?_
      refine en_s_getI rfl rfl rfl ?_
      refine en_s_iload_n rfl rfl ?_
      refine en_s_icmp_ge rfl (fun c3 => ?_) (fun c3 => ?_)
      · rw [if_pos c3] at h
        obtain rfl := Option.some.inj h
        exact hk _ rfl (some (.inl v4))
      · rw [if_neg c3] at h
        refine en_s_aload_n rfl rfl ?_
        refine en_s_aload_n rfl rfl ?_
        obtain ⟨t4, s5, h6, h⟩ := en_b2_h h
        refine en_callV (as := [.inr (.inl (some (0, g1, 0)))]) (rest := []) (bc' := 0) (bs' := 0) hz rfl (s_pp_step G hz (d + 0) h6) lk_5_115 mv_pp_step rfl rfl rfl rfl rfl (fun _ h => h) (Nat.le_refl _) (Nat.le_refl _) ?_
        refine en_s_if_eq rfl (fun c7 => ?_) (fun c7 => ?_)
        · rw [if_pos c7] at h
          obtain rfl := Option.some.inj h
          exact hk _ rfl (some (.inl v4))
        · rw [if_neg c7] at h
          refine en_s_aload_n rfl rfl ?_
          refine en_s_getI rfl rfl rfl ?_
          refine en_s_if_eq rfl (fun c8 => ?_) (fun c8 => ?_)
          · rw [if_pos c8] at h
            refine en_s_iinc (ls' := [some (.inr (.inl (some (17, 0, 0)))), some (.inr (.inl (some (0, g1, 0)))), some (.inr (.inl (some (13, g2, i2)))), some (.inl v3), some (.inl (v4 + 1))]) rfl rfl rfl ?_
            refine en_s_goto rfl ?_
            exact ih  h hr hk
          · rw [if_neg c8] at h
            refine en_s_aload_n rfl rfl ?_
            refine en_s_getI rfl rfl rfl ?_
            refine en_s_aload_n rfl rfl ?_
            refine en_s_getI rfl rfl rfl ?_
            refine en_s_icmp_ne rfl (fun c9 => ?_) (fun c9 => ?_)
            · rw [if_neg c9] at h
              refine en_s_iinc (ls' := [some (.inr (.inl (some (17, 0, 0)))), some (.inr (.inl (some (0, g1, 0)))), some (.inr (.inl (some (13, g2, i2)))), some (.inl v3), some (.inl (v4 + 1))]) rfl rfl rfl ?_
              refine en_s_goto rfl ?_
              exact ih  h hr hk
            · rw [if_pos c9] at h
              refine en_s_aload_n rfl rfl ?_
              refine en_s_getI rfl rfl rfl ?_
              obtain rfl := Option.some.inj h
              obtain ⟨rfl, rfl, rfl, rfl⟩ := hr _ rfl
              exact en_s_iret rfl rfl
set_option maxRecDepth 100000 in
set_option maxHeartbeats 4000000 in
theorem s_pp_runToEnd (G : en_G) (hz : G.2.2.2.2.2.2.2.2 = none) (d : Nat) {cs : List en_A} {σ : en_M} {g1 : Nat} {g2 : Nat} {i2 : Nat} {v3 : Int32} {x0 : Int32} {s0 : en_M}  (h : k_pp_runToEnd g1 g2 i2 v3 σ = some (x0, s0)) : en_Mt G (d + 2) 0 0 M_pp_runToEnd [.inr (.inl (some (17, 0, 0))), .inr (.inl (some (0, g1, 0))), .inr (.inl (some (13, g2, i2))), .inl v3] cs en_rf σ (.inr (some (.inl x0))) cs en_rf s0 := by
  refine en_meth (ls := [some (.inr (.inl (some (17, 0, 0)))), some (.inr (.inl (some (0, g1, 0)))), some (.inr (.inl (some (13, g2, i2)))), some (.inl v3), none]) md_pp_runToEnd rfl rfl rfl ?_
  unfold k_pp_runToEnd at h
  refine en_s_aload_n rfl rfl ?_
  refine en_callV (as := []) (rest := []) (bc' := 0) (bs' := 0) hz rfl (s_sd_waits G hz (d + 1) rfl) lk_5_62 mv_sd_waits rfl rfl rfl rfl rfl (fun _ h => h) (Nat.le_refl _) (Nat.le_refl _) ?_
  refine en_s_if_ne rfl (fun c1 => ?_) (fun c1 => ?_)
  · rw [if_neg c1] at h
    refine en_s_iconst rfl ?_
    refine en_s_istore (ls' := [some (.inr (.inl (some (17, 0, 0)))), some (.inr (.inl (some (0, g1, 0)))), some (.inr (.inl (some (13, g2, i2)))), some (.inl v3), some (.inl 0)]) rfl rfl rfl ?_
    rcases en_rx_h h with ⟨r13, h12, h⟩ | ⟨s11, h12, h⟩
    · obtain rfl := Option.some.inj h
      exact s_pp_runToEnd_15 G hz en_fu  h12 (fun _ e9 => by cases e9; exact ⟨rfl, rfl, rfl, rfl⟩) (fun _ e9 => by cases e9)
    · refine s_pp_runToEnd_15 G hz en_fu  h12 (fun _ e9 => by cases e9) (fun _ e9 f10 => ?_)
      cases e9
      refine en_s_sipush rfl ?_
      cases h
      exact en_s_iret rfl rfl
  · rw [if_pos c1] at h
    refine en_s_aload_n rfl rfl ?_
    refine en_s_getI rfl rfl rfl ?_
    cases h
    exact en_s_iret rfl rfl
def k_pp_endOf (g1 : Nat) (g2 : Nat) (i2 : Nat) (σ : en_M) : Option (Int32 × en_M) :=
  en_b1 (k_pp_beginAsTimed g1 σ) fun s1 =>
  en_b2 (k_pp_runToEnd g1 g2 i2 9999 s1) fun t3 s4 =>
  if 9999 < t3 then
    some ((-1), s4)
  else
    some (t3, s4)
set_option maxRecDepth 100000 in
set_option maxHeartbeats 4000000 in
theorem s_pp_endOf (G : en_G) (hz : G.2.2.2.2.2.2.2.2 = none) (d : Nat) {cs : List en_A} {σ : en_M} {g1 : Nat} {g2 : Nat} {i2 : Nat} {x0 : Int32} {s0 : en_M}  (h : k_pp_endOf g1 g2 i2 σ = some (x0, s0)) : en_Mt G (d + 3) 0 0 M_pp_endOf [.inr (.inl (some (17, 0, 0))), .inr (.inl (some (0, g1, 0))), .inr (.inl (some (13, g2, i2)))] cs en_rf σ (.inr (some (.inl x0))) cs en_rf s0 := by
  refine en_meth (ls := [some (.inr (.inl (some (17, 0, 0)))), some (.inr (.inl (some (0, g1, 0)))), some (.inr (.inl (some (13, g2, i2)))), none]) md_pp_endOf rfl rfl rfl ?_
  unfold k_pp_endOf at h
  refine en_s_aload_n rfl rfl ?_
  refine en_s_aload_n rfl rfl ?_
  obtain ⟨s1, h2, h⟩ := en_b1_h h
  refine en_callV (as := [.inr (.inl (some (0, g1, 0)))]) (rest := []) (bc' := 0) (bs' := 0) hz rfl (s_pp_beginAsTimed G hz (d + 1) h2) lk_5_112 mv_pp_beginAsTimed rfl rfl rfl rfl rfl (fun _ h => h) (Nat.le_refl _) (Nat.le_refl _) ?_
  refine en_s_aload_n rfl rfl ?_
  refine en_s_aload_n rfl rfl ?_
  refine en_s_aload_n rfl rfl ?_
  refine en_s_sipush rfl ?_
  obtain ⟨t3, s4, h5, h⟩ := en_b2_h h
  refine en_callV (as := [.inr (.inl (some (0, g1, 0))), .inr (.inl (some (13, g2, i2))), .inl 9999]) (rest := []) (bc' := 0) (bs' := 0) hz rfl (s_pp_runToEnd G hz (d + 0) h5) lk_5_122 mv_pp_runToEnd rfl rfl rfl rfl rfl (fun _ h => h) (Nat.le_refl _) (Nat.le_refl _) ?_
  refine en_s_istore_n (ls' := [some (.inr (.inl (some (17, 0, 0)))), some (.inr (.inl (some (0, g1, 0)))), some (.inr (.inl (some (13, g2, i2)))), some (.inl t3)]) rfl rfl rfl ?_
  refine en_s_iload_n rfl rfl ?_
  refine en_s_sipush rfl ?_
  refine en_s_icmp_gt rfl (fun c6 => ?_) (fun c6 => ?_)
  · rw [if_pos c6] at h
    refine en_s_iconst rfl ?_
    cases h
    exact en_s_iret rfl rfl
  · rw [if_neg c6] at h
    refine en_s_iload_n rfl rfl ?_
    refine en_s_goto rfl ?_
    cases h
    exact en_s_iret rfl rfl
def k_pp_firstIdle_12 (f0 : Nat) (g1 : Nat) (v2 : Int32) (v3 : Int32) (σ : en_M) : Option (Int32 × en_M) := match f0 with
  | 0 => none
  | f9 + 1 =>
    if 160 ≤ v3 then
      some (v2, σ)
    else
      en_b2 (k_pp_step g1 σ) fun t4 s5 =>
      if t4 = 0 then
        some (v2, s5)
      else
        if (s5 17 0 0 5) = v2 then
          k_pp_firstIdle_12 f9 g1 (s5 17 0 0 2) (v3 + 1) s5
        else
          some (v2, s5)
def k_pp_firstIdle (g1 : Nat) (σ : en_M) : Option (Int32 × en_M) :=
  en_b1 (k_pp_beginAsTimed g1 σ) fun s1 =>
  en_b2 (k_pp_firstIdle_12 en_fu g1 (s1 17 0 0 2) 0 s1) fun x9 s11 =>
  if 9999 ≤ x9 then
    some ((-1), s11)
  else
    some (x9, s11)
set_option maxRecDepth 100000 in
set_option maxHeartbeats 4000000 in
theorem s_pp_firstIdle_12 (G : en_G) (hz : G.2.2.2.2.2.2.2.2 = none) {d : Nat} {r : en_P} {cs cs' : List en_A} {ρ' : en_R} {σ' : en_M} : ∀ (f0 : Nat) {g1 : Nat} {v2 : Int32} {v3 : Int32}  {σ : en_M} {x2 : Int32} {s0 : en_M} , k_pp_firstIdle_12 f0 g1 v2 v3 σ = some (x2, s0) →
    (∀ (f3 : Option en_V), en_W G (d + 2) 0 0 M_pp_firstIdle r cs' ρ' σ' 0 0 46 [some (.inr (.inl (some (17, 0, 0)))), some (.inr (.inl (some (0, g1, 0)))), some (.inl x2), f3] [] cs en_rf s0) → en_W G (d + 2) 0 0 M_pp_firstIdle r cs' ρ' σ' 0 0 12 [some (.inr (.inl (some (17, 0, 0)))), some (.inr (.inl (some (0, g1, 0)))), some (.inl v2), some (.inl v3)] [] cs en_rf σ := by
  intro f0
  induction f0 with
  | zero =>
    intros
    rename_i h _
    cases h
  | succ f9 ih =>
    intro g1 v2 v3 σ x2 s0 h hk
    rw [k_pp_firstIdle_12] at h
    refine en_s_iload_n rfl rfl ?_
    refine en_s_sipush rfl ?_
    refine en_s_icmp_ge rfl (fun c3 => ?_) (fun c3 => ?_)
    · rw [if_pos c3] at h
      cases h
      exact hk (some (.inl v3))
    · rw [if_neg c3] at h
      refine en_s_aload_n rfl rfl ?_
      refine en_s_aload_n rfl rfl ?_
      obtain ⟨t4, s5, h6, h⟩ := en_b2_h h
      refine en_callV (as := [.inr (.inl (some (0, g1, 0)))]) (rest := []) (bc' := 0) (bs' := 0) hz rfl (s_pp_step G hz (d + 0) h6) lk_5_115 mv_pp_step rfl rfl rfl rfl rfl (fun _ h => h) (Nat.le_refl _) (Nat.le_refl _) ?_
      refine en_s_if_eq rfl (fun c7 => ?_) (fun c7 => ?_)
      · rw [if_pos c7] at h
        cases h
        exact hk (some (.inl v3))
      · rw [if_neg c7] at h
        refine en_s_aload_n rfl rfl ?_
        refine en_s_getI rfl rfl rfl ?_
        refine en_s_iload_n rfl rfl ?_
        refine en_s_icmp_ne rfl (fun c8 => ?_) (fun c8 => ?_)
        · rw [if_neg c8] at h
          cases h
          exact hk (some (.inl v3))
        · rw [if_pos c8] at h
          refine en_s_aload_n rfl rfl ?_
          refine en_s_getI rfl rfl rfl ?_
          refine en_s_istore_n (ls' := [some (.inr (.inl (some (17, 0, 0)))), some (.inr (.inl (some (0, g1, 0)))), some (.inl (s5 17 0 0 2)), some (.inl v3)]) rfl rfl rfl ?_
          refine en_s_iinc (ls' := [some (.inr (.inl (some (17, 0, 0)))), some (.inr (.inl (some (0, g1, 0)))), some (.inl (s5 17 0 0 2)), some (.inl (v3 + 1))]) rfl rfl rfl ?_
          refine en_s_goto rfl ?_
          exact ih  h hk
set_option maxRecDepth 100000 in
set_option maxHeartbeats 4000000 in
theorem s_pp_firstIdle (G : en_G) (hz : G.2.2.2.2.2.2.2.2 = none) (d : Nat) {cs : List en_A} {σ : en_M} {g1 : Nat} {x0 : Int32} {s0 : en_M}  (h : k_pp_firstIdle g1 σ = some (x0, s0)) : en_Mt G (d + 2) 0 0 M_pp_firstIdle [.inr (.inl (some (17, 0, 0))), .inr (.inl (some (0, g1, 0)))] cs en_rf σ (.inr (some (.inl x0))) cs en_rf s0 := by
  refine en_meth (ls := [some (.inr (.inl (some (17, 0, 0)))), some (.inr (.inl (some (0, g1, 0)))), none, none]) md_pp_firstIdle rfl rfl rfl ?_
  unfold k_pp_firstIdle at h
  refine en_s_aload_n rfl rfl ?_
  refine en_s_aload_n rfl rfl ?_
  obtain ⟨s1, h2, h⟩ := en_b1_h h
  refine en_callV (as := [.inr (.inl (some (0, g1, 0)))]) (rest := []) (bc' := 0) (bs' := 0) hz rfl (s_pp_beginAsTimed G hz (d + 0) h2) lk_5_112 mv_pp_beginAsTimed rfl rfl rfl rfl rfl (fun _ h => h) (Nat.le_refl _) (Nat.le_refl _) ?_
  refine en_s_aload_n rfl rfl ?_
  refine en_s_getI rfl rfl rfl ?_
  refine en_s_istore_n (ls' := [some (.inr (.inl (some (17, 0, 0)))), some (.inr (.inl (some (0, g1, 0)))), some (.inl (s1 17 0 0 2)), none]) rfl rfl rfl ?_
  refine en_s_iconst rfl ?_
  refine en_s_istore_n (ls' := [some (.inr (.inl (some (17, 0, 0)))), some (.inr (.inl (some (0, g1, 0)))), some (.inl (s1 17 0 0 2)), some (.inl 0)]) rfl rfl rfl ?_
  obtain ⟨x9, s11, h12, h⟩ := en_b2_h h
  refine s_pp_firstIdle_12 G hz en_fu  h12 (fun f10 => ?_)
  refine en_s_iload_n rfl rfl ?_
  refine en_s_sipush rfl ?_
  refine en_s_icmp_ge rfl (fun c13 => ?_) (fun c13 => ?_)
  · rw [if_pos c13] at h
    refine en_s_iconst rfl ?_
    cases h
    exact en_s_iret rfl rfl
  · rw [if_neg c13] at h
    refine en_s_iload_n rfl rfl ?_
    refine en_s_goto rfl ?_
    cases h
    exact en_s_iret rfl rfl
def k_pp_isDoneBy (g1 : Nat) (g2 : Nat) (i2 : Nat) (v3 : Int32) (v4 : Int32) (σ : en_M) : Option (Int32 × en_M) :=
  en_b1 (k_pp_begin g1 σ) fun s1 =>
  en_b2 (k_cd_putDeparts g1 (s1 13 g2 i2 1) v3 19 0 0 s1) fun t3 s4 =>
  en_b2 (k_pp_runToEnd g1 g2 i2 v4 s4) fun t6 s7 =>
  if v4 < t6 then
    some (0, s7)
  else
    some (1, s7)
set_option maxRecDepth 100000 in
set_option maxHeartbeats 4000000 in
theorem s_pp_isDoneBy (G : en_G) (hz : G.2.2.2.2.2.2.2.2 = none) (d : Nat) {cs : List en_A} {σ : en_M} {g1 : Nat} {g2 : Nat} {i2 : Nat} {v3 : Int32} {v4 : Int32} {x0 : Int32} {s0 : en_M}  (h : k_pp_isDoneBy g1 g2 i2 v3 v4 σ = some (x0, s0)) : en_Mt G (d + 3) 0 0 M_pp_isDoneBy [.inr (.inl (some (17, 0, 0))), .inr (.inl (some (0, g1, 0))), .inr (.inl (some (13, g2, i2))), .inl v3, .inl v4] cs en_rf σ (.inr (some (.inl x0))) cs en_rf s0 := by
  refine en_meth (ls := [some (.inr (.inl (some (17, 0, 0)))), some (.inr (.inl (some (0, g1, 0)))), some (.inr (.inl (some (13, g2, i2)))), some (.inl v3), some (.inl v4)]) md_pp_isDoneBy rfl rfl rfl ?_
  unfold k_pp_isDoneBy at h
  refine en_s_aload_n rfl rfl ?_
  refine en_s_aload_n rfl rfl ?_
  obtain ⟨s1, h2, h⟩ := en_b1_h h
  refine en_callV (as := [.inr (.inl (some (0, g1, 0)))]) (rest := []) (bc' := 0) (bs' := 0) hz rfl (s_pp_begin G hz (d + 2) h2) lk_5_41 mv_pp_begin rfl rfl rfl rfl rfl (fun _ h => h) (Nat.le_refl _) (Nat.le_refl _) ?_
  refine en_s_aload_n rfl rfl ?_
  refine en_s_aload_n rfl rfl ?_
  refine en_s_getI rfl rfl rfl ?_
  refine en_s_iload_n rfl rfl ?_
  refine en_s_aload_n rfl rfl ?_
  refine en_s_getR (w := some (19, 0, 0)) rfl rfl rfl rfl ?_
  obtain ⟨t3, s4, h5, h⟩ := en_b2_h h
  refine en_callV (as := [.inl (s1 13 g2 i2 1), .inl v3, .inr (.inl (some (19, 0, 0)))]) (rest := []) (bc' := 0) (bs' := 0) hz rfl (s_cd_putDeparts G hz (d + 1) rfl h5) lk_5_133 mv_cd_putDeparts rfl rfl rfl rfl rfl (fun _ h => h) (Nat.le_refl _) (Nat.le_refl _) ?_
  refine en_s_pop rfl rfl ?_
  refine en_s_aload_n rfl rfl ?_
  refine en_s_aload_n rfl rfl ?_
  refine en_s_aload_n rfl rfl ?_
  refine en_s_iload rfl rfl ?_
  obtain ⟨t6, s7, h8, h⟩ := en_b2_h h
  refine en_callV (as := [.inr (.inl (some (0, g1, 0))), .inr (.inl (some (13, g2, i2))), .inl v4]) (rest := []) (bc' := 0) (bs' := 0) hz rfl (s_pp_runToEnd G hz (d + 0) h8) lk_5_122 mv_pp_runToEnd rfl rfl rfl rfl rfl (fun _ h => h) (Nat.le_refl _) (Nat.le_refl _) ?_
  refine en_s_iload rfl rfl ?_
  refine en_s_icmp_gt rfl (fun c9 => ?_) (fun c9 => ?_)
  · rw [if_pos c9] at h
    refine en_s_iconst rfl ?_
    cases h
    exact en_s_zret rfl rfl (Or.inl rfl)
  · rw [if_neg c9] at h
    refine en_s_iconst rfl ?_
    refine en_s_goto rfl ?_
    cases h
    exact en_s_zret rfl rfl (Or.inr rfl)
def k_pp_lastEnd_50 (f0 : Nat) (g1 : Nat) (v2 : Int32) (v3 : Int32) (v5 : Int32) (σ : en_M) : Option (Int32 × Int32 × en_M) := match f0 with
  | 0 => none
  | f9 + 1 =>
    if 160 ≤ v5 then
      some (v2, v3, σ)
    else
      if v2 ≤ 0 then
        some (v2, v3, σ)
      else
        en_b2 (k_pp_step g1 σ) fun t10 s11 =>
        if t10 = 0 then
          some (v2, v3, s11)
        else
          if (s11 17 0 0 6) = 0 then
            k_pp_lastEnd_50 f9 g1 v2 v3 (v5 + 1) s11
          else
            k_pp_lastEnd_50 f9 g1 (v2 + (-1)) (s11 17 0 0 2) (v5 + 1) s11
def k_pp_lastEnd (g1 : Nat) (σ : en_M) : Option (Int32 × en_M) :=
  en_b1 (k_pp_beginAsTimed g1 σ) fun s1 =>
  en_b1 (k_cd_inState g1 1 s1) fun t3 =>
  en_b1 (k_cd_sendAt g1 (s1 0 g1 0 15) s1) fun t5 =>
  (match t5 with
  | none =>
    en_b3 (k_pp_lastEnd_50 en_fu g1 t3 (s1 0 g1 0 11) 0 s1) fun x15 x16 s18 =>
    if x15 = 0 then
      if 9999 < x16 then
        some ((-1), s18)
      else
        some (x16, s18)
    else
      some ((-1), s18)
  | some z7 =>
    if (k_sd_waits g1 z7 s1) = 0 then
      en_b3 (k_pp_lastEnd_50 en_fu g1 (t3 + (-1)) (s1 17 0 0 2) 0 s1) fun x30 x31 s33 =>
      if x30 = 0 then
        if 9999 < x31 then
          some ((-1), s33)
        else
          some (x31, s33)
      else
        some ((-1), s33)
    else
      en_b3 (k_pp_lastEnd_50 en_fu g1 t3 (s1 0 g1 0 11) 0 s1) fun x23 x24 s26 =>
      if x23 = 0 then
        if 9999 < x24 then
          some ((-1), s26)
        else
          some (x24, s26)
      else
        some ((-1), s26))
set_option maxRecDepth 100000 in
set_option maxHeartbeats 4000000 in
theorem s_pp_lastEnd_50 (G : en_G) (hz : G.2.2.2.2.2.2.2.2 = none) {d : Nat} {r : en_P} {cs cs' : List en_A} {ρ' : en_R} {σ' : en_M} : ∀ (f0 : Nat) {g1 : Nat} {v2 : Int32} {v3 : Int32} {v5 : Int32} {e4 : Option en_V} {σ : en_M} {x2 : Int32} {x3 : Int32} {s0 : en_M} , k_pp_lastEnd_50 f0 g1 v2 v3 v5 σ = some (x2, x3, s0) →
    (∀ (f5 : Option en_V), en_W G (d + 2) 0 0 M_pp_lastEnd r cs' ρ' σ' 0 0 91 [some (.inr (.inl (some (17, 0, 0)))), some (.inr (.inl (some (0, g1, 0)))), some (.inl x2), some (.inl x3), e4, f5] [] cs en_rf s0) → en_W G (d + 2) 0 0 M_pp_lastEnd r cs' ρ' σ' 0 0 50 [some (.inr (.inl (some (17, 0, 0)))), some (.inr (.inl (some (0, g1, 0)))), some (.inl v2), some (.inl v3), e4, some (.inl v5)] [] cs en_rf σ := by
  intro f0
  induction f0 with
  | zero =>
    intros
    rename_i h _
    cases h
  | succ f9 ih =>
    intro g1 v2 v3 v5 e4 σ x2 x3 s0 h hk
    rw [k_pp_lastEnd_50] at h
    refine en_s_iload rfl rfl ?_
    refine en_s_sipush rfl ?_
    refine en_s_icmp_ge rfl (fun c8 => ?_) (fun c8 => ?_)
    · rw [if_pos c8] at h
      cases h
      exact hk (some (.inl v5))
    · rw [if_neg c8] at h
      refine en_s_iload_n rfl rfl ?_
      refine en_s_if_le rfl (fun c9 => ?_) (fun c9 => ?_)
      · rw [if_pos c9] at h
        cases h
        exact hk (some (.inl v5))
      · rw [if_neg c9] at h
        refine en_s_aload_n rfl rfl ?_
        refine en_s_aload_n rfl rfl ?_
        obtain ⟨t10, s11, h12, h⟩ := en_b2_h h
        refine en_callV (as := [.inr (.inl (some (0, g1, 0)))]) (rest := []) (bc' := 0) (bs' := 0) hz rfl (s_pp_step G hz (d + 0) h12) lk_5_115 mv_pp_step rfl rfl rfl rfl rfl (fun _ h => h) (Nat.le_refl _) (Nat.le_refl _) ?_
        refine en_s_if_eq rfl (fun c13 => ?_) (fun c13 => ?_)
        · rw [if_pos c13] at h
          cases h
          exact hk (some (.inl v5))
        · rw [if_neg c13] at h
          refine en_s_aload_n rfl rfl ?_
          refine en_s_getI rfl rfl rfl ?_
          refine en_s_if_eq rfl (fun c14 => ?_) (fun c14 => ?_)
          · rw [if_pos c14] at h
            refine en_s_iinc (ls' := [some (.inr (.inl (some (17, 0, 0)))), some (.inr (.inl (some (0, g1, 0)))), some (.inl v2), some (.inl v3), e4, some (.inl (v5 + 1))]) rfl rfl rfl ?_
            refine en_s_goto rfl ?_
            exact ih (e4 := e4) h hk
          · rw [if_neg c14] at h
            refine en_s_iinc (ls' := [some (.inr (.inl (some (17, 0, 0)))), some (.inr (.inl (some (0, g1, 0)))), some (.inl (v2 + (-1))), some (.inl v3), e4, some (.inl v5)]) rfl rfl rfl ?_
            refine en_s_aload_n rfl rfl ?_
            refine en_s_getI rfl rfl rfl ?_
            refine en_s_istore_n (ls' := [some (.inr (.inl (some (17, 0, 0)))), some (.inr (.inl (some (0, g1, 0)))), some (.inl (v2 + (-1))), some (.inl (s11 17 0 0 2)), e4, some (.inl v5)]) rfl rfl rfl ?_
            refine en_s_iinc (ls' := [some (.inr (.inl (some (17, 0, 0)))), some (.inr (.inl (some (0, g1, 0)))), some (.inl (v2 + (-1))), some (.inl (s11 17 0 0 2)), e4, some (.inl (v5 + 1))]) rfl rfl rfl ?_
            refine en_s_goto rfl ?_
            exact ih (e4 := e4) h hk
set_option maxRecDepth 100000 in
set_option maxHeartbeats 4000000 in
theorem s_pp_lastEnd (G : en_G) (hz : G.2.2.2.2.2.2.2.2 = none) (d : Nat) {cs : List en_A} {σ : en_M} {g1 : Nat} {x0 : Int32} {s0 : en_M}  (h : k_pp_lastEnd g1 σ = some (x0, s0)) : en_Mt G (d + 2) 0 0 M_pp_lastEnd [.inr (.inl (some (17, 0, 0))), .inr (.inl (some (0, g1, 0)))] cs en_rf σ (.inr (some (.inl x0))) cs en_rf s0 := by
  refine en_meth (ls := [some (.inr (.inl (some (17, 0, 0)))), some (.inr (.inl (some (0, g1, 0)))), none, none, none, none]) md_pp_lastEnd rfl rfl rfl ?_
  unfold k_pp_lastEnd at h
  refine en_s_aload_n rfl rfl ?_
  refine en_s_aload_n rfl rfl ?_
  obtain ⟨s1, h2, h⟩ := en_b1_h h
  refine en_callV (as := [.inr (.inl (some (0, g1, 0)))]) (rest := []) (bc' := 0) (bs' := 0) hz rfl (s_pp_beginAsTimed G hz (d + 0) h2) lk_5_112 mv_pp_beginAsTimed rfl rfl rfl rfl rfl (fun _ h => h) (Nat.le_refl _) (Nat.le_refl _) ?_
  refine en_s_aload_n rfl rfl ?_
  refine en_s_iconst rfl ?_
  obtain ⟨t3, h4, h⟩ := en_b1_h h
  refine en_callV (as := [.inl 1]) (rest := []) (bc' := 0) (bs' := 0) hz rfl (s_cd_inState G hz (d + 0) h4) lk_5_126 mv_cd_inState rfl rfl rfl rfl rfl (fun _ h => h) (Nat.le_refl _) (Nat.le_refl _) ?_
  refine en_s_istore_n (ls' := [some (.inr (.inl (some (17, 0, 0)))), some (.inr (.inl (some (0, g1, 0)))), some (.inl t3), none, none, none]) rfl rfl rfl ?_
  refine en_s_aload_n rfl rfl ?_
  refine en_s_getI rfl rfl rfl ?_
  refine en_s_istore_n (ls' := [some (.inr (.inl (some (17, 0, 0)))), some (.inr (.inl (some (0, g1, 0)))), some (.inl t3), some (.inl (s1 0 g1 0 11)), none, none]) rfl rfl rfl ?_
  refine en_s_aload_n rfl rfl ?_
  refine en_s_aload_n rfl rfl ?_
  refine en_s_getI rfl rfl rfl ?_
  obtain ⟨t5, h6, h⟩ := en_b1_h h
  refine en_callV (as := [.inl (s1 0 g1 0 15)]) (rest := []) (bc' := 0) (bs' := 0) hz rfl (s_cd_sendAt G hz (d + 1) h6) lk_5_58 mv_cd_sendAt rfl rfl rfl rfl rfl (fun _ h => h) (Nat.le_refl _) (Nat.le_refl _) ?_
  refine en_o_astore (ls' := [some (.inr (.inl (some (17, 0, 0)))), some (.inr (.inl (some (0, g1, 0)))), some (.inl t3), some (.inl (s1 0 g1 0 11)), some (.inr (.inl (t5.map (fun z9 => (13, g1, z9))))), none]) rfl rfl rfl ?_
  refine en_o_aload rfl rfl ?_
  cases t5 with
  | none =>
    dsimp only at h
    refine en_s_ifnullN rfl ?_
    refine en_s_iconst rfl ?_
    refine en_s_istore (ls' := [some (.inr (.inl (some (17, 0, 0)))), some (.inr (.inl (some (0, g1, 0)))), some (.inl t3), some (.inl (s1 0 g1 0 11)), some (.inr (.inl none)), some (.inl 0)]) rfl rfl rfl ?_
    obtain ⟨x15, x16, s18, h19, h⟩ := en_b3_h h
    refine s_pp_lastEnd_50 G hz en_fu (e4 := some (.inr (.inl none))) h19 (fun f17 => ?_)
    refine en_s_iload_n rfl rfl ?_
    refine en_s_if_ne rfl (fun c20 => ?_) (fun c20 => ?_)
    · rw [if_neg c20] at h
      refine en_s_iconst rfl ?_
      cases h
      exact en_s_iret rfl rfl
    · rw [if_pos c20] at h
      refine en_s_iload_n rfl rfl ?_
      refine en_s_sipush rfl ?_
      refine en_s_icmp_gt rfl (fun c21 => ?_) (fun c21 => ?_)
      · rw [if_pos c21] at h
        refine en_s_iconst rfl ?_
        cases h
        exact en_s_iret rfl rfl
      · rw [if_neg c21] at h
        refine en_s_iload_n rfl rfl ?_
        refine en_s_goto rfl ?_
        cases h
        exact en_s_iret rfl rfl
  | some z7 =>
    dsimp only at h
    refine en_s_ifnull rfl ?_
    refine en_s_aload rfl rfl ?_
    refine en_callV (as := []) (rest := []) (bc' := 0) (bs' := 0) hz rfl (s_sd_waits G hz (d + 1) rfl) lk_5_62 mv_sd_waits rfl rfl rfl rfl rfl (fun _ h => h) (Nat.le_refl _) (Nat.le_refl _) ?_
    refine en_s_if_ne rfl (fun c22 => ?_) (fun c22 => ?_)
    · rw [if_neg c22] at h
      refine en_s_iconst rfl ?_
      refine en_s_istore (ls' := [some (.inr (.inl (some (17, 0, 0)))), some (.inr (.inl (some (0, g1, 0)))), some (.inl t3), some (.inl (s1 0 g1 0 11)), some (.inr (.inl (some (13, g1, z7)))), some (.inl 0)]) rfl rfl rfl ?_
      obtain ⟨x23, x24, s26, h27, h⟩ := en_b3_h h
      refine s_pp_lastEnd_50 G hz en_fu (e4 := some (.inr (.inl (some (13, g1, z7))))) h27 (fun f25 => ?_)
      refine en_s_iload_n rfl rfl ?_
      refine en_s_if_ne rfl (fun c28 => ?_) (fun c28 => ?_)
      · rw [if_neg c28] at h
        refine en_s_iconst rfl ?_
        cases h
        exact en_s_iret rfl rfl
      · rw [if_pos c28] at h
        refine en_s_iload_n rfl rfl ?_
        refine en_s_sipush rfl ?_
        refine en_s_icmp_gt rfl (fun c29 => ?_) (fun c29 => ?_)
        · rw [if_pos c29] at h
          refine en_s_iconst rfl ?_
          cases h
          exact en_s_iret rfl rfl
        · rw [if_neg c29] at h
          refine en_s_iload_n rfl rfl ?_
          refine en_s_goto rfl ?_
          cases h
          exact en_s_iret rfl rfl
    · rw [if_pos c22] at h
      refine en_s_iinc (ls' := [some (.inr (.inl (some (17, 0, 0)))), some (.inr (.inl (some (0, g1, 0)))), some (.inl (t3 + (-1))), some (.inl (s1 0 g1 0 11)), some (.inr (.inl (some (13, g1, z7)))), none]) rfl rfl rfl ?_
      refine en_s_aload_n rfl rfl ?_
      refine en_s_getI rfl rfl rfl ?_
      refine en_s_istore_n (ls' := [some (.inr (.inl (some (17, 0, 0)))), some (.inr (.inl (some (0, g1, 0)))), some (.inl (t3 + (-1))), some (.inl (s1 17 0 0 2)), some (.inr (.inl (some (13, g1, z7)))), none]) rfl rfl rfl ?_
      refine en_s_iconst rfl ?_
      refine en_s_istore (ls' := [some (.inr (.inl (some (17, 0, 0)))), some (.inr (.inl (some (0, g1, 0)))), some (.inl (t3 + (-1))), some (.inl (s1 17 0 0 2)), some (.inr (.inl (some (13, g1, z7)))), some (.inl 0)]) rfl rfl rfl ?_
      obtain ⟨x30, x31, s33, h34, h⟩ := en_b3_h h
      refine s_pp_lastEnd_50 G hz en_fu (e4 := some (.inr (.inl (some (13, g1, z7))))) h34 (fun f32 => ?_)
      refine en_s_iload_n rfl rfl ?_
      refine en_s_if_ne rfl (fun c35 => ?_) (fun c35 => ?_)
      · rw [if_neg c35] at h
        refine en_s_iconst rfl ?_
        cases h
        exact en_s_iret rfl rfl
      · rw [if_pos c35] at h
        refine en_s_iload_n rfl rfl ?_
        refine en_s_sipush rfl ?_
        refine en_s_icmp_gt rfl (fun c36 => ?_) (fun c36 => ?_)
        · rw [if_pos c36] at h
          refine en_s_iconst rfl ?_
          cases h
          exact en_s_iret rfl rfl
        · rw [if_neg c36] at h
          refine en_s_iload_n rfl rfl ?_
          refine en_s_goto rfl ?_
          cases h
          exact en_s_iret rfl rfl
def k_pp_leastRate_31 (f0 : Nat) (g1 : Nat) (g2 : Nat) (i2 : Nat) (v3 : Int32) (v4 : Int32) (v5 : Int32) (v6 : Int32) (σ : en_M) : Option (Int32 × en_M) := match f0 with
  | 0 => none
  | f9 + 1 =>
    if 999 ≤ v6 then
      some (v5, σ)
    else
      if v5 ≤ v4 then
        some (v5, σ)
      else
        en_b2 (k_pp_isDoneBy g1 g2 i2 ((v4 + v5) / 2) v3 σ) fun t9 s10 =>
        if t9 = 0 then
          k_pp_leastRate_31 f9 g1 g2 i2 v3 (((v4 + v5) / 2) + 1) v5 (v6 + 1) s10
        else
          k_pp_leastRate_31 f9 g1 g2 i2 v3 v4 ((v4 + v5) / 2) (v6 + 1) s10
def k_pp_leastRate (g1 : Nat) (g2 : Nat) (i2 : Nat) (v3 : Int32) (σ : en_M) : Option (Int32 × en_M) :=
  en_b1 (k_pp_beginAsTimed g1 σ) fun s1 =>
  en_b2 (k_pp_isDoneBy g1 g2 i2 999 v3 s1) fun t3 s4 =>
  if t3 = 0 then
    some ((-1), s4)
  else
    en_b2 (k_pp_leastRate_31 en_fu g1 g2 i2 v3 1 999 0 s4) fun x14 s17 =>
    some (x14, s17)
set_option maxRecDepth 100000 in
set_option maxHeartbeats 4000000 in
theorem s_pp_leastRate_31 (G : en_G) (hz : G.2.2.2.2.2.2.2.2 = none) {d : Nat} {r : en_P} {cs cs' : List en_A} {ρ' : en_R} {σ' : en_M} : ∀ (f0 : Nat) {g1 : Nat} {g2 : Nat} {i2 : Nat} {v3 : Int32} {v4 : Int32} {v5 : Int32} {v6 : Int32} {e7 : Option en_V} {σ : en_M} {x5 : Int32} {s0 : en_M} , k_pp_leastRate_31 f0 g1 g2 i2 v3 v4 v5 v6 σ = some (x5, s0) →
    (∀ (f4 : Option en_V) (f6 : Option en_V) (f7 : Option en_V), en_W G (d + 4) 0 0 M_pp_leastRate r cs' ρ' σ' 0 0 86 [some (.inr (.inl (some (17, 0, 0)))), some (.inr (.inl (some (0, g1, 0)))), some (.inr (.inl (some (13, g2, i2)))), some (.inl v3), f4, some (.inl x5), f6, f7] [] cs en_rf s0) → en_W G (d + 4) 0 0 M_pp_leastRate r cs' ρ' σ' 0 0 31 [some (.inr (.inl (some (17, 0, 0)))), some (.inr (.inl (some (0, g1, 0)))), some (.inr (.inl (some (13, g2, i2)))), some (.inl v3), some (.inl v4), some (.inl v5), some (.inl v6), e7] [] cs en_rf σ := by
  intro f0
  induction f0 with
  | zero =>
    intros
    rename_i h _
    cases h
  | succ f9 ih =>
    intro g1 g2 i2 v3 v4 v5 v6 e7 σ x5 s0 h hk
    rw [k_pp_leastRate_31] at h
    refine en_s_iload rfl rfl ?_
    refine en_s_sipush rfl ?_
    refine en_s_icmp_ge rfl (fun c7 => ?_) (fun c7 => ?_)
    · rw [if_pos c7] at h
      cases h
      exact hk (some (.inl v4)) (some (.inl v6)) (e7)
    · rw [if_neg c7] at h
      refine en_s_iload rfl rfl ?_
      refine en_s_iload rfl rfl ?_
      refine en_s_icmp_ge rfl (fun c8 => ?_) (fun c8 => ?_)
      · rw [if_pos c8] at h
        cases h
        exact hk (some (.inl v4)) (some (.inl v6)) (e7)
      · rw [if_neg c8] at h
        refine en_s_iload rfl rfl ?_
        refine en_s_iload rfl rfl ?_
        refine en_s_iadd rfl ?_
        refine en_s_iconst rfl ?_
        refine en_s_idiv rfl (by decide) ?_
        refine en_s_istore (ls' := [some (.inr (.inl (some (17, 0, 0)))), some (.inr (.inl (some (0, g1, 0)))), some (.inr (.inl (some (13, g2, i2)))), some (.inl v3), some (.inl v4), some (.inl v5), some (.inl v6), some (.inl ((v4 + v5) / 2))]) rfl rfl rfl ?_
        refine en_s_aload_n rfl rfl ?_
        refine en_s_aload_n rfl rfl ?_
        refine en_s_aload_n rfl rfl ?_
        refine en_s_iload rfl rfl ?_
        refine en_s_iload_n rfl rfl ?_
        obtain ⟨t9, s10, h11, h⟩ := en_b2_h h
        refine en_callV (as := [.inr (.inl (some (0, g1, 0))), .inr (.inl (some (13, g2, i2))), .inl ((v4 + v5) / 2), .inl v3]) (rest := []) (bc' := 0) (bs' := 0) hz rfl (s_pp_isDoneBy G hz (d + 0) h11) lk_5_129 mv_pp_isDoneBy rfl rfl rfl rfl rfl (fun _ h => h) (Nat.le_refl _) (Nat.le_refl _) ?_
        refine en_s_if_eq rfl (fun c12 => ?_) (fun c12 => ?_)
        · rw [if_pos c12] at h
          refine en_s_iload rfl rfl ?_
          refine en_s_iconst rfl ?_
          refine en_s_iadd rfl ?_
          refine en_s_istore (ls' := [some (.inr (.inl (some (17, 0, 0)))), some (.inr (.inl (some (0, g1, 0)))), some (.inr (.inl (some (13, g2, i2)))), some (.inl v3), some (.inl (((v4 + v5) / 2) + 1)), some (.inl v5), some (.inl v6), some (.inl ((v4 + v5) / 2))]) rfl rfl rfl ?_
          refine en_s_iinc (ls' := [some (.inr (.inl (some (17, 0, 0)))), some (.inr (.inl (some (0, g1, 0)))), some (.inr (.inl (some (13, g2, i2)))), some (.inl v3), some (.inl (((v4 + v5) / 2) + 1)), some (.inl v5), some (.inl (v6 + 1)), some (.inl ((v4 + v5) / 2))]) rfl rfl rfl ?_
          refine en_s_goto rfl ?_
          exact ih (e7 := some (.inl ((v4 + v5) / 2))) h hk
        · rw [if_neg c12] at h
          refine en_s_iload rfl rfl ?_
          refine en_s_istore (ls' := [some (.inr (.inl (some (17, 0, 0)))), some (.inr (.inl (some (0, g1, 0)))), some (.inr (.inl (some (13, g2, i2)))), some (.inl v3), some (.inl v4), some (.inl ((v4 + v5) / 2)), some (.inl v6), some (.inl ((v4 + v5) / 2))]) rfl rfl rfl ?_
          refine en_s_goto rfl ?_
          refine en_s_iinc (ls' := [some (.inr (.inl (some (17, 0, 0)))), some (.inr (.inl (some (0, g1, 0)))), some (.inr (.inl (some (13, g2, i2)))), some (.inl v3), some (.inl v4), some (.inl ((v4 + v5) / 2)), some (.inl (v6 + 1)), some (.inl ((v4 + v5) / 2))]) rfl rfl rfl ?_
          refine en_s_goto rfl ?_
          exact ih (e7 := some (.inl ((v4 + v5) / 2))) h hk
set_option maxRecDepth 100000 in
set_option maxHeartbeats 4000000 in
theorem s_pp_leastRate (G : en_G) (hz : G.2.2.2.2.2.2.2.2 = none) (d : Nat) {cs : List en_A} {σ : en_M} {g1 : Nat} {g2 : Nat} {i2 : Nat} {v3 : Int32} {x0 : Int32} {s0 : en_M}  (h : k_pp_leastRate g1 g2 i2 v3 σ = some (x0, s0)) : en_Mt G (d + 4) 0 0 M_pp_leastRate [.inr (.inl (some (17, 0, 0))), .inr (.inl (some (0, g1, 0))), .inr (.inl (some (13, g2, i2))), .inl v3] cs en_rf σ (.inr (some (.inl x0))) cs en_rf s0 := by
  refine en_meth (ls := [some (.inr (.inl (some (17, 0, 0)))), some (.inr (.inl (some (0, g1, 0)))), some (.inr (.inl (some (13, g2, i2)))), some (.inl v3), none, none, none, none]) md_pp_leastRate rfl rfl rfl ?_
  unfold k_pp_leastRate at h
  refine en_s_aload_n rfl rfl ?_
  refine en_s_aload_n rfl rfl ?_
  obtain ⟨s1, h2, h⟩ := en_b1_h h
  refine en_callV (as := [.inr (.inl (some (0, g1, 0)))]) (rest := []) (bc' := 0) (bs' := 0) hz rfl (s_pp_beginAsTimed G hz (d + 2) h2) lk_5_112 mv_pp_beginAsTimed rfl rfl rfl rfl rfl (fun _ h => h) (Nat.le_refl _) (Nat.le_refl _) ?_
  refine en_s_aload_n rfl rfl ?_
  refine en_s_aload_n rfl rfl ?_
  refine en_s_aload_n rfl rfl ?_
  refine en_s_sipush rfl ?_
  refine en_s_iload_n rfl rfl ?_
  obtain ⟨t3, s4, h5, h⟩ := en_b2_h h
  refine en_callV (as := [.inr (.inl (some (0, g1, 0))), .inr (.inl (some (13, g2, i2))), .inl 999, .inl v3]) (rest := []) (bc' := 0) (bs' := 0) hz rfl (s_pp_isDoneBy G hz (d + 0) h5) lk_5_129 mv_pp_isDoneBy rfl rfl rfl rfl rfl (fun _ h => h) (Nat.le_refl _) (Nat.le_refl _) ?_
  refine en_s_if_ne rfl (fun c6 => ?_) (fun c6 => ?_)
  · rw [if_neg c6] at h
    refine en_s_iconst rfl ?_
    refine en_s_istore (ls' := [some (.inr (.inl (some (17, 0, 0)))), some (.inr (.inl (some (0, g1, 0)))), some (.inr (.inl (some (13, g2, i2)))), some (.inl v3), some (.inl 1), none, none, none]) rfl rfl rfl ?_
    refine en_s_sipush rfl ?_
    refine en_s_istore (ls' := [some (.inr (.inl (some (17, 0, 0)))), some (.inr (.inl (some (0, g1, 0)))), some (.inr (.inl (some (13, g2, i2)))), some (.inl v3), some (.inl 1), some (.inl 999), none, none]) rfl rfl rfl ?_
    refine en_s_iconst rfl ?_
    refine en_s_istore (ls' := [some (.inr (.inl (some (17, 0, 0)))), some (.inr (.inl (some (0, g1, 0)))), some (.inr (.inl (some (13, g2, i2)))), some (.inl v3), some (.inl 1), some (.inl 999), some (.inl 0), none]) rfl rfl rfl ?_
    obtain ⟨x14, s17, h18, h⟩ := en_b2_h h
    refine s_pp_leastRate_31 G hz en_fu (e7 := none) h18 (fun f13 f15 f16 => ?_)
    refine en_s_iload rfl rfl ?_
    cases h
    exact en_s_iret rfl rfl
  · rw [if_pos c6] at h
    refine en_s_iconst rfl ?_
    cases h
    exact en_s_iret rfl rfl
def k_pp_runTo_20 (f0 : Nat) (g1 : Nat) (v2 : Int32) (v3 : Int32) (σ : en_M) : Option ((Int32 × en_M) ⊕ (en_M)) := match f0 with
  | 0 => none
  | f9 + 1 =>
    if v2 ≤ v3 then
      some (.inr (σ))
    else
      en_b2 (k_pp_step g1 σ) fun t6 s7 =>
      if t6 = 0 then
        some (.inl (0, s7))
      else
        k_pp_runTo_20 f9 g1 v2 (v3 + 1) s7
def k_pp_runTo (g1 : Nat) (v2 : Int32) (σ : en_M) : Option (Int32 × en_M) :=
  if v2 < 0 then
    some (0, σ)
  else
    if v2 < 160 then
      en_b1 (k_pp_beginAsTimed g1 σ) fun s3 =>
      en_rx (k_pp_runTo_20 en_fu g1 v2 0 s3) (fun r13 => some r13) (fun s11 =>
      en_b2 (k_pp_step g1 s11) fun t15 s16 =>
      en_b1 (en_bz t15) fun t18 =>
      some (t18, s16))
    else
      some (0, σ)
set_option maxRecDepth 100000 in
set_option maxHeartbeats 4000000 in
theorem s_pp_runTo_20 (G : en_G) (hz : G.2.2.2.2.2.2.2.2 = none) {d : Nat} {r : en_P} {cs cs' : List en_A} {ρ' : en_R} {σ' : en_M} : ∀ (f0 : Nat) {g1 : Nat} {v2 : Int32} {v3 : Int32}  {σ : en_M} {x9 : ((Int32 × en_M) ⊕ (en_M))} , k_pp_runTo_20 f0 g1 v2 v3 σ = some x9 →
    (∀ a9, x9 = .inl a9 → r = .inr (some (.inl a9.1)) ∧ cs' = cs ∧ ρ' = en_rf ∧ σ' = a9.2) →
    (∀ (s0 : en_M), x9 = .inr s0 → ∀ (f3 : Option en_V), en_W G (d + 2) 0 0 M_pp_runTo r cs' ρ' σ' 0 0 41 [some (.inr (.inl (some (17, 0, 0)))), some (.inr (.inl (some (0, g1, 0)))), some (.inl v2), f3] [] cs en_rf s0) → en_W G (d + 2) 0 0 M_pp_runTo r cs' ρ' σ' 0 0 20 [some (.inr (.inl (some (17, 0, 0)))), some (.inr (.inl (some (0, g1, 0)))), some (.inl v2), some (.inl v3)] [] cs en_rf σ := by
  intro f0
  induction f0 with
  | zero =>
    intros
    rename_i h _ _
    cases h
  | succ f9 ih =>
    intro g1 v2 v3 σ x9 h hr hk
    rw [k_pp_runTo_20] at h
    refine en_s_iload_n rfl rfl ?_
    refine en_s_iload_n rfl rfl ?_
    refine en_s_icmp_ge rfl (fun c5 => ?_) (fun c5 => ?_)
    · rw [if_pos c5] at h
      obtain rfl := Option.some.inj h
      exact hk _ rfl (some (.inl v3))
    · rw [if_neg c5] at h
      refine en_s_aload_n rfl rfl ?_
      refine en_s_aload_n rfl rfl ?_
      obtain ⟨t6, s7, h8, h⟩ := en_b2_h h
      refine en_callV (as := [.inr (.inl (some (0, g1, 0)))]) (rest := []) (bc' := 0) (bs' := 0) hz rfl (s_pp_step G hz (d + 0) h8) lk_5_115 mv_pp_step rfl rfl rfl rfl rfl (fun _ h => h) (Nat.le_refl _) (Nat.le_refl _) ?_
      refine en_s_if_ne rfl (fun c9 => ?_) (fun c9 => ?_)
      · rw [if_neg c9] at h
        refine en_s_iinc (ls' := [some (.inr (.inl (some (17, 0, 0)))), some (.inr (.inl (some (0, g1, 0)))), some (.inl v2), some (.inl (v3 + 1))]) rfl rfl rfl ?_
        refine en_s_goto rfl ?_
        exact ih  h hr hk
      · rw [if_pos c9] at h
        refine en_s_iconst rfl ?_
        obtain rfl := Option.some.inj h
        obtain ⟨rfl, rfl, rfl, rfl⟩ := hr _ rfl
        exact en_s_zret rfl rfl (Or.inl rfl)
set_option maxRecDepth 100000 in
set_option maxHeartbeats 4000000 in
theorem s_pp_runTo (G : en_G) (hz : G.2.2.2.2.2.2.2.2 = none) (d : Nat) {cs : List en_A} {σ : en_M} {g1 : Nat} {v2 : Int32} {x0 : Int32} {s0 : en_M}  (h : k_pp_runTo g1 v2 σ = some (x0, s0)) : en_Mt G (d + 2) 0 0 M_pp_runTo [.inr (.inl (some (17, 0, 0))), .inr (.inl (some (0, g1, 0))), .inl v2] cs en_rf σ (.inr (some (.inl x0))) cs en_rf s0 := by
  refine en_meth (ls := [some (.inr (.inl (some (17, 0, 0)))), some (.inr (.inl (some (0, g1, 0)))), some (.inl v2), none]) md_pp_runTo rfl rfl rfl ?_
  unfold k_pp_runTo at h
  refine en_s_iload_n rfl rfl ?_
  refine en_s_if_lt rfl (fun c1 => ?_) (fun c1 => ?_)
  · rw [if_pos c1] at h
    refine en_s_iconst rfl ?_
    cases h
    exact en_s_zret rfl rfl (Or.inl rfl)
  · rw [if_neg c1] at h
    refine en_s_iload_n rfl rfl ?_
    refine en_s_sipush rfl ?_
    refine en_s_icmp_lt rfl (fun c2 => ?_) (fun c2 => ?_)
    · rw [if_pos c2] at h
      refine en_s_aload_n rfl rfl ?_
      refine en_s_aload_n rfl rfl ?_
      obtain ⟨s3, h4, h⟩ := en_b1_h h
      refine en_callV (as := [.inr (.inl (some (0, g1, 0)))]) (rest := []) (bc' := 0) (bs' := 0) hz rfl (s_pp_beginAsTimed G hz (d + 0) h4) lk_5_112 mv_pp_beginAsTimed rfl rfl rfl rfl rfl (fun _ h => h) (Nat.le_refl _) (Nat.le_refl _) ?_
      refine en_s_iconst rfl ?_
      refine en_s_istore_n (ls' := [some (.inr (.inl (some (17, 0, 0)))), some (.inr (.inl (some (0, g1, 0)))), some (.inl v2), some (.inl 0)]) rfl rfl rfl ?_
      rcases en_rx_h h with ⟨r13, h12, h⟩ | ⟨s11, h12, h⟩
      · obtain rfl := Option.some.inj h
        exact s_pp_runTo_20 G hz en_fu  h12 (fun _ e9 => by cases e9; exact ⟨rfl, rfl, rfl, rfl⟩) (fun _ e9 => by cases e9)
      · refine s_pp_runTo_20 G hz en_fu  h12 (fun _ e9 => by cases e9) (fun _ e9 f10 => ?_)
        cases e9
        refine en_s_aload_n rfl rfl ?_
        refine en_s_aload_n rfl rfl ?_
        obtain ⟨t15, s16, h17, h⟩ := en_b2_h h
        refine en_callV (as := [.inr (.inl (some (0, g1, 0)))]) (rest := []) (bc' := 0) (bs' := 0) hz rfl (s_pp_step G hz (d + 0) h17) lk_5_115 mv_pp_step rfl rfl rfl rfl rfl (fun _ h => h) (Nat.le_refl _) (Nat.le_refl _) ?_
        obtain ⟨t18, z19, h⟩ := en_b1_h h
        cases h
        obtain ⟨z191, z192⟩ := en_bz_h z19
        subst z192
        exact en_s_zret rfl rfl z191
    · rw [if_neg c2] at h
      refine en_s_iconst rfl ?_
      cases h
      exact en_s_zret rfl rfl (Or.inl rfl)
def k_tp_byteAt (v1 : Int32) (σ : en_M) : Option (Int32) :=
  if v1 < 0 then
    some (-1)
  else
    if (σ 20 0 0 1) ≤ v1 then
      some (-1)
    else
      if v1 < 400 then
        en_b1 (en_rd 400 (σ 21 0 0) v1) fun t4 =>
        some (t4 &&& 255)
      else
        some (-1)
set_option maxRecDepth 100000 in
set_option maxHeartbeats 4000000 in
theorem s_tp_byteAt (G : en_G) (hz : G.2.2.2.2.2.2.2.2 = none) (d : Nat) {cs : List en_A} {σ : en_M} {v1 : Int32} {x0 : Int32}  (h : k_tp_byteAt v1 σ = some x0) : en_Mt G (d + 0) 0 0 M_tp_byteAt [.inr (.inl (some (20, 0, 0))), .inl v1] cs en_rf σ (.inr (some (.inl x0))) cs en_rf σ := by
  refine en_meth (ls := [some (.inr (.inl (some (20, 0, 0)))), some (.inl v1)]) md_tp_byteAt rfl rfl rfl ?_
  unfold k_tp_byteAt at h
  refine en_s_iload_n rfl rfl ?_
  refine en_s_if_lt rfl (fun c1 => ?_) (fun c1 => ?_)
  · rw [if_pos c1] at h
    refine en_s_iconst rfl ?_
    refine en_s_goto rfl ?_
    cases h
    exact en_s_iret rfl rfl
  · rw [if_neg c1] at h
    refine en_s_iload_n rfl rfl ?_
    refine en_s_aload_n rfl rfl ?_
    refine en_s_getI rfl rfl rfl ?_
    refine en_s_icmp_ge rfl (fun c2 => ?_) (fun c2 => ?_)
    · rw [if_pos c2] at h
      refine en_s_iconst rfl ?_
      refine en_s_goto rfl ?_
      cases h
      exact en_s_iret rfl rfl
    · rw [if_neg c2] at h
      refine en_s_iload_n rfl rfl ?_
      refine en_s_sipush rfl ?_
      refine en_s_icmp_lt rfl (fun c3 => ?_) (fun c3 => ?_)
      · rw [if_pos c3] at h
        refine en_s_aload_n rfl rfl ?_
        refine en_s_getR (w := some (21, 0, 0)) rfl rfl rfl rfl ?_
        refine en_s_iload_n rfl rfl ?_
        obtain ⟨t4, h5, h⟩ := en_b1_h h
        refine en_s_bald rfl rfl h5 ?_
        refine en_s_sipush rfl ?_
        refine en_s_iand rfl ?_
        cases h
        exact en_s_iret rfl rfl
      · rw [if_neg c3] at h
        refine en_s_iconst rfl ?_
        refine en_s_goto rfl ?_
        cases h
        exact en_s_iret rfl rfl
def k_tp_isWord_28 (f0 : Nat) (v1 : Nat) (v2 : Int32) (σ : en_M) : Option ((Int32) ⊕ (Unit)) := match f0 with
  | 0 => none
  | f9 + 1 =>
    if (en_len v1) ≤ v2 then
      some (.inr ())
    else
      en_b1 (k_tp_byteAt ((σ 20 0 0 3) + v2) σ) fun t4 =>
      en_b1 (en_chr v1 v2) fun t6 =>
      if t4 = t6 then
        k_tp_isWord_28 f9 v1 (v2 + 1) σ
      else
        some (.inl (0))
def k_tp_isWord (v1 : Nat) (σ : en_M) : Option (Int32) :=
  if (σ 20 0 0 2) = 1 then
    if ((σ 20 0 0 4) - (σ 20 0 0 3)) = (en_len v1) then
      en_rx (k_tp_isWord_28 en_fu v1 0 σ) (fun r11 => some r11) (fun u13 =>
      some 1)
    else
      some 0
  else
    some 0
set_option maxRecDepth 100000 in
set_option maxHeartbeats 4000000 in
theorem s_tp_isWord_28 (G : en_G) (hz : G.2.2.2.2.2.2.2.2 = none) {d : Nat} {r : en_P} {cs cs' : List en_A} {ρ' : en_R} {σ' : en_M} : ∀ (f0 : Nat) {v1 : Nat} {v2 : Int32}  {σ : en_M} {x9 : ((Int32) ⊕ (Unit))} (hxv1 : 1 ≤ v1 ∧ v1 ≤ 11), k_tp_isWord_28 f0 v1 v2 σ = some x9 →
    (∀ a9, x9 = .inl a9 → r = .inr (some (.inl a9)) ∧ cs' = cs ∧ ρ' = en_rf ∧ σ' = σ) →
    (∀ (b9 : Unit), x9 = .inr b9 → ∀ (f2 : Option en_V), en_W G (d + 4) 0 0 M_tp_isWord r cs' ρ' σ' 0 0 62 [some (.inr (.inl (some (20, 0, 0)))), some (.inr (.inr (.inr v1))), f2] [] cs en_rf σ) → en_W G (d + 4) 0 0 M_tp_isWord r cs' ρ' σ' 0 0 28 [some (.inr (.inl (some (20, 0, 0)))), some (.inr (.inr (.inr v1))), some (.inl v2)] [] cs en_rf σ := by
  intro f0
  induction f0 with
  | zero =>
    intros
    rename_i h _ _
    cases h
  | succ f9 ih =>
    intro v1 v2 σ x9 hxv1 h hr hk
    rw [k_tp_isWord_28] at h
    refine en_s_iload_n rfl rfl ?_
    refine en_s_aload_nX rfl rfl ?_
    refine en_s_slen hz rfl hxv1 (en_tw_of (i := 856) (by decide +kernel) (by decide +kernel)) rfl ?_
    refine en_s_icmp_ge rfl (fun c3 => ?_) (fun c3 => ?_)
    · rw [if_pos c3] at h
      obtain rfl := Option.some.inj h
      exact hk _ rfl (some (.inl v2))
    · rw [if_neg c3] at h
      refine en_s_aload_n rfl rfl ?_
      refine en_s_aload_n rfl rfl ?_
      refine en_s_getI rfl rfl rfl ?_
      refine en_s_iload_n rfl rfl ?_
      refine en_s_iadd rfl ?_
      obtain ⟨t4, h5, h⟩ := en_b1_h h
      refine en_callV (as := [.inl ((σ 20 0 0 3) + v2)]) (rest := []) (bc' := 0) (bs' := 0) hz rfl (s_tp_byteAt G hz (d + 3) h5) lk_8_34 mv_tp_byteAt rfl rfl rfl rfl rfl (fun _ h => h) (Nat.le_refl _) (Nat.le_refl _) ?_
      refine en_s_aload_nX rfl rfl ?_
      refine en_s_iload_n rfl rfl ?_
      obtain ⟨t6, h7, h⟩ := en_b1_h h
      refine en_s_char hz h7 rfl hxv1 (en_tw_of (i := 866) (by decide +kernel) (by decide +kernel)) rfl ?_
      refine en_s_icmp_eq rfl (fun c8 => ?_) (fun c8 => ?_)
      · rw [if_pos c8] at h
        refine en_s_iinc (ls' := [some (.inr (.inl (some (20, 0, 0)))), some (.inr (.inr (.inr v1))), some (.inl (v2 + 1))]) rfl rfl rfl ?_
        refine en_s_goto rfl ?_
        exact ih  hxv1 h hr hk
      · rw [if_neg c8] at h
        refine en_s_iconst rfl ?_
        obtain rfl := Option.some.inj h
        obtain ⟨rfl, rfl, rfl, rfl⟩ := hr _ rfl
        exact en_s_zret rfl rfl (Or.inl rfl)
set_option maxRecDepth 100000 in
set_option maxHeartbeats 4000000 in
theorem s_tp_isWord (G : en_G) (hz : G.2.2.2.2.2.2.2.2 = none) (d : Nat) {cs : List en_A} {σ : en_M} {v1 : Nat} {x0 : Int32} (hxv1 : 1 ≤ v1 ∧ v1 ≤ 11) (h : k_tp_isWord v1 σ = some x0) : en_Mt G (d + 4) 0 0 M_tp_isWord [.inr (.inl (some (20, 0, 0))), .inr (.inr (.inr v1))] cs en_rf σ (.inr (some (.inl x0))) cs en_rf σ := by
  refine en_meth (ls := [some (.inr (.inl (some (20, 0, 0)))), some (.inr (.inr (.inr v1))), none]) md_tp_isWord rfl rfl rfl ?_
  unfold k_tp_isWord at h
  refine en_s_aload_n rfl rfl ?_
  refine en_s_getI rfl rfl rfl ?_
  refine en_s_iconst rfl ?_
  refine en_s_icmp_ne rfl (fun c1 => ?_) (fun c1 => ?_)
  · rw [if_neg c1] at h
    refine en_s_iconst rfl ?_
    cases h
    exact en_s_zret rfl rfl (Or.inl rfl)
  · rw [if_pos c1] at h
    refine en_s_aload_n rfl rfl ?_
    refine en_s_getI rfl rfl rfl ?_
    refine en_s_aload_n rfl rfl ?_
    refine en_s_getI rfl rfl rfl ?_
    refine en_s_isub rfl ?_
    refine en_s_aload_nX rfl rfl ?_
    refine en_s_slen hz rfl hxv1 (en_tw_of (i := 856) (by decide +kernel) (by decide +kernel)) rfl ?_
    refine en_s_icmp_eq rfl (fun c2 => ?_) (fun c2 => ?_)
    · rw [if_pos c2] at h
      refine en_s_iconst rfl ?_
      refine en_s_istore_n (ls' := [some (.inr (.inl (some (20, 0, 0)))), some (.inr (.inr (.inr v1))), some (.inl 0)]) rfl rfl rfl ?_
      rcases en_rx_h h with ⟨r11, h10, h⟩ | ⟨u13, h10, h⟩
      · obtain rfl := Option.some.inj h
        exact s_tp_isWord_28 G hz en_fu  hxv1 h10 (fun _ e9 => by cases e9; exact ⟨rfl, rfl, rfl, rfl⟩) (fun _ e9 => by cases e9)
      · refine s_tp_isWord_28 G hz en_fu  hxv1 h10 (fun _ e9 => by cases e9) (fun _ e9 f9 => ?_)
        cases e9
        refine en_s_iconst rfl ?_
        cases h
        exact en_s_zret rfl rfl (Or.inr rfl)
    · rw [if_neg c2] at h
      refine en_s_iconst rfl ?_
      cases h
      exact en_s_zret rfl rfl (Or.inl rfl)
def k_tp_actNamed  (σ : en_M) : Option (Int32) :=
  en_b1 (k_tp_isWord 1 σ) fun t1 =>
  if t1 = 0 then
    en_b1 (k_tp_isWord 2 σ) fun t4 =>
    if t4 = 0 then
      en_b1 (k_tp_isWord 3 σ) fun t7 =>
      if t7 = 0 then
        en_b1 (k_tp_isWord 4 σ) fun t10 =>
        if t10 = 0 then
          en_b1 (k_tp_isWord 5 σ) fun t13 =>
          if t13 = 0 then
            en_b1 (k_tp_isWord 6 σ) fun t16 =>
            if t16 = 0 then
              en_b1 (k_tp_isWord 7 σ) fun t19 =>
              if t19 = 0 then
                en_b1 (k_tp_isWord 8 σ) fun t22 =>
                if t22 = 0 then
                  en_b1 (k_tp_isWord 9 σ) fun t25 =>
                  if t25 = 0 then
                    some (-1)
                  else
                    some 8
                else
                  some 7
              else
                some 6
            else
              some 5
          else
            some 4
        else
          some 3
      else
        some 2
    else
      some 1
  else
    some 0
set_option maxRecDepth 100000 in
set_option maxHeartbeats 4000000 in
theorem s_tp_actNamed (G : en_G) (hz : G.2.2.2.2.2.2.2.2 = none) (d : Nat) {cs : List en_A} {σ : en_M}  {x0 : Int32}  (h : k_tp_actNamed  σ = some x0) : en_Mt G (d + 5) 0 0 M_tp_actNamed [.inr (.inl (some (20, 0, 0)))] cs en_rf σ (.inr (some (.inl x0))) cs en_rf σ := by
  refine en_meth (ls := [some (.inr (.inl (some (20, 0, 0))))]) md_tp_actNamed rfl rfl rfl ?_
  unfold k_tp_actNamed at h
  refine en_s_aload_n rfl rfl ?_
  refine en_s_ldcS (i := 0) (text := "card") rfl (by decide +kernel) ?_
  obtain ⟨t1, h2, h⟩ := en_b1_h h
  refine en_callV (as := [.inr (.inr (.inr 1))]) (rest := []) (bc' := 0) (bs' := 0) hz rfl (s_tp_isWord G hz (d + 0) (by decide) h2) lk_8_70 mv_tp_isWord rfl rfl rfl rfl rfl (fun _ h => h) (Nat.le_refl _) (Nat.le_refl _) ?_
  refine en_s_if_eq rfl (fun c3 => ?_) (fun c3 => ?_)
  · rw [if_pos c3] at h
    refine en_s_aload_n rfl rfl ?_
    refine en_s_ldcS (i := 1) (text := "flow") rfl (by decide +kernel) ?_
    obtain ⟨t4, h5, h⟩ := en_b1_h h
    refine en_callV (as := [.inr (.inr (.inr 2))]) (rest := []) (bc' := 0) (bs' := 0) hz rfl (s_tp_isWord G hz (d + 0) (by decide) h5) lk_8_70 mv_tp_isWord rfl rfl rfl rfl rfl (fun _ h => h) (Nat.le_refl _) (Nat.le_refl _) ?_
    refine en_s_if_eq rfl (fun c6 => ?_) (fun c6 => ?_)
    · rw [if_pos c6] at h
      refine en_s_aload_n rfl rfl ?_
      refine en_s_ldcS (i := 2) (text := "send") rfl (by decide +kernel) ?_
      obtain ⟨t7, h8, h⟩ := en_b1_h h
      refine en_callV (as := [.inr (.inr (.inr 3))]) (rest := []) (bc' := 0) (bs' := 0) hz rfl (s_tp_isWord G hz (d + 0) (by decide) h8) lk_8_70 mv_tp_isWord rfl rfl rfl rfl rfl (fun _ h => h) (Nat.le_refl _) (Nat.le_refl _) ?_
      refine en_s_if_eq rfl (fun c9 => ?_) (fun c9 => ?_)
      · rw [if_pos c9] at h
        refine en_s_aload_n rfl rfl ?_
        refine en_s_ldcS (i := 3) (text := "bell") rfl (by decide +kernel) ?_
        obtain ⟨t10, h11, h⟩ := en_b1_h h
        refine en_callV (as := [.inr (.inr (.inr 4))]) (rest := []) (bc' := 0) (bs' := 0) hz rfl (s_tp_isWord G hz (d + 0) (by decide) h11) lk_8_70 mv_tp_isWord rfl rfl rfl rfl rfl (fun _ h => h) (Nat.le_refl _) (Nat.le_refl _) ?_
        refine en_s_if_eq rfl (fun c12 => ?_) (fun c12 => ?_)
        · rw [if_pos c12] at h
          refine en_s_aload_n rfl rfl ?_
          refine en_s_ldcS (i := 4) (text := "drop") rfl (by decide +kernel) ?_
          obtain ⟨t13, h14, h⟩ := en_b1_h h
          refine en_callV (as := [.inr (.inr (.inr 5))]) (rest := []) (bc' := 0) (bs' := 0) hz rfl (s_tp_isWord G hz (d + 0) (by decide) h14) lk_8_70 mv_tp_isWord rfl rfl rfl rfl rfl (fun _ h => h) (Nat.le_refl _) (Nat.le_refl _) ?_
          refine en_s_if_eq rfl (fun c15 => ?_) (fun c15 => ?_)
          · rw [if_pos c15] at h
            refine en_s_aload_n rfl rfl ?_
            refine en_s_ldcS (i := 5) (text := "pause") rfl (by decide +kernel) ?_
            obtain ⟨t16, h17, h⟩ := en_b1_h h
            refine en_callV (as := [.inr (.inr (.inr 6))]) (rest := []) (bc' := 0) (bs' := 0) hz rfl (s_tp_isWord G hz (d + 0) (by decide) h17) lk_8_70 mv_tp_isWord rfl rfl rfl rfl rfl (fun _ h => h) (Nat.le_refl _) (Nat.le_refl _) ?_
            refine en_s_if_eq rfl (fun c18 => ?_) (fun c18 => ?_)
            · rw [if_pos c18] at h
              refine en_s_aload_n rfl rfl ?_
              refine en_s_ldcS (i := 6) (text := "go") rfl (by decide +kernel) ?_
              obtain ⟨t19, h20, h⟩ := en_b1_h h
              refine en_callV (as := [.inr (.inr (.inr 7))]) (rest := []) (bc' := 0) (bs' := 0) hz rfl (s_tp_isWord G hz (d + 0) (by decide) h20) lk_8_70 mv_tp_isWord rfl rfl rfl rfl rfl (fun _ h => h) (Nat.le_refl _) (Nat.le_refl _) ?_
              refine en_s_if_eq rfl (fun c21 => ?_) (fun c21 => ?_)
              · rw [if_pos c21] at h
                refine en_s_aload_n rfl rfl ?_
                refine en_s_ldcS (i := 7) (text := "rate") rfl (by decide +kernel) ?_
                obtain ⟨t22, h23, h⟩ := en_b1_h h
                refine en_callV (as := [.inr (.inr (.inr 8))]) (rest := []) (bc' := 0) (bs' := 0) hz rfl (s_tp_isWord G hz (d + 0) (by decide) h23) lk_8_70 mv_tp_isWord rfl rfl rfl rfl rfl (fun _ h => h) (Nat.le_refl _) (Nat.le_refl _) ?_
                refine en_s_if_eq rfl (fun c24 => ?_) (fun c24 => ?_)
                · rw [if_pos c24] at h
                  refine en_s_aload_n rfl rfl ?_
                  refine en_s_ldcS (i := 8) (text := "tick") rfl (by decide +kernel) ?_
                  obtain ⟨t25, h26, h⟩ := en_b1_h h
                  refine en_callV (as := [.inr (.inr (.inr 9))]) (rest := []) (bc' := 0) (bs' := 0) hz rfl (s_tp_isWord G hz (d + 0) (by decide) h26) lk_8_70 mv_tp_isWord rfl rfl rfl rfl rfl (fun _ h => h) (Nat.le_refl _) (Nat.le_refl _) ?_
                  refine en_s_if_eq rfl (fun c27 => ?_) (fun c27 => ?_)
                  · rw [if_pos c27] at h
                    refine en_s_iconst rfl ?_
                    cases h
                    exact en_s_iret rfl rfl
                  · rw [if_neg c27] at h
                    refine en_s_bipush rfl ?_
                    refine en_s_goto rfl ?_
                    cases h
                    exact en_s_iret rfl rfl
                · rw [if_neg c24] at h
                  refine en_s_bipush rfl ?_
                  cases h
                  exact en_s_iret rfl rfl
              · rw [if_neg c21] at h
                refine en_s_bipush rfl ?_
                cases h
                exact en_s_iret rfl rfl
            · rw [if_neg c18] at h
              refine en_s_iconst rfl ?_
              cases h
              exact en_s_iret rfl rfl
          · rw [if_neg c15] at h
            refine en_s_iconst rfl ?_
            cases h
            exact en_s_iret rfl rfl
        · rw [if_neg c12] at h
          refine en_s_iconst rfl ?_
          cases h
          exact en_s_iret rfl rfl
      · rw [if_neg c9] at h
        refine en_s_iconst rfl ?_
        cases h
        exact en_s_iret rfl rfl
    · rw [if_neg c6] at h
      refine en_s_iconst rfl ?_
      cases h
      exact en_s_iret rfl rfl
  · rw [if_neg c3] at h
    refine en_s_iconst rfl ?_
    cases h
    exact en_s_iret rfl rfl
def k_tp_isLetter (v0 : Int32) : Int32 :=
  if v0 < 97 then
    0
  else
    if 122 < v0 then
      0
    else
      1
theorem z_tp_isLetter {v0 : Int32} : k_tp_isLetter v0 = 0 ∨ k_tp_isLetter v0 = 1 := by
  unfold k_tp_isLetter
  (repeat' split) <;> first | exact Or.inl rfl | exact Or.inr rfl
set_option maxRecDepth 100000 in
set_option maxHeartbeats 4000000 in
theorem s_tp_isLetter (G : en_G) (hz : G.2.2.2.2.2.2.2.2 = none) (d : Nat) {cs : List en_A} {σ : en_M} {v0 : Int32} {x0 : Int32}  (h : k_tp_isLetter v0 = x0) : en_Mt G (d + 0) 0 0 M_tp_isLetter [.inl v0] cs en_rf σ (.inr (some (.inl x0))) cs en_rf σ := by
  refine en_meth (ls := [some (.inl v0)]) md_tp_isLetter rfl rfl rfl ?_
  unfold k_tp_isLetter at h
  refine en_s_iload_n rfl rfl ?_
  refine en_s_bipush rfl ?_
  refine en_s_icmp_lt rfl (fun c1 => ?_) (fun c1 => ?_)
  · rw [if_pos c1] at h
    refine en_s_iconst rfl ?_
    subst h
    exact en_s_zret rfl rfl (Or.inl rfl)
  · rw [if_neg c1] at h
    refine en_s_iload_n rfl rfl ?_
    refine en_s_bipush rfl ?_
    refine en_s_icmp_gt rfl (fun c2 => ?_) (fun c2 => ?_)
    · rw [if_pos c2] at h
      refine en_s_iconst rfl ?_
      subst h
      exact en_s_zret rfl rfl (Or.inl rfl)
    · rw [if_neg c2] at h
      refine en_s_iconst rfl ?_
      refine en_s_goto rfl ?_
      subst h
      exact en_s_zret rfl rfl (Or.inr rfl)
def k_tp_isDigit (v0 : Int32) : Int32 :=
  if v0 < 48 then
    0
  else
    if 57 < v0 then
      0
    else
      1
theorem z_tp_isDigit {v0 : Int32} : k_tp_isDigit v0 = 0 ∨ k_tp_isDigit v0 = 1 := by
  unfold k_tp_isDigit
  (repeat' split) <;> first | exact Or.inl rfl | exact Or.inr rfl
set_option maxRecDepth 100000 in
set_option maxHeartbeats 4000000 in
theorem s_tp_isDigit (G : en_G) (hz : G.2.2.2.2.2.2.2.2 = none) (d : Nat) {cs : List en_A} {σ : en_M} {v0 : Int32} {x0 : Int32}  (h : k_tp_isDigit v0 = x0) : en_Mt G (d + 0) 0 0 M_tp_isDigit [.inl v0] cs en_rf σ (.inr (some (.inl x0))) cs en_rf σ := by
  refine en_meth (ls := [some (.inl v0)]) md_tp_isDigit rfl rfl rfl ?_
  unfold k_tp_isDigit at h
  refine en_s_iload_n rfl rfl ?_
  refine en_s_bipush rfl ?_
  refine en_s_icmp_lt rfl (fun c1 => ?_) (fun c1 => ?_)
  · rw [if_pos c1] at h
    refine en_s_iconst rfl ?_
    subst h
    exact en_s_zret rfl rfl (Or.inl rfl)
  · rw [if_neg c1] at h
    refine en_s_iload_n rfl rfl ?_
    refine en_s_bipush rfl ?_
    refine en_s_icmp_gt rfl (fun c2 => ?_) (fun c2 => ?_)
    · rw [if_pos c2] at h
      refine en_s_iconst rfl ?_
      subst h
      exact en_s_zret rfl rfl (Or.inl rfl)
    · rw [if_neg c2] at h
      refine en_s_iconst rfl ?_
      refine en_s_goto rfl ?_
      subst h
      exact en_s_zret rfl rfl (Or.inr rfl)
def k_tp_advance_8 (f0 : Nat)  (σ : en_M) : Option (en_M) := match f0 with
  | 0 => none
  | f9 + 1 =>
    if (σ 20 0 0 1) ≤ (σ 20 0 0 3) then
      some (σ)
    else
      en_b1 (k_tp_byteAt (σ 20 0 0 3) σ) fun t4 =>
      if t4 = 32 then
        en_let (en_wr σ 20 0 0 3 ((σ 20 0 0 3) + 1)) fun s7 =>
        k_tp_advance_8 f9  s7
      else
        some (σ)
def k_tp_advance_148 (f0 : Nat)  (σ : en_M) : Option (en_M) := match f0 with
  | 0 => none
  | f9 + 1 =>
    if (σ 20 0 0 1) ≤ (σ 20 0 0 4) then
      some (σ)
    else
      en_b1 (k_tp_byteAt (σ 20 0 0 4) σ) fun t27 =>
      if (k_tp_isDigit t27) = 0 then
        some (σ)
      else
        en_let (en_wr σ 20 0 0 4 ((σ 20 0 0 4) + 1)) fun s30 =>
        k_tp_advance_148 f9  s30
def k_tp_advance_91 (f0 : Nat)  (σ : en_M) : Option (en_M) := match f0 with
  | 0 => none
  | f9 + 1 =>
    if (σ 20 0 0 1) ≤ (σ 20 0 0 4) then
      some (σ)
    else
      en_b1 (k_tp_byteAt (σ 20 0 0 4) σ) fun t37 =>
      if (k_tp_isLetter t37) = 0 then
        some (σ)
      else
        en_let (en_wr σ 20 0 0 4 ((σ 20 0 0 4) + 1)) fun s40 =>
        k_tp_advance_91 f9  s40
def k_tp_advance  (σ : en_M) : Option (en_M) :=
  en_let (en_wr σ 20 0 0 3 (σ 20 0 0 4)) fun s1 =>
  en_b1 (k_tp_advance_8 en_fu  s1) fun s9 =>
  en_let (en_wr s9 20 0 0 4 (s9 20 0 0 3)) fun s11 =>
  if (s11 20 0 0 3) < (s11 20 0 0 1) then
    en_b1 (k_tp_byteAt (s11 20 0 0 3) s11) fun t14 =>
    if (k_tp_isLetter t14) = 0 then
      en_b1 (k_tp_byteAt (s11 20 0 0 3) s11) fun t17 =>
      if (k_tp_isDigit t17) = 0 then
        en_let (en_wr s11 20 0 0 2 3) fun s20 =>
        en_let (en_wr s20 20 0 0 4 ((s20 20 0 0 4) + 1)) fun s22 =>
        some s22
      else
        en_let (en_wr s11 20 0 0 2 2) fun s24 =>
        en_b1 (k_tp_advance_148 en_fu  s24) fun s32 =>
        some s32
    else
      en_let (en_wr s11 20 0 0 2 1) fun s34 =>
      en_b1 (k_tp_advance_91 en_fu  s34) fun s42 =>
      some s42
  else
    en_let (en_wr s11 20 0 0 2 0) fun s44 =>
    some s44
set_option maxRecDepth 100000 in
set_option maxHeartbeats 4000000 in
theorem s_tp_advance_8 (G : en_G) (hz : G.2.2.2.2.2.2.2.2 = none) {d : Nat} {r : en_P} {cs cs' : List en_A} {ρ' : en_R} {σ' : en_M} : ∀ (f0 : Nat)   {σ : en_M} {s0 : en_M} , k_tp_advance_8 f0  σ = some (s0) →
    (∀ (_ : Unit), en_W G (d + 1) 0 0 M_tp_advance r cs' ρ' σ' 0 0 45 [some (.inr (.inl (some (20, 0, 0))))] [] cs en_rf s0) → en_W G (d + 1) 0 0 M_tp_advance r cs' ρ' σ' 0 0 8 [some (.inr (.inl (some (20, 0, 0))))] [] cs en_rf σ := by
  intro f0
  induction f0 with
  | zero =>
    intros
    rename_i h _
    cases h
  | succ f9 ih =>
    intro σ s0 h hk
    rw [k_tp_advance_8] at h
    refine en_s_aload_n rfl rfl ?_
    refine en_s_getI rfl rfl rfl ?_
    refine en_s_aload_n rfl rfl ?_
    refine en_s_getI rfl rfl rfl ?_
    refine en_s_icmp_ge rfl (fun c3 => ?_) (fun c3 => ?_)
    · rw [if_pos c3] at h
      cases h
      exact hk ()
    · rw [if_neg c3] at h
      refine en_s_aload_n rfl rfl ?_
      refine en_s_aload_n rfl rfl ?_
      refine en_s_getI rfl rfl rfl ?_
      obtain ⟨t4, h5, h⟩ := en_b1_h h
      refine en_callV (as := [.inl (σ 20 0 0 3)]) (rest := []) (bc' := 0) (bs' := 0) hz rfl (s_tp_byteAt G hz (d + 0) h5) lk_8_34 mv_tp_byteAt rfl rfl rfl rfl rfl (fun _ h => h) (Nat.le_refl _) (Nat.le_refl _) ?_
      refine en_s_bipush rfl ?_
      refine en_s_icmp_ne rfl (fun c6 => ?_) (fun c6 => ?_)
      · rw [if_neg c6] at h
        cases h
        exact hk ()
      · rw [if_pos c6] at h
        refine en_s_aload_n rfl rfl ?_
        refine en_s_dup rfl rfl ?_
        refine en_s_getI rfl rfl rfl ?_
        refine en_s_iconst rfl ?_
        refine en_s_iadd rfl ?_
        obtain ⟨s7, e8, h⟩ := en_let_h h
        refine en_p_putI e8 rfl rfl rfl rfl rfl ?_
        refine en_s_goto rfl ?_
        exact ih  h hk
set_option maxRecDepth 100000 in
set_option maxHeartbeats 4000000 in
theorem s_tp_advance_148 (G : en_G) (hz : G.2.2.2.2.2.2.2.2 = none) {d : Nat} {r : en_P} {cs cs' : List en_A} {ρ' : en_R} {σ' : en_M} : ∀ (f0 : Nat)   {σ : en_M} {s0 : en_M} , k_tp_advance_148 f0  σ = some (s0) →
    (∀ (_ : Unit), en_W G (d + 1) 0 0 M_tp_advance r cs' ρ' σ' 0 0 201 [some (.inr (.inl (some (20, 0, 0))))] [] cs en_rf s0) → en_W G (d + 1) 0 0 M_tp_advance r cs' ρ' σ' 0 0 148 [some (.inr (.inl (some (20, 0, 0))))] [] cs en_rf σ := by
  intro f0
  induction f0 with
  | zero =>
    intros
    rename_i h _
    cases h
  | succ f9 ih =>
    intro σ s0 h hk
    rw [k_tp_advance_148] at h
    refine en_s_aload_n rfl rfl ?_
    refine en_s_getI rfl rfl rfl ?_
    refine en_s_aload_n rfl rfl ?_
    refine en_s_getI rfl rfl rfl ?_
    refine en_s_icmp_ge rfl (fun c26 => ?_) (fun c26 => ?_)
    · rw [if_pos c26] at h
      cases h
      exact hk ()
    · rw [if_neg c26] at h
      refine en_s_aload_n rfl rfl ?_
      refine en_s_aload_n rfl rfl ?_
      refine en_s_getI rfl rfl rfl ?_
      obtain ⟨t27, h28, h⟩ := en_b1_h h
      refine en_callV (as := [.inl (σ 20 0 0 4)]) (rest := []) (bc' := 0) (bs' := 0) hz rfl (s_tp_byteAt G hz (d + 0) h28) lk_8_34 mv_tp_byteAt rfl rfl rfl rfl rfl (fun _ h => h) (Nat.le_refl _) (Nat.le_refl _) ?_
      refine en_callS (as := [.inl t27]) (rest := []) (bc' := 0) (bs' := 0) hz rfl (s_tp_isDigit G hz (d + 0) rfl) lk_8_42 mv_tp_isDigit rfl rfl rfl (fun _ h => h) (Nat.le_refl _) (Nat.le_refl _) ?_
      refine en_s_if_eq rfl (fun c29 => ?_) (fun c29 => ?_)
      · rw [if_pos c29] at h
        cases h
        exact hk ()
      · rw [if_neg c29] at h
        refine en_s_aload_n rfl rfl ?_
        refine en_s_dup rfl rfl ?_
        refine en_s_getI rfl rfl rfl ?_
        refine en_s_iconst rfl ?_
        refine en_s_iadd rfl ?_
        obtain ⟨s30, e31, h⟩ := en_let_h h
        refine en_p_putI e31 rfl rfl rfl rfl rfl ?_
        refine en_s_goto rfl ?_
        exact ih  h hk
set_option maxRecDepth 100000 in
set_option maxHeartbeats 4000000 in
theorem s_tp_advance_91 (G : en_G) (hz : G.2.2.2.2.2.2.2.2 = none) {d : Nat} {r : en_P} {cs cs' : List en_A} {ρ' : en_R} {σ' : en_M} : ∀ (f0 : Nat)   {σ : en_M} {s0 : en_M} , k_tp_advance_91 f0  σ = some (s0) →
    (∀ (_ : Unit), en_W G (d + 1) 0 0 M_tp_advance r cs' ρ' σ' 0 0 201 [some (.inr (.inl (some (20, 0, 0))))] [] cs en_rf s0) → en_W G (d + 1) 0 0 M_tp_advance r cs' ρ' σ' 0 0 91 [some (.inr (.inl (some (20, 0, 0))))] [] cs en_rf σ := by
  intro f0
  induction f0 with
  | zero =>
    intros
    rename_i h _
    cases h
  | succ f9 ih =>
    intro σ s0 h hk
    rw [k_tp_advance_91] at h
    refine en_s_aload_n rfl rfl ?_
    refine en_s_getI rfl rfl rfl ?_
    refine en_s_aload_n rfl rfl ?_
    refine en_s_getI rfl rfl rfl ?_
    refine en_s_icmp_ge rfl (fun c36 => ?_) (fun c36 => ?_)
    · rw [if_pos c36] at h
      cases h
      exact hk ()
    · rw [if_neg c36] at h
      refine en_s_aload_n rfl rfl ?_
      refine en_s_aload_n rfl rfl ?_
      refine en_s_getI rfl rfl rfl ?_
      obtain ⟨t37, h38, h⟩ := en_b1_h h
      refine en_callV (as := [.inl (σ 20 0 0 4)]) (rest := []) (bc' := 0) (bs' := 0) hz rfl (s_tp_byteAt G hz (d + 0) h38) lk_8_34 mv_tp_byteAt rfl rfl rfl rfl rfl (fun _ h => h) (Nat.le_refl _) (Nat.le_refl _) ?_
      refine en_callS (as := [.inl t37]) (rest := []) (bc' := 0) (bs' := 0) hz rfl (s_tp_isLetter G hz (d + 0) rfl) lk_8_38 mv_tp_isLetter rfl rfl rfl (fun _ h => h) (Nat.le_refl _) (Nat.le_refl _) ?_
      refine en_s_if_eq rfl (fun c39 => ?_) (fun c39 => ?_)
      · rw [if_pos c39] at h
        cases h
        exact hk ()
      · rw [if_neg c39] at h
        refine en_s_aload_n rfl rfl ?_
        refine en_s_dup rfl rfl ?_
        refine en_s_getI rfl rfl rfl ?_
        refine en_s_iconst rfl ?_
        refine en_s_iadd rfl ?_
        obtain ⟨s40, e41, h⟩ := en_let_h h
        refine en_p_putI e41 rfl rfl rfl rfl rfl ?_
        refine en_s_goto rfl ?_
        exact ih  h hk
set_option maxRecDepth 100000 in
set_option maxHeartbeats 4000000 in
theorem s_tp_advance (G : en_G) (hz : G.2.2.2.2.2.2.2.2 = none) (d : Nat) {cs : List en_A} {σ : en_M}  {s0 : en_M}  (h : k_tp_advance  σ = some s0) : en_Mt G (d + 1) 0 0 M_tp_advance [.inr (.inl (some (20, 0, 0)))] cs en_rf σ (.inr (none)) cs en_rf s0 := by
  refine en_meth (ls := [some (.inr (.inl (some (20, 0, 0))))]) md_tp_advance rfl rfl rfl ?_
  unfold k_tp_advance at h
  refine en_s_aload_n rfl rfl ?_
  refine en_s_aload_n rfl rfl ?_
  refine en_s_getI rfl rfl rfl ?_
  obtain ⟨s1, e2, h⟩ := en_let_h h
  refine en_p_putI e2 rfl rfl rfl rfl rfl ?_
  obtain ⟨s9, h10, h⟩ := en_b1_h h
  refine s_tp_advance_8 G hz en_fu  h10 (fun _ => ?_)
  refine en_s_aload_n rfl rfl ?_
  refine en_s_aload_n rfl rfl ?_
  refine en_s_getI rfl rfl rfl ?_
  obtain ⟨s11, e12, h⟩ := en_let_h h
  refine en_p_putI e12 rfl rfl rfl rfl rfl ?_
  refine en_s_aload_n rfl rfl ?_
  refine en_s_getI rfl rfl rfl ?_
  refine en_s_aload_n rfl rfl ?_
  refine en_s_getI rfl rfl rfl ?_
  refine en_s_icmp_lt rfl (fun c13 => ?_) (fun c13 => ?_)
  · rw [if_pos c13] at h
    refine en_s_aload_n rfl rfl ?_
    refine en_s_aload_n rfl rfl ?_
    refine en_s_getI rfl rfl rfl ?_
    obtain ⟨t14, h15, h⟩ := en_b1_h h
    refine en_callV (as := [.inl (s11 20 0 0 3)]) (rest := []) (bc' := 0) (bs' := 0) hz rfl (s_tp_byteAt G hz (d + 0) h15) lk_8_34 mv_tp_byteAt rfl rfl rfl rfl rfl (fun _ h => h) (Nat.le_refl _) (Nat.le_refl _) ?_
    refine en_callS (as := [.inl t14]) (rest := []) (bc' := 0) (bs' := 0) hz rfl (s_tp_isLetter G hz (d + 0) rfl) lk_8_38 mv_tp_isLetter rfl rfl rfl (fun _ h => h) (Nat.le_refl _) (Nat.le_refl _) ?_
    refine en_s_if_eq rfl (fun c16 => ?_) (fun c16 => ?_)
    · rw [if_pos c16] at h
      refine en_s_aload_n rfl rfl ?_
      refine en_s_aload_n rfl rfl ?_
      refine en_s_getI rfl rfl rfl ?_
      obtain ⟨t17, h18, h⟩ := en_b1_h h
      refine en_callV (as := [.inl (s11 20 0 0 3)]) (rest := []) (bc' := 0) (bs' := 0) hz rfl (s_tp_byteAt G hz (d + 0) h18) lk_8_34 mv_tp_byteAt rfl rfl rfl rfl rfl (fun _ h => h) (Nat.le_refl _) (Nat.le_refl _) ?_
      refine en_callS (as := [.inl t17]) (rest := []) (bc' := 0) (bs' := 0) hz rfl (s_tp_isDigit G hz (d + 0) rfl) lk_8_42 mv_tp_isDigit rfl rfl rfl (fun _ h => h) (Nat.le_refl _) (Nat.le_refl _) ?_
      refine en_s_if_eq rfl (fun c19 => ?_) (fun c19 => ?_)
      · rw [if_pos c19] at h
        refine en_s_aload_n rfl rfl ?_
        refine en_s_iconst rfl ?_
        obtain ⟨s20, e21, h⟩ := en_let_h h
        refine en_p_putI e21 rfl rfl rfl rfl rfl ?_
        refine en_s_aload_n rfl rfl ?_
        refine en_s_dup rfl rfl ?_
        refine en_s_getI rfl rfl rfl ?_
        refine en_s_iconst rfl ?_
        refine en_s_iadd rfl ?_
        obtain ⟨s22, e23, h⟩ := en_let_h h
        refine en_p_putI e23 rfl rfl rfl rfl rfl ?_
        cases h
        exact en_s_vret rfl rfl
      · rw [if_neg c19] at h
        refine en_s_aload_n rfl rfl ?_
        refine en_s_iconst rfl ?_
        obtain ⟨s24, e25, h⟩ := en_let_h h
        refine en_p_putI e25 rfl rfl rfl rfl rfl ?_
        obtain ⟨s32, h33, h⟩ := en_b1_h h
        refine s_tp_advance_148 G hz en_fu  h33 (fun _ => ?_)
        cases h
        exact en_s_vret rfl rfl
    · rw [if_neg c16] at h
      refine en_s_aload_n rfl rfl ?_
      refine en_s_iconst rfl ?_
      obtain ⟨s34, e35, h⟩ := en_let_h h
      refine en_p_putI e35 rfl rfl rfl rfl rfl ?_
      obtain ⟨s42, h43, h⟩ := en_b1_h h
      refine s_tp_advance_91 G hz en_fu  h43 (fun _ => ?_)
      cases h
      exact en_s_vret rfl rfl
  · rw [if_neg c13] at h
    refine en_s_aload_n rfl rfl ?_
    refine en_s_iconst rfl ?_
    obtain ⟨s44, e45, h⟩ := en_let_h h
    refine en_p_putI e45 rfl rfl rfl rfl rfl ?_
    refine en_s_goto rfl ?_
    cases h
    exact en_s_vret rfl rfl
def k_tp_append_3 (f0 : Nat) (v1 : Int32) (v2 : Int32) (σ : en_M) : Option (en_M) := match f0 with
  | 0 => none
  | f9 + 1 =>
    if v2 < 0 then
      some (σ)
    else
      if 400 ≤ (σ 20 0 0 1) then
        k_tp_append_3 f9 v1 (v2 + (-8)) σ
      else
        en_b1 (en_wa 400 σ 21 0 0 (σ 20 0 0 1) (((v1 >>> (v2 &&& 31)).toInt8.toInt32).toInt8.toInt32)) fun s3 =>
        en_let (en_wr s3 20 0 0 1 ((s3 20 0 0 1) + 1)) fun s5 =>
        k_tp_append_3 f9 v1 (v2 + (-8)) s5
def k_tp_append (v1 : Int32) (σ : en_M) : Option (en_M) :=
  en_b1 (k_tp_append_3 en_fu v1 24 σ) fun s8 =>
  some s8
set_option maxRecDepth 100000 in
set_option maxHeartbeats 4000000 in
theorem s_tp_append_3 (G : en_G) (hz : G.2.2.2.2.2.2.2.2 = none) {d : Nat} {r : en_P} {cs cs' : List en_A} {ρ' : en_R} {σ' : en_M} : ∀ (f0 : Nat) {v1 : Int32} {v2 : Int32}  {σ : en_M} {s0 : en_M} , k_tp_append_3 f0 v1 v2 σ = some (s0) →
    (∀ (f2 : Option en_V), en_W G (d + 0) 0 0 M_tp_append r cs' ρ' σ' 0 0 46 [some (.inr (.inl (some (20, 0, 0)))), some (.inl v1), f2] [] cs en_rf s0) → en_W G (d + 0) 0 0 M_tp_append r cs' ρ' σ' 0 0 3 [some (.inr (.inl (some (20, 0, 0)))), some (.inl v1), some (.inl v2)] [] cs en_rf σ := by
  intro f0
  induction f0 with
  | zero =>
    intros
    rename_i h _
    cases h
  | succ f9 ih =>
    intro v1 v2 σ s0 h hk
    rw [k_tp_append_3] at h
    refine en_s_iload_n rfl rfl ?_
    refine en_s_if_lt rfl (fun c1 => ?_) (fun c1 => ?_)
    · rw [if_pos c1] at h
      cases h
      exact hk (some (.inl v2))
    · rw [if_neg c1] at h
      refine en_s_aload_n rfl rfl ?_
      refine en_s_getI rfl rfl rfl ?_
      refine en_s_sipush rfl ?_
      refine en_s_icmp_ge rfl (fun c2 => ?_) (fun c2 => ?_)
      · rw [if_pos c2] at h
        refine en_s_iinc (ls' := [some (.inr (.inl (some (20, 0, 0)))), some (.inl v1), some (.inl (v2 + (-8)))]) rfl rfl rfl ?_
        refine en_s_goto rfl ?_
        exact ih  h hk
      · rw [if_neg c2] at h
        refine en_s_aload_n rfl rfl ?_
        refine en_s_getR (w := some (21, 0, 0)) rfl rfl rfl rfl ?_
        refine en_s_aload_n rfl rfl ?_
        refine en_s_getI rfl rfl rfl ?_
        refine en_s_iload_n rfl rfl ?_
        refine en_s_iload_n rfl rfl ?_
        refine en_s_ishr rfl ?_
        refine en_s_i2b rfl ?_
        obtain ⟨s3, e4, h⟩ := en_b1_h h
        refine en_s_bast rfl rfl e4 ?_
        refine en_s_aload_n rfl rfl ?_
        refine en_s_dup rfl rfl ?_
        refine en_s_getI rfl rfl rfl ?_
        refine en_s_iconst rfl ?_
        refine en_s_iadd rfl ?_
        obtain ⟨s5, e6, h⟩ := en_let_h h
        refine en_p_putI e6 rfl rfl rfl rfl rfl ?_
        refine en_s_iinc (ls' := [some (.inr (.inl (some (20, 0, 0)))), some (.inl v1), some (.inl (v2 + (-8)))]) rfl rfl rfl ?_
        refine en_s_goto rfl ?_
        exact ih  h hk
set_option maxRecDepth 100000 in
set_option maxHeartbeats 4000000 in
theorem s_tp_append (G : en_G) (hz : G.2.2.2.2.2.2.2.2 = none) (d : Nat) {cs : List en_A} {σ : en_M} {v1 : Int32} {s0 : en_M}  (h : k_tp_append v1 σ = some s0) : en_Mt G (d + 0) 0 0 M_tp_append [.inr (.inl (some (20, 0, 0))), .inl v1] cs en_rf σ (.inr (none)) cs en_rf s0 := by
  refine en_meth (ls := [some (.inr (.inl (some (20, 0, 0)))), some (.inl v1), none]) md_tp_append rfl rfl rfl ?_
  unfold k_tp_append at h
  refine en_s_bipush rfl ?_
  refine en_s_istore_n (ls' := [some (.inr (.inl (some (20, 0, 0)))), some (.inl v1), some (.inl 24)]) rfl rfl rfl ?_
  obtain ⟨s8, h9, h⟩ := en_b1_h h
  refine s_tp_append_3 G hz en_fu  h9 (fun f7 => ?_)
  cases h
  exact en_s_vret rfl rfl
def k_tp_atEnd  (σ : en_M) : Int32 :=
  if (σ 20 0 0 2) = 0 then
    1
  else
    0
theorem z_tp_atEnd  {σ : en_M} : k_tp_atEnd  σ = 0 ∨ k_tp_atEnd  σ = 1 := by
  unfold k_tp_atEnd
  (repeat' split) <;> first | exact Or.inl rfl | exact Or.inr rfl
set_option maxRecDepth 100000 in
set_option maxHeartbeats 4000000 in
theorem s_tp_atEnd (G : en_G) (hz : G.2.2.2.2.2.2.2.2 = none) (d : Nat) {cs : List en_A} {σ : en_M}  {x0 : Int32}  (h : k_tp_atEnd  σ = x0) : en_Mt G (d + 0) 0 0 M_tp_atEnd [.inr (.inl (some (20, 0, 0)))] cs en_rf σ (.inr (some (.inl x0))) cs en_rf σ := by
  refine en_meth (ls := [some (.inr (.inl (some (20, 0, 0))))]) md_tp_atEnd rfl rfl rfl ?_
  unfold k_tp_atEnd at h
  refine en_s_aload_n rfl rfl ?_
  refine en_s_getI rfl rfl rfl ?_
  refine en_s_if_ne rfl (fun c1 => ?_) (fun c1 => ?_)
  · rw [if_neg c1] at h
    refine en_s_iconst rfl ?_
    subst h
    exact en_s_zret rfl rfl (Or.inl rfl)
  · rw [if_pos c1] at h
    refine en_s_iconst rfl ?_
    refine en_s_goto rfl ?_
    subst h
    exact en_s_zret rfl rfl (Or.inr rfl)
def k_tp_hasRoom (v1 : Int32) (σ : en_M) : Int32 :=
  if 400 < ((σ 20 0 0 1) + v1) then
    0
  else
    1
theorem z_tp_hasRoom {v1 : Int32} {σ : en_M} : k_tp_hasRoom v1 σ = 0 ∨ k_tp_hasRoom v1 σ = 1 := by
  unfold k_tp_hasRoom
  (repeat' split) <;> first | exact Or.inl rfl | exact Or.inr rfl
set_option maxRecDepth 100000 in
set_option maxHeartbeats 4000000 in
theorem s_tp_hasRoom (G : en_G) (hz : G.2.2.2.2.2.2.2.2 = none) (d : Nat) {cs : List en_A} {σ : en_M} {v1 : Int32} {x0 : Int32}  (h : k_tp_hasRoom v1 σ = x0) : en_Mt G (d + 0) 0 0 M_tp_hasRoom [.inr (.inl (some (20, 0, 0))), .inl v1] cs en_rf σ (.inr (some (.inl x0))) cs en_rf σ := by
  refine en_meth (ls := [some (.inr (.inl (some (20, 0, 0)))), some (.inl v1)]) md_tp_hasRoom rfl rfl rfl ?_
  unfold k_tp_hasRoom at h
  refine en_s_aload_n rfl rfl ?_
  refine en_s_getI rfl rfl rfl ?_
  refine en_s_iload_n rfl rfl ?_
  refine en_s_iadd rfl ?_
  refine en_s_sipush rfl ?_
  refine en_s_icmp_gt rfl (fun c1 => ?_) (fun c1 => ?_)
  · rw [if_pos c1] at h
    refine en_s_iconst rfl ?_
    subst h
    exact en_s_zret rfl rfl (Or.inl rfl)
  · rw [if_neg c1] at h
    refine en_s_iconst rfl ?_
    refine en_s_goto rfl ?_
    subst h
    exact en_s_zret rfl rfl (Or.inr rfl)
def k_tp_isRight  (σ : en_M) : Int32 :=
  if (σ 20 0 0 5) = (-1) then
    1
  else
    0
theorem z_tp_isRight  {σ : en_M} : k_tp_isRight  σ = 0 ∨ k_tp_isRight  σ = 1 := by
  unfold k_tp_isRight
  (repeat' split) <;> first | exact Or.inl rfl | exact Or.inr rfl
set_option maxRecDepth 100000 in
set_option maxHeartbeats 4000000 in
theorem s_tp_isRight (G : en_G) (hz : G.2.2.2.2.2.2.2.2 = none) (d : Nat) {cs : List en_A} {σ : en_M}  {x0 : Int32}  (h : k_tp_isRight  σ = x0) : en_Mt G (d + 0) 0 0 M_tp_isRight [.inr (.inl (some (20, 0, 0)))] cs en_rf σ (.inr (some (.inl x0))) cs en_rf σ := by
  refine en_meth (ls := [some (.inr (.inl (some (20, 0, 0))))]) md_tp_isRight rfl rfl rfl ?_
  unfold k_tp_isRight at h
  refine en_s_aload_n rfl rfl ?_
  refine en_s_getI rfl rfl rfl ?_
  refine en_s_iconst rfl ?_
  refine en_s_icmp_ne rfl (fun c1 => ?_) (fun c1 => ?_)
  · rw [if_neg c1] at h
    refine en_s_iconst rfl ?_
    subst h
    exact en_s_zret rfl rfl (Or.inl rfl)
  · rw [if_pos c1] at h
    refine en_s_iconst rfl ?_
    refine en_s_goto rfl ?_
    subst h
    exact en_s_zret rfl rfl (Or.inr rfl)
def k_tp_markAt (v1 : Int32) (σ : en_M) : Option (en_M) :=
  if (σ 20 0 0 5) = (-1) then
    en_let (en_wr σ 20 0 0 5 v1) fun s2 =>
    some s2
  else
    some σ
set_option maxRecDepth 100000 in
set_option maxHeartbeats 4000000 in
theorem s_tp_markAt (G : en_G) (hz : G.2.2.2.2.2.2.2.2 = none) (d : Nat) {cs : List en_A} {σ : en_M} {v1 : Int32} {s0 : en_M}  (h : k_tp_markAt v1 σ = some s0) : en_Mt G (d + 0) 0 0 M_tp_markAt [.inr (.inl (some (20, 0, 0))), .inl v1] cs en_rf σ (.inr (none)) cs en_rf s0 := by
  refine en_meth (ls := [some (.inr (.inl (some (20, 0, 0)))), some (.inl v1)]) md_tp_markAt rfl rfl rfl ?_
  unfold k_tp_markAt at h
  refine en_s_aload_n rfl rfl ?_
  refine en_s_getI rfl rfl rfl ?_
  refine en_s_iconst rfl ?_
  refine en_s_icmp_ne rfl (fun c1 => ?_) (fun c1 => ?_)
  · rw [if_neg c1] at h
    cases h
    exact en_s_vret rfl rfl
  · rw [if_pos c1] at h
    refine en_s_aload_n rfl rfl ?_
    refine en_s_iload_n rfl rfl ?_
    obtain ⟨s2, e3, h⟩ := en_let_h h
    refine en_p_putI e3 rfl rfl rfl rfl rfl ?_
    cases h
    exact en_s_vret rfl rfl
def k_tp_markHere  (σ : en_M) : Option (en_M) :=
  en_b1 (k_tp_markAt (σ 20 0 0 3) σ) fun s1 =>
  some s1
set_option maxRecDepth 100000 in
set_option maxHeartbeats 4000000 in
theorem s_tp_markHere (G : en_G) (hz : G.2.2.2.2.2.2.2.2 = none) (d : Nat) {cs : List en_A} {σ : en_M}  {s0 : en_M}  (h : k_tp_markHere  σ = some s0) : en_Mt G (d + 1) 0 0 M_tp_markHere [.inr (.inl (some (20, 0, 0)))] cs en_rf σ (.inr (none)) cs en_rf s0 := by
  refine en_meth (ls := [some (.inr (.inl (some (20, 0, 0))))]) md_tp_markHere rfl rfl rfl ?_
  unfold k_tp_markHere at h
  refine en_s_aload_n rfl rfl ?_
  refine en_s_aload_n rfl rfl ?_
  refine en_s_getI rfl rfl rfl ?_
  obtain ⟨s1, h2, h⟩ := en_b1_h h
  refine en_callV (as := [.inl (σ 20 0 0 3)]) (rest := []) (bc' := 0) (bs' := 0) hz rfl (s_tp_markAt G hz (d + 0) h2) lk_8_45 mv_tp_markAt rfl rfl rfl rfl rfl (fun _ h => h) (Nat.le_refl _) (Nat.le_refl _) ?_
  cases h
  exact en_s_vret rfl rfl
def k_tp_numberHere_30 (f0 : Nat) (v1 : Int32) (v2 : Int32) (σ : en_M) : Option (Int32) := match f0 with
  | 0 => none
  | f9 + 1 =>
    if (σ 20 0 0 4) ≤ v2 then
      some (v1)
    else
      en_b1 (k_tp_byteAt v2 σ) fun t4 =>
      k_tp_numberHere_30 f9 (((10 * v1) + t4) - 48) (v2 + 1) σ
def k_tp_numberHere  (σ : en_M) : Option (Int32) :=
  if (σ 20 0 0 2) = 2 then
    if ((σ 20 0 0 4) - (σ 20 0 0 3)) ≤ 4 then
      en_b1 (k_tp_numberHere_30 en_fu 0 (σ 20 0 0 3) σ) fun x6 =>
      some x6
    else
      some (-1)
  else
    some (-1)
set_option maxRecDepth 100000 in
set_option maxHeartbeats 4000000 in
theorem s_tp_numberHere_30 (G : en_G) (hz : G.2.2.2.2.2.2.2.2 = none) {d : Nat} {r : en_P} {cs cs' : List en_A} {ρ' : en_R} {σ' : en_M} : ∀ (f0 : Nat) {v1 : Int32} {v2 : Int32}  {σ : en_M} {x1 : Int32} , k_tp_numberHere_30 f0 v1 v2 σ = some (x1) →
    (∀ (f2 : Option en_V), en_W G (d + 1) 0 0 M_tp_numberHere r cs' ρ' σ' 0 0 58 [some (.inr (.inl (some (20, 0, 0)))), some (.inl x1), f2] [] cs en_rf σ) → en_W G (d + 1) 0 0 M_tp_numberHere r cs' ρ' σ' 0 0 30 [some (.inr (.inl (some (20, 0, 0)))), some (.inl v1), some (.inl v2)] [] cs en_rf σ := by
  intro f0
  induction f0 with
  | zero =>
    intros
    rename_i h _
    cases h
  | succ f9 ih =>
    intro v1 v2 σ x1 h hk
    rw [k_tp_numberHere_30] at h
    refine en_s_iload_n rfl rfl ?_
    refine en_s_aload_n rfl rfl ?_
    refine en_s_getI rfl rfl rfl ?_
    refine en_s_icmp_ge rfl (fun c3 => ?_) (fun c3 => ?_)
    · rw [if_pos c3] at h
      cases h
      exact hk (some (.inl v2))
    · rw [if_neg c3] at h
      refine en_s_bipush rfl ?_
      refine en_s_iload_n rfl rfl ?_
      refine en_s_imul rfl ?_
      refine en_s_aload_n rfl rfl ?_
      refine en_s_iload_n rfl rfl ?_
      obtain ⟨t4, h5, h⟩ := en_b1_h h
      refine en_callV (as := [.inl v2]) (rest := [.inl (10 * v1)]) (bc' := 0) (bs' := 0) hz rfl (s_tp_byteAt G hz (d + 0) h5) lk_8_34 mv_tp_byteAt rfl rfl rfl rfl rfl (fun _ h => h) (Nat.le_refl _) (Nat.le_refl _) ?_
      refine en_s_iadd rfl ?_
      refine en_s_bipush rfl ?_
      refine en_s_isub rfl ?_
      refine en_s_istore_n (ls' := [some (.inr (.inl (some (20, 0, 0)))), some (.inl (((10 * v1) + t4) - 48)), some (.inl v2)]) rfl rfl rfl ?_
      refine en_s_iinc (ls' := [some (.inr (.inl (some (20, 0, 0)))), some (.inl (((10 * v1) + t4) - 48)), some (.inl (v2 + 1))]) rfl rfl rfl ?_
      refine en_s_goto rfl ?_
      exact ih  h hk
set_option maxRecDepth 100000 in
set_option maxHeartbeats 4000000 in
theorem s_tp_numberHere (G : en_G) (hz : G.2.2.2.2.2.2.2.2 = none) (d : Nat) {cs : List en_A} {σ : en_M}  {x0 : Int32}  (h : k_tp_numberHere  σ = some x0) : en_Mt G (d + 1) 0 0 M_tp_numberHere [.inr (.inl (some (20, 0, 0)))] cs en_rf σ (.inr (some (.inl x0))) cs en_rf σ := by
  refine en_meth (ls := [some (.inr (.inl (some (20, 0, 0)))), none, none]) md_tp_numberHere rfl rfl rfl ?_
  unfold k_tp_numberHere at h
  refine en_s_aload_n rfl rfl ?_
  refine en_s_getI rfl rfl rfl ?_
  refine en_s_iconst rfl ?_
  refine en_s_icmp_ne rfl (fun c1 => ?_) (fun c1 => ?_)
  · rw [if_neg c1] at h
    refine en_s_iconst rfl ?_
    cases h
    exact en_s_iret rfl rfl
  · rw [if_pos c1] at h
    refine en_s_aload_n rfl rfl ?_
    refine en_s_getI rfl rfl rfl ?_
    refine en_s_aload_n rfl rfl ?_
    refine en_s_getI rfl rfl rfl ?_
    refine en_s_isub rfl ?_
    refine en_s_iconst rfl ?_
    refine en_s_icmp_le rfl (fun c2 => ?_) (fun c2 => ?_)
    · rw [if_pos c2] at h
      refine en_s_iconst rfl ?_
      refine en_s_istore_n (ls' := [some (.inr (.inl (some (20, 0, 0)))), some (.inl 0), none]) rfl rfl rfl ?_
      refine en_s_aload_n rfl rfl ?_
      refine en_s_getI rfl rfl rfl ?_
      refine en_s_istore_n (ls' := [some (.inr (.inl (some (20, 0, 0)))), some (.inl 0), some (.inl (σ 20 0 0 3))]) rfl rfl rfl ?_
      obtain ⟨x6, h8, h⟩ := en_b1_h h
      refine s_tp_numberHere_30 G hz en_fu  h8 (fun f7 => ?_)
      refine en_s_iload_n rfl rfl ?_
      cases h
      exact en_s_iret rfl rfl
    · rw [if_neg c2] at h
      refine en_s_iconst rfl ?_
      cases h
      exact en_s_iret rfl rfl
def k_tp_open  (σ : en_M) : Option (en_M) :=
  en_let (en_wr σ 20 0 0 5 (-1)) fun s1 =>
  en_let (en_wr s1 20 0 0 4 0) fun s3 =>
  en_b1 (k_tp_advance s3) fun s5 =>
  some s5
set_option maxRecDepth 100000 in
set_option maxHeartbeats 4000000 in
theorem s_tp_open (G : en_G) (hz : G.2.2.2.2.2.2.2.2 = none) (d : Nat) {cs : List en_A} {σ : en_M}  {s0 : en_M}  (h : k_tp_open  σ = some s0) : en_Mt G (d + 2) 0 0 M_tp_open [.inr (.inl (some (20, 0, 0)))] cs en_rf σ (.inr (none)) cs en_rf s0 := by
  refine en_meth (ls := [some (.inr (.inl (some (20, 0, 0))))]) md_tp_open rfl rfl rfl ?_
  unfold k_tp_open at h
  refine en_s_aload_n rfl rfl ?_
  refine en_s_iconst rfl ?_
  obtain ⟨s1, e2, h⟩ := en_let_h h
  refine en_p_putI e2 rfl rfl rfl rfl rfl ?_
  refine en_s_aload_n rfl rfl ?_
  refine en_s_iconst rfl ?_
  obtain ⟨s3, e4, h⟩ := en_let_h h
  refine en_p_putI e4 rfl rfl rfl rfl rfl ?_
  refine en_s_aload_n rfl rfl ?_
  obtain ⟨s5, h6, h⟩ := en_b1_h h
  refine en_callV (as := []) (rest := []) (bc' := 0) (bs' := 0) hz rfl (s_tp_advance G hz (d + 0) h6) lk_8_31 mv_tp_advance rfl rfl rfl rfl rfl (fun _ h => h) (Nat.le_refl _) (Nat.le_refl _) ?_
  cases h
  exact en_s_vret rfl rfl
def k_tp_takeAct  (σ : en_M) : Option (Int32 × en_M) :=
  en_b1 (k_tp_actNamed σ) fun t1 =>
  if t1 = (-1) then
    en_b1 (k_tp_markHere σ) fun s6 =>
    some (t1, s6)
  else
    en_b1 (k_tp_advance σ) fun s4 =>
    some (t1, s4)
set_option maxRecDepth 100000 in
set_option maxHeartbeats 4000000 in
theorem s_tp_takeAct (G : en_G) (hz : G.2.2.2.2.2.2.2.2 = none) (d : Nat) {cs : List en_A} {σ : en_M}  {x0 : Int32} {s0 : en_M}  (h : k_tp_takeAct  σ = some (x0, s0)) : en_Mt G (d + 6) 0 0 M_tp_takeAct [.inr (.inl (some (20, 0, 0)))] cs en_rf σ (.inr (some (.inl x0))) cs en_rf s0 := by
  refine en_meth (ls := [some (.inr (.inl (some (20, 0, 0)))), none]) md_tp_takeAct rfl rfl rfl ?_
  unfold k_tp_takeAct at h
  refine en_s_aload_n rfl rfl ?_
  obtain ⟨t1, h2, h⟩ := en_b1_h h
  refine en_callV (as := []) (rest := []) (bc' := 0) (bs' := 0) hz rfl (s_tp_actNamed G hz (d + 0) h2) lk_8_65 mv_tp_actNamed rfl rfl rfl rfl rfl (fun _ h => h) (Nat.le_refl _) (Nat.le_refl _) ?_
  refine en_s_istore_n (ls' := [some (.inr (.inl (some (20, 0, 0)))), some (.inl t1)]) rfl rfl rfl ?_
  refine en_s_iload_n rfl rfl ?_
  refine en_s_iconst rfl ?_
  refine en_s_icmp_ne rfl (fun c3 => ?_) (fun c3 => ?_)
  · rw [if_neg c3] at h
    refine en_s_aload_n rfl rfl ?_
    obtain ⟨s4, h5, h⟩ := en_b1_h h
    refine en_callV (as := []) (rest := []) (bc' := 0) (bs' := 0) hz rfl (s_tp_advance G hz (d + 4) h5) lk_8_31 mv_tp_advance rfl rfl rfl rfl rfl (fun _ h => h) (Nat.le_refl _) (Nat.le_refl _) ?_
    refine en_s_iload_n rfl rfl ?_
    cases h
    exact en_s_iret rfl rfl
  · rw [if_pos c3] at h
    refine en_s_aload_n rfl rfl ?_
    obtain ⟨s6, h7, h⟩ := en_b1_h h
    refine en_callV (as := []) (rest := []) (bc' := 0) (bs' := 0) hz rfl (s_tp_markHere G hz (d + 4) h7) lk_8_62 mv_tp_markHere rfl rfl rfl rfl rfl (fun _ h => h) (Nat.le_refl _) (Nat.le_refl _) ?_
    refine en_s_goto rfl ?_
    refine en_s_iload_n rfl rfl ?_
    cases h
    exact en_s_iret rfl rfl
def k_tp_takeNumber (v1 : Int32) (v2 : Int32) (σ : en_M) : Option (Int32 × en_M) :=
  if (k_tp_isRight σ) = 0 then
    some ((-1), σ)
  else
    en_b1 (k_tp_numberHere σ) fun t2 =>
    if (k_cc_within t2 v1 v2) = 0 then
      en_b1 (k_tp_markHere σ) fun s7 =>
      some ((-1), s7)
    else
      en_b1 (k_tp_advance σ) fun s5 =>
      some (t2, s5)
set_option maxRecDepth 100000 in
set_option maxHeartbeats 4000000 in
theorem s_tp_takeNumber (G : en_G) (hz : G.2.2.2.2.2.2.2.2 = none) (d : Nat) {cs : List en_A} {σ : en_M} {v1 : Int32} {v2 : Int32} {x0 : Int32} {s0 : en_M}  (h : k_tp_takeNumber v1 v2 σ = some (x0, s0)) : en_Mt G (d + 2) 0 0 M_tp_takeNumber [.inr (.inl (some (20, 0, 0))), .inl v1, .inl v2] cs en_rf σ (.inr (some (.inl x0))) cs en_rf s0 := by
  refine en_meth (ls := [some (.inr (.inl (some (20, 0, 0)))), some (.inl v1), some (.inl v2), none]) md_tp_takeNumber rfl rfl rfl ?_
  unfold k_tp_takeNumber at h
  refine en_s_aload_n rfl rfl ?_
  refine en_callV (as := []) (rest := []) (bc' := 0) (bs' := 0) hz rfl (s_tp_isRight G hz (d + 1) rfl) lk_8_58 mv_tp_isRight rfl rfl rfl rfl rfl (fun _ h => h) (Nat.le_refl _) (Nat.le_refl _) ?_
  refine en_s_if_ne rfl (fun c1 => ?_) (fun c1 => ?_)
  · rw [if_neg c1] at h
    refine en_s_aload_n rfl rfl ?_
    obtain ⟨t2, h3, h⟩ := en_b1_h h
    refine en_callV (as := []) (rest := []) (bc' := 0) (bs' := 0) hz rfl (s_tp_numberHere G hz (d + 0) h3) lk_8_90 mv_tp_numberHere rfl rfl rfl rfl rfl (fun _ h => h) (Nat.le_refl _) (Nat.le_refl _) ?_
    refine en_s_istore_n (ls' := [some (.inr (.inl (some (20, 0, 0)))), some (.inl v1), some (.inl v2), some (.inl t2)]) rfl rfl rfl ?_
    refine en_s_iload_n rfl rfl ?_
    refine en_s_iload_n rfl rfl ?_
    refine en_s_iload_n rfl rfl ?_
    refine en_callN (as := [.inl t2, .inl v1, .inl v2]) (rest := []) (bc' := 0) (bs' := 0) hz rfl (s_cc_within G hz (d + 1) rfl) lk_8_93 mv_cc_within rfl rfl rfl (fun _ h => h) (Nat.le_refl _) (Nat.le_refl _) ?_
    refine en_s_if_ne rfl (fun c4 => ?_) (fun c4 => ?_)
    · rw [if_neg c4] at h
      refine en_s_aload_n rfl rfl ?_
      obtain ⟨s5, h6, h⟩ := en_b1_h h
      refine en_callV (as := []) (rest := []) (bc' := 0) (bs' := 0) hz rfl (s_tp_advance G hz (d + 0) h6) lk_8_31 mv_tp_advance rfl rfl rfl rfl rfl (fun _ h => h) (Nat.le_refl _) (Nat.le_refl _) ?_
      refine en_s_iload_n rfl rfl ?_
      cases h
      exact en_s_iret rfl rfl
    · rw [if_pos c4] at h
      refine en_s_aload_n rfl rfl ?_
      obtain ⟨s7, h8, h⟩ := en_b1_h h
      refine en_callV (as := []) (rest := []) (bc' := 0) (bs' := 0) hz rfl (s_tp_markHere G hz (d + 0) h8) lk_8_62 mv_tp_markHere rfl rfl rfl rfl rfl (fun _ h => h) (Nat.le_refl _) (Nat.le_refl _) ?_
      refine en_s_iconst rfl ?_
      cases h
      exact en_s_iret rfl rfl
  · rw [if_pos c1] at h
    refine en_s_iconst rfl ?_
    cases h
    exact en_s_iret rfl rfl
def k_tp_takeBehind (v1 : Nat) (v2 : Int32) (σ : en_M) : Option (Int32 × en_M) :=
  if (k_tp_isRight σ) = 0 then
    some (0, σ)
  else
    en_b1 (k_tp_isWord v1 σ) fun t2 =>
    if t2 = 0 then
      some (0, σ)
    else
      en_b1 (k_tp_advance σ) fun s5 =>
      en_b2 (k_tp_takeNumber 0 v2 s5) fun t7 s8 =>
      some (t7, s8)
set_option maxRecDepth 100000 in
set_option maxHeartbeats 4000000 in
theorem s_tp_takeBehind (G : en_G) (hz : G.2.2.2.2.2.2.2.2 = none) (d : Nat) {cs : List en_A} {σ : en_M} {v1 : Nat} {v2 : Int32} {x0 : Int32} {s0 : en_M} (hxv1 : 1 ≤ v1 ∧ v1 ≤ 11) (h : k_tp_takeBehind v1 v2 σ = some (x0, s0)) : en_Mt G (d + 5) 0 0 M_tp_takeBehind [.inr (.inl (some (20, 0, 0))), .inr (.inr (.inr v1)), .inl v2] cs en_rf σ (.inr (some (.inl x0))) cs en_rf s0 := by
  refine en_meth (ls := [some (.inr (.inl (some (20, 0, 0)))), some (.inr (.inr (.inr v1))), some (.inl v2)]) md_tp_takeBehind rfl rfl rfl ?_
  unfold k_tp_takeBehind at h
  refine en_s_aload_n rfl rfl ?_
  refine en_callV (as := []) (rest := []) (bc' := 0) (bs' := 0) hz rfl (s_tp_isRight G hz (d + 4) rfl) lk_8_58 mv_tp_isRight rfl rfl rfl rfl rfl (fun _ h => h) (Nat.le_refl _) (Nat.le_refl _) ?_
  refine en_s_if_eq rfl (fun c1 => ?_) (fun c1 => ?_)
  · rw [if_pos c1] at h
    refine en_s_iconst rfl ?_
    cases h
    exact en_s_iret rfl rfl
  · rw [if_neg c1] at h
    refine en_s_aload_n rfl rfl ?_
    refine en_s_aload_nX rfl rfl ?_
    obtain ⟨t2, h3, h⟩ := en_b1_h h
    refine en_callV (as := [.inr (.inr (.inr v1))]) (rest := []) (bc' := 0) (bs' := 0) hz rfl (s_tp_isWord G hz (d + 0) hxv1 h3) lk_8_70 mv_tp_isWord rfl rfl rfl rfl rfl (fun _ h => h) (Nat.le_refl _) (Nat.le_refl _) ?_
    refine en_s_if_ne rfl (fun c4 => ?_) (fun c4 => ?_)
    · rw [if_neg c4] at h
      refine en_s_aload_n rfl rfl ?_
      obtain ⟨s5, h6, h⟩ := en_b1_h h
      refine en_callV (as := []) (rest := []) (bc' := 0) (bs' := 0) hz rfl (s_tp_advance G hz (d + 3) h6) lk_8_31 mv_tp_advance rfl rfl rfl rfl rfl (fun _ h => h) (Nat.le_refl _) (Nat.le_refl _) ?_
      refine en_s_aload_n rfl rfl ?_
      refine en_s_iconst rfl ?_
      refine en_s_iload_n rfl rfl ?_
      obtain ⟨t7, s8, h9, h⟩ := en_b2_h h
      refine en_callV (as := [.inl 0, .inl v2]) (rest := []) (bc' := 0) (bs' := 0) hz rfl (s_tp_takeNumber G hz (d + 2) h9) lk_8_97 mv_tp_takeNumber rfl rfl rfl rfl rfl (fun _ h => h) (Nat.le_refl _) (Nat.le_refl _) ?_
      cases h
      exact en_s_iret rfl rfl
    · rw [if_pos c4] at h
      refine en_s_iconst rfl ?_
      cases h
      exact en_s_iret rfl rfl
def k_tp_takeSemicolon  (σ : en_M) : Option (en_M) :=
  if (k_tp_isRight σ) = 0 then
    some σ
  else
    if (σ 20 0 0 2) = 3 then
      en_b1 (k_tp_byteAt (σ 20 0 0 3) σ) fun t5 =>
      if t5 = 59 then
        en_b1 (k_tp_advance σ) fun s10 =>
        some s10
      else
        en_b1 (k_tp_markHere σ) fun s8 =>
        some s8
    else
      en_b1 (k_tp_markHere σ) fun s3 =>
      some s3
set_option maxRecDepth 100000 in
set_option maxHeartbeats 4000000 in
theorem s_tp_takeSemicolon (G : en_G) (hz : G.2.2.2.2.2.2.2.2 = none) (d : Nat) {cs : List en_A} {σ : en_M}  {s0 : en_M}  (h : k_tp_takeSemicolon  σ = some s0) : en_Mt G (d + 2) 0 0 M_tp_takeSemicolon [.inr (.inl (some (20, 0, 0)))] cs en_rf σ (.inr (none)) cs en_rf s0 := by
  refine en_meth (ls := [some (.inr (.inl (some (20, 0, 0))))]) md_tp_takeSemicolon rfl rfl rfl ?_
  unfold k_tp_takeSemicolon at h
  refine en_s_aload_n rfl rfl ?_
  refine en_callV (as := []) (rest := []) (bc' := 0) (bs' := 0) hz rfl (s_tp_isRight G hz (d + 1) rfl) lk_8_58 mv_tp_isRight rfl rfl rfl rfl rfl (fun _ h => h) (Nat.le_refl _) (Nat.le_refl _) ?_
  refine en_s_if_ne rfl (fun c1 => ?_) (fun c1 => ?_)
  · rw [if_neg c1] at h
    refine en_s_aload_n rfl rfl ?_
    refine en_s_getI rfl rfl rfl ?_
    refine en_s_iconst rfl ?_
    refine en_s_icmp_ne rfl (fun c2 => ?_) (fun c2 => ?_)
    · rw [if_neg c2] at h
      refine en_s_aload_n rfl rfl ?_
      obtain ⟨s3, h4, h⟩ := en_b1_h h
      refine en_callV (as := []) (rest := []) (bc' := 0) (bs' := 0) hz rfl (s_tp_markHere G hz (d + 0) h4) lk_8_62 mv_tp_markHere rfl rfl rfl rfl rfl (fun _ h => h) (Nat.le_refl _) (Nat.le_refl _) ?_
      cases h
      exact en_s_vret rfl rfl
    · rw [if_pos c2] at h
      refine en_s_aload_n rfl rfl ?_
      refine en_s_aload_n rfl rfl ?_
      refine en_s_getI rfl rfl rfl ?_
      obtain ⟨t5, h6, h⟩ := en_b1_h h
      refine en_callV (as := [.inl (σ 20 0 0 3)]) (rest := []) (bc' := 0) (bs' := 0) hz rfl (s_tp_byteAt G hz (d + 1) h6) lk_8_34 mv_tp_byteAt rfl rfl rfl rfl rfl (fun _ h => h) (Nat.le_refl _) (Nat.le_refl _) ?_
      refine en_s_bipush rfl ?_
      refine en_s_icmp_ne rfl (fun c7 => ?_) (fun c7 => ?_)
      · rw [if_neg c7] at h
        refine en_s_aload_n rfl rfl ?_
        obtain ⟨s8, h9, h⟩ := en_b1_h h
        refine en_callV (as := []) (rest := []) (bc' := 0) (bs' := 0) hz rfl (s_tp_markHere G hz (d + 0) h9) lk_8_62 mv_tp_markHere rfl rfl rfl rfl rfl (fun _ h => h) (Nat.le_refl _) (Nat.le_refl _) ?_
        cases h
        exact en_s_vret rfl rfl
      · rw [if_pos c7] at h
        refine en_s_aload_n rfl rfl ?_
        obtain ⟨s10, h11, h⟩ := en_b1_h h
        refine en_callV (as := []) (rest := []) (bc' := 0) (bs' := 0) hz rfl (s_tp_advance G hz (d + 0) h11) lk_8_31 mv_tp_advance rfl rfl rfl rfl rfl (fun _ h => h) (Nat.le_refl _) (Nat.le_refl _) ?_
        refine en_s_goto rfl ?_
        cases h
        exact en_s_vret rfl rfl
  · rw [if_pos c1] at h
    cases h
    exact en_s_vret rfl rfl

/-! By program: the law's helpers. -/
def lw_out (f : Int32 → Int32) (a : Nat ⊕ Int32) (σ : en_M) : en_M := match a with
  | .inl _ => σ
  | .inr y => en_wr σ 36 0 0 0 (f y)
theorem lw_wa {σ : en_M} {y : Int32} : en_wa 1 σ 36 0 0 0 y = some (en_wr σ 36 0 0 0 y) := by
  have h : en_inb 0 1 = true := by decide
  simp only [en_wa, h, if_true]
  rfl
theorem mdh_lw_acts : en_mdH M_lw_acts := ⟨by decide +kernel, rfl, rfl, en_ok_of ck_lw_acts⟩
theorem mh_lw_acts : en_mtH M_lw_acts 2 := ⟨rfl, mw_lw_acts.1, mw_lw_acts.2.1, mw_lw_acts.2.2, ⟨by decide +kernel, by decide +kernel⟩, by decide +kernel, rfl⟩
theorem h_lw_acts (G : en_G) (hz : G.2.2.2.2.2.2.2.2 = none) (d : Nat) {cs : List en_A} {σ σ1 : en_M} {a : Nat ⊕ Int32} {x th : Int32} (h : k_cc_acts  σ = some (a, σ1)) (he : rl_A [(0, 1)] a x th) : en_Mt G (d + 10) 1 6 M_lw_acts [.inr (.inl (some (14, 0, 0))), .inr (.inl (some (36, 0, 0)))] cs en_rf σ (.inr (some (.inl th))) cs en_rf (lw_out lw_id a σ1) := by
  have hs := s_cc_acts G hz d (cs := cs) h
  cases a with
  | inl n =>
    simp only [rl_A, List.mem_cons, Prod.mk.injEq, List.not_mem_nil, or_false] at he
    rcases he with ⟨rfl, rfl⟩
    · refine en_methH (ls := [some (.inr (.inl (some (14, 0, 0)))), some (.inr (.inl (some (36, 0, 0)))), none]) mdh_lw_acts rfl rfl rfl ?_
      refine en_s_aload_n rfl rfl ?_
      refine en_s_iconst rfl ?_
      refine en_s_aload_n rfl rfl ?_
      exact en_catch (as := []) (rest := [.inl 0, .inr (.inl (some (36, 0, 0)))]) [] [] hz rfl hs lk_11_7 mv_cc_acts rfl rfl rfl rfl rfl (Nat.le_refl _) (Nat.le_refl _) rfl rfl (by intro z hz9; cases hz9) (by decide) ⟨by decide, by decide⟩ (Or.inr ⟨_, rfl⟩) rfl rfl rfl rfl rfl
  | inr y =>
    obtain ⟨rfl, -⟩ := he
    refine en_methH (ls := [some (.inr (.inl (some (14, 0, 0)))), some (.inr (.inl (some (36, 0, 0)))), none]) mdh_lw_acts rfl rfl rfl ?_
    refine en_s_aload_n rfl rfl ?_
    refine en_s_iconst rfl ?_
    refine en_s_aload_n rfl rfl ?_
    refine en_callV (as := []) (rest := [.inl 0, .inr (.inl (some (36, 0, 0)))]) (vv := some (.inl y)) (bc' := 0) (bs' := 0) hz rfl hs lk_11_7 mv_cc_acts rfl rfl rfl rfl rfl (fun _ h => h) (Nat.le_refl _) (Nat.le_refl _) ?_
    refine en_s_i2l rfl ?_
    refine en_s_last (x := 0) (w := lw_id y) rfl rfl lw_wa ?_
    refine en_s_goto rfl ?_
    refine en_s_iconst rfl ?_
    exact en_s_iret rfl rfl
theorem mdh_lw_blind : en_mdH M_lw_blind := ⟨by decide +kernel, rfl, rfl, en_ok_of ck_lw_blind⟩
theorem mh_lw_blind : en_mtH M_lw_blind 4 := ⟨rfl, mw_lw_blind.1, mw_lw_blind.2.1, mw_lw_blind.2.2, ⟨by decide +kernel, by decide +kernel⟩, by decide +kernel, rfl⟩
theorem h_lw_blind (G : en_G) (hz : G.2.2.2.2.2.2.2.2 = none) (d : Nat) {cs : List en_A} {σ σ1 : en_M} {v1 v2 : Int32} {a : Nat ⊕ Int32} {x th : Int32} (h : k_cc_blind v1 v2 σ = some (a, σ1)) (he : rl_A [(2, 1)] a x th) : en_Mt G (d + 7) 1 6 M_lw_blind [.inr (.inl (some (14, 0, 0))), .inl v1, .inl v2, .inr (.inl (some (36, 0, 0)))] cs en_rf σ (.inr (some (.inl th))) cs en_rf (lw_out lw_id a σ1) := by
  have hs := s_cc_blind G hz d (cs := cs) h
  cases a with
  | inl n =>
    simp only [rl_A, List.mem_cons, Prod.mk.injEq, List.not_mem_nil, or_false] at he
    rcases he with ⟨rfl, rfl⟩
    · refine en_methH (ls := [some (.inr (.inl (some (14, 0, 0)))), some (.inl v1), some (.inl v2), some (.inr (.inl (some (36, 0, 0)))), none]) mdh_lw_blind rfl rfl rfl ?_
      refine en_s_aload_n rfl rfl ?_
      refine en_s_iconst rfl ?_
      refine en_s_aload_n rfl rfl ?_
      refine en_s_iload_n rfl rfl ?_
      refine en_s_iload_n rfl rfl ?_
      exact en_catch (as := [.inl v1, .inl v2]) (rest := [.inl 0, .inr (.inl (some (36, 0, 0)))]) [] [] hz rfl hs lk_11_81 mv_cc_blind rfl rfl rfl rfl rfl (Nat.le_refl _) (Nat.le_refl _) rfl rfl (by intro z hz9; cases hz9) (by decide) ⟨by decide, by decide⟩ (Or.inl ⟨_, rfl⟩) rfl rfl rfl rfl rfl
  | inr y =>
    obtain ⟨rfl, -⟩ := he
    refine en_methH (ls := [some (.inr (.inl (some (14, 0, 0)))), some (.inl v1), some (.inl v2), some (.inr (.inl (some (36, 0, 0)))), none]) mdh_lw_blind rfl rfl rfl ?_
    refine en_s_aload_n rfl rfl ?_
    refine en_s_iconst rfl ?_
    refine en_s_aload_n rfl rfl ?_
    refine en_s_iload_n rfl rfl ?_
    refine en_s_iload_n rfl rfl ?_
    refine en_callV (as := [.inl v1, .inl v2]) (rest := [.inl 0, .inr (.inl (some (36, 0, 0)))]) (vv := some (.inl y)) (bc' := 0) (bs' := 0) hz rfl hs lk_11_81 mv_cc_blind rfl rfl rfl rfl rfl (fun _ h => h) (Nat.le_refl _) (Nat.le_refl _) ?_
    refine en_s_i2l rfl ?_
    refine en_s_last (x := 0) (w := lw_id y) rfl rfl lw_wa ?_
    refine en_s_goto rfl ?_
    refine en_s_iconst rfl ?_
    exact en_s_iret rfl rfl
theorem mdh_lw_burst : en_mdH M_lw_burst := ⟨by decide +kernel, rfl, rfl, en_ok_of ck_lw_burst⟩
theorem mh_lw_burst : en_mtH M_lw_burst 4 := ⟨rfl, mw_lw_burst.1, mw_lw_burst.2.1, mw_lw_burst.2.2, ⟨by decide +kernel, by decide +kernel⟩, by decide +kernel, rfl⟩
theorem h_lw_burst (G : en_G) (hz : G.2.2.2.2.2.2.2.2 = none) (d : Nat) {cs : List en_A} {σ : en_M} {v1 v2 : Int32} {a : Nat ⊕ Int32} {x th : Int32} (h : k_cc_burst v1 v2 σ = some a) (he : rl_A [(2, 1), (0, 2)] a x th) : en_Mt G (d + 8) 2 12 M_lw_burst [.inr (.inl (some (14, 0, 0))), .inl v1, .inl v2, .inr (.inl (some (36, 0, 0)))] cs en_rf σ (.inr (some (.inl th))) cs en_rf (lw_out lw_id a σ) := by
  have hs := s_cc_burst G hz d (cs := cs) h
  cases a with
  | inl n =>
    simp only [rl_A, List.mem_cons, Prod.mk.injEq, List.not_mem_nil, or_false] at he
    rcases he with ⟨rfl, rfl⟩ | ⟨rfl, rfl⟩
    · refine en_methH (ls := [some (.inr (.inl (some (14, 0, 0)))), some (.inl v1), some (.inl v2), some (.inr (.inl (some (36, 0, 0)))), none]) mdh_lw_burst rfl rfl rfl ?_
      refine en_s_aload_n rfl rfl ?_
      refine en_s_iconst rfl ?_
      refine en_s_aload_n rfl rfl ?_
      refine en_s_iload_n rfl rfl ?_
      refine en_s_iload_n rfl rfl ?_
      exact en_catch (as := [.inl v1, .inl v2]) (rest := [.inl 0, .inr (.inl (some (36, 0, 0)))]) [] [(0, 10, 17, 13)] hz rfl hs lk_11_59 mv_cc_burst rfl rfl rfl rfl rfl (Nat.le_refl _) (Nat.le_refl _) rfl rfl (by intro z hz9; cases hz9) (by decide) ⟨by decide, by decide⟩ (Or.inl ⟨_, rfl⟩) rfl rfl rfl rfl rfl
    · refine en_methH (ls := [some (.inr (.inl (some (14, 0, 0)))), some (.inl v1), some (.inl v2), some (.inr (.inl (some (36, 0, 0)))), none]) mdh_lw_burst rfl rfl rfl ?_
      refine en_s_aload_n rfl rfl ?_
      refine en_s_iconst rfl ?_
      refine en_s_aload_n rfl rfl ?_
      refine en_s_iload_n rfl rfl ?_
      refine en_s_iload_n rfl rfl ?_
      exact en_catch (as := [.inl v1, .inl v2]) (rest := [.inl 0, .inr (.inl (some (36, 0, 0)))]) [(0, 10, 13, 42)] [] hz rfl hs lk_11_59 mv_cc_burst rfl rfl rfl rfl rfl (Nat.le_refl _) (Nat.le_refl _) rfl rfl (by intro z hz9; obtain rfl := List.mem_singleton.mp hz9; exact ⟨2, by decide, by decide⟩) (by decide) ⟨by decide, by decide⟩ (Or.inl ⟨_, rfl⟩) rfl rfl rfl rfl rfl
  | inr y =>
    obtain ⟨rfl, -⟩ := he
    refine en_methH (ls := [some (.inr (.inl (some (14, 0, 0)))), some (.inl v1), some (.inl v2), some (.inr (.inl (some (36, 0, 0)))), none]) mdh_lw_burst rfl rfl rfl ?_
    refine en_s_aload_n rfl rfl ?_
    refine en_s_iconst rfl ?_
    refine en_s_aload_n rfl rfl ?_
    refine en_s_iload_n rfl rfl ?_
    refine en_s_iload_n rfl rfl ?_
    refine en_callV (as := [.inl v1, .inl v2]) (rest := [.inl 0, .inr (.inl (some (36, 0, 0)))]) (vv := some (.inl y)) (bc' := 0) (bs' := 0) hz rfl hs lk_11_59 mv_cc_burst rfl rfl rfl rfl rfl (fun _ h => h) (Nat.le_refl _) (Nat.le_refl _) ?_
    refine en_s_i2l rfl ?_
    refine en_s_last (x := 0) (w := lw_id y) rfl rfl lw_wa ?_
    refine en_s_goto rfl ?_
    refine en_s_iconst rfl ?_
    exact en_s_iret rfl rfl
theorem mdh_lw_calendar : en_mdH M_lw_calendar := ⟨by decide +kernel, rfl, rfl, en_ok_of ck_lw_calendar⟩
theorem mh_lw_calendar : en_mtH M_lw_calendar 4 := ⟨rfl, mw_lw_calendar.1, mw_lw_calendar.2.1, mw_lw_calendar.2.2, ⟨by decide +kernel, by decide +kernel⟩, by decide +kernel, rfl⟩
theorem h_lw_calendar (G : en_G) (hz : G.2.2.2.2.2.2.2.2 = none) (d : Nat) {cs : List en_A} {σ : en_M} {v1 v2 : Int32} {a : Nat ⊕ Int32} {x th : Int32} (h : k_cc_calendar v1 v2 σ = some a) (he : rl_A [(0, 1)] a x th) : en_Mt G (d + 7) 1 6 M_lw_calendar [.inr (.inl (some (14, 0, 0))), .inl v1, .inl v2, .inr (.inl (some (36, 0, 0)))] cs en_rf σ (.inr (some (.inl th))) cs en_rf (lw_out lw_id a σ) := by
  have hs := s_cc_calendar G hz d (cs := cs) h
  cases a with
  | inl n =>
    simp only [rl_A, List.mem_cons, Prod.mk.injEq, List.not_mem_nil, or_false] at he
    rcases he with ⟨rfl, rfl⟩
    · refine en_methH (ls := [some (.inr (.inl (some (14, 0, 0)))), some (.inl v1), some (.inl v2), some (.inr (.inl (some (36, 0, 0)))), none]) mdh_lw_calendar rfl rfl rfl ?_
      refine en_s_aload_n rfl rfl ?_
      refine en_s_iconst rfl ?_
      refine en_s_aload_n rfl rfl ?_
      refine en_s_iload_n rfl rfl ?_
      refine en_s_iload_n rfl rfl ?_
      exact en_catch (as := [.inl v1, .inl v2]) (rest := [.inl 0, .inr (.inl (some (36, 0, 0)))]) [] [] hz rfl hs lk_11_71 mv_cc_calendar rfl rfl rfl rfl rfl (Nat.le_refl _) (Nat.le_refl _) rfl rfl (by intro z hz9; cases hz9) (by decide) ⟨by decide, by decide⟩ (Or.inl ⟨_, rfl⟩) rfl rfl rfl rfl rfl
  | inr y =>
    obtain ⟨rfl, -⟩ := he
    refine en_methH (ls := [some (.inr (.inl (some (14, 0, 0)))), some (.inl v1), some (.inl v2), some (.inr (.inl (some (36, 0, 0)))), none]) mdh_lw_calendar rfl rfl rfl ?_
    refine en_s_aload_n rfl rfl ?_
    refine en_s_iconst rfl ?_
    refine en_s_aload_n rfl rfl ?_
    refine en_s_iload_n rfl rfl ?_
    refine en_s_iload_n rfl rfl ?_
    refine en_callV (as := [.inl v1, .inl v2]) (rest := [.inl 0, .inr (.inl (some (36, 0, 0)))]) (vv := some (.inl y)) (bc' := 0) (bs' := 0) hz rfl hs lk_11_71 mv_cc_calendar rfl rfl rfl rfl rfl (fun _ h => h) (Nat.le_refl _) (Nat.le_refl _) ?_
    refine en_s_i2l rfl ?_
    refine en_s_last (x := 0) (w := lw_id y) rfl rfl lw_wa ?_
    refine en_s_goto rfl ?_
    refine en_s_iconst rfl ?_
    exact en_s_iret rfl rfl
theorem mdh_lw_delay : en_mdH M_lw_delay := ⟨by decide +kernel, rfl, rfl, en_ok_of ck_lw_delay⟩
theorem mh_lw_delay : en_mtH M_lw_delay 3 := ⟨rfl, mw_lw_delay.1, mw_lw_delay.2.1, mw_lw_delay.2.2, ⟨by decide +kernel, by decide +kernel⟩, by decide +kernel, rfl⟩
theorem h_lw_delay (G : en_G) (hz : G.2.2.2.2.2.2.2.2 = none) (d : Nat) {cs : List en_A} {σ : en_M} {v1 : Int32} {a : Nat ⊕ Int32} {x th : Int32} (h : k_cc_delay v1 σ = some a) (he : rl_A [(2, 1)] a x th) : en_Mt G (d + 8) 1 6 M_lw_delay [.inr (.inl (some (14, 0, 0))), .inl v1, .inr (.inl (some (36, 0, 0)))] cs en_rf σ (.inr (some (.inl th))) cs en_rf (lw_out lw_id a σ) := by
  have hs := s_cc_delay G hz d (cs := cs) h
  cases a with
  | inl n =>
    simp only [rl_A, List.mem_cons, Prod.mk.injEq, List.not_mem_nil, or_false] at he
    rcases he with ⟨rfl, rfl⟩
    · refine en_methH (ls := [some (.inr (.inl (some (14, 0, 0)))), some (.inl v1), some (.inr (.inl (some (36, 0, 0)))), none]) mdh_lw_delay rfl rfl rfl ?_
      refine en_s_aload_n rfl rfl ?_
      refine en_s_iconst rfl ?_
      refine en_s_aload_n rfl rfl ?_
      refine en_s_iload_n rfl rfl ?_
      exact en_catch (as := [.inl v1]) (rest := [.inl 0, .inr (.inl (some (36, 0, 0)))]) [] [] hz rfl hs lk_11_74 mv_cc_delay rfl rfl rfl rfl rfl (Nat.le_refl _) (Nat.le_refl _) rfl rfl (by intro z hz9; cases hz9) (by decide) ⟨by decide, by decide⟩ (Or.inr ⟨_, rfl⟩) rfl rfl rfl rfl rfl
  | inr y =>
    obtain ⟨rfl, -⟩ := he
    refine en_methH (ls := [some (.inr (.inl (some (14, 0, 0)))), some (.inl v1), some (.inr (.inl (some (36, 0, 0)))), none]) mdh_lw_delay rfl rfl rfl ?_
    refine en_s_aload_n rfl rfl ?_
    refine en_s_iconst rfl ?_
    refine en_s_aload_n rfl rfl ?_
    refine en_s_iload_n rfl rfl ?_
    refine en_callV (as := [.inl v1]) (rest := [.inl 0, .inr (.inl (some (36, 0, 0)))]) (vv := some (.inl y)) (bc' := 0) (bs' := 0) hz rfl hs lk_11_74 mv_cc_delay rfl rfl rfl rfl rfl (fun _ h => h) (Nat.le_refl _) (Nat.le_refl _) ?_
    refine en_s_i2l rfl ?_
    refine en_s_last (x := 0) (w := lw_id y) rfl rfl lw_wa ?_
    refine en_s_goto rfl ?_
    refine en_s_iconst rfl ?_
    exact en_s_iret rfl rfl
theorem mdh_lw_drop : en_mdH M_lw_drop := ⟨by decide +kernel, rfl, rfl, en_ok_of ck_lw_drop⟩
theorem mh_lw_drop : en_mtH M_lw_drop 3 := ⟨rfl, mw_lw_drop.1, mw_lw_drop.2.1, mw_lw_drop.2.2, ⟨by decide +kernel, by decide +kernel⟩, by decide +kernel, rfl⟩
theorem h_lw_drop (G : en_G) (hz : G.2.2.2.2.2.2.2.2 = none) (d : Nat) {cs : List en_A} {σ σ1 : en_M} {v1 : Int32} {a : Nat ⊕ Int32} {x th : Int32} (h : k_cc_drop v1 σ = some (a, σ1)) (he : rl_A [(1, 1)] a x th) : en_Mt G (d + 8) 1 6 M_lw_drop [.inr (.inl (some (14, 0, 0))), .inl v1, .inr (.inl (some (36, 0, 0)))] cs en_rf σ (.inr (some (.inl th))) cs en_rf (lw_out lw_id a σ1) := by
  have hs := s_cc_drop G hz d (cs := cs) h
  cases a with
  | inl n =>
    simp only [rl_A, List.mem_cons, Prod.mk.injEq, List.not_mem_nil, or_false] at he
    rcases he with ⟨rfl, rfl⟩
    · refine en_methH (ls := [some (.inr (.inl (some (14, 0, 0)))), some (.inl v1), some (.inr (.inl (some (36, 0, 0)))), none]) mdh_lw_drop rfl rfl rfl ?_
      refine en_s_aload_n rfl rfl ?_
      refine en_s_iconst rfl ?_
      refine en_s_aload_n rfl rfl ?_
      refine en_s_iload_n rfl rfl ?_
      exact en_catch (as := [.inl v1]) (rest := [.inl 0, .inr (.inl (some (36, 0, 0)))]) [] [] hz rfl hs lk_11_21 mv_cc_drop rfl rfl rfl rfl rfl (Nat.le_refl _) (Nat.le_refl _) rfl rfl (by intro z hz9; cases hz9) (by decide) ⟨by decide, by decide⟩ (Or.inr ⟨_, rfl⟩) rfl rfl rfl rfl rfl
  | inr y =>
    obtain ⟨rfl, -⟩ := he
    refine en_methH (ls := [some (.inr (.inl (some (14, 0, 0)))), some (.inl v1), some (.inr (.inl (some (36, 0, 0)))), none]) mdh_lw_drop rfl rfl rfl ?_
    refine en_s_aload_n rfl rfl ?_
    refine en_s_iconst rfl ?_
    refine en_s_aload_n rfl rfl ?_
    refine en_s_iload_n rfl rfl ?_
    refine en_callV (as := [.inl v1]) (rest := [.inl 0, .inr (.inl (some (36, 0, 0)))]) (vv := some (.inl y)) (bc' := 0) (bs' := 0) hz rfl hs lk_11_21 mv_cc_drop rfl rfl rfl rfl rfl (fun _ h => h) (Nat.le_refl _) (Nat.le_refl _) ?_
    refine en_s_i2l rfl ?_
    refine en_s_last (x := 0) (w := lw_id y) rfl rfl lw_wa ?_
    refine en_s_goto rfl ?_
    refine en_s_iconst rfl ?_
    exact en_s_iret rfl rfl
theorem mdh_lw_ends : en_mdH M_lw_ends := ⟨by decide +kernel, rfl, rfl, en_ok_of ck_lw_ends⟩
theorem mh_lw_ends : en_mtH M_lw_ends 3 := ⟨rfl, mw_lw_ends.1, mw_lw_ends.2.1, mw_lw_ends.2.2, ⟨by decide +kernel, by decide +kernel⟩, by decide +kernel, rfl⟩
theorem h_lw_ends (G : en_G) (hz : G.2.2.2.2.2.2.2.2 = none) (d : Nat) {cs : List en_A} {σ σ1 : en_M} {v1 : Int32} {a : Nat ⊕ Int32} {x th : Int32} (h : k_cc_ends v1 σ = some (a, σ1)) (he : rl_A [(2, 1)] a x th) : en_Mt G (d + 7) 1 6 M_lw_ends [.inr (.inl (some (14, 0, 0))), .inl v1, .inr (.inl (some (36, 0, 0)))] cs en_rf σ (.inr (some (.inl th))) cs en_rf (lw_out lw_id a σ1) := by
  have hs := s_cc_ends G hz d (cs := cs) h
  cases a with
  | inl n =>
    simp only [rl_A, List.mem_cons, Prod.mk.injEq, List.not_mem_nil, or_false] at he
    rcases he with ⟨rfl, rfl⟩
    · refine en_methH (ls := [some (.inr (.inl (some (14, 0, 0)))), some (.inl v1), some (.inr (.inl (some (36, 0, 0)))), none]) mdh_lw_ends rfl rfl rfl ?_
      refine en_s_aload_n rfl rfl ?_
      refine en_s_iconst rfl ?_
      refine en_s_aload_n rfl rfl ?_
      refine en_s_iload_n rfl rfl ?_
      exact en_catch (as := [.inl v1]) (rest := [.inl 0, .inr (.inl (some (36, 0, 0)))]) [] [] hz rfl hs lk_11_87 mv_cc_ends rfl rfl rfl rfl rfl (Nat.le_refl _) (Nat.le_refl _) rfl rfl (by intro z hz9; cases hz9) (by decide) ⟨by decide, by decide⟩ (Or.inr ⟨_, rfl⟩) rfl rfl rfl rfl rfl
  | inr y =>
    obtain ⟨rfl, -⟩ := he
    refine en_methH (ls := [some (.inr (.inl (some (14, 0, 0)))), some (.inl v1), some (.inr (.inl (some (36, 0, 0)))), none]) mdh_lw_ends rfl rfl rfl ?_
    refine en_s_aload_n rfl rfl ?_
    refine en_s_iconst rfl ?_
    refine en_s_aload_n rfl rfl ?_
    refine en_s_iload_n rfl rfl ?_
    refine en_callV (as := [.inl v1]) (rest := [.inl 0, .inr (.inl (some (36, 0, 0)))]) (vv := some (.inl y)) (bc' := 0) (bs' := 0) hz rfl hs lk_11_87 mv_cc_ends rfl rfl rfl rfl rfl (fun _ h => h) (Nat.le_refl _) (Nat.le_refl _) ?_
    refine en_s_i2l rfl ?_
    refine en_s_last (x := 0) (w := lw_id y) rfl rfl lw_wa ?_
    refine en_s_goto rfl ?_
    refine en_s_iconst rfl ?_
    exact en_s_iret rfl rfl
theorem mdh_lw_finds : en_mdH M_lw_finds := ⟨by decide +kernel, rfl, rfl, en_ok_of ck_lw_finds⟩
theorem mh_lw_finds : en_mtH M_lw_finds 6 := ⟨rfl, mw_lw_finds.1, mw_lw_finds.2.1, mw_lw_finds.2.2, ⟨by decide +kernel, by decide +kernel⟩, by decide +kernel, rfl⟩
theorem h_lw_finds (G : en_G) (hz : G.2.2.2.2.2.2.2.2 = none) (d : Nat) {cs : List en_A} {σ : en_M} {v1 v2 v3 v4 : Int32} {a : Nat ⊕ Int32} {x th : Int32} (h : k_cc_finds v1 v2 v3 v4 σ = some a) (he : rl_A [(2, 1), (0, 2)] a x th) : en_Mt G (d + 7) 1 6 M_lw_finds [.inr (.inl (some (14, 0, 0))), .inl v1, .inl v2, .inl v3, .inl v4, .inr (.inl (some (36, 0, 0)))] cs en_rf σ (.inr (some (.inl th))) cs en_rf (lw_out lw_fl a σ) := by
  have hs := s_cc_finds G hz d (cs := cs) h
  cases a with
  | inl n =>
    simp only [rl_A, List.mem_cons, Prod.mk.injEq, List.not_mem_nil, or_false] at he
    rcases he with ⟨rfl, rfl⟩ | ⟨rfl, rfl⟩
    · refine en_methH (ls := [some (.inr (.inl (some (14, 0, 0)))), some (.inl v1), some (.inl v2), some (.inl v3), some (.inl v4), some (.inr (.inl (some (36, 0, 0)))), none]) mdh_lw_finds rfl rfl rfl ?_
      refine en_s_aload rfl rfl ?_
      refine en_s_iconst rfl ?_
      refine en_s_aload_n rfl rfl ?_
      refine en_s_iload_n rfl rfl ?_
      refine en_s_iload_n rfl rfl ?_
      refine en_s_iload_n rfl rfl ?_
      refine en_s_iload rfl rfl ?_
      exact en_catch (as := [.inl v1, .inl v2, .inl v3, .inl v4]) (rest := [.inl 0, .inr (.inl (some (36, 0, 0)))]) [] [(0, 21, 28, 13)] hz rfl hs lk_11_77 mv_cc_finds rfl rfl rfl rfl rfl (Nat.le_refl _) (Nat.le_refl _) rfl rfl (by intro z hz9; cases hz9) (by decide) ⟨by decide, by decide⟩ (Or.inl ⟨_, rfl⟩) rfl rfl rfl rfl rfl
    · refine en_methH (ls := [some (.inr (.inl (some (14, 0, 0)))), some (.inl v1), some (.inl v2), some (.inl v3), some (.inl v4), some (.inr (.inl (some (36, 0, 0)))), none]) mdh_lw_finds rfl rfl rfl ?_
      refine en_s_aload rfl rfl ?_
      refine en_s_iconst rfl ?_
      refine en_s_aload_n rfl rfl ?_
      refine en_s_iload_n rfl rfl ?_
      refine en_s_iload_n rfl rfl ?_
      refine en_s_iload_n rfl rfl ?_
      refine en_s_iload rfl rfl ?_
      exact en_catch (as := [.inl v1, .inl v2, .inl v3, .inl v4]) (rest := [.inl 0, .inr (.inl (some (36, 0, 0)))]) [(0, 21, 24, 42)] [] hz rfl hs lk_11_77 mv_cc_finds rfl rfl rfl rfl rfl (Nat.le_refl _) (Nat.le_refl _) rfl rfl (by intro z hz9; obtain rfl := List.mem_singleton.mp hz9; exact ⟨2, by decide, by decide⟩) (by decide) ⟨by decide, by decide⟩ (Or.inl ⟨_, rfl⟩) rfl rfl rfl rfl rfl
  | inr y =>
    obtain ⟨rfl, -⟩ := he
    refine en_methH (ls := [some (.inr (.inl (some (14, 0, 0)))), some (.inl v1), some (.inl v2), some (.inl v3), some (.inl v4), some (.inr (.inl (some (36, 0, 0)))), none]) mdh_lw_finds rfl rfl rfl ?_
    refine en_s_aload rfl rfl ?_
    refine en_s_iconst rfl ?_
    refine en_s_aload_n rfl rfl ?_
    refine en_s_iload_n rfl rfl ?_
    refine en_s_iload_n rfl rfl ?_
    refine en_s_iload_n rfl rfl ?_
    refine en_s_iload rfl rfl ?_
    refine en_callV (as := [.inl v1, .inl v2, .inl v3, .inl v4]) (rest := [.inl 0, .inr (.inl (some (36, 0, 0)))]) (vv := some (.inl y)) (bc' := 0) (bs' := 0) hz rfl hs lk_11_77 mv_cc_finds rfl rfl rfl rfl rfl (fun _ h => h) (Nat.le_refl _) (Nat.le_refl _) ?_
    refine en_lfl rfl rfl rfl rfl rfl ?_
    refine en_s_last (x := 0) (w := lw_fl y) rfl rfl lw_wa ?_
    refine en_s_goto rfl ?_
    refine en_s_iconst rfl ?_
    exact en_s_iret rfl rfl
theorem mdh_lw_flow : en_mdH M_lw_flow := ⟨by decide +kernel, rfl, rfl, en_ok_of ck_lw_flow⟩
theorem mh_lw_flow : en_mtH M_lw_flow 4 := ⟨rfl, mw_lw_flow.1, mw_lw_flow.2.1, mw_lw_flow.2.2, ⟨by decide +kernel, by decide +kernel⟩, by decide +kernel, rfl⟩
theorem h_lw_flow (G : en_G) (hz : G.2.2.2.2.2.2.2.2 = none) (d : Nat) {cs : List en_A} {σ : en_M} {v1 v2 : Int32} {a : Nat ⊕ Int32} {x th : Int32} (h : k_cc_flow v1 v2 σ = some a) (he : rl_A [(2, 1), (3, 2)] a x th) : en_Mt G (d + 7) 1 6 M_lw_flow [.inr (.inl (some (14, 0, 0))), .inl v1, .inl v2, .inr (.inl (some (36, 0, 0)))] cs en_rf σ (.inr (some (.inl th))) cs en_rf (lw_out lw_id a σ) := by
  have hs := s_cc_flow G hz d (cs := cs) h
  cases a with
  | inl n =>
    simp only [rl_A, List.mem_cons, Prod.mk.injEq, List.not_mem_nil, or_false] at he
    rcases he with ⟨rfl, rfl⟩ | ⟨rfl, rfl⟩
    · refine en_methH (ls := [some (.inr (.inl (some (14, 0, 0)))), some (.inl v1), some (.inl v2), some (.inr (.inl (some (36, 0, 0)))), none]) mdh_lw_flow rfl rfl rfl ?_
      refine en_s_aload_n rfl rfl ?_
      refine en_s_iconst rfl ?_
      refine en_s_aload_n rfl rfl ?_
      refine en_s_iload_n rfl rfl ?_
      refine en_s_iload_n rfl rfl ?_
      exact en_catch (as := [.inl v1, .inl v2]) (rest := [.inl 0, .inr (.inl (some (36, 0, 0)))]) [] [(0, 10, 17, 44)] hz rfl hs lk_11_56 mv_cc_flow rfl rfl rfl rfl rfl (Nat.le_refl _) (Nat.le_refl _) rfl rfl (by intro z hz9; cases hz9) (by decide) ⟨by decide, by decide⟩ (Or.inl ⟨_, rfl⟩) rfl rfl rfl rfl rfl
    · refine en_methH (ls := [some (.inr (.inl (some (14, 0, 0)))), some (.inl v1), some (.inl v2), some (.inr (.inl (some (36, 0, 0)))), none]) mdh_lw_flow rfl rfl rfl ?_
      refine en_s_aload_n rfl rfl ?_
      refine en_s_iconst rfl ?_
      refine en_s_aload_n rfl rfl ?_
      refine en_s_iload_n rfl rfl ?_
      refine en_s_iload_n rfl rfl ?_
      exact en_catch (as := [.inl v1, .inl v2]) (rest := [.inl 0, .inr (.inl (some (36, 0, 0)))]) [(0, 10, 13, 42)] [] hz rfl hs lk_11_56 mv_cc_flow rfl rfl rfl rfl rfl (Nat.le_refl _) (Nat.le_refl _) rfl rfl (by intro z hz9; obtain rfl := List.mem_singleton.mp hz9; exact ⟨2, by decide, by decide⟩) (by decide) ⟨by decide, by decide⟩ (Or.inl ⟨_, rfl⟩) rfl rfl rfl rfl rfl
  | inr y =>
    obtain ⟨rfl, -⟩ := he
    refine en_methH (ls := [some (.inr (.inl (some (14, 0, 0)))), some (.inl v1), some (.inl v2), some (.inr (.inl (some (36, 0, 0)))), none]) mdh_lw_flow rfl rfl rfl ?_
    refine en_s_aload_n rfl rfl ?_
    refine en_s_iconst rfl ?_
    refine en_s_aload_n rfl rfl ?_
    refine en_s_iload_n rfl rfl ?_
    refine en_s_iload_n rfl rfl ?_
    refine en_callV (as := [.inl v1, .inl v2]) (rest := [.inl 0, .inr (.inl (some (36, 0, 0)))]) (vv := some (.inl y)) (bc' := 0) (bs' := 0) hz rfl hs lk_11_56 mv_cc_flow rfl rfl rfl rfl rfl (fun _ h => h) (Nat.le_refl _) (Nat.le_refl _) ?_
    refine en_s_i2l rfl ?_
    refine en_s_last (x := 0) (w := lw_id y) rfl rfl lw_wa ?_
    refine en_s_goto rfl ?_
    refine en_s_iconst rfl ?_
    exact en_s_iret rfl rfl
theorem mdh_lw_holder : en_mdH M_lw_holder := ⟨by decide +kernel, rfl, rfl, en_ok_of ck_lw_holder⟩
theorem mh_lw_holder : en_mtH M_lw_holder 4 := ⟨rfl, mw_lw_holder.1, mw_lw_holder.2.1, mw_lw_holder.2.2, ⟨by decide +kernel, by decide +kernel⟩, by decide +kernel, rfl⟩
theorem h_lw_holder (G : en_G) (hz : G.2.2.2.2.2.2.2.2 = none) (d : Nat) {cs : List en_A} {σ : en_M} {v1 v2 : Int32} {a : Nat ⊕ Int32} {x th : Int32} (h : k_cc_holder v1 v2 σ = some a) (he : rl_A [(2, 1)] a x th) : en_Mt G (d + 7) 1 6 M_lw_holder [.inr (.inl (some (14, 0, 0))), .inl v1, .inl v2, .inr (.inl (some (36, 0, 0)))] cs en_rf σ (.inr (some (.inl th))) cs en_rf (lw_out lw_id a σ) := by
  have hs := s_cc_holder G hz d (cs := cs) h
  cases a with
  | inl n =>
    simp only [rl_A, List.mem_cons, Prod.mk.injEq, List.not_mem_nil, or_false] at he
    rcases he with ⟨rfl, rfl⟩
    · refine en_methH (ls := [some (.inr (.inl (some (14, 0, 0)))), some (.inl v1), some (.inl v2), some (.inr (.inl (some (36, 0, 0)))), none]) mdh_lw_holder rfl rfl rfl ?_
      refine en_s_aload_n rfl rfl ?_
      refine en_s_iconst rfl ?_
      refine en_s_aload_n rfl rfl ?_
      refine en_s_iload_n rfl rfl ?_
      refine en_s_iload_n rfl rfl ?_
      exact en_catch (as := [.inl v1, .inl v2]) (rest := [.inl 0, .inr (.inl (some (36, 0, 0)))]) [] [] hz rfl hs lk_11_53 mv_cc_holder rfl rfl rfl rfl rfl (Nat.le_refl _) (Nat.le_refl _) rfl rfl (by intro z hz9; cases hz9) (by decide) ⟨by decide, by decide⟩ (Or.inl ⟨_, rfl⟩) rfl rfl rfl rfl rfl
  | inr y =>
    obtain ⟨rfl, -⟩ := he
    refine en_methH (ls := [some (.inr (.inl (some (14, 0, 0)))), some (.inl v1), some (.inl v2), some (.inr (.inl (some (36, 0, 0)))), none]) mdh_lw_holder rfl rfl rfl ?_
    refine en_s_aload_n rfl rfl ?_
    refine en_s_iconst rfl ?_
    refine en_s_aload_n rfl rfl ?_
    refine en_s_iload_n rfl rfl ?_
    refine en_s_iload_n rfl rfl ?_
    refine en_callV (as := [.inl v1, .inl v2]) (rest := [.inl 0, .inr (.inl (some (36, 0, 0)))]) (vv := some (.inl y)) (bc' := 0) (bs' := 0) hz rfl hs lk_11_53 mv_cc_holder rfl rfl rfl rfl rfl (fun _ h => h) (Nat.le_refl _) (Nat.le_refl _) ?_
    refine en_s_i2l rfl ?_
    refine en_s_last (x := 0) (w := lw_id y) rfl rfl lw_wa ?_
    refine en_s_goto rfl ?_
    refine en_s_iconst rfl ?_
    exact en_s_iret rfl rfl
theorem mdh_lw_least : en_mdH M_lw_least := ⟨by decide +kernel, rfl, rfl, en_ok_of ck_lw_least⟩
theorem mh_lw_least : en_mtH M_lw_least 4 := ⟨rfl, mw_lw_least.1, mw_lw_least.2.1, mw_lw_least.2.2, ⟨by decide +kernel, by decide +kernel⟩, by decide +kernel, rfl⟩
theorem h_lw_least (G : en_G) (hz : G.2.2.2.2.2.2.2.2 = none) (d : Nat) {cs : List en_A} {σ σ1 : en_M} {v1 v2 : Int32} {a : Nat ⊕ Int32} {x th : Int32} (h : k_cc_least v1 v2 σ = some (a, σ1)) (he : rl_A [(2, 1), (0, 2)] a x th) : en_Mt G (d + 7) 1 6 M_lw_least [.inr (.inl (some (14, 0, 0))), .inl v1, .inl v2, .inr (.inl (some (36, 0, 0)))] cs en_rf σ (.inr (some (.inl th))) cs en_rf (lw_out lw_id a σ1) := by
  have hs := s_cc_least G hz d (cs := cs) h
  cases a with
  | inl n =>
    simp only [rl_A, List.mem_cons, Prod.mk.injEq, List.not_mem_nil, or_false] at he
    rcases he with ⟨rfl, rfl⟩ | ⟨rfl, rfl⟩
    · refine en_methH (ls := [some (.inr (.inl (some (14, 0, 0)))), some (.inl v1), some (.inl v2), some (.inr (.inl (some (36, 0, 0)))), none]) mdh_lw_least rfl rfl rfl ?_
      refine en_s_aload_n rfl rfl ?_
      refine en_s_iconst rfl ?_
      refine en_s_aload_n rfl rfl ?_
      refine en_s_iload_n rfl rfl ?_
      refine en_s_iload_n rfl rfl ?_
      exact en_catch (as := [.inl v1, .inl v2]) (rest := [.inl 0, .inr (.inl (some (36, 0, 0)))]) [] [(0, 10, 17, 13)] hz rfl hs lk_11_90 mv_cc_least rfl rfl rfl rfl rfl (Nat.le_refl _) (Nat.le_refl _) rfl rfl (by intro z hz9; cases hz9) (by decide) ⟨by decide, by decide⟩ (Or.inl ⟨_, rfl⟩) rfl rfl rfl rfl rfl
    · refine en_methH (ls := [some (.inr (.inl (some (14, 0, 0)))), some (.inl v1), some (.inl v2), some (.inr (.inl (some (36, 0, 0)))), none]) mdh_lw_least rfl rfl rfl ?_
      refine en_s_aload_n rfl rfl ?_
      refine en_s_iconst rfl ?_
      refine en_s_aload_n rfl rfl ?_
      refine en_s_iload_n rfl rfl ?_
      refine en_s_iload_n rfl rfl ?_
      exact en_catch (as := [.inl v1, .inl v2]) (rest := [.inl 0, .inr (.inl (some (36, 0, 0)))]) [(0, 10, 13, 42)] [] hz rfl hs lk_11_90 mv_cc_least rfl rfl rfl rfl rfl (Nat.le_refl _) (Nat.le_refl _) rfl rfl (by intro z hz9; obtain rfl := List.mem_singleton.mp hz9; exact ⟨2, by decide, by decide⟩) (by decide) ⟨by decide, by decide⟩ (Or.inl ⟨_, rfl⟩) rfl rfl rfl rfl rfl
  | inr y =>
    obtain ⟨rfl, -⟩ := he
    refine en_methH (ls := [some (.inr (.inl (some (14, 0, 0)))), some (.inl v1), some (.inl v2), some (.inr (.inl (some (36, 0, 0)))), none]) mdh_lw_least rfl rfl rfl ?_
    refine en_s_aload_n rfl rfl ?_
    refine en_s_iconst rfl ?_
    refine en_s_aload_n rfl rfl ?_
    refine en_s_iload_n rfl rfl ?_
    refine en_s_iload_n rfl rfl ?_
    refine en_callV (as := [.inl v1, .inl v2]) (rest := [.inl 0, .inr (.inl (some (36, 0, 0)))]) (vv := some (.inl y)) (bc' := 0) (bs' := 0) hz rfl hs lk_11_90 mv_cc_least rfl rfl rfl rfl rfl (fun _ h => h) (Nat.le_refl _) (Nat.le_refl _) ?_
    refine en_s_i2l rfl ?_
    refine en_s_last (x := 0) (w := lw_id y) rfl rfl lw_wa ?_
    refine en_s_goto rfl ?_
    refine en_s_iconst rfl ?_
    exact en_s_iret rfl rfl
theorem mdh_lw_log : en_mdH M_lw_log := ⟨by decide +kernel, rfl, rfl, en_ok_of ck_lw_log⟩
theorem mh_lw_log : en_mtH M_lw_log 4 := ⟨rfl, mw_lw_log.1, mw_lw_log.2.1, mw_lw_log.2.2, ⟨by decide +kernel, by decide +kernel⟩, by decide +kernel, rfl⟩
theorem h_lw_log (G : en_G) (hz : G.2.2.2.2.2.2.2.2 = none) (d : Nat) {cs : List en_A} {σ : en_M} {v1 v2 : Int32} {a : Nat ⊕ Int32} {x th : Int32} (h : k_cc_log v1 v2 σ = some a) (he : rl_A [(3, 1)] a x th) : en_Mt G (d + 7) 1 6 M_lw_log [.inr (.inl (some (14, 0, 0))), .inl v1, .inl v2, .inr (.inl (some (36, 0, 0)))] cs en_rf σ (.inr (some (.inl th))) cs en_rf (lw_out lw_id a σ) := by
  have hs := s_cc_log G hz d (cs := cs) h
  cases a with
  | inl n =>
    simp only [rl_A, List.mem_cons, Prod.mk.injEq, List.not_mem_nil, or_false] at he
    rcases he with ⟨rfl, rfl⟩
    · refine en_methH (ls := [some (.inr (.inl (some (14, 0, 0)))), some (.inl v1), some (.inl v2), some (.inr (.inl (some (36, 0, 0)))), none]) mdh_lw_log rfl rfl rfl ?_
      refine en_s_aload_n rfl rfl ?_
      refine en_s_iconst rfl ?_
      refine en_s_aload_n rfl rfl ?_
      refine en_s_iload_n rfl rfl ?_
      refine en_s_iload_n rfl rfl ?_
      exact en_catch (as := [.inl v1, .inl v2]) (rest := [.inl 0, .inr (.inl (some (36, 0, 0)))]) [] [] hz rfl hs lk_11_62 mv_cc_log rfl rfl rfl rfl rfl (Nat.le_refl _) (Nat.le_refl _) rfl rfl (by intro z hz9; cases hz9) (by decide) ⟨by decide, by decide⟩ (Or.inl ⟨_, rfl⟩) rfl rfl rfl rfl rfl
  | inr y =>
    obtain ⟨rfl, -⟩ := he
    refine en_methH (ls := [some (.inr (.inl (some (14, 0, 0)))), some (.inl v1), some (.inl v2), some (.inr (.inl (some (36, 0, 0)))), none]) mdh_lw_log rfl rfl rfl ?_
    refine en_s_aload_n rfl rfl ?_
    refine en_s_iconst rfl ?_
    refine en_s_aload_n rfl rfl ?_
    refine en_s_iload_n rfl rfl ?_
    refine en_s_iload_n rfl rfl ?_
    refine en_callV (as := [.inl v1, .inl v2]) (rest := [.inl 0, .inr (.inl (some (36, 0, 0)))]) (vv := some (.inl y)) (bc' := 0) (bs' := 0) hz rfl hs lk_11_62 mv_cc_log rfl rfl rfl rfl rfl (fun _ h => h) (Nat.le_refl _) (Nat.le_refl _) ?_
    refine en_s_i2l rfl ?_
    refine en_s_last (x := 0) (w := lw_id y) rfl rfl lw_wa ?_
    refine en_s_goto rfl ?_
    refine en_s_iconst rfl ?_
    exact en_s_iret rfl rfl
theorem mdh_lw_merged : en_mdH M_lw_merged := ⟨by decide +kernel, rfl, rfl, en_ok_of ck_lw_merged⟩
theorem mh_lw_merged : en_mtH M_lw_merged 4 := ⟨rfl, mw_lw_merged.1, mw_lw_merged.2.1, mw_lw_merged.2.2, ⟨by decide +kernel, by decide +kernel⟩, by decide +kernel, rfl⟩
theorem h_lw_merged (G : en_G) (hz : G.2.2.2.2.2.2.2.2 = none) (d : Nat) {cs : List en_A} {σ : en_M} {v1 v2 : Int32} {a : Nat ⊕ Int32} {x th : Int32} (h : k_cc_merged v1 v2 σ = some a) (he : rl_A [(2, 1)] a x th) : en_Mt G (d + 8) 1 6 M_lw_merged [.inr (.inl (some (14, 0, 0))), .inl v1, .inl v2, .inr (.inl (some (36, 0, 0)))] cs en_rf σ (.inr (some (.inl th))) cs en_rf (lw_out lw_id a σ) := by
  have hs := s_cc_merged G hz d (cs := cs) h
  cases a with
  | inl n =>
    simp only [rl_A, List.mem_cons, Prod.mk.injEq, List.not_mem_nil, or_false] at he
    rcases he with ⟨rfl, rfl⟩
    · refine en_methH (ls := [some (.inr (.inl (some (14, 0, 0)))), some (.inl v1), some (.inl v2), some (.inr (.inl (some (36, 0, 0)))), none]) mdh_lw_merged rfl rfl rfl ?_
      refine en_s_aload_n rfl rfl ?_
      refine en_s_iconst rfl ?_
      refine en_s_aload_n rfl rfl ?_
      refine en_s_iload_n rfl rfl ?_
      refine en_s_iload_n rfl rfl ?_
      exact en_catch (as := [.inl v1, .inl v2]) (rest := [.inl 0, .inr (.inl (some (36, 0, 0)))]) [] [] hz rfl hs lk_11_65 mv_cc_merged rfl rfl rfl rfl rfl (Nat.le_refl _) (Nat.le_refl _) rfl rfl (by intro z hz9; cases hz9) (by decide) ⟨by decide, by decide⟩ (Or.inl ⟨_, rfl⟩) rfl rfl rfl rfl rfl
  | inr y =>
    obtain ⟨rfl, -⟩ := he
    refine en_methH (ls := [some (.inr (.inl (some (14, 0, 0)))), some (.inl v1), some (.inl v2), some (.inr (.inl (some (36, 0, 0)))), none]) mdh_lw_merged rfl rfl rfl ?_
    refine en_s_aload_n rfl rfl ?_
    refine en_s_iconst rfl ?_
    refine en_s_aload_n rfl rfl ?_
    refine en_s_iload_n rfl rfl ?_
    refine en_s_iload_n rfl rfl ?_
    refine en_callV (as := [.inl v1, .inl v2]) (rest := [.inl 0, .inr (.inl (some (36, 0, 0)))]) (vv := some (.inl y)) (bc' := 0) (bs' := 0) hz rfl hs lk_11_65 mv_cc_merged rfl rfl rfl rfl rfl (fun _ h => h) (Nat.le_refl _) (Nat.le_refl _) ?_
    refine en_s_i2l rfl ?_
    refine en_s_last (x := 0) (w := lw_id y) rfl rfl lw_wa ?_
    refine en_s_goto rfl ?_
    refine en_s_iconst rfl ?_
    exact en_s_iret rfl rfl
theorem mdh_lw_octet : en_mdH M_lw_octet := ⟨by decide +kernel, rfl, rfl, en_ok_of ck_lw_octet⟩
theorem mh_lw_octet : en_mtH M_lw_octet 5 := ⟨rfl, mw_lw_octet.1, mw_lw_octet.2.1, mw_lw_octet.2.2, ⟨by decide +kernel, by decide +kernel⟩, by decide +kernel, rfl⟩
theorem h_lw_octet (G : en_G) (hz : G.2.2.2.2.2.2.2.2 = none) (d : Nat) {cs : List en_A} {σ : en_M} {v1 v2 v3 : Int32} {a : Nat ⊕ Int32} {x th : Int32} (h : k_cc_octet v1 v2 v3 σ = some a) (he : rl_A [(2, 1)] a x th) : en_Mt G (d + 7) 1 6 M_lw_octet [.inr (.inl (some (14, 0, 0))), .inl v1, .inl v2, .inl v3, .inr (.inl (some (36, 0, 0)))] cs en_rf σ (.inr (some (.inl th))) cs en_rf (lw_out lw_id a σ) := by
  have hs := s_cc_octet G hz d (cs := cs) h
  cases a with
  | inl n =>
    simp only [rl_A, List.mem_cons, Prod.mk.injEq, List.not_mem_nil, or_false] at he
    rcases he with ⟨rfl, rfl⟩
    · refine en_methH (ls := [some (.inr (.inl (some (14, 0, 0)))), some (.inl v1), some (.inl v2), some (.inl v3), some (.inr (.inl (some (36, 0, 0)))), none]) mdh_lw_octet rfl rfl rfl ?_
      refine en_s_aload rfl rfl ?_
      refine en_s_iconst rfl ?_
      refine en_s_aload_n rfl rfl ?_
      refine en_s_iload_n rfl rfl ?_
      refine en_s_iload_n rfl rfl ?_
      refine en_s_iload_n rfl rfl ?_
      exact en_catch (as := [.inl v1, .inl v2, .inl v3]) (rest := [.inl 0, .inr (.inl (some (36, 0, 0)))]) [] [] hz rfl hs lk_11_50 mv_cc_octet rfl rfl rfl rfl rfl (Nat.le_refl _) (Nat.le_refl _) rfl rfl (by intro z hz9; cases hz9) (by decide) ⟨by decide, by decide⟩ (Or.inl ⟨_, rfl⟩) rfl rfl rfl rfl rfl
  | inr y =>
    obtain ⟨rfl, -⟩ := he
    refine en_methH (ls := [some (.inr (.inl (some (14, 0, 0)))), some (.inl v1), some (.inl v2), some (.inl v3), some (.inr (.inl (some (36, 0, 0)))), none]) mdh_lw_octet rfl rfl rfl ?_
    refine en_s_aload rfl rfl ?_
    refine en_s_iconst rfl ?_
    refine en_s_aload_n rfl rfl ?_
    refine en_s_iload_n rfl rfl ?_
    refine en_s_iload_n rfl rfl ?_
    refine en_s_iload_n rfl rfl ?_
    refine en_callV (as := [.inl v1, .inl v2, .inl v3]) (rest := [.inl 0, .inr (.inl (some (36, 0, 0)))]) (vv := some (.inl y)) (bc' := 0) (bs' := 0) hz rfl hs lk_11_50 mv_cc_octet rfl rfl rfl rfl rfl (fun _ h => h) (Nat.le_refl _) (Nat.le_refl _) ?_
    refine en_s_i2l rfl ?_
    refine en_s_last (x := 0) (w := lw_id y) rfl rfl lw_wa ?_
    refine en_s_goto rfl ?_
    refine en_s_iconst rfl ?_
    exact en_s_iret rfl rfl
theorem mdh_lw_pause : en_mdH M_lw_pause := ⟨by decide +kernel, rfl, rfl, en_ok_of ck_lw_pause⟩
theorem mh_lw_pause : en_mtH M_lw_pause 4 := ⟨rfl, mw_lw_pause.1, mw_lw_pause.2.1, mw_lw_pause.2.2, ⟨by decide +kernel, by decide +kernel⟩, by decide +kernel, rfl⟩
theorem h_lw_pause (G : en_G) (hz : G.2.2.2.2.2.2.2.2 = none) (d : Nat) {cs : List en_A} {σ σ1 : en_M} {v1 v2 : Int32} {a : Nat ⊕ Int32} {x th : Int32} (h : k_cc_pause v1 v2 σ = some (a, σ1)) (he : rl_A [(1, 1)] a x th) : en_Mt G (d + 8) 1 6 M_lw_pause [.inr (.inl (some (14, 0, 0))), .inl v1, .inl v2, .inr (.inl (some (36, 0, 0)))] cs en_rf σ (.inr (some (.inl th))) cs en_rf (lw_out lw_id a σ1) := by
  have hs := s_cc_pause G hz d (cs := cs) h
  cases a with
  | inl n =>
    simp only [rl_A, List.mem_cons, Prod.mk.injEq, List.not_mem_nil, or_false] at he
    rcases he with ⟨rfl, rfl⟩
    · refine en_methH (ls := [some (.inr (.inl (some (14, 0, 0)))), some (.inl v1), some (.inl v2), some (.inr (.inl (some (36, 0, 0)))), none]) mdh_lw_pause rfl rfl rfl ?_
      refine en_s_aload_n rfl rfl ?_
      refine en_s_iconst rfl ?_
      refine en_s_aload_n rfl rfl ?_
      refine en_s_iload_n rfl rfl ?_
      refine en_s_iload_n rfl rfl ?_
      exact en_catch (as := [.inl v1, .inl v2]) (rest := [.inl 0, .inr (.inl (some (36, 0, 0)))]) [] [] hz rfl hs lk_11_25 mv_cc_pause rfl rfl rfl rfl rfl (Nat.le_refl _) (Nat.le_refl _) rfl rfl (by intro z hz9; cases hz9) (by decide) ⟨by decide, by decide⟩ (Or.inl ⟨_, rfl⟩) rfl rfl rfl rfl rfl
  | inr y =>
    obtain ⟨rfl, -⟩ := he
    refine en_methH (ls := [some (.inr (.inl (some (14, 0, 0)))), some (.inl v1), some (.inl v2), some (.inr (.inl (some (36, 0, 0)))), none]) mdh_lw_pause rfl rfl rfl ?_
    refine en_s_aload_n rfl rfl ?_
    refine en_s_iconst rfl ?_
    refine en_s_aload_n rfl rfl ?_
    refine en_s_iload_n rfl rfl ?_
    refine en_s_iload_n rfl rfl ?_
    refine en_callV (as := [.inl v1, .inl v2]) (rest := [.inl 0, .inr (.inl (some (36, 0, 0)))]) (vv := some (.inl y)) (bc' := 0) (bs' := 0) hz rfl hs lk_11_25 mv_cc_pause rfl rfl rfl rfl rfl (fun _ h => h) (Nat.le_refl _) (Nat.le_refl _) ?_
    refine en_s_i2l rfl ?_
    refine en_s_last (x := 0) (w := lw_id y) rfl rfl lw_wa ?_
    refine en_s_goto rfl ?_
    refine en_s_iconst rfl ?_
    exact en_s_iret rfl rfl
theorem mdh_lw_piece : en_mdH M_lw_piece := ⟨by decide +kernel, rfl, rfl, en_ok_of ck_lw_piece⟩
theorem mh_lw_piece : en_mtH M_lw_piece 5 := ⟨rfl, mw_lw_piece.1, mw_lw_piece.2.1, mw_lw_piece.2.2, ⟨by decide +kernel, by decide +kernel⟩, by decide +kernel, rfl⟩
theorem h_lw_piece (G : en_G) (hz : G.2.2.2.2.2.2.2.2 = none) (d : Nat) {cs : List en_A} {σ : en_M} {v1 v2 v3 : Int32} {a : Nat ⊕ Int32} {x th : Int32} (h : k_cc_piece v1 v2 v3 σ = some a) (he : rl_A [(2, 1), (3, 2)] a x th) : en_Mt G (d + 7) 1 6 M_lw_piece [.inr (.inl (some (14, 0, 0))), .inl v1, .inl v2, .inl v3, .inr (.inl (some (36, 0, 0)))] cs en_rf σ (.inr (some (.inl th))) cs en_rf (lw_out lw_id a σ) := by
  have hs := s_cc_piece G hz d (cs := cs) h
  cases a with
  | inl n =>
    simp only [rl_A, List.mem_cons, Prod.mk.injEq, List.not_mem_nil, or_false] at he
    rcases he with ⟨rfl, rfl⟩ | ⟨rfl, rfl⟩
    · refine en_methH (ls := [some (.inr (.inl (some (14, 0, 0)))), some (.inl v1), some (.inl v2), some (.inl v3), some (.inr (.inl (some (36, 0, 0)))), none]) mdh_lw_piece rfl rfl rfl ?_
      refine en_s_aload rfl rfl ?_
      refine en_s_iconst rfl ?_
      refine en_s_aload_n rfl rfl ?_
      refine en_s_iload_n rfl rfl ?_
      refine en_s_iload_n rfl rfl ?_
      refine en_s_iload_n rfl rfl ?_
      exact en_catch (as := [.inl v1, .inl v2, .inl v3]) (rest := [.inl 0, .inr (.inl (some (36, 0, 0)))]) [] [(0, 12, 19, 44)] hz rfl hs lk_11_46 mv_cc_piece rfl rfl rfl rfl rfl (Nat.le_refl _) (Nat.le_refl _) rfl rfl (by intro z hz9; cases hz9) (by decide) ⟨by decide, by decide⟩ (Or.inl ⟨_, rfl⟩) rfl rfl rfl rfl rfl
    · refine en_methH (ls := [some (.inr (.inl (some (14, 0, 0)))), some (.inl v1), some (.inl v2), some (.inl v3), some (.inr (.inl (some (36, 0, 0)))), none]) mdh_lw_piece rfl rfl rfl ?_
      refine en_s_aload rfl rfl ?_
      refine en_s_iconst rfl ?_
      refine en_s_aload_n rfl rfl ?_
      refine en_s_iload_n rfl rfl ?_
      refine en_s_iload_n rfl rfl ?_
      refine en_s_iload_n rfl rfl ?_
      exact en_catch (as := [.inl v1, .inl v2, .inl v3]) (rest := [.inl 0, .inr (.inl (some (36, 0, 0)))]) [(0, 12, 15, 42)] [] hz rfl hs lk_11_46 mv_cc_piece rfl rfl rfl rfl rfl (Nat.le_refl _) (Nat.le_refl _) rfl rfl (by intro z hz9; obtain rfl := List.mem_singleton.mp hz9; exact ⟨2, by decide, by decide⟩) (by decide) ⟨by decide, by decide⟩ (Or.inl ⟨_, rfl⟩) rfl rfl rfl rfl rfl
  | inr y =>
    obtain ⟨rfl, -⟩ := he
    refine en_methH (ls := [some (.inr (.inl (some (14, 0, 0)))), some (.inl v1), some (.inl v2), some (.inl v3), some (.inr (.inl (some (36, 0, 0)))), none]) mdh_lw_piece rfl rfl rfl ?_
    refine en_s_aload rfl rfl ?_
    refine en_s_iconst rfl ?_
    refine en_s_aload_n rfl rfl ?_
    refine en_s_iload_n rfl rfl ?_
    refine en_s_iload_n rfl rfl ?_
    refine en_s_iload_n rfl rfl ?_
    refine en_callV (as := [.inl v1, .inl v2, .inl v3]) (rest := [.inl 0, .inr (.inl (some (36, 0, 0)))]) (vv := some (.inl y)) (bc' := 0) (bs' := 0) hz rfl hs lk_11_46 mv_cc_piece rfl rfl rfl rfl rfl (fun _ h => h) (Nat.le_refl _) (Nat.le_refl _) ?_
    refine en_s_i2l rfl ?_
    refine en_s_last (x := 0) (w := lw_id y) rfl rfl lw_wa ?_
    refine en_s_goto rfl ?_
    refine en_s_iconst rfl ?_
    exact en_s_iret rfl rfl
theorem mdh_lw_rate : en_mdH M_lw_rate := ⟨by decide +kernel, rfl, rfl, en_ok_of ck_lw_rate⟩
theorem mh_lw_rate : en_mtH M_lw_rate 4 := ⟨rfl, mw_lw_rate.1, mw_lw_rate.2.1, mw_lw_rate.2.2, ⟨by decide +kernel, by decide +kernel⟩, by decide +kernel, rfl⟩
theorem h_lw_rate (G : en_G) (hz : G.2.2.2.2.2.2.2.2 = none) (d : Nat) {cs : List en_A} {σ σ1 : en_M} {v1 v2 : Int32} {a : Nat ⊕ Int32} {x th : Int32} (h : k_cc_rate v1 v2 σ = some (a, σ1)) (he : rl_A [(0, 1), (1, 2)] a x th) : en_Mt G (d + 8) 2 12 M_lw_rate [.inr (.inl (some (14, 0, 0))), .inl v1, .inl v2, .inr (.inl (some (36, 0, 0)))] cs en_rf σ (.inr (some (.inl th))) cs en_rf (lw_out lw_id a σ1) := by
  have hs := s_cc_rate G hz d (cs := cs) h
  cases a with
  | inl n =>
    simp only [rl_A, List.mem_cons, Prod.mk.injEq, List.not_mem_nil, or_false] at he
    rcases he with ⟨rfl, rfl⟩ | ⟨rfl, rfl⟩
    · refine en_methH (ls := [some (.inr (.inl (some (14, 0, 0)))), some (.inl v1), some (.inl v2), some (.inr (.inl (some (36, 0, 0)))), none]) mdh_lw_rate rfl rfl rfl ?_
      refine en_s_aload_n rfl rfl ?_
      refine en_s_iconst rfl ?_
      refine en_s_aload_n rfl rfl ?_
      refine en_s_iload_n rfl rfl ?_
      refine en_s_iload_n rfl rfl ?_
      exact en_catch (as := [.inl v1, .inl v2]) (rest := [.inl 0, .inr (.inl (some (36, 0, 0)))]) [] [(0, 10, 17, 19)] hz rfl hs lk_11_29 mv_cc_rate rfl rfl rfl rfl rfl (Nat.le_refl _) (Nat.le_refl _) rfl rfl (by intro z hz9; cases hz9) (by decide) ⟨by decide, by decide⟩ (Or.inl ⟨_, rfl⟩) rfl rfl rfl rfl rfl
    · refine en_methH (ls := [some (.inr (.inl (some (14, 0, 0)))), some (.inl v1), some (.inl v2), some (.inr (.inl (some (36, 0, 0)))), none]) mdh_lw_rate rfl rfl rfl ?_
      refine en_s_aload_n rfl rfl ?_
      refine en_s_iconst rfl ?_
      refine en_s_aload_n rfl rfl ?_
      refine en_s_iload_n rfl rfl ?_
      refine en_s_iload_n rfl rfl ?_
      exact en_catch (as := [.inl v1, .inl v2]) (rest := [.inl 0, .inr (.inl (some (36, 0, 0)))]) [(0, 10, 13, 13)] [] hz rfl hs lk_11_29 mv_cc_rate rfl rfl rfl rfl rfl (Nat.le_refl _) (Nat.le_refl _) rfl rfl (by intro z hz9; obtain rfl := List.mem_singleton.mp hz9; exact ⟨0, by decide, by decide⟩) (by decide) ⟨by decide, by decide⟩ (Or.inl ⟨_, rfl⟩) rfl rfl rfl rfl rfl
  | inr y =>
    obtain ⟨rfl, -⟩ := he
    refine en_methH (ls := [some (.inr (.inl (some (14, 0, 0)))), some (.inl v1), some (.inl v2), some (.inr (.inl (some (36, 0, 0)))), none]) mdh_lw_rate rfl rfl rfl ?_
    refine en_s_aload_n rfl rfl ?_
    refine en_s_iconst rfl ?_
    refine en_s_aload_n rfl rfl ?_
    refine en_s_iload_n rfl rfl ?_
    refine en_s_iload_n rfl rfl ?_
    refine en_callV (as := [.inl v1, .inl v2]) (rest := [.inl 0, .inr (.inl (some (36, 0, 0)))]) (vv := some (.inl y)) (bc' := 0) (bs' := 0) hz rfl hs lk_11_29 mv_cc_rate rfl rfl rfl rfl rfl (fun _ h => h) (Nat.le_refl _) (Nat.le_refl _) ?_
    refine en_s_i2l rfl ?_
    refine en_s_last (x := 0) (w := lw_id y) rfl rfl lw_wa ?_
    refine en_s_goto rfl ?_
    refine en_s_iconst rfl ?_
    exact en_s_iret rfl rfl
theorem mdh_lw_send : en_mdH M_lw_send := ⟨by decide +kernel, rfl, rfl, en_ok_of ck_lw_send⟩
theorem mh_lw_send : en_mtH M_lw_send 6 := ⟨rfl, mw_lw_send.1, mw_lw_send.2.1, mw_lw_send.2.2, ⟨by decide +kernel, by decide +kernel⟩, by decide +kernel, rfl⟩
theorem h_lw_send (G : en_G) (hz : G.2.2.2.2.2.2.2.2 = none) (d : Nat) {cs : List en_A} {σ σ1 : en_M} {v1 v2 v3 v4 : Int32} {a : Nat ⊕ Int32} {x th : Int32} (h : k_cc_send v1 v2 v3 v4 σ = some (a, σ1)) (he : rl_A [(0, 1), (1, 2)] a x th) : en_Mt G (d + 8) 2 12 M_lw_send [.inr (.inl (some (14, 0, 0))), .inl v1, .inl v2, .inl v3, .inl v4, .inr (.inl (some (36, 0, 0)))] cs en_rf σ (.inr (some (.inl th))) cs en_rf (lw_out lw_id a σ1) := by
  have hs := s_cc_send G hz d (cs := cs) h
  cases a with
  | inl n =>
    simp only [rl_A, List.mem_cons, Prod.mk.injEq, List.not_mem_nil, or_false] at he
    rcases he with ⟨rfl, rfl⟩ | ⟨rfl, rfl⟩
    · refine en_methH (ls := [some (.inr (.inl (some (14, 0, 0)))), some (.inl v1), some (.inl v2), some (.inl v3), some (.inl v4), some (.inr (.inl (some (36, 0, 0)))), none]) mdh_lw_send rfl rfl rfl ?_
      refine en_s_aload rfl rfl ?_
      refine en_s_iconst rfl ?_
      refine en_s_aload_n rfl rfl ?_
      refine en_s_iload_n rfl rfl ?_
      refine en_s_iload_n rfl rfl ?_
      refine en_s_iload_n rfl rfl ?_
      refine en_s_iload rfl rfl ?_
      exact en_catch (as := [.inl v1, .inl v2, .inl v3, .inl v4]) (rest := [.inl 0, .inr (.inl (some (36, 0, 0)))]) [] [(0, 14, 21, 19)] hz rfl hs lk_11_15 mv_cc_send rfl rfl rfl rfl rfl (Nat.le_refl _) (Nat.le_refl _) rfl rfl (by intro z hz9; cases hz9) (by decide) ⟨by decide, by decide⟩ (Or.inl ⟨_, rfl⟩) rfl rfl rfl rfl rfl
    · refine en_methH (ls := [some (.inr (.inl (some (14, 0, 0)))), some (.inl v1), some (.inl v2), some (.inl v3), some (.inl v4), some (.inr (.inl (some (36, 0, 0)))), none]) mdh_lw_send rfl rfl rfl ?_
      refine en_s_aload rfl rfl ?_
      refine en_s_iconst rfl ?_
      refine en_s_aload_n rfl rfl ?_
      refine en_s_iload_n rfl rfl ?_
      refine en_s_iload_n rfl rfl ?_
      refine en_s_iload_n rfl rfl ?_
      refine en_s_iload rfl rfl ?_
      exact en_catch (as := [.inl v1, .inl v2, .inl v3, .inl v4]) (rest := [.inl 0, .inr (.inl (some (36, 0, 0)))]) [(0, 14, 17, 13)] [] hz rfl hs lk_11_15 mv_cc_send rfl rfl rfl rfl rfl (Nat.le_refl _) (Nat.le_refl _) rfl rfl (by intro z hz9; obtain rfl := List.mem_singleton.mp hz9; exact ⟨0, by decide, by decide⟩) (by decide) ⟨by decide, by decide⟩ (Or.inl ⟨_, rfl⟩) rfl rfl rfl rfl rfl
  | inr y =>
    obtain ⟨rfl, -⟩ := he
    refine en_methH (ls := [some (.inr (.inl (some (14, 0, 0)))), some (.inl v1), some (.inl v2), some (.inl v3), some (.inl v4), some (.inr (.inl (some (36, 0, 0)))), none]) mdh_lw_send rfl rfl rfl ?_
    refine en_s_aload rfl rfl ?_
    refine en_s_iconst rfl ?_
    refine en_s_aload_n rfl rfl ?_
    refine en_s_iload_n rfl rfl ?_
    refine en_s_iload_n rfl rfl ?_
    refine en_s_iload_n rfl rfl ?_
    refine en_s_iload rfl rfl ?_
    refine en_callV (as := [.inl v1, .inl v2, .inl v3, .inl v4]) (rest := [.inl 0, .inr (.inl (some (36, 0, 0)))]) (vv := some (.inl y)) (bc' := 0) (bs' := 0) hz rfl hs lk_11_15 mv_cc_send rfl rfl rfl rfl rfl (fun _ h => h) (Nat.le_refl _) (Nat.le_refl _) ?_
    refine en_s_i2l rfl ?_
    refine en_s_last (x := 0) (w := lw_id y) rfl rfl lw_wa ?_
    refine en_s_goto rfl ?_
    refine en_s_iconst rfl ?_
    exact en_s_iret rfl rfl
theorem mdh_lw_share : en_mdH M_lw_share := ⟨by decide +kernel, rfl, rfl, en_ok_of ck_lw_share⟩
theorem mh_lw_share : en_mtH M_lw_share 3 := ⟨rfl, mw_lw_share.1, mw_lw_share.2.1, mw_lw_share.2.2, ⟨by decide +kernel, by decide +kernel⟩, by decide +kernel, rfl⟩
theorem h_lw_share (G : en_G) (hz : G.2.2.2.2.2.2.2.2 = none) (d : Nat) {cs : List en_A} {σ : en_M} {v1 : Int32} {a : Nat ⊕ Int32} {x th : Int32} (h : k_cc_share v1 σ = some a) (he : rl_A [(2, 1)] a x th) : en_Mt G (d + 8) 1 6 M_lw_share [.inr (.inl (some (14, 0, 0))), .inl v1, .inr (.inl (some (36, 0, 0)))] cs en_rf σ (.inr (some (.inl th))) cs en_rf (lw_out lw_id a σ) := by
  have hs := s_cc_share G hz d (cs := cs) h
  cases a with
  | inl n =>
    simp only [rl_A, List.mem_cons, Prod.mk.injEq, List.not_mem_nil, or_false] at he
    rcases he with ⟨rfl, rfl⟩
    · refine en_methH (ls := [some (.inr (.inl (some (14, 0, 0)))), some (.inl v1), some (.inr (.inl (some (36, 0, 0)))), none]) mdh_lw_share rfl rfl rfl ?_
      refine en_s_aload_n rfl rfl ?_
      refine en_s_iconst rfl ?_
      refine en_s_aload_n rfl rfl ?_
      refine en_s_iload_n rfl rfl ?_
      exact en_catch (as := [.inl v1]) (rest := [.inl 0, .inr (.inl (some (36, 0, 0)))]) [] [] hz rfl hs lk_11_68 mv_cc_share rfl rfl rfl rfl rfl (Nat.le_refl _) (Nat.le_refl _) rfl rfl (by intro z hz9; cases hz9) (by decide) ⟨by decide, by decide⟩ (Or.inr ⟨_, rfl⟩) rfl rfl rfl rfl rfl
  | inr y =>
    obtain ⟨rfl, -⟩ := he
    refine en_methH (ls := [some (.inr (.inl (some (14, 0, 0)))), some (.inl v1), some (.inr (.inl (some (36, 0, 0)))), none]) mdh_lw_share rfl rfl rfl ?_
    refine en_s_aload_n rfl rfl ?_
    refine en_s_iconst rfl ?_
    refine en_s_aload_n rfl rfl ?_
    refine en_s_iload_n rfl rfl ?_
    refine en_callV (as := [.inl v1]) (rest := [.inl 0, .inr (.inl (some (36, 0, 0)))]) (vv := some (.inl y)) (bc' := 0) (bs' := 0) hz rfl hs lk_11_68 mv_cc_share rfl rfl rfl rfl rfl (fun _ h => h) (Nat.le_refl _) (Nat.le_refl _) ?_
    refine en_s_i2l rfl ?_
    refine en_s_last (x := 0) (w := lw_id y) rfl rfl lw_wa ?_
    refine en_s_goto rfl ?_
    refine en_s_iconst rfl ?_
    exact en_s_iret rfl rfl
theorem mdh_lw_tick : en_mdH M_lw_tick := ⟨by decide +kernel, rfl, rfl, en_ok_of ck_lw_tick⟩
theorem mh_lw_tick : en_mtH M_lw_tick 3 := ⟨rfl, mw_lw_tick.1, mw_lw_tick.2.1, mw_lw_tick.2.2, ⟨by decide +kernel, by decide +kernel⟩, by decide +kernel, rfl⟩
theorem h_lw_tick (G : en_G) (hz : G.2.2.2.2.2.2.2.2 = none) (d : Nat) {cs : List en_A} {σ σ1 : en_M} {v1 : Int32} {a : Nat ⊕ Int32} {x th : Int32} (h : k_cc_tick v1 σ = some (a, σ1)) (he : rl_A [(0, 1), (1, 2)] a x th) : en_Mt G (d + 8) 2 12 M_lw_tick [.inr (.inl (some (14, 0, 0))), .inl v1, .inr (.inl (some (36, 0, 0)))] cs en_rf σ (.inr (some (.inl th))) cs en_rf (lw_out lw_id a σ1) := by
  have hs := s_cc_tick G hz d (cs := cs) h
  cases a with
  | inl n =>
    simp only [rl_A, List.mem_cons, Prod.mk.injEq, List.not_mem_nil, or_false] at he
    rcases he with ⟨rfl, rfl⟩ | ⟨rfl, rfl⟩
    · refine en_methH (ls := [some (.inr (.inl (some (14, 0, 0)))), some (.inl v1), some (.inr (.inl (some (36, 0, 0)))), none]) mdh_lw_tick rfl rfl rfl ?_
      refine en_s_aload_n rfl rfl ?_
      refine en_s_iconst rfl ?_
      refine en_s_aload_n rfl rfl ?_
      refine en_s_iload_n rfl rfl ?_
      exact en_catch (as := [.inl v1]) (rest := [.inl 0, .inr (.inl (some (36, 0, 0)))]) [] [(0, 9, 15, 19)] hz rfl hs lk_11_33 mv_cc_tick rfl rfl rfl rfl rfl (Nat.le_refl _) (Nat.le_refl _) rfl rfl (by intro z hz9; cases hz9) (by decide) ⟨by decide, by decide⟩ (Or.inr ⟨_, rfl⟩) rfl rfl rfl rfl rfl
    · refine en_methH (ls := [some (.inr (.inl (some (14, 0, 0)))), some (.inl v1), some (.inr (.inl (some (36, 0, 0)))), none]) mdh_lw_tick rfl rfl rfl ?_
      refine en_s_aload_n rfl rfl ?_
      refine en_s_iconst rfl ?_
      refine en_s_aload_n rfl rfl ?_
      refine en_s_iload_n rfl rfl ?_
      exact en_catch (as := [.inl v1]) (rest := [.inl 0, .inr (.inl (some (36, 0, 0)))]) [(0, 9, 12, 13)] [] hz rfl hs lk_11_33 mv_cc_tick rfl rfl rfl rfl rfl (Nat.le_refl _) (Nat.le_refl _) rfl rfl (by intro z hz9; obtain rfl := List.mem_singleton.mp hz9; exact ⟨0, by decide, by decide⟩) (by decide) ⟨by decide, by decide⟩ (Or.inr ⟨_, rfl⟩) rfl rfl rfl rfl rfl
  | inr y =>
    obtain ⟨rfl, -⟩ := he
    refine en_methH (ls := [some (.inr (.inl (some (14, 0, 0)))), some (.inl v1), some (.inr (.inl (some (36, 0, 0)))), none]) mdh_lw_tick rfl rfl rfl ?_
    refine en_s_aload_n rfl rfl ?_
    refine en_s_iconst rfl ?_
    refine en_s_aload_n rfl rfl ?_
    refine en_s_iload_n rfl rfl ?_
    refine en_callV (as := [.inl v1]) (rest := [.inl 0, .inr (.inl (some (36, 0, 0)))]) (vv := some (.inl y)) (bc' := 0) (bs' := 0) hz rfl hs lk_11_33 mv_cc_tick rfl rfl rfl rfl rfl (fun _ h => h) (Nat.le_refl _) (Nat.le_refl _) ?_
    refine en_s_i2l rfl ?_
    refine en_s_last (x := 0) (w := lw_id y) rfl rfl lw_wa ?_
    refine en_s_goto rfl ?_
    refine en_s_iconst rfl ?_
    exact en_s_iret rfl rfl
theorem mdh_lw_told : en_mdH M_lw_told := ⟨by decide +kernel, rfl, rfl, en_ok_of ck_lw_told⟩
theorem mh_lw_told : en_mtH M_lw_told 4 := ⟨rfl, mw_lw_told.1, mw_lw_told.2.1, mw_lw_told.2.2, ⟨by decide +kernel, by decide +kernel⟩, by decide +kernel, rfl⟩
theorem h_lw_told (G : en_G) (hz : G.2.2.2.2.2.2.2.2 = none) (d : Nat) {cs : List en_A} {σ : en_M} {v1 v2 : Int32} {a : Nat ⊕ Int32} {x th : Int32} (h : k_cc_told v1 v2 σ = some a) (he : rl_A [(2, 1), (3, 2)] a x th) : en_Mt G (d + 7) 1 6 M_lw_told [.inr (.inl (some (14, 0, 0))), .inl v1, .inl v2, .inr (.inl (some (36, 0, 0)))] cs en_rf σ (.inr (some (.inl th))) cs en_rf (lw_out lw_id a σ) := by
  have hs := s_cc_told G hz d (cs := cs) h
  cases a with
  | inl n =>
    simp only [rl_A, List.mem_cons, Prod.mk.injEq, List.not_mem_nil, or_false] at he
    rcases he with ⟨rfl, rfl⟩ | ⟨rfl, rfl⟩
    · refine en_methH (ls := [some (.inr (.inl (some (14, 0, 0)))), some (.inl v1), some (.inl v2), some (.inr (.inl (some (36, 0, 0)))), none]) mdh_lw_told rfl rfl rfl ?_
      refine en_s_aload_n rfl rfl ?_
      refine en_s_iconst rfl ?_
      refine en_s_aload_n rfl rfl ?_
      refine en_s_iload_n rfl rfl ?_
      refine en_s_iload_n rfl rfl ?_
      exact en_catch (as := [.inl v1, .inl v2]) (rest := [.inl 0, .inr (.inl (some (36, 0, 0)))]) [] [(0, 10, 17, 44)] hz rfl hs lk_11_39 mv_cc_told rfl rfl rfl rfl rfl (Nat.le_refl _) (Nat.le_refl _) rfl rfl (by intro z hz9; cases hz9) (by decide) ⟨by decide, by decide⟩ (Or.inl ⟨_, rfl⟩) rfl rfl rfl rfl rfl
    · refine en_methH (ls := [some (.inr (.inl (some (14, 0, 0)))), some (.inl v1), some (.inl v2), some (.inr (.inl (some (36, 0, 0)))), none]) mdh_lw_told rfl rfl rfl ?_
      refine en_s_aload_n rfl rfl ?_
      refine en_s_iconst rfl ?_
      refine en_s_aload_n rfl rfl ?_
      refine en_s_iload_n rfl rfl ?_
      refine en_s_iload_n rfl rfl ?_
      exact en_catch (as := [.inl v1, .inl v2]) (rest := [.inl 0, .inr (.inl (some (36, 0, 0)))]) [(0, 10, 13, 42)] [] hz rfl hs lk_11_39 mv_cc_told rfl rfl rfl rfl rfl (Nat.le_refl _) (Nat.le_refl _) rfl rfl (by intro z hz9; obtain rfl := List.mem_singleton.mp hz9; exact ⟨2, by decide, by decide⟩) (by decide) ⟨by decide, by decide⟩ (Or.inl ⟨_, rfl⟩) rfl rfl rfl rfl rfl
  | inr y =>
    obtain ⟨rfl, -⟩ := he
    refine en_methH (ls := [some (.inr (.inl (some (14, 0, 0)))), some (.inl v1), some (.inl v2), some (.inr (.inl (some (36, 0, 0)))), none]) mdh_lw_told rfl rfl rfl ?_
    refine en_s_aload_n rfl rfl ?_
    refine en_s_iconst rfl ?_
    refine en_s_aload_n rfl rfl ?_
    refine en_s_iload_n rfl rfl ?_
    refine en_s_iload_n rfl rfl ?_
    refine en_callV (as := [.inl v1, .inl v2]) (rest := [.inl 0, .inr (.inl (some (36, 0, 0)))]) (vv := some (.inl y)) (bc' := 0) (bs' := 0) hz rfl hs lk_11_39 mv_cc_told rfl rfl rfl rfl rfl (fun _ h => h) (Nat.le_refl _) (Nat.le_refl _) ?_
    refine en_s_i2l rfl ?_
    refine en_s_last (x := 0) (w := lw_id y) rfl rfl lw_wa ?_
    refine en_s_goto rfl ?_
    refine en_s_iconst rfl ?_
    exact en_s_iret rfl rfl
theorem mdh_lw_undo : en_mdH M_lw_undo := ⟨by decide +kernel, rfl, rfl, en_ok_of ck_lw_undo⟩
theorem mh_lw_undo : en_mtH M_lw_undo 2 := ⟨rfl, mw_lw_undo.1, mw_lw_undo.2.1, mw_lw_undo.2.2, ⟨by decide +kernel, by decide +kernel⟩, by decide +kernel, rfl⟩
theorem h_lw_undo (G : en_G) (hz : G.2.2.2.2.2.2.2.2 = none) (d : Nat) {cs : List en_A} {σ σ1 : en_M} {a : Nat ⊕ Int32} {x th : Int32} (h : k_cc_undo  σ = some (a, σ1)) (he : rl_A [(1, 1)] a x th) : en_Mt G (d + 7) 1 6 M_lw_undo [.inr (.inl (some (14, 0, 0))), .inr (.inl (some (36, 0, 0)))] cs en_rf σ (.inr (some (.inl th))) cs en_rf (lw_out lw_id a σ1) := by
  have hs := s_cc_undo G hz d (cs := cs) h
  cases a with
  | inl n =>
    simp only [rl_A, List.mem_cons, Prod.mk.injEq, List.not_mem_nil, or_false] at he
    rcases he with ⟨rfl, rfl⟩
    · refine en_methH (ls := [some (.inr (.inl (some (14, 0, 0)))), some (.inr (.inl (some (36, 0, 0)))), none]) mdh_lw_undo rfl rfl rfl ?_
      refine en_s_aload_n rfl rfl ?_
      refine en_s_iconst rfl ?_
      refine en_s_aload_n rfl rfl ?_
      exact en_catch (as := []) (rest := [.inl 0, .inr (.inl (some (36, 0, 0)))]) [] [] hz rfl hs lk_11_36 mv_cc_undo rfl rfl rfl rfl rfl (Nat.le_refl _) (Nat.le_refl _) rfl rfl (by intro z hz9; cases hz9) (by decide) ⟨by decide, by decide⟩ (Or.inr ⟨_, rfl⟩) rfl rfl rfl rfl rfl
  | inr y =>
    obtain ⟨rfl, -⟩ := he
    refine en_methH (ls := [some (.inr (.inl (some (14, 0, 0)))), some (.inr (.inl (some (36, 0, 0)))), none]) mdh_lw_undo rfl rfl rfl ?_
    refine en_s_aload_n rfl rfl ?_
    refine en_s_iconst rfl ?_
    refine en_s_aload_n rfl rfl ?_
    refine en_callV (as := []) (rest := [.inl 0, .inr (.inl (some (36, 0, 0)))]) (vv := some (.inl y)) (bc' := 0) (bs' := 0) hz rfl hs lk_11_36 mv_cc_undo rfl rfl rfl rfl rfl (fun _ h => h) (Nat.le_refl _) (Nat.le_refl _) ?_
    refine en_s_i2l rfl ?_
    refine en_s_last (x := 0) (w := lw_id y) rfl rfl lw_wa ?_
    refine en_s_goto rfl ?_
    refine en_s_iconst rfl ?_
    exact en_s_iret rfl rfl
theorem mdh_lw_works : en_mdH M_lw_works := ⟨by decide +kernel, rfl, rfl, en_ok_of ck_lw_works⟩
theorem mh_lw_works : en_mtH M_lw_works 3 := ⟨rfl, mw_lw_works.1, mw_lw_works.2.1, mw_lw_works.2.2, ⟨by decide +kernel, by decide +kernel⟩, by decide +kernel, rfl⟩
theorem h_lw_works (G : en_G) (hz : G.2.2.2.2.2.2.2.2 = none) (d : Nat) {cs : List en_A} {σ σ1 : en_M} {v1 : Int32} {a : Nat ⊕ Int32} {x th : Int32} (h : k_cc_works v1 σ = some (a, σ1)) (he : rl_A [(0, 1)] a x th) : en_Mt G (d + 7) 1 6 M_lw_works [.inr (.inl (some (14, 0, 0))), .inl v1, .inr (.inl (some (36, 0, 0)))] cs en_rf σ (.inr (some (.inl th))) cs en_rf (lw_out lw_id a σ1) := by
  have hs := s_cc_works G hz d (cs := cs) h
  cases a with
  | inl n =>
    simp only [rl_A, List.mem_cons, Prod.mk.injEq, List.not_mem_nil, or_false] at he
    rcases he with ⟨rfl, rfl⟩
    · refine en_methH (ls := [some (.inr (.inl (some (14, 0, 0)))), some (.inl v1), some (.inr (.inl (some (36, 0, 0)))), none]) mdh_lw_works rfl rfl rfl ?_
      refine en_s_aload_n rfl rfl ?_
      refine en_s_iconst rfl ?_
      refine en_s_aload_n rfl rfl ?_
      refine en_s_iload_n rfl rfl ?_
      exact en_catch (as := [.inl v1]) (rest := [.inl 0, .inr (.inl (some (36, 0, 0)))]) [] [] hz rfl hs lk_11_84 mv_cc_works rfl rfl rfl rfl rfl (Nat.le_refl _) (Nat.le_refl _) rfl rfl (by intro z hz9; cases hz9) (by decide) ⟨by decide, by decide⟩ (Or.inr ⟨_, rfl⟩) rfl rfl rfl rfl rfl
  | inr y =>
    obtain ⟨rfl, -⟩ := he
    refine en_methH (ls := [some (.inr (.inl (some (14, 0, 0)))), some (.inl v1), some (.inr (.inl (some (36, 0, 0)))), none]) mdh_lw_works rfl rfl rfl ?_
    refine en_s_aload_n rfl rfl ?_
    refine en_s_iconst rfl ?_
    refine en_s_aload_n rfl rfl ?_
    refine en_s_iload_n rfl rfl ?_
    refine en_callV (as := [.inl v1]) (rest := [.inl 0, .inr (.inl (some (36, 0, 0)))]) (vv := some (.inl y)) (bc' := 0) (bs' := 0) hz rfl hs lk_11_84 mv_cc_works rfl rfl rfl rfl rfl (fun _ h => h) (Nat.le_refl _) (Nat.le_refl _) ?_
    refine en_s_i2l rfl ?_
    refine en_s_last (x := 0) (w := lw_id y) rfl rfl lw_wa ?_
    refine en_s_goto rfl ?_
    refine en_s_iconst rfl ?_
    exact en_s_iret rfl rfl

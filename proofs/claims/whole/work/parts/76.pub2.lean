/-! More acts as they are called. -/
theorem en_b1_inv {α γ : Type} {x : Option α} {f : α → Option γ} {r : γ} (h : en_b1 x f = some r) : ∃ a, x = some a ∧ f a = some r := by
  cases x with
  | none => exact nomatch h
  | some a => exact ⟨a, rfl, h⟩
theorem wy_drop {g : Nat} {v code : Int32} {σ : en_M} (h : k_cd_whyNoDrop g v σ = some code) : code = 0 ∨ ¬ code ≤ 0 := by
  rw [k_cd_whyNoDrop] at h
  obtain ⟨a, -, h⟩ := en_b1_inv h
  cases a with
  | none =>
    simp only [Option.some.injEq] at h
    subst h
    exact Or.inr (by decide)
  | some z =>
    simp only [] at h
    split at h
    · split at h
      · exact Or.inl (Option.some.inj h).symm
      · rw [← Option.some.inj h]
        exact Or.inr (by decide)
    · rw [← Option.some.inj h]
      exact Or.inr (by decide)
theorem wy_pause {g : Nat} {v w code : Int32} {σ : en_M} (h : k_cd_whyNoPause g v w σ = some code) : code = 0 ∨ ¬ code ≤ 0 := by
  rw [k_cd_whyNoPause] at h
  obtain ⟨a, -, h⟩ := en_b1_inv h
  cases a with
  | none =>
    simp only [Option.some.injEq] at h
    subst h
    exact Or.inr (by decide)
  | some z =>
    simp only [] at h
    split at h
    · rw [← Option.some.inj h]
      exact Or.inr (by decide)
    · exact Or.inl (Option.some.inj h).symm
theorem wy_rate {g : Nat} {v code : Int32} {σ : en_M} (h : k_cd_whyNoRate g v σ = some code) : code = 0 ∨ ¬ code ≤ 0 := by
  rw [k_cd_whyNoRate] at h
  obtain ⟨a, -, h⟩ := en_b1_inv h
  cases a with
  | none =>
    simp only [Option.some.injEq] at h
    subst h
    exact Or.inr (by decide)
  | some z => exact Or.inl (Option.some.inj h).symm
theorem wy_send {g : Nat} {v code : Int32} {σ : en_M} (h : k_cd_whyNoSend g v σ = some code) : code = 0 ∨ ¬ code ≤ 0 := by
  rw [k_cd_whyNoSend] at h
  obtain ⟨a, -, h⟩ := en_b1_inv h
  cases a with
  | none =>
    simp only [Option.some.injEq] at h
    subst h
    exact Or.inr (by decide)
  | some z =>
    simp only [] at h
    split at h
    · exact Or.inl (Option.some.inj h).symm
    · rw [← Option.some.inj h]
      exact Or.inr (by decide)
theorem pb_drop {σ τ : en_M} {t : Nat} (h : Rel σ τ t) (v : Int32) : ∃ a x σ1 τ1, k_cc_drop v σ = some (a, σ1) ∧ k_mm_drop v τ = some (x, τ1) ∧ rl_A [(1, 1)] a x (τ1 24 0 0 0) ∧ Rel σ1 τ1 t := by
  have ht := h.2.2.2.2.2.2
  obtain ⟨s1, a1, a2, a3, ⟨A, a4⟩, a5⟩ := rl_aside (τ0 := τ) h (fun _ _ => rfl) (fun _ _ => rfl)
  obtain ⟨code, s5, c1, c2, c3, c4, c5, c6⟩ := dr_drop a4 v
  by_cases hc : code = 0
  · subst hc
    obtain ⟨s4, b1, b2, b3⟩ := rl_yes a5 (fun x hx => by rw [a3 x hx, a2 25 (by decide)])
    obtain ⟨code', s5', e1, e2, e3, e4, e5, e6⟩ := dr_drop (PR_fr a4 b2) v
    rw [c2] at e2
    obtain ⟨rfl, rfl⟩ := Prod.mk.inj (Option.some.inj e2)
    obtain ⟨x, σ1, A1, g1, g2, g3, g4⟩ := e4 rfl
    obtain ⟨τ1, d1, d2, d3, d4, -⟩ := b3 σ1 s5 A1 t 1 (fun j g q => f_cd_dropSend g1 j g (by simp; omega)) (rl_mfr (f_mm_drop0 c2)) g4 (Nat.le_refl _) ht
    refine ⟨.inr x, x, σ1, τ1, ?_, ?_, ⟨d4, rfl⟩, d2⟩
    · rw [k_cc_drop, c1, pu_b1, b1, pu_b2]
      show en_b2 (k_cd_dropSend 0 v s4) _ = _
      rw [g1, pu_b2]
    · rw [k_mm_drop, a1, pu_b1, g2, if_neg (by decide), g3, pu_b1, c2, pu_b2, d1, pu_b2, if_neg (by decide)]
  · have hpos := (wy_drop c1).resolve_left hc
    obtain ⟨σ', τ1, d1, d2, d3, d4⟩ := rl_no (s5 := s5) a5 (rl_mfr (f_mm_drop0 c2)) (by rw [c3 hc]) (code := code) (th := 1) hpos
    refine ⟨.inl 1, 0, σ', τ1, ?_, ?_, ?_, d3⟩
    · rw [k_cc_drop, c1, pu_b1, d1, pu_b2]
      rfl
    · by_cases hi : k_mm_isIn v (s1 25 0 0 6) ((s1 25 0 0 5) - 1) = 0
      · rw [k_mm_drop, a1, pu_b1, if_pos hi, c2, pu_b2, d2, pu_b2, if_pos rfl]
      · obtain ⟨y, hy⟩ := c6.resolve_left hi
        rw [k_mm_drop, a1, pu_b1, if_neg hi, hy, pu_b1, c2, pu_b2, d2, pu_b2, if_pos rfl]
    · show (_, _) ∈ _
      rw [d4]
      simp
theorem lb_of {τ s : en_M} (h : τ 25 0 = s 25 0) (v w : Int32) : k_mm_of v w τ = k_mm_of v w s := by rw [k_mm_of, k_mm_of, h]
theorem lb_pcs {τ s : en_M} (h : τ 25 0 = s 25 0) (v : Int32) : k_mm_piecesOf v τ = k_mm_piecesOf v s := by simp only [k_mm_piecesOf, k_mm_cutsOf, lb_of h]
theorem lb_left {τ s : en_M} (h : τ 25 0 = s 25 0) (v w : Int32) : k_mm_hasLeft v w τ = k_mm_hasLeft v w s := by rw [k_mm_hasLeft, k_mm_hasLeft, h]
theorem lb_46 {τ s : en_M} (h : τ 25 0 = s 25 0) : ∀ (F : Nat) (v1 v2 v3 v4 : Int32), k_mm_leftBehind_46 F v1 v2 v3 v4 τ = k_mm_leftBehind_46 F v1 v2 v3 v4 s := by
  intro F
  induction F with
  | zero => intros; rfl
  | succ F ih =>
    intro v1 v2 v3 v4
    simp only [k_mm_leftBehind_46, lb_pcs h, lb_left h, ih]
theorem lb_10 {τ s : en_M} (h : τ 25 0 = s 25 0) : ∀ (F : Nat) (v1 v2 v3 : Int32), k_mm_leftBehind_10 F v1 v2 v3 τ = k_mm_leftBehind_10 F v1 v2 v3 s := by
  intro F
  induction F with
  | zero => intros; rfl
  | succ F ih =>
    intro v1 v2 v3
    simp only [k_mm_leftBehind_10, lb_of h, lb_46 h, ih, h]
theorem lb_row {τ s : en_M} (h : τ 25 0 = s 25 0) {v : Int32} : k_mm_leftBehind v τ = k_mm_leftBehind v s := by rw [k_mm_leftBehind, k_mm_leftBehind, lb_10 h, h]
theorem pb_pause1 {σ τ : en_M} {t p : Nat} (h : Rel σ τ t) (v : Int32) (hp : p ≤ 1) : ∃ a x σ1 τ1, (en_b1 (k_cd_whyNoPause 0 v (nI p) σ) fun t16 => en_b2 (k_cc_startAct t16 σ) fun t18 s19 => en_tx t18 (fun n21 => some (.inl n21, s19)) (fun _ => en_b2 (k_cd_setPaused 0 v (nI p) s19) fun t27 s28 => some (.inr t27, s28))) = some (a, σ1) ∧ (en_b1 (k_mm_putsAside τ) fun s1 => en_b2 (k_mm_pause0 v (nI p) s1) fun t4 s5 => en_b2 (k_mm_isTold t4 1 s5) fun t7 s8 => if t7 = 0 then some (0, s8) else en_b1 (k_mm_leftBehind v s8) fun t11 => some (t11, s8)) = some (x, τ1) ∧ rl_A [(1, 1)] a x (τ1 24 0 0 0) ∧ Rel σ1 τ1 t := by
  have ht := h.2.2.2.2.2.2
  obtain ⟨s1, a1, a2, a3, ⟨A, a4⟩, a5⟩ := rl_aside (τ0 := τ) h (fun _ _ => rfl) (fun _ _ => rfl)
  obtain ⟨code, s5, c1, c2, c3, c4⟩ := fl_pause a4 v hp
  by_cases hc : code = 0
  · subst hc
    obtain ⟨s4, b1, b2, b3⟩ := rl_yes a5 (fun x hx => by rw [a3 x hx, a2 25 (by decide)])
    obtain ⟨code', s5', e1, e2, e3, e4⟩ := fl_pause (PR_fr a4 b2) v hp
    rw [c2] at e2
    obtain ⟨rfl, rfl⟩ := Prod.mk.inj (Option.some.inj e2)
    obtain ⟨x, σ1, A1, g1, g2, g4⟩ := e4 rfl
    obtain ⟨τ1, d1, d2, d3, d4, -⟩ := b3 σ1 s5 A1 t 1 (fun j g q => f_cd_setPaused g1 j g (by simp; omega)) (rl_mfr (f_mm_pause0 c2)) g4 (Nat.le_refl _) ht
    have hlb : k_mm_leftBehind v τ1 = some x := by
      rw [← g2]
      exact lb_row d3
    refine ⟨.inr x, x, σ1, τ1, ?_, ?_, ⟨d4, rfl⟩, d2⟩
    · rw [c1, pu_b1, b1, pu_b2]
      show en_b2 (k_cd_setPaused 0 v (nI p) s4) _ = _
      rw [g1, pu_b2]
    · rw [a1, pu_b1, c2, pu_b2, d1, pu_b2, if_neg (by decide), hlb, pu_b1]
  · have hpos := (wy_pause c1).resolve_left hc
    obtain ⟨σ', τ1, d1, d2, d3, d4⟩ := rl_no (s5 := s5) a5 (rl_mfr (f_mm_pause0 c2)) (by rw [c3 hc]) (code := code) (th := 1) hpos
    refine ⟨.inl 1, 0, σ', τ1, ?_, ?_, ?_, d3⟩
    · rw [c1, pu_b1, d1, pu_b2]
      rfl
    · rw [a1, pu_b1, c2, pu_b2, d2, pu_b2, if_pos rfl]
    · show (_, _) ∈ _
      rw [d4]
      simp
theorem pb_pause {σ τ : en_M} {t : Nat} (h : Rel σ τ t) (v w : Int32) : ∃ a x σ1 τ1, k_cc_pause v w σ = some (a, σ1) ∧ k_mm_pause v w τ = some (x, τ1) ∧ rl_A [(1, 1)] a x (τ1 24 0 0 0) ∧ Rel σ1 τ1 t := by
  by_cases hw : w = 0
  · obtain ⟨a, x, σ1, τ1, a1, a2, a3⟩ := pb_pause1 (p := 1) h v (by omega)
    refine ⟨a, x, σ1, τ1, ?_, ?_, a3⟩
    · rw [← a1, k_cc_pause, if_pos hw]
      simp only [if_pos hw]
      rfl
    · rw [← a2, k_mm_pause]
      simp only [if_pos hw]
      rfl
  · obtain ⟨a, x, σ1, τ1, a1, a2, a3⟩ := pb_pause1 (p := 0) h v (by omega)
    refine ⟨a, x, σ1, τ1, ?_, ?_, a3⟩
    · rw [← a1, k_cc_pause, if_neg hw]
      simp only [if_neg hw]
      rfl
    · rw [← a2, k_mm_pause]
      simp only [if_neg hw]
      rfl
theorem pb_rate {σ τ : en_M} {t : Nat} (h : Rel σ τ t) (v w : Int32) : ∃ a x σ1 τ1, k_cc_rate v w σ = some (a, σ1) ∧ k_mm_rate v w τ = some (x, τ1) ∧ rl_A [(0, 1), (1, 2)] a x (τ1 24 0 0 0) ∧ Rel σ1 τ1 t := by
  have ht := h.2.2.2.2.2.2
  by_cases hv : k_mm_isIn w 0 999 = 0
  · refine ⟨.inl 0, 0, σ, en_wr τ 24 0 0 0 1, ?_, ?_, ?_, rl_th h 1⟩
    · rw [k_cc_rate, in_eq, if_pos hv]
    · rw [k_mm_rate, if_pos hv, pu_let, pu_wr_eq, if_neg (by decide)]
    · show (_, _) ∈ _
      rw [pu_wr_eq]
      simp
  · obtain ⟨c, rfl, -, hc9⟩ := in_of (a := 0) (b := 999) (by decide) (by decide) hv
    obtain ⟨s14, h14⟩ : ∃ z, en_wr τ 24 0 0 0 0 = z := ⟨_, rfl⟩
    obtain ⟨s1, a1, a2, a3, ⟨A, a4⟩, a5⟩ := rl_aside (τ0 := s14) h (fun k q => by rw [← h14, pu_wr_k q]) (fun j q => by rw [← h14, pu_wr_j q])
    have hh0 : s14 24 0 0 0 ≤ 0 := by rw [← h14, pu_wr_eq]; decide
    have a25 : s1 25 0 0 = τ 25 0 0 := by rw [a2 25 (by decide), ← h14, pu_wr_j (by decide)]
    obtain ⟨code, s5, c1, c2, c3, c4, c5⟩ := fl_rate a4 v hc9
    by_cases hc : code = 0
    · subst hc
      obtain ⟨s4, b1, b2, b3⟩ := rl_yes a5 (fun x hx => by rw [a3 x hx, a25])
      obtain ⟨code', s5', e1, e2, e3, e4, e5⟩ := fl_rate (PR_fr a4 b2) v hc9
      rw [c2] at e2
      obtain ⟨rfl, rfl⟩ := Prod.mk.inj (Option.some.inj e2)
      obtain ⟨x, σ1, A1, g1, g2, g3, g4⟩ := e4 rfl
      obtain ⟨τ1, d1, d2, d3, d4, -⟩ := b3 σ1 s5 A1 t 2 (fun j g q => f_cd_setRate g1 j g (by simp; omega)) (rl_mfr (f_mm_rate0 c2)) g4 (Nat.le_refl _) ht
      refine ⟨.inr x, x, σ1, τ1, ?_, ?_, ⟨d4, rfl⟩, d2⟩
      · rw [k_cc_rate, in_eq, if_neg hv, c1, pu_b1, b1, pu_b2]
        show en_b2 (k_cd_setRate 0 v (nI c) s4) _ = _
        rw [g1, pu_b2]
      · rw [k_mm_rate, if_neg hv, pu_let, h14, if_pos hh0, a1, pu_b1, g2, if_neg (by decide), g3, pu_b1, c2, pu_b2, d1, pu_b2, if_neg (by decide)]
    · have hpos := (wy_rate c1).resolve_left hc
      obtain ⟨σ', τ1, d1, d2, d3, d4⟩ := rl_no (s5 := s5) a5 (rl_mfr (f_mm_rate0 c2)) (by rw [c3 hc]) (code := code) (th := 2) hpos
      refine ⟨.inl 1, 0, σ', τ1, ?_, ?_, ?_, d3⟩
      · rw [k_cc_rate, in_eq, if_neg hv, c1, pu_b1, d1, pu_b2]
        rfl
      · rw [k_mm_rate, if_neg hv, pu_let, h14, if_pos hh0, a1, pu_b1, c5 hc, if_pos rfl, c2, pu_b2, d2, pu_b2, if_pos rfl]
      · show (_, _) ∈ _
        rw [d4]
        simp
theorem pb_send {σ τ : en_M} {t : Nat} (h : Rel σ τ t) (ht : t + 1 ≤ 7168) (v v2 v3 v4 : Int32) : ∃ a x σ1 τ1, k_cc_send v v2 v3 v4 σ = some (a, σ1) ∧ k_mm_send v v2 v3 v4 τ = some (x, τ1) ∧ rl_A [(0, 1), (1, 2)] a x (τ1 24 0 0 0) ∧ Rel σ1 τ1 (t + 1) := by
  have hbad : (k_cc_send v v2 v3 v4 σ = some (.inl 0, σ) ∧ k_mm_send v v2 v3 v4 τ = some (0, en_wr τ 24 0 0 0 1)) → ∃ a x σ1 τ1, k_cc_send v v2 v3 v4 σ = some (a, σ1) ∧ k_mm_send v v2 v3 v4 τ = some (x, τ1) ∧ rl_A [(0, 1), (1, 2)] a x (τ1 24 0 0 0) ∧ Rel σ1 τ1 (t + 1) := fun q => by
    refine ⟨_, _, _, _, q.1, q.2, ?_, Rel_mono (rl_th h 1) (Nat.le_succ _) ht⟩
    show (_, _) ∈ _
    rw [pu_wr_eq]
    simp
  by_cases h2 : k_mm_isIn v2 1 200 = 0
  · refine hbad ⟨?_, ?_⟩
    · rw [k_cc_send, in_eq, if_pos h2]
    · rw [k_mm_send, if_pos h2, pu_let, pu_wr_eq, if_neg (by decide)]
  by_cases h3 : k_mm_isIn v3 10 100 = 0
  · refine hbad ⟨?_, ?_⟩
    · rw [k_cc_send, in_eq, if_neg h2, in_eq, if_pos h3]
    · rw [k_mm_send, if_neg h2, if_pos h3, pu_let, pu_wr_eq, if_neg (by decide)]
  by_cases h4 : k_mm_isIn v4 0 9999 = 0
  · refine hbad ⟨?_, ?_⟩
    · rw [k_cc_send, in_eq, if_neg h2, in_eq, if_neg h3, in_eq, if_pos h4]
    · rw [k_mm_send, if_neg h2, if_neg h3, if_pos h4, pu_let, pu_wr_eq, if_neg (by decide)]
  obtain ⟨l, rfl, l1, l2⟩ := in_of (a := 1) (b := 200) (by decide) (by decide) h2
  obtain ⟨c, rfl, k1, k2⟩ := in_of (a := 10) (b := 100) (by decide) (by decide) h3
  obtain ⟨b, rfl, -, n2⟩ := in_of (a := 0) (b := 9999) (by decide) (by decide) h4
  obtain ⟨s14, h14⟩ : ∃ z, en_wr τ 24 0 0 0 0 = z := ⟨_, rfl⟩
  obtain ⟨s1, a1, a2, a3, ⟨A, a4⟩, a5⟩ := rl_aside (τ0 := s14) h (fun k q => by rw [← h14, pu_wr_k q]) (fun j q => by rw [← h14, pu_wr_j q])
  have hh0 : s14 24 0 0 0 ≤ 0 := by rw [← h14, pu_wr_eq]; decide
  have a25 : s1 25 0 0 = τ 25 0 0 := by rw [a2 25 (by decide), ← h14, pu_wr_j (by decide)]
  obtain ⟨code, s5, c1, c2, c3, c4⟩ := po_send a4 ht v ⟨l1, l2⟩ ⟨k1, k2⟩ n2
  by_cases hc : code = 0
  · subst hc
    obtain ⟨s4, b1, b2, b3⟩ := rl_yes a5 (fun x hx => by rw [a3 x hx, a25])
    obtain ⟨code', s5', e1, e2, e3, e4⟩ := po_send (PR_fr a4 b2) ht v ⟨l1, l2⟩ ⟨k1, k2⟩ n2
    rw [c2] at e2
    obtain ⟨rfl, rfl⟩ := Prod.mk.inj (Option.some.inj e2)
    obtain ⟨x, σ1, A1, g1, g4, g2⟩ := e4 rfl
    obtain ⟨τ1, d1, d2, d3, d4, -⟩ := b3 σ1 s5 A1 (t + 1) 2 (fun j g q => f_cd_post g1 j g (by simp; omega)) (rl_mfr (f_mm_send0 c2)) g4 (Nat.le_succ _) ht
    refine ⟨.inr x, x, σ1, τ1, ?_, ?_, ⟨d4, rfl⟩, d2⟩
    · rw [k_cc_send, in_eq, if_neg h2, in_eq, if_neg h3, in_eq, if_neg h4, c1, pu_b1, b1, pu_b2]
      show en_b2 (k_cd_post 0 v (nI l) (nI c) (nI b) s4) _ = _
      rw [g1, pu_b2]
    · rw [k_mm_send, if_neg h2, if_neg h3, if_neg h4, pu_let, h14, if_pos hh0, a1, pu_b1, c2, pu_b2, d1, pu_b2, if_neg (by decide), d3, g2]
  · have hpos := (wy_send c1).resolve_left hc
    obtain ⟨σ', τ1, d1, d2, d3, d4⟩ := rl_no (s5 := s5) a5 (rl_mfr (f_mm_send0 c2)) (by rw [c3 hc]) (code := code) (th := 2) hpos
    refine ⟨.inl 1, 0, σ', τ1, ?_, ?_, ?_, Rel_mono d3 (Nat.le_succ _) ht⟩
    · rw [k_cc_send, in_eq, if_neg h2, in_eq, if_neg h3, in_eq, if_neg h4, c1, pu_b1, d1, pu_b2]
      rfl
    · rw [k_mm_send, if_neg h2, if_neg h3, if_neg h4, pu_let, h14, if_pos hh0, a1, pu_b1, c2, pu_b2, d2, pu_b2, if_pos rfl]
    · show (_, _) ∈ _
      rw [d4]
      simp

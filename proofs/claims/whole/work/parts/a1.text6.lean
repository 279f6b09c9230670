/-! Texts: the nine acts. -/
section tqq
variable {B : Nat → Nat} {l : Nat}
theorem tq_0 {σ τ : en_M} {t : Nat} {A : ab_A} (R0 : tx_R σ τ B l) (hA : ab_PR σ 0 (τ 25 0 0) A t) (ht : t + 1 ≤ 7168) : tq_P 0 σ τ B l (t + 1) := by
  obtain ⟨x0, o0, s1, y0, n1, c0, w0, m0, f0, g0, u0, R1⟩ := tn_put R0 0 1 8 (by decide) (by decide)
  replace c0 : k_tp_takeNumber 1 8 σ = _ := c0
  replace m0 : k_mm_number 1 8 τ = _ := m0
  rcases R1 with ⟨R1, v0, lo0, hi0, rfl, e0⟩ | ⟨w, X1⟩
  rotate_left
  · skip
    obtain ⟨c1, m1⟩ := tn_numX X1 1 40
    obtain ⟨s2, w1, X2, g1⟩ := tn_putX X1 1 (-1)
    obtain ⟨n2, hn2⟩ : ∃ z, z = n1 := ⟨_, rfl⟩
    rw [← hn2] at X2 m1
    subst hn2
    obtain ⟨c2, m2⟩ := tn_numX X2 1 8
    obtain ⟨s3, w2, X3, g2⟩ := tn_putX X2 2 (-1)
    obtain ⟨n3, hn3⟩ : ∃ z, z = n2 := ⟨_, rfl⟩
    rw [← hn3] at X3 m2
    subst hn3
    refine ⟨s3, _, 0, ?_, (tg_tr (tg_tr g0 g1) g2), ?_, mf_t f0, Or.inl ⟨w, X3, rfl⟩⟩
    · rw [k_cc_readNumbers, if_pos (show nI 0 = 0 from rfl), c0, pu_b2, pu_let, w0, c1, pu_b2, pu_let, w1, c2, pu_b2, pu_let, w2]
    · show tb_card τ = _
      rw [tb_card, k_mm_cardText, m0, pu_b2, m1, pu_b2, m2, pu_b2, if_neg (tx_X_ne X3), pu_b1]
  obtain ⟨x1, o1, s2, y1, n2, c1, w1, m1, f1, g1, u1, R2⟩ := tn_put R1 1 1 40 (by decide) (by decide)
  replace c1 : k_tp_takeNumber 1 40 s1 = _ := c1
  replace m1 : k_mm_number 1 40 n1 = _ := m1
  rcases R2 with ⟨R2, v1, lo1, hi1, rfl, e1⟩ | ⟨w, X2⟩
  rotate_left
  · skip
    obtain ⟨c2, m2⟩ := tn_numX X2 1 8
    obtain ⟨s3, w2, X3, g2⟩ := tn_putX X2 2 (-1)
    obtain ⟨n3, hn3⟩ : ∃ z, z = n2 := ⟨_, rfl⟩
    rw [← hn3] at X3 m2
    subst hn3
    refine ⟨s3, _, 0, ?_, (tg_tr (tg_tr g0 g1) g2), ?_, mf_t (tm_f_tr f0 f1), Or.inl ⟨w, X3, rfl⟩⟩
    · rw [k_cc_readNumbers, if_pos (show nI 0 = 0 from rfl), c0, pu_b2, pu_let, w0, c1, pu_b2, pu_let, w1, c2, pu_b2, pu_let, w2]
    · show tb_card τ = _
      rw [tb_card, k_mm_cardText, m0, pu_b2, m1, pu_b2, m2, pu_b2, if_neg (tx_X_ne X3), pu_b1]
  obtain ⟨x2, o2, s3, y2, n3, c2, w2, m2, f2, g2, u2, R3⟩ := tn_put R2 2 1 8 (by decide) (by decide)
  replace c2 : k_tp_takeNumber 1 8 s2 = _ := c2
  replace m2 : k_mm_number 1 8 n2 = _ := m2
  rcases R3 with ⟨R3, v2, lo2, hi2, rfl, e2⟩ | ⟨w, X3⟩
  rotate_left
  · skip
    refine ⟨s3, _, 0, ?_, (tg_tr (tg_tr g0 g1) g2), ?_, mf_t (tm_f_tr (tm_f_tr f0 f1) f2), Or.inl ⟨w, X3, rfl⟩⟩
    · rw [k_cc_readNumbers, if_pos (show nI 0 = 0 from rfl), c0, pu_b2, pu_let, w0, c1, pu_b2, pu_let, w1, c2, pu_b2, pu_let, w2]
    · show tb_card τ = _
      rw [tb_card, k_mm_cardText, m0, pu_b2, m1, pu_b2, m2, pu_b2, if_neg (tx_X_ne X3), pu_b1]
  have z0 : s3 22 0 0 0 = nI v0 := by rw [u2 0 (by decide), u1 0 (by decide), e0]
  have z1 : s3 22 0 0 1 = nI v1 := by rw [u2 1 (by decide), e1]
  have z2 : s3 22 0 0 2 = nI v2 := by rw [e2]
  have hP := tq_PR hA (tg_tr (tg_tr g0 g1) g2) (tm_f_tr (tm_f_tr f0 f1) f2)
  obtain ⟨σ1, τ2, e1, e2, e3⟩ := nc_card (σ := s3) (τ := n3) (g := 0) ⟨lo0, hi0⟩ ⟨lo1, hi1⟩ ⟨lo2, hi2⟩ ht hP.1.1.2.2.2.1
  refine ⟨s3, τ2, 0, ?_, (tg_tr (tg_tr g0 g1) g2), ?_, mf_tr (mf_t (tm_f_tr (tm_f_tr f0 f1) f2)) (mf_m (rl_mfr (f_mm_clears e2))), Or.inr ⟨tx_R_m R3 (rl_mfr (f_mm_clears e2)), by rw [k_cc_refusalOf, if_neg (show ¬ nI 0 = 1 by decide), if_neg (show ¬ nI 0 = 2 by decide), if_neg (show ¬ nI 0 = 3 by decide), if_neg (show ¬ nI 0 = 4 by decide), if_neg (show ¬ nI 0 = 5 by decide), if_neg (show ¬ nI 0 = 6 by decide), if_neg (show ¬ nI 0 = 7 by decide), if_neg (show ¬ nI 0 = 8 by decide)], Or.inl rfl, fun _ => ⟨σ1, _, by rw [k_cc_perform, if_pos (show nI 0 = 0 from rfl), z0, z1, z2, e1, pu_b1], e3, fun j g q => f_cd_reset e1 j g (by simp; omega)⟩⟩⟩
  · rw [k_cc_readNumbers, if_pos (show nI 0 = 0 from rfl), c0, pu_b2, pu_let, w0, c1, pu_b2, pu_let, w1, c2, pu_b2, pu_let, w2]
  · show tb_card τ = _
    rw [tb_card, k_mm_cardText, m0, pu_b2, m1, pu_b2, m2, pu_b2, if_pos (tx_R_eq R3), e2, pu_b1, pu_b1]
theorem tq_1 {σ τ : en_M} {t : Nat} {A : ab_A} (R0 : tx_R σ τ B l) (hA : ab_PR σ 0 (τ 25 0 0) A t) (ht : t + 1 ≤ 7168) : tq_P 1 σ τ B l (t + 1) := by
  obtain ⟨x0, o0, s1, y0, n1, c0, w0, m0, f0, g0, u0, R1⟩ := tn_put R0 0 0 999 (by decide) (by decide)
  replace c0 : k_tp_takeNumber 0 999 σ = _ := c0
  replace m0 : k_mm_number 0 999 τ = _ := m0
  rcases R1 with ⟨R1, v0, lo0, hi0, rfl, e0⟩ | ⟨w, X1⟩
  rotate_left
  · skip
    obtain ⟨s2, n2, c1, w1, m1, f1, g1, X2⟩ := tn_behX X1 10 1
    refine ⟨s2, _, 0, ?_, (tg_tr g0 g1), ?_, mf_t (tm_f_tr f0 f1), Or.inl ⟨w, X2, rfl⟩⟩
    · rw [k_cc_readNumbers, if_neg (show ¬ nI 1 = 0 by decide), if_pos (show nI 1 = 1 from rfl), c0, pu_b2, pu_let, w0, c1, pu_b2, pu_let, w1]
    · show k_mm_flowText τ = _
      rw [k_mm_flowText, m0, pu_b2]
      refine (m1 (fun y s => if (s 24 0 0 12) = (-1) then en_b2 (k_mm_flow0 _ y s) (fun t9 s10 => some (t9, s10)) else some (0, s))).trans ?_
      show (if _ = _ then _ else _) = _
      rw [if_neg (tx_X_ne X2)]
  obtain ⟨x1, o1, s2, y1, n2, c1, w1, m1, f1, g1, u1, R2⟩ := tn_beh R1 (w := 10) (L := 4) 1 rfl (by decide) (by decide)
  rcases R2 with ⟨R2, v1, lo1, hi1, rfl, e1⟩ | ⟨w, X2⟩
  rotate_left
  · skip
    refine ⟨s2, _, 0, ?_, (tg_tr g0 g1), ?_, mf_t (tm_f_tr f0 f1), Or.inl ⟨w, X2, rfl⟩⟩
    · rw [k_cc_readNumbers, if_neg (show ¬ nI 1 = 0 by decide), if_pos (show nI 1 = 1 from rfl), c0, pu_b2, pu_let, w0, c1, pu_b2, pu_let, w1]
    · show k_mm_flowText τ = _
      rw [k_mm_flowText, m0, pu_b2]
      refine (m1 (fun y s => if (s 24 0 0 12) = (-1) then en_b2 (k_mm_flow0 _ y s) (fun t9 s10 => some (t9, s10)) else some (0, s))).trans ?_
      show (if _ = _ then _ else _) = _
      rw [if_neg (tx_X_ne X2)]
  have z0 : s2 22 0 0 0 = nI v0 := by rw [u1 0 (by decide), e0]
  have z1 : s2 22 0 0 1 = nI v1 := by rw [e1]
  have hP := tq_PR hA (tg_tr g0 g1) (tm_f_tr f0 f1)
  obtain ⟨code, τ2, e1, e2, e3, e4⟩ := nf_flow hP hi0 hi1
  refine ⟨s2, τ2, code, ?_, (tg_tr g0 g1), ?_, mf_tr (mf_t (tm_f_tr f0 f1)) (mf_m (rl_mfr (f_mm_flow0 e2))), Or.inr ⟨tx_R_m R2 (rl_mfr (f_mm_flow0 e2)), by rw [k_cc_refusalOf, if_pos (show nI 1 = 1 from rfl), e1], by rw [← e1, k_cd_whyNoFlow]; split <;> first | exact Or.inl rfl | exact Or.inr (by decide), fun q => (let ⟨σ1, A1, a1, a2⟩ := e4 q; ⟨σ1, A1, by rw [k_cc_perform, if_neg (show ¬ nI 1 = 0 by decide), if_pos (show nI 1 = 1 from rfl), z0, z1, a1, pu_b1], PR_mono a2 (Nat.le_succ _) ht, fun j g q => f_cd_addFlow a1 j g (by simp; omega)⟩)⟩⟩
  · rw [k_cc_readNumbers, if_neg (show ¬ nI 1 = 0 by decide), if_pos (show nI 1 = 1 from rfl), c0, pu_b2, pu_let, w0, c1, pu_b2, pu_let, w1]
  · show k_mm_flowText τ = _
    rw [k_mm_flowText, m0, pu_b2]
    refine (m1 (fun y s => if (s 24 0 0 12) = (-1) then en_b2 (k_mm_flow0 _ y s) (fun t9 s10 => some (t9, s10)) else some (0, s))).trans ?_
    show (if _ = _ then _ else _) = _
    rw [if_pos (tx_R_eq R2), e2, pu_b2]
theorem tq_2 {σ τ : en_M} {t : Nat} {A : ab_A} (R0 : tx_R σ τ B l) (hA : ab_PR σ 0 (τ 25 0 0) A t) (ht : t + 1 ≤ 7168) : tq_P 2 σ τ B l (t + 1) := by
  obtain ⟨x0, o0, s1, y0, n1, c0, w0, m0, f0, g0, u0, R1⟩ := tn_put R0 0 0 5 (by decide) (by decide)
  replace c0 : k_tp_takeNumber 0 5 σ = _ := c0
  replace m0 : k_mm_number 0 5 τ = _ := m0
  rcases R1 with ⟨R1, v0, lo0, hi0, rfl, e0⟩ | ⟨w, X1⟩
  rotate_left
  · skip
    obtain ⟨c1, m1⟩ := tn_numX X1 1 200
    obtain ⟨s2, w1, X2, g1⟩ := tn_putX X1 1 (-1)
    obtain ⟨n2, hn2⟩ : ∃ z, z = n1 := ⟨_, rfl⟩
    rw [← hn2] at X2 m1
    subst hn2
    obtain ⟨c2, m2⟩ := tn_numX X2 10 100
    obtain ⟨s3, w2, X3, g2⟩ := tn_putX X2 2 (-1)
    obtain ⟨n3, hn3⟩ : ∃ z, z = n2 := ⟨_, rfl⟩
    rw [← hn3] at X3 m2
    subst hn3
    obtain ⟨s4, n4, c3, w3, m3, f3, g3, X4⟩ := tn_behX X3 11 3
    refine ⟨s4, _, 0, ?_, (tg_tr (tg_tr (tg_tr g0 g1) g2) g3), ?_, mf_t (tm_f_tr f0 f3), Or.inl ⟨w, X4, rfl⟩⟩
    · rw [k_cc_readNumbers, if_neg (show ¬ nI 2 = 0 by decide), if_neg (show ¬ nI 2 = 1 by decide), if_pos (show nI 2 = 2 from rfl), c0, pu_b2, pu_let, w0, c1, pu_b2, pu_let, w1, c2, pu_b2, pu_let, w2, c3, pu_b2, pu_let, w3]
    · show k_mm_sendText τ = _
      rw [k_mm_sendText, m0, pu_b2, m1, pu_b2, m2, pu_b2]
      refine (m3 (fun y s => if (s 24 0 0 12) = (-1) then en_b2 (k_mm_send0 _ _ _ y s) (fun t9 s10 => some (t9, s10)) else some (0, s))).trans ?_
      show (if _ = _ then _ else _) = _
      rw [if_neg (tx_X_ne X4)]
  obtain ⟨x1, o1, s2, y1, n2, c1, w1, m1, f1, g1, u1, R2⟩ := tn_put R1 1 1 200 (by decide) (by decide)
  replace c1 : k_tp_takeNumber 1 200 s1 = _ := c1
  replace m1 : k_mm_number 1 200 n1 = _ := m1
  rcases R2 with ⟨R2, v1, lo1, hi1, rfl, e1⟩ | ⟨w, X2⟩
  rotate_left
  · skip
    obtain ⟨c2, m2⟩ := tn_numX X2 10 100
    obtain ⟨s3, w2, X3, g2⟩ := tn_putX X2 2 (-1)
    obtain ⟨n3, hn3⟩ : ∃ z, z = n2 := ⟨_, rfl⟩
    rw [← hn3] at X3 m2
    subst hn3
    obtain ⟨s4, n4, c3, w3, m3, f3, g3, X4⟩ := tn_behX X3 11 3
    refine ⟨s4, _, 0, ?_, (tg_tr (tg_tr (tg_tr g0 g1) g2) g3), ?_, mf_t (tm_f_tr (tm_f_tr f0 f1) f3), Or.inl ⟨w, X4, rfl⟩⟩
    · rw [k_cc_readNumbers, if_neg (show ¬ nI 2 = 0 by decide), if_neg (show ¬ nI 2 = 1 by decide), if_pos (show nI 2 = 2 from rfl), c0, pu_b2, pu_let, w0, c1, pu_b2, pu_let, w1, c2, pu_b2, pu_let, w2, c3, pu_b2, pu_let, w3]
    · show k_mm_sendText τ = _
      rw [k_mm_sendText, m0, pu_b2, m1, pu_b2, m2, pu_b2]
      refine (m3 (fun y s => if (s 24 0 0 12) = (-1) then en_b2 (k_mm_send0 _ _ _ y s) (fun t9 s10 => some (t9, s10)) else some (0, s))).trans ?_
      show (if _ = _ then _ else _) = _
      rw [if_neg (tx_X_ne X4)]
  obtain ⟨x2, o2, s3, y2, n3, c2, w2, m2, f2, g2, u2, R3⟩ := tn_put R2 2 10 100 (by decide) (by decide)
  replace c2 : k_tp_takeNumber 10 100 s2 = _ := c2
  replace m2 : k_mm_number 10 100 n2 = _ := m2
  rcases R3 with ⟨R3, v2, lo2, hi2, rfl, e2⟩ | ⟨w, X3⟩
  rotate_left
  · skip
    obtain ⟨s4, n4, c3, w3, m3, f3, g3, X4⟩ := tn_behX X3 11 3
    refine ⟨s4, _, 0, ?_, (tg_tr (tg_tr (tg_tr g0 g1) g2) g3), ?_, mf_t (tm_f_tr (tm_f_tr (tm_f_tr f0 f1) f2) f3), Or.inl ⟨w, X4, rfl⟩⟩
    · rw [k_cc_readNumbers, if_neg (show ¬ nI 2 = 0 by decide), if_neg (show ¬ nI 2 = 1 by decide), if_pos (show nI 2 = 2 from rfl), c0, pu_b2, pu_let, w0, c1, pu_b2, pu_let, w1, c2, pu_b2, pu_let, w2, c3, pu_b2, pu_let, w3]
    · show k_mm_sendText τ = _
      rw [k_mm_sendText, m0, pu_b2, m1, pu_b2, m2, pu_b2]
      refine (m3 (fun y s => if (s 24 0 0 12) = (-1) then en_b2 (k_mm_send0 _ _ _ y s) (fun t9 s10 => some (t9, s10)) else some (0, s))).trans ?_
      show (if _ = _ then _ else _) = _
      rw [if_neg (tx_X_ne X4)]
  obtain ⟨x3, o3, s4, y3, n4, c3, w3, m3, f3, g3, u3, R4⟩ := tn_beh R3 (w := 11) (L := 2) 3 rfl (by decide) (by decide)
  rcases R4 with ⟨R4, v3, lo3, hi3, rfl, e3⟩ | ⟨w, X4⟩
  rotate_left
  · skip
    refine ⟨s4, _, 0, ?_, (tg_tr (tg_tr (tg_tr g0 g1) g2) g3), ?_, mf_t (tm_f_tr (tm_f_tr (tm_f_tr f0 f1) f2) f3), Or.inl ⟨w, X4, rfl⟩⟩
    · rw [k_cc_readNumbers, if_neg (show ¬ nI 2 = 0 by decide), if_neg (show ¬ nI 2 = 1 by decide), if_pos (show nI 2 = 2 from rfl), c0, pu_b2, pu_let, w0, c1, pu_b2, pu_let, w1, c2, pu_b2, pu_let, w2, c3, pu_b2, pu_let, w3]
    · show k_mm_sendText τ = _
      rw [k_mm_sendText, m0, pu_b2, m1, pu_b2, m2, pu_b2]
      refine (m3 (fun y s => if (s 24 0 0 12) = (-1) then en_b2 (k_mm_send0 _ _ _ y s) (fun t9 s10 => some (t9, s10)) else some (0, s))).trans ?_
      show (if _ = _ then _ else _) = _
      rw [if_neg (tx_X_ne X4)]
  have z0 : s4 22 0 0 0 = nI v0 := by rw [u3 0 (by decide), u2 0 (by decide), u1 0 (by decide), e0]
  have z1 : s4 22 0 0 1 = nI v1 := by rw [u3 1 (by decide), u2 1 (by decide), e1]
  have z2 : s4 22 0 0 2 = nI v2 := by rw [u3 2 (by decide), e2]
  have z3 : s4 22 0 0 3 = nI v3 := by rw [e3]
  have hP := tq_PR hA (tg_tr (tg_tr (tg_tr g0 g1) g2) g3) (tm_f_tr (tm_f_tr (tm_f_tr f0 f1) f2) f3)
  obtain ⟨code, τ2, e1, e2, e3, e4⟩ := po_send hP ht (nI v0) ⟨lo1, hi1⟩ ⟨lo2, hi2⟩ hi3
  refine ⟨s4, τ2, code, ?_, (tg_tr (tg_tr (tg_tr g0 g1) g2) g3), ?_, mf_tr (mf_t (tm_f_tr (tm_f_tr (tm_f_tr f0 f1) f2) f3)) (mf_m (rl_mfr (f_mm_send0 e2))), Or.inr ⟨tx_R_m R4 (rl_mfr (f_mm_send0 e2)), by rw [k_cc_refusalOf, if_neg (show ¬ nI 2 = 1 by decide), if_pos (show nI 2 = 2 from rfl), z0, e1, pu_b1], wy_send e1, fun q => (let ⟨x, σ1, A1, a1, a2, _⟩ := e4 q; ⟨σ1, A1, by rw [k_cc_perform, if_neg (show ¬ nI 2 = 0 by decide), if_neg (show ¬ nI 2 = 1 by decide), if_pos (show nI 2 = 2 from rfl), z0, z1, z2, z3, a1, pu_b2], a2, fun j g q => f_cd_post a1 j g (by simp; omega)⟩)⟩⟩
  · rw [k_cc_readNumbers, if_neg (show ¬ nI 2 = 0 by decide), if_neg (show ¬ nI 2 = 1 by decide), if_pos (show nI 2 = 2 from rfl), c0, pu_b2, pu_let, w0, c1, pu_b2, pu_let, w1, c2, pu_b2, pu_let, w2, c3, pu_b2, pu_let, w3]
  · show k_mm_sendText τ = _
    rw [k_mm_sendText, m0, pu_b2, m1, pu_b2, m2, pu_b2]
    refine (m3 (fun y s => if (s 24 0 0 12) = (-1) then en_b2 (k_mm_send0 _ _ _ y s) (fun t9 s10 => some (t9, s10)) else some (0, s))).trans ?_
    show (if _ = _ then _ else _) = _
    rw [if_pos (tx_R_eq R4), e2, pu_b2]
theorem tq_4 {σ τ : en_M} {t : Nat} {A : ab_A} (R0 : tx_R σ τ B l) (hA : ab_PR σ 0 (τ 25 0 0) A t) (ht : t + 1 ≤ 7168) : tq_P 4 σ τ B l (t + 1) := by
  obtain ⟨x0, o0, s1, y0, n1, c0, w0, m0, f0, g0, u0, R1⟩ := tn_put R0 0 0 9999 (by decide) (by decide)
  replace c0 : k_tp_takeNumber 0 9999 σ = _ := c0
  replace m0 : k_mm_number 0 9999 τ = _ := m0
  rcases R1 with ⟨R1, v0, lo0, hi0, rfl, e0⟩ | ⟨w, X1⟩
  rotate_left
  · skip
    refine ⟨s1, _, 0, ?_, g0, ?_, mf_t f0, Or.inl ⟨w, X1, rfl⟩⟩
    · rw [k_cc_readNumbers, if_neg (show ¬ nI 4 = 0 by decide), if_neg (show ¬ nI 4 = 1 by decide), if_neg (show ¬ nI 4 = 2 by decide), if_neg (show ¬ nI 4 = 3 by decide), if_pos (show nI 4 = 4 from rfl), c0, pu_b2, pu_let, w0]
    · show tb_drop τ = _
      rw [tb_drop, m0, pu_b2, if_neg (tx_X_ne X1)]
  have z0 : s1 22 0 0 0 = nI v0 := by rw [e0]
  have hP := tq_PR hA g0 f0
  obtain ⟨code, τ2, e1, e2, e3, e4, e5, e6⟩ := dr_drop hP (nI v0)
  refine ⟨s1, τ2, code, ?_, g0, ?_, mf_tr (mf_t f0) (mf_m (rl_mfr (f_mm_drop0 e2))), Or.inr ⟨tx_R_m R1 (rl_mfr (f_mm_drop0 e2)), by rw [k_cc_refusalOf, if_neg (show ¬ nI 4 = 1 by decide), if_neg (show ¬ nI 4 = 2 by decide), if_neg (show ¬ nI 4 = 3 by decide), if_pos (show nI 4 = 4 from rfl), z0, e1, pu_b1], wy_drop e1, fun q => (let ⟨x, σ1, A1, a1, _, _, a2⟩ := e4 q; ⟨σ1, A1, by rw [k_cc_perform, if_neg (show ¬ nI 4 = 0 by decide), if_neg (show ¬ nI 4 = 1 by decide), if_neg (show ¬ nI 4 = 2 by decide), if_neg (show ¬ nI 4 = 3 by decide), if_pos (show nI 4 = 4 from rfl), z0, a1, pu_b2], PR_mono a2 (Nat.le_succ _) ht, fun j g q => f_cd_dropSend a1 j g (by simp; omega)⟩)⟩⟩
  · rw [k_cc_readNumbers, if_neg (show ¬ nI 4 = 0 by decide), if_neg (show ¬ nI 4 = 1 by decide), if_neg (show ¬ nI 4 = 2 by decide), if_neg (show ¬ nI 4 = 3 by decide), if_pos (show nI 4 = 4 from rfl), c0, pu_b2, pu_let, w0]
  · show tb_drop τ = _
    rw [tb_drop, m0, pu_b2, if_pos (tx_R_eq R1), e2]
theorem tq_5 {σ τ : en_M} {t : Nat} {A : ab_A} (R0 : tx_R σ τ B l) (hA : ab_PR σ 0 (τ 25 0 0) A t) (ht : t + 1 ≤ 7168) : tq_P 5 σ τ B l (t + 1) := by
  obtain ⟨x0, o0, s1, y0, n1, c0, w0, m0, f0, g0, u0, R1⟩ := tn_put R0 0 0 5 (by decide) (by decide)
  replace c0 : k_tp_takeNumber 0 5 σ = _ := c0
  replace m0 : k_mm_number 0 5 τ = _ := m0
  rcases R1 with ⟨R1, v0, lo0, hi0, rfl, e0⟩ | ⟨w, X1⟩
  rotate_left
  · skip
    refine ⟨s1, _, 0, ?_, g0, ?_, mf_t f0, Or.inl ⟨w, X1, rfl⟩⟩
    · rw [k_cc_readNumbers, if_neg (show ¬ nI 5 = 0 by decide), if_neg (show ¬ nI 5 = 1 by decide), if_neg (show ¬ nI 5 = 2 by decide), if_neg (show ¬ nI 5 = 3 by decide), if_neg (show ¬ nI 5 = 4 by decide), if_pos (show nI 5 = 5 from rfl), c0, pu_b2, pu_let, w0]
    · show k_mm_pauseText 1 τ = _
      rw [k_mm_pauseText, m0, pu_b2, if_neg (tx_X_ne X1)]
  have z0 : s1 22 0 0 0 = nI v0 := by rw [e0]
  have hP := tq_PR hA g0 f0
  obtain ⟨code, τ2, e1, e2, e3, e4⟩ := fl_pause hP (nI v0) (p := 1) (by decide)
  replace e1 : k_cd_whyNoPause 0 (nI v0) 1 s1 = _ := e1
  replace e2 : k_mm_pause0 (nI v0) 1 n1 = _ := e2
  replace e4 : _ → ∃ x σ1 A1, k_cd_setPaused 0 (nI v0) 1 s1 = some (x, σ1) ∧ _ := e4
  refine ⟨s1, τ2, code, ?_, g0, ?_, mf_tr (mf_t f0) (mf_m (rl_mfr (f_mm_pause0 e2))), Or.inr ⟨tx_R_m R1 (rl_mfr (f_mm_pause0 e2)), by rw [k_cc_refusalOf, if_neg (show ¬ nI 5 = 1 by decide), if_neg (show ¬ nI 5 = 2 by decide), if_neg (show ¬ nI 5 = 3 by decide), if_neg (show ¬ nI 5 = 4 by decide), if_pos (show nI 5 = 5 from rfl), z0, e1, pu_b1], wy_pause e1, fun q => (let ⟨x, σ1, A1, a1, _, a2⟩ := e4 q; ⟨σ1, A1, by rw [k_cc_perform, if_neg (show ¬ nI 5 = 0 by decide), if_neg (show ¬ nI 5 = 1 by decide), if_neg (show ¬ nI 5 = 2 by decide), if_neg (show ¬ nI 5 = 3 by decide), if_neg (show ¬ nI 5 = 4 by decide), if_pos (show nI 5 = 5 from rfl), z0, a1, pu_b2], PR_mono a2 (Nat.le_succ _) ht, fun j g q => f_cd_setPaused a1 j g (by simp; omega)⟩)⟩⟩
  · rw [k_cc_readNumbers, if_neg (show ¬ nI 5 = 0 by decide), if_neg (show ¬ nI 5 = 1 by decide), if_neg (show ¬ nI 5 = 2 by decide), if_neg (show ¬ nI 5 = 3 by decide), if_neg (show ¬ nI 5 = 4 by decide), if_pos (show nI 5 = 5 from rfl), c0, pu_b2, pu_let, w0]
  · show k_mm_pauseText 1 τ = _
    rw [k_mm_pauseText, m0, pu_b2, if_pos (tx_R_eq R1), e2, pu_b2]
theorem tq_6 {σ τ : en_M} {t : Nat} {A : ab_A} (R0 : tx_R σ τ B l) (hA : ab_PR σ 0 (τ 25 0 0) A t) (ht : t + 1 ≤ 7168) : tq_P 6 σ τ B l (t + 1) := by
  obtain ⟨x0, o0, s1, y0, n1, c0, w0, m0, f0, g0, u0, R1⟩ := tn_put R0 0 0 5 (by decide) (by decide)
  replace c0 : k_tp_takeNumber 0 5 σ = _ := c0
  replace m0 : k_mm_number 0 5 τ = _ := m0
  rcases R1 with ⟨R1, v0, lo0, hi0, rfl, e0⟩ | ⟨w, X1⟩
  rotate_left
  · skip
    refine ⟨s1, _, 0, ?_, g0, ?_, mf_t f0, Or.inl ⟨w, X1, rfl⟩⟩
    · rw [k_cc_readNumbers, if_neg (show ¬ nI 6 = 0 by decide), if_neg (show ¬ nI 6 = 1 by decide), if_neg (show ¬ nI 6 = 2 by decide), if_neg (show ¬ nI 6 = 3 by decide), if_neg (show ¬ nI 6 = 4 by decide), if_neg (show ¬ nI 6 = 5 by decide), if_pos (show nI 6 = 6 from rfl), c0, pu_b2, pu_let, w0]
    · show k_mm_pauseText 0 τ = _
      rw [k_mm_pauseText, m0, pu_b2, if_neg (tx_X_ne X1)]
  have z0 : s1 22 0 0 0 = nI v0 := by rw [e0]
  have hP := tq_PR hA g0 f0
  obtain ⟨code, τ2, e1, e2, e3, e4⟩ := fl_pause hP (nI v0) (p := 0) (by decide)
  replace e1 : k_cd_whyNoPause 0 (nI v0) 0 s1 = _ := e1
  replace e2 : k_mm_pause0 (nI v0) 0 n1 = _ := e2
  replace e4 : _ → ∃ x σ1 A1, k_cd_setPaused 0 (nI v0) 0 s1 = some (x, σ1) ∧ _ := e4
  refine ⟨s1, τ2, code, ?_, g0, ?_, mf_tr (mf_t f0) (mf_m (rl_mfr (f_mm_pause0 e2))), Or.inr ⟨tx_R_m R1 (rl_mfr (f_mm_pause0 e2)), by rw [k_cc_refusalOf, if_neg (show ¬ nI 6 = 1 by decide), if_neg (show ¬ nI 6 = 2 by decide), if_neg (show ¬ nI 6 = 3 by decide), if_neg (show ¬ nI 6 = 4 by decide), if_neg (show ¬ nI 6 = 5 by decide), if_pos (show nI 6 = 6 from rfl), z0, e1, pu_b1], wy_pause e1, fun q => (let ⟨x, σ1, A1, a1, _, a2⟩ := e4 q; ⟨σ1, A1, by rw [k_cc_perform, if_neg (show ¬ nI 6 = 0 by decide), if_neg (show ¬ nI 6 = 1 by decide), if_neg (show ¬ nI 6 = 2 by decide), if_neg (show ¬ nI 6 = 3 by decide), if_neg (show ¬ nI 6 = 4 by decide), if_neg (show ¬ nI 6 = 5 by decide), if_pos (show nI 6 = 6 from rfl), z0, a1, pu_b2], PR_mono a2 (Nat.le_succ _) ht, fun j g q => f_cd_setPaused a1 j g (by simp; omega)⟩)⟩⟩
  · rw [k_cc_readNumbers, if_neg (show ¬ nI 6 = 0 by decide), if_neg (show ¬ nI 6 = 1 by decide), if_neg (show ¬ nI 6 = 2 by decide), if_neg (show ¬ nI 6 = 3 by decide), if_neg (show ¬ nI 6 = 4 by decide), if_neg (show ¬ nI 6 = 5 by decide), if_pos (show nI 6 = 6 from rfl), c0, pu_b2, pu_let, w0]
  · show k_mm_pauseText 0 τ = _
    rw [k_mm_pauseText, m0, pu_b2, if_pos (tx_R_eq R1), e2, pu_b2]
theorem tq_7 {σ τ : en_M} {t : Nat} {A : ab_A} (R0 : tx_R σ τ B l) (hA : ab_PR σ 0 (τ 25 0 0) A t) (ht : t + 1 ≤ 7168) : tq_P 7 σ τ B l (t + 1) := by
  obtain ⟨x0, o0, s1, y0, n1, c0, w0, m0, f0, g0, u0, R1⟩ := tn_put R0 0 0 5 (by decide) (by decide)
  replace c0 : k_tp_takeNumber 0 5 σ = _ := c0
  replace m0 : k_mm_number 0 5 τ = _ := m0
  rcases R1 with ⟨R1, v0, lo0, hi0, rfl, e0⟩ | ⟨w, X1⟩
  rotate_left
  · skip
    obtain ⟨c1, m1⟩ := tn_numX X1 0 999
    obtain ⟨s2, w1, X2, g1⟩ := tn_putX X1 1 (-1)
    obtain ⟨n2, hn2⟩ : ∃ z, z = n1 := ⟨_, rfl⟩
    rw [← hn2] at X2 m1
    subst hn2
    refine ⟨s2, _, 0, ?_, (tg_tr g0 g1), ?_, mf_t f0, Or.inl ⟨w, X2, rfl⟩⟩
    · rw [k_cc_readNumbers, if_neg (show ¬ nI 7 = 0 by decide), if_neg (show ¬ nI 7 = 1 by decide), if_neg (show ¬ nI 7 = 2 by decide), if_neg (show ¬ nI 7 = 3 by decide), if_neg (show ¬ nI 7 = 4 by decide), if_neg (show ¬ nI 7 = 5 by decide), if_neg (show ¬ nI 7 = 6 by decide), if_pos (show nI 7 = 7 from rfl), c0, pu_b2, pu_let, w0, c1, pu_b2, pu_let, w1]
    · show k_mm_rateText τ = _
      rw [k_mm_rateText, m0, pu_b2, m1, pu_b2, if_neg (tx_X_ne X2)]
  obtain ⟨x1, o1, s2, y1, n2, c1, w1, m1, f1, g1, u1, R2⟩ := tn_put R1 1 0 999 (by decide) (by decide)
  replace c1 : k_tp_takeNumber 0 999 s1 = _ := c1
  replace m1 : k_mm_number 0 999 n1 = _ := m1
  rcases R2 with ⟨R2, v1, lo1, hi1, rfl, e1⟩ | ⟨w, X2⟩
  rotate_left
  · skip
    refine ⟨s2, _, 0, ?_, (tg_tr g0 g1), ?_, mf_t (tm_f_tr f0 f1), Or.inl ⟨w, X2, rfl⟩⟩
    · rw [k_cc_readNumbers, if_neg (show ¬ nI 7 = 0 by decide), if_neg (show ¬ nI 7 = 1 by decide), if_neg (show ¬ nI 7 = 2 by decide), if_neg (show ¬ nI 7 = 3 by decide), if_neg (show ¬ nI 7 = 4 by decide), if_neg (show ¬ nI 7 = 5 by decide), if_neg (show ¬ nI 7 = 6 by decide), if_pos (show nI 7 = 7 from rfl), c0, pu_b2, pu_let, w0, c1, pu_b2, pu_let, w1]
    · show k_mm_rateText τ = _
      rw [k_mm_rateText, m0, pu_b2, m1, pu_b2, if_neg (tx_X_ne X2)]
  have z0 : s2 22 0 0 0 = nI v0 := by rw [u1 0 (by decide), e0]
  have z1 : s2 22 0 0 1 = nI v1 := by rw [e1]
  have hP := tq_PR hA (tg_tr g0 g1) (tm_f_tr f0 f1)
  obtain ⟨code, τ2, e1, e2, e3, e4, e5⟩ := fl_rate hP (nI v0) (rt := v1) hi1
  refine ⟨s2, τ2, code, ?_, (tg_tr g0 g1), ?_, mf_tr (mf_t (tm_f_tr f0 f1)) (mf_m (rl_mfr (f_mm_rate0 e2))), Or.inr ⟨tx_R_m R2 (rl_mfr (f_mm_rate0 e2)), by rw [k_cc_refusalOf, if_neg (show ¬ nI 7 = 1 by decide), if_neg (show ¬ nI 7 = 2 by decide), if_neg (show ¬ nI 7 = 3 by decide), if_neg (show ¬ nI 7 = 4 by decide), if_neg (show ¬ nI 7 = 5 by decide), if_neg (show ¬ nI 7 = 6 by decide), if_pos (show nI 7 = 7 from rfl), z0, e1, pu_b1], wy_rate e1, fun q => (let ⟨x, σ1, A1, a1, _, _, a2⟩ := e4 q; ⟨σ1, A1, by rw [k_cc_perform, if_neg (show ¬ nI 7 = 0 by decide), if_neg (show ¬ nI 7 = 1 by decide), if_neg (show ¬ nI 7 = 2 by decide), if_neg (show ¬ nI 7 = 3 by decide), if_neg (show ¬ nI 7 = 4 by decide), if_neg (show ¬ nI 7 = 5 by decide), if_neg (show ¬ nI 7 = 6 by decide), if_pos (show nI 7 = 7 from rfl), z0, z1, a1, pu_b2], PR_mono a2 (Nat.le_succ _) ht, fun j g q => f_cd_setRate a1 j g (by simp; omega)⟩)⟩⟩
  · rw [k_cc_readNumbers, if_neg (show ¬ nI 7 = 0 by decide), if_neg (show ¬ nI 7 = 1 by decide), if_neg (show ¬ nI 7 = 2 by decide), if_neg (show ¬ nI 7 = 3 by decide), if_neg (show ¬ nI 7 = 4 by decide), if_neg (show ¬ nI 7 = 5 by decide), if_neg (show ¬ nI 7 = 6 by decide), if_pos (show nI 7 = 7 from rfl), c0, pu_b2, pu_let, w0, c1, pu_b2, pu_let, w1]
  · show k_mm_rateText τ = _
    rw [k_mm_rateText, m0, pu_b2, m1, pu_b2, if_pos (tx_R_eq R2), e2, pu_b2]
theorem tq_8 {σ τ : en_M} {t : Nat} {A : ab_A} (R0 : tx_R σ τ B l) (hA : ab_PR σ 0 (τ 25 0 0) A t) (ht : t + 1 ≤ 7168) : tq_P 8 σ τ B l (t + 1) := by
  obtain ⟨x0, o0, s1, y0, n1, c0, w0, m0, f0, g0, u0, R1⟩ := tn_put R0 0 1 99 (by decide) (by decide)
  replace c0 : k_tp_takeNumber 1 99 σ = _ := c0
  replace m0 : k_mm_number 1 99 τ = _ := m0
  rcases R1 with ⟨R1, v0, lo0, hi0, rfl, e0⟩ | ⟨w, X1⟩
  rotate_left
  · skip
    refine ⟨s1, _, 0, ?_, g0, ?_, mf_t f0, Or.inl ⟨w, X1, rfl⟩⟩
    · rw [k_cc_readNumbers, if_neg (show ¬ nI 8 = 0 by decide), if_neg (show ¬ nI 8 = 1 by decide), if_neg (show ¬ nI 8 = 2 by decide), if_neg (show ¬ nI 8 = 3 by decide), if_neg (show ¬ nI 8 = 4 by decide), if_neg (show ¬ nI 8 = 5 by decide), if_neg (show ¬ nI 8 = 6 by decide), if_neg (show ¬ nI 8 = 7 by decide), if_pos (show nI 8 = 8 from rfl), c0, pu_b2, pu_let, w0]
    · show tb_tick τ = _
      rw [tb_tick, m0, pu_b2, if_neg (tx_X_ne X1)]
  have z0 : s1 22 0 0 0 = nI v0 := by rw [e0]
  have hP := tq_PR hA g0 f0
  have hN := ab_N hP.2.2.1
  have cT := hP.1.1.1.2.2.2.1
  have e : k_cd_whyNoTick 0 s1 = if aH A 4 < 9999 then 0 else 6 := by rw [k_cd_whyNoTick, cT, itx_lt (a := aH A 4) (b := 9999) (y := 9999) rfl rfl (by omega) (by decide)]
  by_cases hT : aH A 4 = 9999
  · have e2 := (tk_all hP hi0).1 hT
    have hm : rl_m n1 (en_wr n1 24 0 0 22 0) := ⟨fun k _ q => by rw [pu_wr_k (by omega)], by rw [pu_wr_j (by decide)], by rw [pu_wr_j (by decide)], by rw [pu_wr_j (by decide)], by rw [pu_wr_j (by decide)]⟩
    refine ⟨s1, _, 6, ?_, g0, ?_, mf_tr (mf_t f0) (mf_m hm), Or.inr ⟨tx_R_m R1 hm, by rw [k_cc_refusalOf, if_neg (show ¬ nI 8 = 1 by decide), if_neg (show ¬ nI 8 = 2 by decide), if_neg (show ¬ nI 8 = 3 by decide), if_neg (show ¬ nI 8 = 4 by decide), if_neg (show ¬ nI 8 = 5 by decide), if_neg (show ¬ nI 8 = 6 by decide), if_neg (show ¬ nI 8 = 7 by decide), if_pos (show nI 8 = 8 from rfl), e, if_neg (by omega)], Or.inr (by decide), fun q => absurd q (by decide)⟩⟩
    · rw [k_cc_readNumbers, if_neg (show ¬ nI 8 = 0 by decide), if_neg (show ¬ nI 8 = 1 by decide), if_neg (show ¬ nI 8 = 2 by decide), if_neg (show ¬ nI 8 = 3 by decide), if_neg (show ¬ nI 8 = 4 by decide), if_neg (show ¬ nI 8 = 5 by decide), if_neg (show ¬ nI 8 = 6 by decide), if_neg (show ¬ nI 8 = 7 by decide), if_pos (show nI 8 = 8 from rfl), c0, pu_b2, pu_let, w0]
    · show tb_tick τ = _
      rw [tb_tick, m0, pu_b2, if_pos (tx_R_eq R1), e2]
  · obtain ⟨x, σ1, τ2, A1, a1, e2, _, a2, a5⟩ := (tk_all hP hi0).2 hT
    have fm := f_mm_tick0 e2
    have hm : rl_m n1 τ2 := ⟨fun k _ q => a5 k q, fm 26 0 (by simp), fm 27 0 (by simp), fm 28 0 (by simp), fm 29 0 (by simp)⟩
    refine ⟨s1, τ2, 0, ?_, g0, ?_, mf_tr (mf_t f0) (mf_m hm), Or.inr ⟨tx_R_m R1 hm, by rw [k_cc_refusalOf, if_neg (show ¬ nI 8 = 1 by decide), if_neg (show ¬ nI 8 = 2 by decide), if_neg (show ¬ nI 8 = 3 by decide), if_neg (show ¬ nI 8 = 4 by decide), if_neg (show ¬ nI 8 = 5 by decide), if_neg (show ¬ nI 8 = 6 by decide), if_neg (show ¬ nI 8 = 7 by decide), if_pos (show nI 8 = 8 from rfl), e, if_pos (by omega)], Or.inl rfl, fun _ => ⟨σ1, A1, by rw [k_cc_perform, if_neg (show ¬ nI 8 = 0 by decide), if_neg (show ¬ nI 8 = 1 by decide), if_neg (show ¬ nI 8 = 2 by decide), if_neg (show ¬ nI 8 = 3 by decide), if_neg (show ¬ nI 8 = 4 by decide), if_neg (show ¬ nI 8 = 5 by decide), if_neg (show ¬ nI 8 = 6 by decide), if_neg (show ¬ nI 8 = 7 by decide), if_pos (show nI 8 = 8 from rfl), z0, a1, pu_b2], PR_mono a2 (Nat.le_succ _) ht, fun j g q => f_cd_runTicks a1 j g (by simp; omega)⟩⟩⟩
    · rw [k_cc_readNumbers, if_neg (show ¬ nI 8 = 0 by decide), if_neg (show ¬ nI 8 = 1 by decide), if_neg (show ¬ nI 8 = 2 by decide), if_neg (show ¬ nI 8 = 3 by decide), if_neg (show ¬ nI 8 = 4 by decide), if_neg (show ¬ nI 8 = 5 by decide), if_neg (show ¬ nI 8 = 6 by decide), if_neg (show ¬ nI 8 = 7 by decide), if_pos (show nI 8 = 8 from rfl), c0, pu_b2, pu_let, w0]
    · show tb_tick τ = _
      rw [tb_tick, m0, pu_b2, if_pos (tx_R_eq R1), e2]
theorem tq_3 {σ τ : en_M} {t : Nat} {A : ab_A} (R0 : tx_R σ τ B l) (hP : ab_PR σ 0 (τ 25 0 0) A t) (ht : t + 1 ≤ 7168) : tq_P 3 σ τ B l (t + 1) := by
  obtain ⟨x, σ1, τ2, A1, c1, c2, c3, -⟩ := be_bell hP.1.1 hP.2.1 (W_mono hP.2.2.1 (Nat.le_succ _) ht) hP.2.2.2 (fun f hf => (hP.2.2.1.2.1 f hf).2.2.2.1)
  have hm : rl_m τ τ2 := rl_mfr (f_mm_bell0 c2)
  refine ⟨σ, τ2, 0, ?_, fun _ _ _ => rfl, ?_, mf_m hm, Or.inr ⟨tx_R_m R0 hm, ?_, Or.inl rfl, fun _ => ⟨σ1, A1, ?_, c3, fun j g q => f_cd_ringBell c1 j g (by simp; omega)⟩⟩⟩
  · rw [k_cc_readNumbers, if_neg (show ¬ nI 3 = 0 by decide), if_neg (show ¬ nI 3 = 1 by decide), if_neg (show ¬ nI 3 = 2 by decide), if_pos (show nI 3 = 3 from rfl)]
  · show tb_bell τ = _
    rw [tb_bell, c2, pu_b2]
  · rw [k_cc_refusalOf, if_neg (show ¬ nI 3 = 1 by decide), if_neg (show ¬ nI 3 = 2 by decide), if_pos (show nI 3 = 3 from rfl)]
  · rw [k_cc_perform, if_neg (show ¬ nI 3 = 0 by decide), if_neg (show ¬ nI 3 = 1 by decide), if_neg (show ¬ nI 3 = 2 by decide), if_pos (show nI 3 = 3 from rfl), c1, pu_b2]
end tqq

/-! Feed whole. -/
theorem pb_feed {σ τ : en_M} {t : Nat} (h : Rel σ τ t) (v1 v2 v3 v4 v5 : Int32) : ∃ x σ1 τ1, k_cc_feed v1 v2 v3 v4 v5 σ = some (x, σ1) ∧ k_mm_feed v1 v2 v3 v4 v5 τ = some (x, τ1) ∧ τ1 24 0 0 0 = 0 ∧ Rel σ1 τ1 t := by
  obtain ⟨s, s1, s2, s3, s4, -⟩ := q_set h
  have s4' := s4
  obtain ⟨⟨A, hA⟩, b2, b3, b4, b5, ⟨l, l1, l2, l3, l4⟩, b7⟩ := s4
  have hroom : k_tp_hasRoom 20 σ = (if 400 < l + 20 then 0 else 1) := by
    rw [k_tp_hasRoom, l2, show (20 : Int32) = nI 20 from rfl, nI_add, itx_lt (a := 400) (b := l + 20) (x := 400) rfl rfl (by decide) (by omega)]
  rw [k_cc_feed, hroom, k_mm_feed, pu_let, s1, l3, show (20 : Int32) = nI 20 from rfl, nI_add, itx_le (a := l + 20) (b := 400) (y := 400) rfl rfl (by omega) (by decide)]
  by_cases hl : l + 20 ≤ 400
  · rw [if_neg (show ¬ 400 < l + 20 by omega), if_neg (show ¬ (1 : Int32) = 0 by decide), if_pos hl]
    obtain ⟨σa, τa, c1, c2, c3, c4, c5, c6, c7, c8⟩ := fd_both (q := 0) (v1 := v1) (v2 := v2) (v3 := v3) (v4 := v4) (v5 := v5) (by omega) (by omega) l2 l3 l4
    obtain ⟨σb, τb, d1, d2, d3, d4, d5, d6, d7, d8⟩ := fd_both (q := 1) (v1 := v1) (v2 := v2) (v3 := v3) (v4 := v4) (v5 := v5) (by omega) (by omega) c3 c4 c5
    obtain ⟨σc, τc, e1, e2, e3, e4, e5, e6, e7, e8⟩ := fd_both (q := 2) (v1 := v1) (v2 := v2) (v3 := v3) (v4 := v4) (v5 := v5) (by omega) (by omega) d3 d4 d5
    obtain ⟨σd, τd, f1, f2, f3, f4, f5, f6, f7, f8⟩ := fd_both (q := 3) (v1 := v1) (v2 := v2) (v3 := v3) (v4 := v4) (v5 := v5) (by omega) (by omega) e3 e4 e5
    obtain ⟨σe, τe, g1, g2, g3, g4, g5, g6, g7, g8⟩ := fd_both (q := 4) (v1 := v1) (v2 := v2) (v3 := v3) (v4 := v4) (v5 := v5) (by omega) (by omega) f3 f4 f5
    have c1 : k_tp_append v1 σ = some σa := c1
    have d1 : k_tp_append v2 σa = some σb := d1
    have e1 : k_tp_append v3 σb = some σc := e1
    have f1 : k_tp_append v4 σc = some σd := f1
    have g1 : k_tp_append v5 σd = some σe := g1
    have hS := fr_tr (fr_tr (fr_tr c6 d6) (fr_tr e6 f6)) g6
    have hT := fr_tr (fr_tr (fr_tr c8 d8) (fr_tr e8 f8)) g8
    have h24 : ∀ k, k ≠ 9 → τe 24 0 0 k = s 24 0 0 k := fun k q => by rw [g7 k q, f7 k q, e7 k q, d7 k q, c7 k q]
    have hm : k_mm_feed_23 en_fu v1 v2 v3 v4 v5 0 s = some τe := by
      have z : en_fu = (en_fu - 21) + 1 + (1 + 1 + 1 + 1) + (1 + 1 + 1 + 1) + (1 + 1 + 1 + 1) + (1 + 1 + 1 + 1) + (1 + 1 + 1 + 1) := rfl
      have k1 := c2 ((en_fu - 21) + 1 + (1 + 1 + 1 + 1) + (1 + 1 + 1 + 1) + (1 + 1 + 1 + 1) + (1 + 1 + 1 + 1))
      have k2 := d2 ((en_fu - 21) + 1 + (1 + 1 + 1 + 1) + (1 + 1 + 1 + 1) + (1 + 1 + 1 + 1))
      have k3 := e2 ((en_fu - 21) + 1 + (1 + 1 + 1 + 1) + (1 + 1 + 1 + 1))
      have k4 := f2 ((en_fu - 21) + 1 + (1 + 1 + 1 + 1))
      have k5 := g2 ((en_fu - 21) + 1)
      have k6 : k_mm_feed_23 ((en_fu - 21) + 1) v1 v2 v3 v4 v5 (nI 20) τe = some τe := by rw [k_mm_feed_23, if_pos (show (20 : Int32) ≤ nI 20 by decide)]
      exact k1.trans (k2.trans (k3.trans (k4.trans (k5.trans k6))))
    refine ⟨nI (l + 20), σe, τe, ?_, ?_, by rw [h24 0 (by decide), s2], ⟨A, ?_⟩, hi_fr b2 (hS 15 0 (by simp)) (fun j g q _ => hS j g (by simp; omega)) (h24 5 (by decide)) (hT 28 0 (by simp)) (Nat.le_refl _) b7, im_fr b3 (by rw [hS 14 0 (by simp)]) (fun j q => hS j 2 (by simp)) (h24 6 (by decide)) (hT 27 0 (by simp)) (Nat.le_refl _) b7, ?_, ?_, ⟨l + 20, hl, g3, g4, g5⟩, b7⟩
    · rw [c1, pu_b1, d1, pu_b1, e1, pu_b1, f1, pu_b1, g1, pu_b1, g3]
    · rw [hm, pu_b1, g4]
    · rw [hT 25 0 (by simp)]
      exact PR_fr hA (fun j q => hS j 0 (by simp; omega))
    · rw [hS 14 0 (by simp), h24 7 (by decide)]
      exact b4
    · rw [hS 14 0 (by simp), h24 12 (by decide)]
      exact b5
  · rw [if_pos (show 400 < l + 20 by omega), if_pos rfl, if_neg hl]
    exact ⟨-1, σ, s, rfl, rfl, s2, s4'⟩

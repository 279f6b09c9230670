/-! Texts: which act. -/
def tb_w (t1 : Int32) (x : Option (Int32 × en_M)) : Option (Int32 × en_M) := en_b2 x fun t s => if t ≤ 0 then some (t, s) else en_b1 (k_mm_wrong t1 s) fun s2 => some (t, s2)
def tb_drop (s : en_M) : Option (Int32 × en_M) := en_b2 (k_mm_number 0 9999 s) fun t s2 => if (s2 24 0 0 12) = (-1) then k_mm_drop0 t s2 else some (0, s2)
def tb_tick (s : en_M) : Option (Int32 × en_M) := en_b2 (k_mm_number 1 99 s) fun t s2 => if (s2 24 0 0 12) = (-1) then k_mm_tick0 t s2 else some (0, s2)
def tb_card (s : en_M) : Option (Int32 × en_M) := en_b1 (k_mm_cardText s) fun s2 => some (0, s2)
def tb_bell (s : en_M) : Option (Int32 × en_M) := en_b2 (k_mm_bell0 s) fun _ s2 => some (0, s2)
def tb_br (i : Nat) (s : en_M) : Option (Int32 × en_M) := match i with
  | 0 => tb_card s
  | 1 => k_mm_flowText s
  | 2 => k_mm_sendText s
  | 3 => tb_bell s
  | 4 => tb_drop s
  | 5 => k_mm_pauseText 1 s
  | 6 => k_mm_pauseText 0 s
  | 7 => k_mm_rateText s
  | _ => tb_tick s
theorem tb_0 {x : Option (Int32 × en_M)} {t1 : Int32} {s : en_M} (h : x = some (0, s)) : tb_w t1 x = some (0, s) := by
  rw [h]
  rfl
section tact
variable {B : Nat → Nat} {l : Nat}
theorem tw_act {σ τ : en_M} {b p : Nat} (h : tx_S σ τ B l b p) : (∃ i σ1 τ1, i < 9 ∧ k_tp_takeAct σ = some (nI i, σ1) ∧ k_mm_act τ = tb_w (nI b) (tb_br i τ1) ∧ tx_R σ1 τ1 B l ∧ tp_f σ σ1 ∧ tm_f τ τ1) ∨ (∃ τ1, k_tp_takeAct σ = some (-1, en_wr σ 20 0 0 5 (nI b)) ∧ k_mm_act τ = some (0, τ1) ∧ tx_X (en_wr σ 20 0 0 5 (nI b)) τ1 B l b ∧ tm_f τ τ1) := by
  obtain ⟨c1, c2, c3, c4⟩ := tx_S_b h
  obtain ⟨τ0, a1, a2, a3, a4⟩ := tm_here h.2.1 (p := p) (by omega) h.2.2.2.1
  rw [h.2.2.2.2.2.1] at a1 a2
  have h0 : tx_S σ τ0 B l b b := ⟨h.1, tx_M_f h.2.1 a4, h.2.2.1, a2, c2, c4, h.2.2.2.2.2.2.1, by rw [a3]; exact h.2.2.2.2.2.2.2⟩
  rcases tw_word h0 (w := 1) (L := 4) rfl (by decide) (by decide) with ⟨τ1, u1, v1, h1, f1⟩ | ⟨τ1, σ1, u, v, adv, R, fc, fm⟩
  rotate_left
  · refine Or.inl ⟨0, σ1, τ1, by decide, ?_, ?_, R, fc, tm_f_tr a4 fm⟩
    · rw [k_tp_takeAct, k_tp_actNamed, u, pu_b1, if_neg (show ¬ (1 : Int32) = 0 by decide), pu_b1, if_neg (by decide), adv, pu_b1]
      rfl
    · rw [k_mm_act, a1, pu_b2, v, pu_b2, if_neg (show ¬ (1 : Int32) = 0 by decide)]
      show _ = tb_w _ (tb_card τ1)
      rw [tb_card]
      cases k_mm_cardText τ1 <;> rfl
  rcases tw_word h1 (w := 2) (L := 4) rfl (by decide) (by decide) with ⟨τ2, u2, v2, h2, f2⟩ | ⟨τ1, σ1, u, v, adv, R, fc, fm⟩
  rotate_left
  · refine Or.inl ⟨1, σ1, τ1, by decide, ?_, ?_, R, fc, tm_f_tr (tm_f_tr a4 f1) fm⟩
    · rw [k_tp_takeAct, k_tp_actNamed, u1, pu_b1, if_pos rfl, u, pu_b1, if_neg (show ¬ (1 : Int32) = 0 by decide), pu_b1, if_neg (by decide), adv, pu_b1]
      rfl
    · rw [k_mm_act, a1, pu_b2, v1, pu_b2, if_pos rfl, v, pu_b2, if_neg (show ¬ (1 : Int32) = 0 by decide)]
      rfl
  rcases tw_word h2 (w := 3) (L := 4) rfl (by decide) (by decide) with ⟨τ3, u3, v3, h3, f3⟩ | ⟨τ1, σ1, u, v, adv, R, fc, fm⟩
  rotate_left
  · refine Or.inl ⟨2, σ1, τ1, by decide, ?_, ?_, R, fc, tm_f_tr (tm_f_tr (tm_f_tr a4 f1) f2) fm⟩
    · rw [k_tp_takeAct, k_tp_actNamed, u1, pu_b1, if_pos rfl, u2, pu_b1, if_pos rfl, u, pu_b1, if_neg (show ¬ (1 : Int32) = 0 by decide), pu_b1, if_neg (by decide), adv, pu_b1]
      rfl
    · rw [k_mm_act, a1, pu_b2, v1, pu_b2, if_pos rfl, v2, pu_b2, if_pos rfl, v, pu_b2, if_neg (show ¬ (1 : Int32) = 0 by decide)]
      rfl
  rcases tw_word h3 (w := 4) (L := 4) rfl (by decide) (by decide) with ⟨τ4, u4, v4, h4, f4⟩ | ⟨τ1, σ1, u, v, adv, R, fc, fm⟩
  rotate_left
  · refine Or.inl ⟨3, σ1, τ1, by decide, ?_, ?_, R, fc, tm_f_tr (tm_f_tr (tm_f_tr (tm_f_tr a4 f1) f2) f3) fm⟩
    · rw [k_tp_takeAct, k_tp_actNamed, u1, pu_b1, if_pos rfl, u2, pu_b1, if_pos rfl, u3, pu_b1, if_pos rfl, u, pu_b1, if_neg (show ¬ (1 : Int32) = 0 by decide), pu_b1, if_neg (by decide), adv, pu_b1]
      rfl
    · rw [k_mm_act, a1, pu_b2, v1, pu_b2, if_pos rfl, v2, pu_b2, if_pos rfl, v3, pu_b2, if_pos rfl, v, pu_b2, if_neg (show ¬ (1 : Int32) = 0 by decide)]
      show _ = tb_w _ (tb_bell τ1)
      rw [tb_bell]
      cases k_mm_bell0 τ1 <;> rfl
  rcases tw_word h4 (w := 5) (L := 4) rfl (by decide) (by decide) with ⟨τ5, u5, v5, h5, f5⟩ | ⟨τ1, σ1, u, v, adv, R, fc, fm⟩
  rotate_left
  · refine Or.inl ⟨4, σ1, τ1, by decide, ?_, ?_, R, fc, tm_f_tr (tm_f_tr (tm_f_tr (tm_f_tr (tm_f_tr a4 f1) f2) f3) f4) fm⟩
    · rw [k_tp_takeAct, k_tp_actNamed, u1, pu_b1, if_pos rfl, u2, pu_b1, if_pos rfl, u3, pu_b1, if_pos rfl, u4, pu_b1, if_pos rfl, u, pu_b1, if_neg (show ¬ (1 : Int32) = 0 by decide), pu_b1, if_neg (by decide), adv, pu_b1]
      rfl
    · rw [k_mm_act, a1, pu_b2, v1, pu_b2, if_pos rfl, v2, pu_b2, if_pos rfl, v3, pu_b2, if_pos rfl, v4, pu_b2, if_pos rfl, v, pu_b2, if_neg (show ¬ (1 : Int32) = 0 by decide)]
      show _ = tb_w _ (tb_drop τ1)
      rw [tb_drop]
      cases k_mm_number 0 9999 τ1 with
      | none => rfl
      | some z =>
        rw [tb_w, show z = (z.1, z.2) from rfl, pu_b2, pu_b2]
        by_cases q : z.2 24 0 0 12 = -1
        · rw [if_pos q, if_pos q]
        · rw [if_neg q, if_neg q]
          rfl
  rcases tw_word h5 (w := 6) (L := 5) rfl (by decide) (by decide) with ⟨τ6, u6, v6, h6, f6⟩ | ⟨τ1, σ1, u, v, adv, R, fc, fm⟩
  rotate_left
  · refine Or.inl ⟨5, σ1, τ1, by decide, ?_, ?_, R, fc, tm_f_tr (tm_f_tr (tm_f_tr (tm_f_tr (tm_f_tr (tm_f_tr a4 f1) f2) f3) f4) f5) fm⟩
    · rw [k_tp_takeAct, k_tp_actNamed, u1, pu_b1, if_pos rfl, u2, pu_b1, if_pos rfl, u3, pu_b1, if_pos rfl, u4, pu_b1, if_pos rfl, u5, pu_b1, if_pos rfl, u, pu_b1, if_neg (show ¬ (1 : Int32) = 0 by decide), pu_b1, if_neg (by decide), adv, pu_b1]
      rfl
    · rw [k_mm_act, a1, pu_b2, v1, pu_b2, if_pos rfl, v2, pu_b2, if_pos rfl, v3, pu_b2, if_pos rfl, v4, pu_b2, if_pos rfl, v5, pu_b2, if_pos rfl, v, pu_b2, if_neg (show ¬ (1 : Int32) = 0 by decide)]
      rfl
  rcases tw_word h6 (w := 7) (L := 2) rfl (by decide) (by decide) with ⟨τ7, u7, v7, h7, f7⟩ | ⟨τ1, σ1, u, v, adv, R, fc, fm⟩
  rotate_left
  · refine Or.inl ⟨6, σ1, τ1, by decide, ?_, ?_, R, fc, tm_f_tr (tm_f_tr (tm_f_tr (tm_f_tr (tm_f_tr (tm_f_tr (tm_f_tr a4 f1) f2) f3) f4) f5) f6) fm⟩
    · rw [k_tp_takeAct, k_tp_actNamed, u1, pu_b1, if_pos rfl, u2, pu_b1, if_pos rfl, u3, pu_b1, if_pos rfl, u4, pu_b1, if_pos rfl, u5, pu_b1, if_pos rfl, u6, pu_b1, if_pos rfl, u, pu_b1, if_neg (show ¬ (1 : Int32) = 0 by decide), pu_b1, if_neg (by decide), adv, pu_b1]
      rfl
    · rw [k_mm_act, a1, pu_b2, v1, pu_b2, if_pos rfl, v2, pu_b2, if_pos rfl, v3, pu_b2, if_pos rfl, v4, pu_b2, if_pos rfl, v5, pu_b2, if_pos rfl, v6, pu_b2, if_pos rfl, v, pu_b2, if_neg (show ¬ (1 : Int32) = 0 by decide)]
      rfl
  rcases tw_word h7 (w := 8) (L := 4) rfl (by decide) (by decide) with ⟨τ8, u8, v8, h8, f8⟩ | ⟨τ1, σ1, u, v, adv, R, fc, fm⟩
  rotate_left
  · refine Or.inl ⟨7, σ1, τ1, by decide, ?_, ?_, R, fc, tm_f_tr (tm_f_tr (tm_f_tr (tm_f_tr (tm_f_tr (tm_f_tr (tm_f_tr (tm_f_tr a4 f1) f2) f3) f4) f5) f6) f7) fm⟩
    · rw [k_tp_takeAct, k_tp_actNamed, u1, pu_b1, if_pos rfl, u2, pu_b1, if_pos rfl, u3, pu_b1, if_pos rfl, u4, pu_b1, if_pos rfl, u5, pu_b1, if_pos rfl, u6, pu_b1, if_pos rfl, u7, pu_b1, if_pos rfl, u, pu_b1, if_neg (show ¬ (1 : Int32) = 0 by decide), pu_b1, if_neg (by decide), adv, pu_b1]
      rfl
    · rw [k_mm_act, a1, pu_b2, v1, pu_b2, if_pos rfl, v2, pu_b2, if_pos rfl, v3, pu_b2, if_pos rfl, v4, pu_b2, if_pos rfl, v5, pu_b2, if_pos rfl, v6, pu_b2, if_pos rfl, v7, pu_b2, if_pos rfl, v, pu_b2, if_neg (show ¬ (1 : Int32) = 0 by decide)]
      rfl
  rcases tw_word h8 (w := 9) (L := 4) rfl (by decide) (by decide) with ⟨τ9, u9, v9, h9, f9⟩ | ⟨τ1, σ1, u, v, adv, R, fc, fm⟩
  rotate_left
  · refine Or.inl ⟨8, σ1, τ1, by decide, ?_, ?_, R, fc, tm_f_tr (tm_f_tr (tm_f_tr (tm_f_tr (tm_f_tr (tm_f_tr (tm_f_tr (tm_f_tr (tm_f_tr a4 f1) f2) f3) f4) f5) f6) f7) f8) fm⟩
    · rw [k_tp_takeAct, k_tp_actNamed, u1, pu_b1, if_pos rfl, u2, pu_b1, if_pos rfl, u3, pu_b1, if_pos rfl, u4, pu_b1, if_pos rfl, u5, pu_b1, if_pos rfl, u6, pu_b1, if_pos rfl, u7, pu_b1, if_pos rfl, u8, pu_b1, if_pos rfl, u, pu_b1, if_neg (show ¬ (1 : Int32) = 0 by decide), pu_b1, if_neg (by decide), adv, pu_b1]
      rfl
    · rw [k_mm_act, a1, pu_b2, v1, pu_b2, if_pos rfl, v2, pu_b2, if_pos rfl, v3, pu_b2, if_pos rfl, v4, pu_b2, if_pos rfl, v5, pu_b2, if_pos rfl, v6, pu_b2, if_pos rfl, v7, pu_b2, if_pos rfl, v8, pu_b2, if_pos rfl, v, pu_b2, if_neg (show ¬ (1 : Int32) = 0 by decide)]
      show _ = tb_w _ (tb_tick τ1)
      rw [tb_tick]
      cases k_mm_number 1 99 τ1 with
      | none => rfl
      | some z =>
        rw [tb_w, show z = (z.1, z.2) from rfl, pu_b2, pu_b2]
        by_cases q : z.2 24 0 0 12 = -1
        · rw [if_pos q, if_pos q]
        · rw [if_neg q, if_neg q]
          rfl
  obtain ⟨wC, wM, wX⟩ := tx_mark (w := b) h9.1 h9.2.1 h9.2.2.2.2.2.2.1 h9.2.2.2.2.2.2.2 h9.2.2.2.1 (by omega) (by omega)
  refine Or.inr ⟨_, ?_, ?_, wX, tm_f_tr (tm_f_tr (tm_f_tr (tm_f_tr (tm_f_tr (tm_f_tr (tm_f_tr (tm_f_tr (tm_f_tr (tm_f_tr a4 f1) f2) f3) f4) f5) f6) f7) f8) f9) tm_f_12⟩
  · rw [k_tp_takeAct, k_tp_actNamed, u1, pu_b1, if_pos rfl, u2, pu_b1, if_pos rfl, u3, pu_b1, if_pos rfl, u4, pu_b1, if_pos rfl, u5, pu_b1, if_pos rfl, u6, pu_b1, if_pos rfl, u7, pu_b1, if_pos rfl, u8, pu_b1, if_pos rfl, u9, pu_b1, if_pos rfl, pu_b1, if_pos rfl, k_tp_markHere, h.2.2.1.1, wC, pu_b1, pu_b1]
  · rw [k_mm_act, a1, pu_b2, v1, pu_b2, if_pos rfl, v2, pu_b2, if_pos rfl, v3, pu_b2, if_pos rfl, v4, pu_b2, if_pos rfl, v5, pu_b2, if_pos rfl, v6, pu_b2, if_pos rfl, v7, pu_b2, if_pos rfl, v8, pu_b2, if_pos rfl, v9, pu_b2, if_pos rfl, wM, pu_b1]
end tact

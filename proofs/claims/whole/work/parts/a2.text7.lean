/-! Texts: an act of a text, and all of them. -/
def tc_f (σ s : en_M) : Prop := (∀ j g, ¬ (j < 14 ∧ g = 0) → j ≠ 20 → j ≠ 22 → j ≠ 14 → s j g = σ j g) ∧ ∀ k, k ≠ 9 → s 14 0 0 k = σ 14 0 0 k
theorem tc_rf (σ : en_M) : tc_f σ σ := ⟨fun _ _ _ _ _ _ => rfl, fun _ _ => rfl⟩
theorem tc_tr {a b c : en_M} (h : tc_f a b) (h2 : tc_f b c) : tc_f a c := ⟨fun j g q q1 q2 q3 => by rw [h2.1 j g q q1 q2 q3, h.1 j g q q1 q2 q3], fun k q => by rw [h2.2 k q, h.2 k q]⟩
theorem tc_g {a b : en_M} (h : tg_f a b) : tc_f a b := ⟨fun j g _ q1 q2 _ => by rw [h j q1 q2], fun k _ => by rw [h 14 (by decide) (by decide)]⟩
theorem tc_20 {a b : en_M} (h : ∀ j, j ≠ 20 → b j = a j) : tc_f a b := tc_g (fun j q _ => h j q)
section taa
variable {B : Nat → Nat} {l : Nat}
theorem tx_X_w {σ τ : en_M} {w : Nat} (h : tx_X σ τ B l w) : k_tp_isRight σ = 0 := by
  rw [k_tp_isRight, h.2.2.2.1, it_m1 (by have := h.2.2.1; omega)]
theorem tx_S_r {σ τ : en_M} {b p : Nat} (h : tx_S σ τ B l b p) : k_tp_isRight σ = 1 := by
  rw [k_tp_isRight, if_pos h.2.2.2.2.2.2.1]
theorem tq_all {i : Nat} {σ τ : en_M} {t : Nat} {A : ab_A} (hi : i < 9) (R : tx_R σ τ B l) (hA : ab_PR σ 0 (τ 25 0 0) A t) (ht : t + 1 ≤ 7168) : tq_P i σ τ B l (t + 1) := by
  rcases (show i = 0 ∨ i = 1 ∨ i = 2 ∨ i = 3 ∨ i = 4 ∨ i = 5 ∨ i = 6 ∨ i = 7 ∨ i = 8 by omega) with rfl | rfl | rfl | rfl | rfl | rfl | rfl | rfl | rfl
  · exact tq_0 R hA ht
  · exact tq_1 R hA ht
  · exact tq_2 R hA ht
  · exact tq_3 R hA ht
  · exact tq_4 R hA ht
  · exact tq_5 R hA ht
  · exact tq_6 R hA ht
  · exact tq_7 R hA ht
  · exact tq_8 R hA ht
/-- how a text goes wrong: by a refused act, or otherwise -/
def ta_w (σ σ1 : en_M) (code : Int32) : Prop := (code = 0 ∧ σ1 14 0 0 9 = σ 14 0 0 9) ∨ (¬ code ≤ 0 ∧ σ1 14 0 0 9 = code)
theorem ta_act {σ τ : en_M} {b p t : Nat} {A : ab_A} (h : tx_S σ τ B l b p) (hA : ab_PR σ 0 (τ 25 0 0) A t) (ht : t + 1 ≤ 7168) : ∃ σ1 τ1 code, k_cc_readAct σ = some σ1 ∧ k_mm_act τ = some (code, τ1) ∧ tc_f σ σ1 ∧ mf_f τ τ1 ∧ ((tx_R σ1 τ1 B l ∧ code = 0 ∧ σ1 14 0 0 9 = σ 14 0 0 9 ∧ ∃ A1, ab_PR σ1 0 (τ1 25 0 0) A1 (t + 1)) ∨ ((∃ w, tx_X σ1 τ1 B l w) ∧ ta_w σ σ1 code)) := by
  obtain ⟨k1, k2, k3, k4⟩ := tx_S_b h
  have t3 := h.2.2.1.1
  rcases tw_act h with ⟨i, s1, τ1, hi, a1, a2, R, fc, fm⟩ | ⟨τ1, a1, a2, X, fm⟩
  · have hP : ab_PR s1 0 (τ1 25 0 0) A t := tq_PR hA (fun j q _ => fc.1 j q) fm
    obtain ⟨s, τ2, code, b1, b2, b3, b4, b5⟩ := tq_all hi R hP ht
    have e14 : s 14 = σ 14 := by rw [b2 14 (by decide) (by decide), fc.1 14 (by decide)]
    have fs : tc_f σ s := tc_tr (tc_20 fc.1) (tc_g b2)
    have fm2 : mf_f τ τ2 := mf_tr (mf_t fm) b4
    rcases b5 with ⟨w, X, rfl⟩ | ⟨R2, c1, c2, c3⟩
    · refine ⟨s, τ2, 0, ?_, ?_, fs, fm2, Or.inr ⟨⟨w, X⟩, Or.inl ⟨rfl, by rw [e14]⟩⟩⟩
      · rw [k_cc_readAct, a1, pu_b2, b1, pu_b1, tx_X_w X, if_pos rfl]
      · rw [a2, b3]
        rfl
    · obtain ⟨b', p', hS2⟩ := R2
      by_cases hc : code = 0
      · subst hc
        obtain ⟨σ1, A1, d1, d2, d3⟩ := c3 rfl
        have j20 : ∀ j, ¬ j < 14 → σ1 j = s j := fun j q => funext (fun g => d3 j g (fun z => q z.1))
        refine ⟨σ1, τ2, 0, ?_, ?_, ?_, fm2, Or.inl ⟨⟨b', p', tx_S_c hS2 (j20 20 (by decide)) (j20 21 (by decide)) rfl rfl rfl rfl⟩, rfl, by rw [j20 14 (by decide), e14], A1, d2⟩⟩
        · rw [k_cc_readAct, a1, pu_b2, b1, pu_b1, tx_S_r hS2, if_neg (by decide), c1, pu_b1, if_pos rfl, d1, pu_b1]
        · rw [a2, b3]
          rfl
        · exact tc_tr fs ⟨fun j g q _ _ _ => d3 j g q, fun k _ => by rw [j20 14 (by decide)]⟩
      · have hpos := c2.resolve_left hc
        obtain ⟨s12, h12⟩ : ∃ z, en_wr s 14 0 0 9 code = z := ⟨_, rfl⟩
        have j12 : ∀ j, j ≠ 14 → s12 j = s j := fun j q => by rw [← h12, pu_wr_j q]
        have hS3 : tx_S s12 τ2 B l b' p' := tx_S_c hS2 (j12 20 (by decide)) (j12 21 (by decide)) rfl rfl rfl rfl
        obtain ⟨q1, q2, q3, q4⟩ := tx_S_b hS3
        obtain ⟨wC, wM, wX⟩ := tx_mark (w := b) hS3.1 hS3.2.1 hS3.2.2.2.2.2.2.1 hS3.2.2.2.2.2.2.2 hS3.2.2.2.1 (by omega) (by omega)
        refine ⟨_, _, code, ?_, ?_, ?_, mf_tr fm2 (mf_t tm_f_12), Or.inr ⟨⟨b, wX⟩, Or.inr ⟨hpos, ?_⟩⟩⟩
        · rw [k_cc_readAct, a1, pu_b2, b1, pu_b1, tx_S_r hS2, if_neg (by decide), c1, pu_b1, if_neg hc, pu_let, h12, t3, wC, pu_b1]
        · rw [a2, b3, tb_w, pu_b2, if_neg hpos, wM, pu_b1]
        · refine tc_tr fs (tc_tr (b := s12) ⟨fun j g _ _ _ q => by rw [j12 j q], fun k q => by rw [← h12, pu_wr_k q]⟩ (tc_20 (fun j q => by rw [pu_wr_j q])))
        · rw [pu_wr_j (by decide), ← h12, pu_wr_eq]
  · refine ⟨_, τ1, 0, ?_, a2, tc_20 (fun j q => by rw [pu_wr_j q]), mf_t fm, Or.inr ⟨⟨b, X⟩, Or.inl ⟨rfl, by rw [pu_wr_j (by decide)]⟩⟩⟩
    rw [k_cc_readAct, a1, pu_b2, k_cc_readNumbers, if_neg (show ¬ (-1 : Int32) = 0 by decide), if_neg (show ¬ (-1 : Int32) = 1 by decide), if_neg (show ¬ (-1 : Int32) = 2 by decide), if_neg (show ¬ (-1 : Int32) = 3 by decide), if_neg (show ¬ (-1 : Int32) = 4 by decide), if_neg (show ¬ (-1 : Int32) = 5 by decide), if_neg (show ¬ (-1 : Int32) = 6 by decide), if_neg (show ¬ (-1 : Int32) = 7 by decide), if_neg (show ¬ (-1 : Int32) = 8 by decide), pu_b1, tx_X_w X, if_pos rfl]
/-- the class reads on to the text's end -/
def tl_c (F : Nat) (v : Int32) (σ : en_M) : Option (Int32 × en_M) := en_rx (k_cc_readActs_21 F v σ) (fun r => some r) (fun s16 => en_b1 (k_tp_markHere s16) fun s20 => some ((-1), s20))
/-- the model leaves its loop -/
theorem tl_out {τ : en_M} {F : Nat} (n code z : Int32) (h : ¬ τ 24 0 0 12 = -1) : k_mm_acts_48 (F + 1) n code z τ = some (n, code, τ) := by
  rw [k_mm_acts_48]
  by_cases q : z = 0
  · rw [if_pos q]
  · rw [if_neg q, if_neg h]
theorem tl_out0 {τ : en_M} {F : Nat} (n code : Int32) : k_mm_acts_48 (F + 1) n code 0 τ = some (n, code, τ) := by
  rw [k_mm_acts_48, if_pos rfl]
def tl_P (σ τ : en_M) (B : Nat → Nat) (l t d : Nat) (c : Option (Int32 × en_M)) (m : Option (Int32 × Int32 × en_M)) : Prop := ∃ σ1 τ1, tc_f σ σ1 ∧ mf_f τ τ1 ∧ ((∃ k A1, c = some (nI k, σ1) ∧ m = some (nI k, 0, τ1) ∧ 1 ≤ k ∧ k ≤ 14 ∧ tx_R σ1 τ1 B l ∧ σ1 14 0 0 9 = σ 14 0 0 9 ∧ ab_PR σ1 0 (τ1 25 0 0) A1 (t + d)) ∨ (∃ k code w, c = some (-1, σ1) ∧ m = some (k, code, τ1) ∧ tx_X σ1 τ1 B l w ∧ ta_w σ σ1 code))
theorem tl_loop : ∀ d n F1 F2 t (σ τ : en_M) (A : ab_A) (b p : Nat), n + d = 14 → d + 1 < F1 → d + 2 < F2 → tx_S σ τ B l b p → ab_PR σ 0 (τ 25 0 0) A t → t + d ≤ 7168 → tl_P σ τ B l t d (tl_c F1 (nI (n + 1)) σ) (k_mm_acts_48 F2 (nI n) 0 1 τ) := by
  intro d
  induction d with
  | zero =>
    intro n F1 F2 t σ τ A b p e hF1 hF2 h hA ht
    obtain ⟨F1, rfl⟩ : ∃ q, F1 = q + 1 := ⟨F1 - 1, by omega⟩
    obtain ⟨F2, rfl⟩ : ∃ q, F2 = q + 1 + 1 := ⟨F2 - 2, by omega⟩
    have hn : n = 14 := by omega
    subst hn
    obtain ⟨k1, k2, k3, k4⟩ := tx_S_b h
    obtain ⟨s51, a1, a2, a3, a4⟩ := tm_here h.2.1 (p := p) (by omega) h.2.2.2.1
    rw [h.2.2.2.2.2.1] at a1 a2
    have f51 : s51 24 0 0 12 = -1 := by rw [a3]; exact h.2.2.2.2.2.2.2
    obtain ⟨wC, wM, wX⟩ := tx_mark (w := b) h.1 (tx_M_f h.2.1 a4) h.2.2.2.2.2.2.1 f51 a2 (by omega) (by omega)
    obtain ⟨x, s57, b1, b2, b3⟩ := tx_X_here wX
    refine ⟨_, s57, tc_20 (fun j q => by rw [pu_wr_j q]), mf_tr (mf_t a4) (mf_tr (mf_t tm_f_12) (mf_t b3)), Or.inr ⟨nI 14 + 1, 0, b, ?_, ?_, b2, Or.inl ⟨rfl, by rw [pu_wr_j (by decide)]⟩⟩⟩
    · rw [tl_c, k_cc_readActs_21, if_pos (show (14 : Int32) < nI (14 + 1) by decide), pu_rxr, k_tp_markHere, h.2.2.1.1, wC, pu_b1, pu_b1]
    · rw [k_mm_acts_48, if_neg (show ¬ (1 : Int32) = 0 by decide), if_pos h.2.2.2.2.2.2.2, if_pos (show nI 14 = 14 from rfl), a1, pu_b2, wM, pu_b1, if_neg (tx_X_ne wX), b1, pu_b2, if_neg (tx_X_ne b2), tl_out _ _ _ (tx_X_ne b2), tl_out _ _ _ (tx_X_ne b2)]
      split <;> rfl
  | succ d ih =>
    intro n F1 F2 t σ τ A b p e hF1 hF2 h hA ht
    obtain ⟨F1, rfl⟩ : ∃ q, F1 = q + 1 + 1 := ⟨F1 - 2, by omega⟩
    obtain ⟨F2, rfl⟩ : ∃ q, F2 = q + 1 + 1 := ⟨F2 - 2, by omega⟩
    obtain ⟨σ1, τ1, code, a1, a2, a3, a4, a5⟩ := ta_act h hA (by omega)
    have hm : k_mm_acts_48 (F2 + 1 + 1) (nI n) 0 1 τ = en_b2 (k_mm_here τ1) fun t36 s37 => if (s37 24 0 0 10) ≤ t36 then k_mm_acts_48 (F2 + 1) (nI (n + 1)) code 0 s37 else if (s37 24 0 0 12) = (-1) then en_b1 (en_rd 400 (s37 29 0 0) (s37 24 0 0 11)) fun t41 => if t41 = 59 then en_let (en_wr s37 24 0 0 11 ((s37 24 0 0 11) + 1)) fun s44 => k_mm_acts_48 (F2 + 1) (nI (n + 1)) code 1 s44 else en_b1 (k_mm_wrong (s37 24 0 0 11) s37) fun s46 => en_let (en_wr s46 24 0 0 11 ((s46 24 0 0 11) + 1)) fun s48 => k_mm_acts_48 (F2 + 1) (nI (n + 1)) code 1 s48 else k_mm_acts_48 (F2 + 1) (nI (n + 1)) code 1 s37 := by
      rw [k_mm_acts_48, if_neg (show ¬ (1 : Int32) = 0 by decide), if_pos h.2.2.2.2.2.2.2, itx_eq (a := n) (b := 14) (y := 14) rfl rfl (by omega) (by decide), if_neg (by omega), if_pos h.2.2.2.2.2.2.2, a2, pu_b2, nI_1]
    have hc : tl_c (F1 + 1 + 1) (nI (n + 1)) σ = en_rx (if (k_tp_isRight σ1) = 0 then en_b1 (k_tp_takeSemicolon σ1) fun s8 => if (k_tp_isRight s8) = 0 then some (.inl ((-1), s8)) else k_cc_readActs_21 (F1 + 1) (nI (n + 1 + 1)) s8 else if (k_tp_atEnd σ1) = 0 then en_b1 (k_tp_takeSemicolon σ1) fun s12 => if (k_tp_isRight s12) = 0 then some (.inl ((-1), s12)) else k_cc_readActs_21 (F1 + 1) (nI (n + 1 + 1)) s12 else some (.inl (nI (n + 1), σ1))) (fun r => some r) (fun s16 => en_b1 (k_tp_markHere s16) fun s20 => some ((-1), s20)) := by
      rw [tl_c, k_cc_readActs_21, itx_lt (a := 14) (b := n + 1) (x := 14) rfl rfl (by decide) (by omega), if_neg (by omega), a1, pu_b1, nI_1]
    rcases a5 with ⟨⟨b', p', hS⟩, rfl, w9, A1, hA1⟩ | ⟨⟨w, X⟩, hw⟩
    · obtain ⟨k1, k2, k3, k4⟩ := tx_S_b hS
      obtain ⟨s37, c1, c2, c3, c4⟩ := tm_here hS.2.1 (p := p') (by omega) hS.2.2.2.1
      rw [hS.2.2.2.2.2.1] at c1 c2
      have hM37 := tx_M_f hS.2.1 c4
      have f37 : s37 24 0 0 12 = -1 := by rw [c3]; exact hS.2.2.2.2.2.2.2
      have hP37 : ab_PR σ1 0 (s37 25 0 0) A1 (t + 1) := by rw [c4.1 25 (by decide)]; exact hA1
      rw [c1, pu_b2, hM37.2.1, it_le (by omega) (by omega)] at hm
      rw [tx_S_r hS, if_neg (show ¬ (1 : Int32) = 0 by decide)] at hc
      by_cases cl : l ≤ b'
      · have hk : k_tp_atEnd σ1 = 1 := by rw [k_tp_atEnd, hS.2.2.1.2.1, tx_k, if_pos cl]; rfl
        rw [if_pos cl, tl_out0] at hm
        rw [hk, if_neg (show ¬ (1 : Int32) = 0 by decide), pu_rxl] at hc
        exact ⟨σ1, s37, a3, mf_tr a4 (mf_t c4), Or.inl ⟨n + 1, A1, hc, hm, by omega, by omega, ⟨b', b', hS.1, hM37, hS.2.2.1, c2, k2, k4, hS.2.2.2.2.2.2.1, f37⟩, w9, PR_mono hP37 (by omega) ht⟩⟩
      · have hB := (hM37.2.2 b' (by omega))
        have hk3 : tx_k B l b' ≤ 3 ∧ tx_k B l b' ≠ 0 := by
          rw [tx_k, if_neg cl]
          split
          · omega
          · split <;> omega
        have hk : k_tp_atEnd σ1 = 0 := by rw [k_tp_atEnd, hS.2.2.1.2.1, itx_eq (a := tx_k B l b') (b := 0) (y := 0) rfl rfl (by omega) (by decide), if_neg hk3.2]
        rw [if_neg cl, if_pos f37, c2, pu_rd (by omega) (by decide), pu_b1, hB.2, itx_eq (a := B b') (b := 59) (y := 59) rfl rfl (by omega) (by decide), pu_let, nI_1] at hm
        rw [hk, if_pos rfl] at hc
        have hse : k_tp_takeSemicolon σ1 = if B b' = 59 then en_b1 (k_tp_advance σ1) fun s10 => some s10 else en_b1 (k_tp_markHere σ1) fun s8 => some s8 := by
          rw [k_tp_takeSemicolon, tx_S_r hS, if_neg (show ¬ (1 : Int32) = 0 by decide), hS.2.2.1.2.1, hS.2.2.1.1, itx_eq (a := tx_k B l b') (b := 3) (y := 3) rfl rfl (by omega) (by decide), tp_byte hS.1 (by omega), pu_b1, itx_eq (a := B b') (b := 59) (y := 59) rfl rfl (by omega) (by decide)]
          by_cases c59 : B b' = 59
          · have hk3' : tx_k B l b' = 3 := by
              rw [tx_k, if_neg cl, c59]
              rfl
            rw [if_pos hk3', if_pos c59]
          · rw [if_neg c59]
            split <;> rfl
        by_cases c59 : B b' = 59
        · have hka : tx_a B l b' = b' + 1 := by
            rw [tx_a, if_neg cl, c59]
            rfl
          obtain ⟨σ2, d1, d2, d3⟩ := tp_adv hS.1 (p := b' + 1) (by omega) (by rw [hS.2.2.1.2.2, hka])
          rw [if_pos c59, d1, pu_b1] at hse
          obtain ⟨s44, h44⟩ : ∃ z, en_wr s37 24 0 0 11 (nI (b' + 1)) = z := ⟨_, rfl⟩
          have f44 : tm_f s37 s44 := by rw [← h44]; exact tm_f_11
          have hS2 : tx_S σ2 s44 B l (tx_run tx_bl B l (b' + 1)) (b' + 1) := ⟨tx_C_f hS.1 d3, tx_M_f hM37 f44, d2, by rw [← h44, pu_wr_eq], by omega, rfl, by rw [d3.2.2]; exact hS.2.2.2.2.2.2.1, by rw [← h44, pu_wr_k (by decide)]; exact f37⟩
          rw [if_pos c59, h44] at hm
          rw [hse, pu_b1, tx_S_r hS2, if_neg (show ¬ (1 : Int32) = 0 by decide)] at hc
          have hP2 : ab_PR σ2 0 (s44 25 0 0) A1 (t + 1) := by
            rw [f44.1 25 (by decide)]
            exact PR_fr hP37 (fun j q => by rw [d3.1 j (by omega)])
          obtain ⟨σ3, τ3, g1, g2, g3⟩ := ih (n + 1) (F1 + 1) (F2 + 1) (t + 1) σ2 s44 A1 _ _ (by omega) (by omega) (by omega) hS2 hP2 (by omega)
          have w92 : σ2 14 0 0 9 = σ 14 0 0 9 := by rw [d3.1 14 (by decide)]; exact w9
          refine ⟨σ3, τ3, tc_tr a3 (tc_tr (tc_20 d3.1) g1), mf_tr a4 (mf_tr (mf_t (tm_f_tr c4 f44)) g2), ?_⟩
          rw [hc, hm]
          rcases g3 with ⟨k, A2, q1, q2, q3, q4, q5, q6, q7⟩ | ⟨k, cd, w, q1, q2, q3, q4⟩
          · exact Or.inl ⟨k, A2, q1, q2, q3, q4, q5, by rw [q6, w92], by rw [show t + (d + 1) = t + 1 + d by omega]; exact q7⟩
          · refine Or.inr ⟨k, cd, w, q1, q2, q3, ?_⟩
            rcases q4 with ⟨z1, z2⟩ | z
            · exact Or.inl ⟨z1, by rw [z2, w92]⟩
            · exact Or.inr z
        · obtain ⟨wC, wM, wX⟩ := tx_mark (w := b') hS.1 hM37 hS.2.2.2.2.2.2.1 f37 c2 (by omega) (by omega)
          obtain ⟨s46, h46⟩ : ∃ z, en_wr s37 24 0 0 12 (nI b') = z := ⟨_, rfl⟩
          rw [h46] at wM wX
          have e46 : s46 24 0 0 11 = nI b' := by rw [← h46, pu_wr_k (by decide), c2]
          have hX2 : tx_X (en_wr σ1 20 0 0 5 (nI b')) (en_wr s46 24 0 0 11 (nI (b' + 1))) B l b' := ⟨wX.1, tx_M_f wX.2.1 tm_f_11, wX.2.2.1, wX.2.2.2.1, by rw [pu_wr_k (by decide)]; exact wX.2.2.2.2.1, b' + 1, by omega, pu_wr_eq⟩
          rw [if_neg c59, k_tp_markHere, hS.2.2.1.1, wC, pu_b1, pu_b1] at hse
          rw [if_neg c59, wM, pu_b1, pu_let, e46, nI_1, tl_out _ _ _ (tx_X_ne hX2)] at hm
          rw [hse, pu_b1, tx_X_w hX2, if_pos rfl, pu_rxl] at hc
          refine ⟨_, _, tc_tr a3 (tc_20 (fun j q => by rw [pu_wr_j q])), mf_tr a4 (mf_tr (mf_t c4) (mf_t (tm_f_tr (by rw [← h46]; exact tm_f_12) tm_f_11))), Or.inr ⟨_, _, b', hc, hm, hX2, Or.inl ⟨rfl, by rw [pu_wr_j (by decide)]; exact w9⟩⟩⟩
    · obtain ⟨x, s37, b1, b2, b3⟩ := tx_X_here X
      have hse : k_tp_takeSemicolon σ1 = some σ1 := by rw [k_tp_takeSemicolon, tx_X_w X, if_pos rfl]
      rw [b1, pu_b2, tl_out0, if_neg (tx_X_ne b2), tl_out _ _ _ (tx_X_ne b2)] at hm
      rw [tx_X_w X, if_pos rfl, hse, pu_b1, tx_X_w X, if_pos rfl, pu_rxl] at hc
      refine ⟨σ1, s37, a3, mf_tr a4 (mf_t b3), Or.inr ⟨nI (n + 1), code, w, hc, ?_, b2, hw⟩⟩
      rw [hm]
      split <;> rfl
end taa

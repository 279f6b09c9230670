/-! Texts: the model reads, and both. -/
def tm_f (τ s : en_M) : Prop := (∀ j, j ≠ 24 → s j = τ j) ∧ ∀ k, k ≠ 11 → k ≠ 12 → s 24 0 0 k = τ 24 0 0 k
theorem tm_f_rf (τ : en_M) : tm_f τ τ := ⟨fun _ _ => rfl, fun _ _ _ => rfl⟩
theorem tm_f_tr {a b c : en_M} (h : tm_f a b) (h2 : tm_f b c) : tm_f a c := ⟨fun j q => by rw [h2.1 j q, h.1 j q], fun k q1 q2 => by rw [h2.2 k q1 q2, h.2 k q1 q2]⟩
theorem tm_f_11 {τ : en_M} {v : Int32} : tm_f τ (en_wr τ 24 0 0 11 v) := ⟨fun j q => by rw [pu_wr_j q], fun k q _ => by rw [pu_wr_k q]⟩
theorem tm_f_12 {τ : en_M} {v : Int32} : tm_f τ (en_wr τ 24 0 0 12 v) := ⟨fun j q => by rw [pu_wr_j q], fun k _ q => by rw [pu_wr_k q]⟩
theorem tx_M_f {τ s : en_M} {B : Nat → Nat} {l : Nat} (h : tx_M τ B l) (hf : tm_f τ s) : tx_M s B l := ⟨h.1, by rw [hf.2 10 (by decide) (by decide)]; exact h.2.1, by rw [hf.1 29 (by decide)]; exact h.2.2⟩
def tx_v (B : Nat → Nat) (b : Nat) : Nat → Nat
  | 0 => 0
  | j + 1 => 10 * tx_v B b j + (B (b + j) - 48)
theorem tx_dg_b {b : Nat} (h : tx_dg b = true) : 48 ≤ b ∧ b ≤ 57 := by
  rw [tx_dg, Bool.and_eq_true, Nat.ble_eq, Nat.ble_eq] at h
  exact h
theorem tx_v_lt {B : Nat → Nat} {b : Nat} : ∀ m, (∀ i, i < m → tx_dg (B (b + i)) = true) → tx_v B b m < 10 ^ m := by
  intro m
  induction m with
  | zero => intro _; exact Nat.one_pos
  | succ m ih =>
    intro h
    have h1 := ih (fun i q => h i (by omega))
    have h2 := tx_dg_b (h m (by omega))
    rw [tx_v, Nat.pow_succ]
    omega
section tmm
variable {B : Nat → Nat} {l : Nat}
theorem tm_0 : ∀ d p F (τ : en_M), tx_M τ B l → τ 24 0 0 11 = nI p → p + d = l → d < F → ∃ s, k_mm_here_0 F τ = some s ∧ s 24 0 0 11 = nI (tx_run tx_bl B l p) ∧ s 24 0 0 12 = τ 24 0 0 12 ∧ tm_f τ s := by
  intro d
  induction d with
  | zero =>
    intro p F τ h h3 e hF
    obtain ⟨F, rfl⟩ : ∃ q, F = q + 1 := ⟨F - 1, by omega⟩
    have h400 := h.1
    refine ⟨τ, ?_, by rw [tx_end (by omega)]; exact h3, rfl, tm_f_rf τ⟩
    rw [k_mm_here_0, h3, h.2.1, it_le (by omega) (by omega), if_pos (by omega)]
  | succ d ih =>
    intro p F τ h h3 e hF
    obtain ⟨F, rfl⟩ : ∃ q, F = q + 1 := ⟨F - 1, by omega⟩
    have h400 := h.1
    obtain ⟨hb, hb2⟩ := h.2.2 p (by omega)
    rw [k_mm_here_0, h3, h.2.1, it_le (by omega) (by omega), if_neg (by omega), pu_rd (by omega) (by decide), pu_b1, hb2, itx_eq (a := B p) (b := 32) (y := 32) rfl rfl (by omega) (by decide), pu_let, nI_1]
    by_cases c : B p = 32
    · rw [if_pos c]
      have hP : tx_bl (B p) = true := by rw [tx_bl, c]; rfl
      obtain ⟨s, s1, s2, s3, s4⟩ := ih (p + 1) F (en_wr τ 24 0 0 11 (nI (p + 1))) (tx_M_f h tm_f_11) pu_wr_eq (by omega) (by omega)
      exact ⟨s, s1, by rw [tx_go (by omega) hP]; exact s2, by rw [s3, pu_wr_k (by decide)], tm_f_tr tm_f_11 s4⟩
    · rw [if_neg c]
      have hP : ¬ tx_bl (B p) = true := by
        rw [tx_bl, beq_iff_eq]
        exact c
      exact ⟨τ, rfl, by rw [tx_no hP]; exact h3, rfl, tm_f_rf τ⟩
theorem tm_here {τ : en_M} (h : tx_M τ B l) {p : Nat} (hp : p ≤ 500) (h3 : τ 24 0 0 11 = nI p) : ∃ s, k_mm_here τ = some (nI (tx_run tx_bl B l p), s) ∧ s 24 0 0 11 = nI (tx_run tx_bl B l p) ∧ s 24 0 0 12 = τ 24 0 0 12 ∧ tm_f τ s := by
  have h400 := h.1
  by_cases c : p ≤ l
  · obtain ⟨s, s1, s2, s3, s4⟩ := tm_0 (B := B) (l := l) (l - p) p en_fu τ h h3 (by omega) (by rw [en_fu]; omega)
    exact ⟨s, by rw [k_mm_here, s1, pu_b1, s2], s2, s3, s4⟩
  · rw [tx_end (by omega)]
    refine ⟨τ, ?_, h3, rfl, tm_f_rf τ⟩
    rw [k_mm_here, show en_fu = 99999 + 1 from rfl, k_mm_here_0, h3, h.2.1, it_le (by omega) (by omega), if_pos (by omega), pu_b1, h3]
theorem tm_5 {τ : en_M} (h : tx_M τ B l) (w : Nat) : ∀ d p F, p + d = l → d < F → k_mm_has_5 F w (nI p) τ = some (nI (tx_run tx_lt B l p)) := by
  have h400 := h.1
  intro d
  induction d with
  | zero =>
    intro p F e hF
    obtain ⟨F, rfl⟩ : ∃ q, F = q + 1 := ⟨F - 1, by omega⟩
    rw [k_mm_has_5, h.2.1, it_le (by omega) (by omega), if_pos (by omega), tx_end (by omega)]
  | succ d ih =>
    intro p F e hF
    obtain ⟨F, rfl⟩ : ∃ q, F = q + 1 := ⟨F - 1, by omega⟩
    obtain ⟨hb, hb2⟩ := h.2.2 p (by omega)
    have e1 : (k_mm_isIn (nI (B p)) 97 122 = 0) = ¬ tx_lt (B p) = true := tp_lt hb
    rw [k_mm_has_5, h.2.1, it_le (by omega) (by omega), if_neg (by omega), pu_rd (by omega) (by decide), pu_b1, hb2, nI_1]
    by_cases c : tx_lt (B p) = true
    · rw [if_neg (by rw [e1]; exact fun q => q c), tx_go (by omega) c]
      exact ih (p + 1) F (by omega) (by omega)
    · rw [if_pos (by rw [e1]; exact c), tx_no c]
theorem tw_loop {σ τ : en_M} (hC : tx_C σ B l) (hM : tx_M τ B l) {b w L : Nat} (hL : en_sl.getD (w - 1) 0 = L) (hb : b + L ≤ l) (h3 : σ 20 0 0 3 = nI b) (h11 : τ 24 0 0 11 = nI b) (x : Int32) : ∀ d i F, i + d = L → d < F → (k_tp_isWord_28 F w (nI i) σ = some (.inr ()) ∧ k_mm_has_60 F w x (nI i) τ = some (.inr ())) ∨ (k_tp_isWord_28 F w (nI i) σ = some (.inl 0) ∧ k_mm_has_60 F w x (nI i) τ = some (.inl (0, τ))) := by
  have h400 := hC.1
  have eL : en_len w = nI L := by rw [en_len, hL]; rfl
  intro d
  induction d with
  | zero =>
    intro i F e hF
    obtain ⟨F, rfl⟩ : ∃ q, F = q + 1 := ⟨F - 1, by omega⟩
    refine Or.inl ⟨?_, ?_⟩
    · rw [k_tp_isWord_28, eL, it_le (by omega) (by omega), if_pos (by omega)]
    · rw [k_mm_has_60, eL, it_le (by omega) (by omega), if_pos (by omega)]
  | succ d ih =>
    intro i F e hF
    obtain ⟨F, rfl⟩ : ∃ q, F = q + 1 := ⟨F - 1, by omega⟩
    have hc : en_chr w (nI i) = some ((en_sb.getD (w - 1) []).getD i 0) := by
      rw [en_chr, hL, pu_inb (by omega) (by omega), if_pos rfl, pu_cl (by omega)]
    rw [k_tp_isWord_28, k_mm_has_60, eL, it_le (by omega) (by omega), if_neg (by omega), it_le (by omega) (by omega), if_neg (by omega), h3, h11, nI_add, tp_byte hC (by omega), pu_b1, pu_rd (by omega) (by decide), pu_b1, hc, pu_b1, pu_b1, (hM.2.2 (b + i) (by omega)).2, nI_1]
    by_cases c : nI (B (b + i)) = (en_sb.getD (w - 1) []).getD i 0
    · rw [if_pos c, if_pos c]
      exact ih (i + 1) F (by omega) (by omega)
    · rw [if_neg c, if_neg c]
      exact Or.inr ⟨rfl, rfl⟩
/-- both read on: the class has the thing that begins at b, the model stands at p -/
def tx_S (σ τ : en_M) (B : Nat → Nat) (l b p : Nat) : Prop := tx_C σ B l ∧ tx_M τ B l ∧ tx_ct σ B l b ∧ τ 24 0 0 11 = nI p ∧ p ≤ l ∧ tx_run tx_bl B l p = b ∧ σ 20 0 0 5 = -1 ∧ τ 24 0 0 12 = -1
/-- the text is wrong at w -/
def tx_X (σ τ : en_M) (B : Nat → Nat) (l w : Nat) : Prop := tx_C σ B l ∧ tx_M τ B l ∧ w ≤ 400 ∧ σ 20 0 0 5 = nI w ∧ τ 24 0 0 12 = nI w ∧ ∃ p, p ≤ 400 ∧ τ 24 0 0 11 = nI p
def tx_R (σ τ : en_M) (B : Nat → Nat) (l : Nat) : Prop := ∃ b p, tx_S σ τ B l b p
theorem tx_S_b {σ τ : en_M} {b p : Nat} (h : tx_S σ τ B l b p) : p ≤ b ∧ b ≤ l ∧ l ≤ 400 ∧ tx_run tx_bl B l b = b := by
  obtain ⟨h1, h2, h3, h4, h5, h6, h7, h8⟩ := h
  obtain ⟨a1, a2, -⟩ := tx_bd (P := tx_bl) (B := B) h5
  have := tx_idem (P := tx_bl) (B := B) h5
  rw [h6] at a1 a2 this
  exact ⟨a1, a2, h1.1, this⟩
theorem tw_word {σ τ : en_M} {b p w L : Nat} (h : tx_S σ τ B l b p) (hL : en_sl.getD (w - 1) 0 = L) (h0 : 0 < L) (h5 : L ≤ 5) : (∃ τ1, k_tp_isWord w σ = some 0 ∧ k_mm_has w τ = some (0, τ1) ∧ tx_S σ τ1 B l b b ∧ tm_f τ τ1) ∨ (∃ τ1 σ1, k_tp_isWord w σ = some 1 ∧ k_mm_has w τ = some (1, τ1) ∧ k_tp_advance σ = some σ1 ∧ tx_R σ1 τ1 B l ∧ tp_f σ σ1 ∧ tm_f τ τ1) := by
  obtain ⟨c1, c2, c3, c4⟩ := tx_S_b h
  obtain ⟨hC, hM, ⟨t3, t2, t4⟩, m1, m2, m3, f1, f2⟩ := h
  have eL : en_len w = nI L := by rw [en_len, hL]; rfl
  obtain ⟨s2, a1, a2, a3, a4⟩ := tm_here hM (p := p) (by omega) m1
  rw [m3] at a1 a2
  have hM2 := tx_M_f hM a4
  have k5 := tm_5 hM2 w (l - b) b en_fu (by omega) (by rw [en_fu]; omega)
  obtain ⟨r1, r2, r3, r4⟩ := tx_bd (P := tx_lt) (B := B) c2
  obtain ⟨r, hr⟩ : ∃ r, tx_run tx_lt B l b = r := ⟨_, rfl⟩
  rw [hr] at k5 r1 r2 r3 r4
  have stay : tx_S σ s2 B l b b := ⟨hC, hM2, ⟨t3, t2, t4⟩, a2, c2, c4, f1, by rw [a3]; exact f2⟩
  have hm : k_mm_has w τ = if r - b = L then en_rx (k_mm_has_60 en_fu w (nI r) 0 s2) (fun r20 => some r20) (fun _ => some (1, en_wr s2 24 0 0 11 (nI r))) else some (0, s2) := by
    rw [k_mm_has, a1, pu_b2, k5, pu_b1, a3, if_pos f2, a2, pk_sub r1, eL, it_eq (by omega) (by omega)]
    rfl
  by_cases hk : b < l ∧ tx_lt (B b) = true
  · have hkd : tx_k B l b = 1 := by rw [tx_k, if_neg (by omega), if_pos hk.2]
    have hka : tx_a B l b = r := by rw [tx_a, if_neg (by omega), if_pos hk.2, hr]
    rw [hka] at t4
    have hc : k_tp_isWord w σ = if r - b = L then en_rx (k_tp_isWord_28 en_fu w 0 σ) (fun r11 => some r11) (fun _ => some 1) else some 0 := by
      rw [k_tp_isWord, t2, hkd, if_pos (show nI 1 = 1 from rfl), t4, t3, pk_sub r1, eL, it_eq (by omega) (by omega)]
    by_cases hl : r - b = L
    · rw [if_pos hl] at hc hm
      rcases tw_loop hC hM2 hL (b := b) (by omega) t3 a2 (nI r) L 0 en_fu (by omega) (by rw [en_fu]; omega) with ⟨w1, w2⟩ | ⟨w1, w2⟩
      · rw [nI_0] at w1 w2
        rw [w1, pu_rxr] at hc
        rw [w2, pu_rxr] at hm
        obtain ⟨σ1, s1, sc, sf⟩ := tp_adv hC r2 t4
        refine Or.inr ⟨_, σ1, hc, hm, s1, ⟨_, r, tx_C_f hC sf, tx_M_f hM2 tm_f_11, sc, pu_wr_eq, r2, rfl, by rw [sf.2.2]; exact f1, by rw [pu_wr_k (by decide), a3]; exact f2⟩, sf, tm_f_tr a4 tm_f_11⟩
      · rw [nI_0] at w1 w2
        rw [w1, pu_rxl] at hc
        rw [w2, pu_rxl] at hm
        exact Or.inl ⟨s2, hc, hm, stay, a4⟩
    · rw [if_neg hl] at hc hm
      exact Or.inl ⟨s2, hc, hm, stay, a4⟩
  · have hrb : r = b := by
      rw [← hr]
      by_cases cl : b < l
      · exact tx_no (fun q => hk ⟨cl, q⟩)
      · exact tx_end (by omega)
    have hkd : ¬ tx_k B l b = 1 := by
      rw [tx_k]
      by_cases cl : l ≤ b
      · rw [if_pos cl]; decide
      · rw [if_neg cl, if_neg (fun q => hk ⟨by omega, q⟩)]
        split <;> decide
    have hk3 : tx_k B l b ≤ 3 := by
      rw [tx_k]
      split
      · omega
      · split
        · omega
        · split <;> omega
    have hc : k_tp_isWord w σ = some 0 := by
      rw [k_tp_isWord, t2, itx_eq (a := tx_k B l b) (b := 1) (y := 1) rfl rfl (by omega) (by decide), if_neg hkd]
    rw [if_neg (by omega)] at hm
    exact Or.inl ⟨s2, hc, hm, stay, a4⟩
/-- what a wrong thing does -/
theorem tx_mark {σ τ : en_M} {p w : Nat} (hC : tx_C σ B l) (hM : tx_M τ B l) (f1 : σ 20 0 0 5 = -1) (f2 : τ 24 0 0 12 = -1) (m1 : τ 24 0 0 11 = nI p) (hp : p ≤ 400) (hw : w ≤ 400) : k_tp_markAt (nI w) σ = some (en_wr σ 20 0 0 5 (nI w)) ∧ k_mm_wrong (nI w) τ = some (en_wr τ 24 0 0 12 (nI w)) ∧ tx_X (en_wr σ 20 0 0 5 (nI w)) (en_wr τ 24 0 0 12 (nI w)) B l w := by
  refine ⟨by rw [k_tp_markAt, if_pos f1]; rfl, by rw [k_mm_wrong, if_pos f2]; rfl, ⟨hC.1, by rw [pu_wr_k (by decide)]; exact hC.2.1, by rw [pu_wr_j (by decide)]; exact hC.2.2⟩, tx_M_f hM tm_f_12, hw, pu_wr_eq, pu_wr_eq, p, hp, by rw [pu_wr_k (by decide)]; exact m1⟩
end tmm

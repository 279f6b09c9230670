/-! Texts: numbers. -/
section tnn
variable {B : Nat → Nat} {l : Nat}
theorem tn_val {v c : Nat} (h : 48 ≤ c) : 10 * nI v + nI c - 48 = nI (10 * v + (c - 48)) := by
  rw [show (10 : Int32) = nI 10 from rfl, pk_mul, nI_add, show (48 : Int32) = nI 48 from rfl, pk_sub (by omega)]
  congr 1
  omega
theorem tn_30 {σ : en_M} (h : tx_C σ B l) {b a : Nat} (hd : ∀ i, b ≤ i → i < a → tx_dg (B i) = true) (ha : a ≤ l) (h4 : σ 20 0 0 4 = nI a) : ∀ d m F, b + m + d = a → d < F → k_tp_numberHere_30 F (nI (tx_v B b m)) (nI (b + m)) σ = some (nI (tx_v B b (a - b))) := by
  have h400 := h.1
  intro d
  induction d with
  | zero =>
    intro m F e hF
    obtain ⟨F, rfl⟩ : ∃ q, F = q + 1 := ⟨F - 1, by omega⟩
    rw [k_tp_numberHere_30, h4, it_le (by omega) (by omega), if_pos (by omega), show a - b = m by omega]
  | succ d ih =>
    intro m F e hF
    obtain ⟨F, rfl⟩ : ∃ q, F = q + 1 := ⟨F - 1, by omega⟩
    have hdg := tx_dg_b (hd (b + m) (by omega) (by omega))
    have i1 := ih (m + 1) F (by omega) (by omega)
    rw [tx_v] at i1
    rw [k_tp_numberHere_30, h4, it_le (by omega) (by omega), if_neg (by omega), tp_byte h (by omega), pu_b1, tn_val hdg.1, nI_1]
    exact i1
theorem tn_18 {b r N : Nat} (hbr : b ≤ r) (hrl : r ≤ l) (hd : ∀ i, b ≤ i → i < r → tx_dg (B i) = true) (hr : r < l → ¬ tx_dg (B r) = true) (hN : N = min 5 (r - b)) (v1 v2 : Int32) : ∀ d m F (τ : en_M), tx_M τ B l → τ 24 0 0 11 = nI (b + m) → m + d = N → d < F → ∃ s, k_mm_number_18 F v1 v2 (nI b) (nI (tx_v B b m)) τ = some (nI (tx_v B b N), s) ∧ s 24 0 0 11 = nI (b + N) ∧ s 24 0 0 12 = τ 24 0 0 12 ∧ tm_f τ s := by
  intro d
  induction d with
  | zero =>
    intro m F τ h m1 e hF
    have h400 := h.1
    obtain ⟨F, rfl⟩ : ∃ q, F = q + 1 := ⟨F - 1, by omega⟩
    have hm : m = N := by omega
    subst hm
    refine ⟨τ, ?_, m1, rfl, tm_f_rf τ⟩
    rw [k_mm_number_18, m1, h.2.1, it_le (by omega) (by omega)]
    by_cases cl : l ≤ b + m
    · rw [if_pos cl]
    · obtain ⟨hb, hb2⟩ := h.2.2 (b + m) (by omega)
      have e1 : (k_mm_isIn (nI (B (b + m))) 48 57 = 0) = ¬ tx_dg (B (b + m)) = true := tp_dg hb
      rw [if_neg cl, pu_rd (by omega) (by decide), pu_b1, hb2]
      by_cases cd : tx_dg (B (b + m)) = true
      · rw [if_neg (by rw [e1]; exact fun q => q cd), pk_sub (by omega), show b + m - b = m by omega, itx_lt (a := 4) (b := m) (x := 4) rfl rfl (by decide) (by omega), if_pos]
        apply Decidable.byContradiction
        intro q
        have hmr : b + m = r := by omega
        rw [hmr] at cd cl
        exact hr (by omega) cd
      · rw [if_pos (by rw [e1]; exact cd)]
  | succ d ih =>
    intro m F τ h m1 e hF
    have h400 := h.1
    obtain ⟨F, rfl⟩ : ∃ q, F = q + 1 := ⟨F - 1, by omega⟩
    have cd := hd (b + m) (by omega) (by omega)
    have hdg := tx_dg_b cd
    obtain ⟨hb, hb2⟩ := h.2.2 (b + m) (by omega)
    have e1 : (k_mm_isIn (nI (B (b + m))) 48 57 = 0) = ¬ tx_dg (B (b + m)) = true := tp_dg hb
    obtain ⟨s, s1, s2, s3, s4⟩ := ih (m + 1) F (en_wr τ 24 0 0 11 (nI (b + m + 1))) (tx_M_f h tm_f_11) (by rw [pu_wr_eq, Nat.add_assoc]) (by omega) (by omega)
    rw [tx_v] at s1
    refine ⟨s, ?_, s2, by rw [s3, pu_wr_k (by decide)], tm_f_tr tm_f_11 s4⟩
    rw [k_mm_number_18, m1, h.2.1, it_le (by omega) (by omega), if_neg (by omega), pu_rd (by omega) (by decide), pu_b1, pu_b1, hb2, if_neg (by rw [e1]; exact fun q => q cd), pk_sub (by omega), show b + m - b = m by omega, itx_lt (a := 4) (b := m) (x := 4) rfl rfl (by decide) (by omega), if_neg (by omega), pu_let, nI_1, tn_val hdg.1]
    exact s1
theorem tn_wi {v lo hi : Nat} (hv : v < 2 ^ 31) (hlo : lo < 2 ^ 31) (hhi : hi < 2 ^ 31) : k_cc_within (nI v) (nI lo) (nI hi) = if v < lo then 0 else if hi < v then 0 else 1 := by
  show (if nI v < nI lo then _ else if nI hi < nI v then _ else _) = _
  rw [it_lt hv hlo, it_lt hhi hv]
theorem tn_wm {lo hi : Nat} (hlo : lo < 2 ^ 31) : k_cc_within (-1) (nI lo) (nI hi) = 0 := by
  show (if (-1 : Int32) < nI lo then _ else _) = _
  rw [if_pos]
  rw [nu_ltx hlo]
  have : ((-1 : Int32)).toInt = -1 := by decide
  omega
/-- a number is read by both, or is wrong for both -/
theorem tn_num {σ τ : en_M} {lo hi : Nat} (hlo : lo ≤ 9999) (hhi : hi ≤ 9999) (h : tx_R σ τ B l) : ∃ σ1 τ1 x y, k_tp_takeNumber (nI lo) (nI hi) σ = some (x, σ1) ∧ k_mm_number (nI lo) (nI hi) τ = some (y, τ1) ∧ tm_f τ τ1 ∧ (∀ j, j ≠ 20 → σ1 j = σ j) ∧ ((tx_R σ1 τ1 B l ∧ ∃ v, x = nI v ∧ y = nI v ∧ lo ≤ v ∧ v ≤ hi) ∨ ∃ w, tx_X σ1 τ1 B l w) := by
  obtain ⟨b, p, h⟩ := h
  obtain ⟨c1, c2, c3, c4⟩ := tx_S_b h
  obtain ⟨hC, hM, ⟨t3, t2, t4⟩, m1, m2, m3, f1, f2⟩ := h
  obtain ⟨s3, a1, a2, a3, a4⟩ := tm_here hM (p := p) (by omega) m1
  rw [m3] at a1 a2
  have hM3 := tx_M_f hM a4
  obtain ⟨r1, r2, r3, r4⟩ := tx_bd (P := tx_dg) (B := B) c2
  obtain ⟨r, hr⟩ : ∃ r, tx_run tx_dg B l b = r := ⟨_, rfl⟩
  rw [hr] at r1 r2 r3 r4
  obtain ⟨N, hN⟩ : ∃ N, N = min 5 (r - b) := ⟨_, rfl⟩
  obtain ⟨s15, d1, d2, d3, d4⟩ := tn_18 r1 r2 r3 r4 hN (nI lo) (nI hi) N 0 en_fu s3 hM3 a2 (by omega) (by rw [en_fu]; omega)
  have d1' : k_mm_number_18 en_fu (nI lo) (nI hi) (nI b) 0 s3 = some (nI (tx_v B b N), s15) := d1
  have f12 : s15 24 0 0 12 = -1 := by rw [d3, a3]; exact f2
  have hM15 := tx_M_f hM3 d4
  have e4 : ∀ {α : Type} {y z : α}, (if (4 : Int32) < nI (b + N) - nI b then y else z) = (if 4 < N then y else z) := fun {α y z} => by
    rw [pk_sub (by omega), show b + N - b = N by omega, itx_lt (a := 4) (b := N) (x := 4) rfl rfl (by decide) (by omega)]
  obtain ⟨wC, wM, wX⟩ := tx_mark (w := b) hC hM15 f1 f12 d2 (by omega) (by omega)
  have right : k_tp_isRight σ = 1 := by rw [k_tp_isRight, if_pos f1]
  have wrongC : k_tp_numberHere σ = some (-1) → k_tp_takeNumber (nI lo) (nI hi) σ = some (-1, en_wr σ 20 0 0 5 (nI b)) := fun q => by
    rw [k_tp_takeNumber, right, if_neg (by decide), q, pu_b1, if_pos (tn_wm (by omega)), k_tp_markHere, t3, wC, pu_b1, pu_b1]
  have frw : ∀ j, j ≠ 20 → en_wr σ 20 0 0 5 (nI b) j = σ j := fun j q => by rw [pu_wr_j q]
  have fail : ∀ {x : Int32}, k_tp_takeNumber (nI lo) (nI hi) σ = some (x, en_wr σ 20 0 0 5 (nI b)) → k_mm_number (nI lo) (nI hi) τ = some (nI (tx_v B b N), en_wr s15 24 0 0 12 (nI b)) → ∃ σ1 τ1 x y, k_tp_takeNumber (nI lo) (nI hi) σ = some (x, σ1) ∧ k_mm_number (nI lo) (nI hi) τ = some (y, τ1) ∧ tm_f τ τ1 ∧ (∀ j, j ≠ 20 → σ1 j = σ j) ∧ ((tx_R σ1 τ1 B l ∧ ∃ v, x = nI v ∧ y = nI v ∧ lo ≤ v ∧ v ≤ hi) ∨ ∃ w, tx_X σ1 τ1 B l w) := fun q1 q2 => ⟨_, _, _, _, q1, q2, tm_f_tr (tm_f_tr a4 d4) tm_f_12, frw, Or.inr ⟨b, wX⟩⟩
  have mod : k_mm_number (nI lo) (nI hi) τ = if N = 0 then some (nI (tx_v B b N), en_wr s15 24 0 0 12 (nI b)) else if 4 < N then some (nI (tx_v B b N), en_wr s15 24 0 0 12 (nI b)) else if nI (tx_v B b N) < nI lo then some (nI (tx_v B b N), en_wr s15 24 0 0 12 (nI b)) else if nI (tx_v B b N) ≤ nI hi then some (nI (tx_v B b N), s15) else some (nI (tx_v B b N), en_wr s15 24 0 0 12 (nI b)) := by
    rw [k_mm_number, if_pos f2, a1, pu_b2, d1', pu_b2, d2, it_eq (by omega) (by omega), e4, wM, pu_b1]
    by_cases q : N = 0
    · rw [if_pos q, if_pos (by omega)]
    · rw [if_neg q, if_neg (by omega)]
  by_cases hk : b < l ∧ tx_dg (B b) = true
  · have hnl : ¬ tx_lt (B b) = true := by
      have := tx_dg_b hk.2
      rw [tx_lt, Bool.and_eq_true, Nat.ble_eq, Nat.ble_eq]
      omega
    have hkd : tx_k B l b = 2 := by rw [tx_k, if_neg (by omega), if_neg hnl, if_pos hk.2]
    have hka : tx_a B l b = r := by rw [tx_a, if_neg (by omega), if_neg hnl, if_pos hk.2, hr]
    rw [hka] at t4
    have hbr : b < r := by
      rw [← hr, tx_go hk.1 hk.2]
      exact (tx_bd (P := tx_dg) (B := B) (show b + 1 ≤ l by omega)).1
    have hnh : k_tp_numberHere σ = if r - b ≤ 4 then some (nI (tx_v B b (r - b))) else some (-1) := by
      have k30 := tn_30 hC (b := b) (a := r) r3 r2 t4 (r - b) 0 en_fu (by omega) (by rw [en_fu]; omega)
      have k30' : k_tp_numberHere_30 en_fu 0 (nI b) σ = some (nI (tx_v B b (r - b))) := k30
      rw [k_tp_numberHere, t2, hkd, if_pos (show nI 2 = 2 from rfl), t4, t3, pk_sub r1, itx_le (a := r - b) (b := 4) (y := 4) rfl rfl (by omega) (by decide), k30', pu_b1]
    by_cases h4 : r - b ≤ 4
    · rw [if_pos h4] at hnh
      have hN4 : N = r - b := by omega
      have hvl : tx_v B b N < 10000 := by
        have q1 := tx_v_lt (B := B) (b := b) N (fun i q => r3 (b + i) (by omega) (by omega))
        have q2 : 10 ^ N ≤ 10 ^ 4 := Nat.pow_le_pow_right (by decide) (by omega)
        omega
      rw [← hN4] at hnh
      rw [if_neg (by omega), if_neg (by omega), it_lt (by omega) (by omega), it_le (by omega) (by omega)] at mod
      have cls : k_tp_takeNumber (nI lo) (nI hi) σ = if (if tx_v B b N < lo then (0 : Int32) else if hi < tx_v B b N then 0 else 1) = 0 then some (-1, en_wr σ 20 0 0 5 (nI b)) else en_b1 (k_tp_advance σ) fun s5 => some (nI (tx_v B b N), s5) := by
        rw [k_tp_takeNumber, right, if_neg (by decide), hnh, pu_b1, tn_wi (by omega) (by omega) (by omega), k_tp_markHere, t3, wC, pu_b1, pu_b1]
      by_cases g1 : tx_v B b N < lo
      · rw [if_pos g1] at mod
        rw [if_pos g1, if_pos rfl] at cls
        exact fail cls mod
      · rw [if_neg g1] at mod
        rw [if_neg g1] at cls
        by_cases g2 : hi < tx_v B b N
        · rw [if_neg (by omega)] at mod
          rw [if_pos g2, if_pos rfl] at cls
          exact fail cls mod
        · rw [if_pos (by omega)] at mod
          rw [if_neg g2, if_neg (by decide)] at cls
          obtain ⟨σ1, s1, sc, sf⟩ := tp_adv hC r2 t4
          rw [s1, pu_b1] at cls
          refine ⟨σ1, s15, _, _, cls, mod, tm_f_tr a4 d4, sf.1, Or.inl ⟨⟨_, r, tx_C_f hC sf, hM15, sc, ?_, r2, rfl, by rw [sf.2.2]; exact f1, f12⟩, _, rfl, rfl, by omega, by omega⟩⟩
          rw [d2, hN4, show b + (r - b) = r by omega]
    · rw [if_neg h4] at hnh
      rw [if_neg (by omega), if_pos (by omega)] at mod
      exact fail (wrongC hnh) mod
  · have hrb : r = b := by
      rw [← hr]
      by_cases cl : b < l
      · exact tx_no (fun q => hk ⟨cl, q⟩)
      · exact tx_end (by omega)
    have hkd : ¬ tx_k B l b = 2 := by
      rw [tx_k]
      by_cases cl : l ≤ b
      · rw [if_pos cl]; decide
      · rw [if_neg cl]
        split
        · decide
        · rw [if_neg (fun q => hk ⟨by omega, q⟩)]
          decide
    have hk3 : tx_k B l b ≤ 3 := by
      rw [tx_k]
      split
      · omega
      · split
        · omega
        · split <;> omega
    rw [if_pos (by omega)] at mod
    refine fail (wrongC ?_) mod
    rw [k_tp_numberHere, t2, itx_eq (a := tx_k B l b) (b := 2) (y := 2) rfl rfl (by omega) (by decide), if_neg hkd]
/-- behind a wrong thing -/
theorem tn_numX {σ τ : en_M} {w : Nat} (h : tx_X σ τ B l w) (lo hi : Int32) : k_tp_takeNumber lo hi σ = some (-1, σ) ∧ k_mm_number lo hi τ = some (0, τ) := by
  obtain ⟨hC, hM, hw, f1, f2, p, hp, m1⟩ := h
  refine ⟨?_, ?_⟩
  · rw [k_tp_takeNumber, k_tp_isRight, f1, it_m1 (by omega), if_pos rfl]
  · rw [k_mm_number, f2, it_m1 (by omega)]
theorem tx_X_here {σ τ : en_M} {w : Nat} (h : tx_X σ τ B l w) : ∃ x s, k_mm_here τ = some (x, s) ∧ tx_X σ s B l w ∧ tm_f τ s := by
  obtain ⟨hC, hM, hw, f1, f2, p, hp, m1⟩ := h
  have h400 := hM.1
  obtain ⟨s, a1, a2, a3, a4⟩ := tm_here hM (p := p) (by omega) m1
  have hq : tx_run tx_bl B l p ≤ 400 := by
    by_cases c : p ≤ l
    · have := (tx_bd (P := tx_bl) (B := B) c).2.1
      omega
    · rw [tx_end (by omega)]
      exact hp
  exact ⟨_, s, a1, ⟨hC, tx_M_f hM a4, hw, f1, by rw [a3]; exact f2, _, hq, a2⟩, a4⟩
theorem tm_5X {τ : en_M} (h : tx_M τ B l) (w : Nat) {p : Nat} (hp : p ≤ 400) : ∃ x, k_mm_has_5 en_fu w (nI p) τ = some x := by
  have h400 := h.1
  by_cases c : p ≤ l
  · exact ⟨_, tm_5 h w (l - p) p en_fu (by omega) (by rw [en_fu]; omega)⟩
  · refine ⟨nI p, ?_⟩
    rw [show en_fu = 99999 + 1 from rfl, k_mm_has_5, h.2.1, it_le (by omega) (by omega), if_pos (by omega)]
theorem tw_wordX {σ τ : en_M} {v : Nat} (h : tx_X σ τ B l v) (w : Nat) : ∃ s, k_mm_has w τ = some (0, s) ∧ tx_X σ s B l v ∧ tm_f τ s := by
  obtain ⟨hC, hM, hw, f1, f2, p, hp, m1⟩ := h
  have h400 := hM.1
  obtain ⟨s, a1, a2, a3, a4⟩ := tm_here hM (p := p) (by omega) m1
  have hq : tx_run tx_bl B l p ≤ 400 := by
    by_cases c : p ≤ l
    · have := (tx_bd (P := tx_bl) (B := B) c).2.1
      omega
    · rw [tx_end (by omega)]
      exact hp
  obtain ⟨x, hx⟩ := tm_5X (tx_M_f hM a4) w hq
  refine ⟨s, ?_, ⟨hC, tx_M_f hM a4, hw, f1, by rw [a3]; exact f2, _, hq, a2⟩, a4⟩
  rw [k_mm_has, a1, pu_b2, hx, pu_b1, a3, f2, it_m1 (by omega)]
end tnn

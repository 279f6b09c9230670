/-! Texts: numbers put, words that may stand. -/
section tpu
variable {B : Nat → Nat} {l : Nat}
theorem tx_C_c {σ s : en_M} (h : tx_C σ B l) (h20 : s 20 = σ 20) (h21 : s 21 = σ 21) : tx_C s B l := ⟨h.1, by rw [h20]; exact h.2.1, by rw [h21]; exact h.2.2⟩
theorem tx_M_c {τ u : en_M} (h : tx_M τ B l) (h10 : u 24 0 0 10 = τ 24 0 0 10) (h29 : u 29 0 = τ 29 0) : tx_M u B l := ⟨h.1, by rw [h10]; exact h.2.1, by rw [h29]; exact h.2.2⟩
theorem tx_S_c {σ s τ u : en_M} {b p : Nat} (h : tx_S σ τ B l b p) (h20 : s 20 = σ 20) (h21 : s 21 = σ 21) (h10 : u 24 0 0 10 = τ 24 0 0 10) (h11 : u 24 0 0 11 = τ 24 0 0 11) (h12 : u 24 0 0 12 = τ 24 0 0 12) (h29 : u 29 0 = τ 29 0) : tx_S s u B l b p := by
  obtain ⟨a1, a2, a3, a4, a5, a6, a7, a8⟩ := h
  refine ⟨tx_C_c a1 h20 h21, tx_M_c a2 h10 h29, ?_, by rw [h11]; exact a4, a5, a6, by rw [h20]; exact a7, by rw [h12]; exact a8⟩
  rw [tx_ct, h20]
  exact a3
theorem tx_R_c {σ s τ u : en_M} (h : tx_R σ τ B l) (h20 : s 20 = σ 20) (h21 : s 21 = σ 21) (h10 : u 24 0 0 10 = τ 24 0 0 10) (h11 : u 24 0 0 11 = τ 24 0 0 11) (h12 : u 24 0 0 12 = τ 24 0 0 12) (h29 : u 29 0 = τ 29 0) : tx_R s u B l := by
  obtain ⟨b, p, h⟩ := h
  exact ⟨b, p, tx_S_c h h20 h21 h10 h11 h12 h29⟩
theorem tx_X_c {σ s τ u : en_M} {w : Nat} (h : tx_X σ τ B l w) (h20 : s 20 = σ 20) (h21 : s 21 = σ 21) (h10 : u 24 0 0 10 = τ 24 0 0 10) (h11 : u 24 0 0 11 = τ 24 0 0 11) (h12 : u 24 0 0 12 = τ 24 0 0 12) (h29 : u 29 0 = τ 29 0) : tx_X s u B l w := by
  obtain ⟨a1, a2, a3, a4, a5, p, a6, a7⟩ := h
  exact ⟨tx_C_c a1 h20 h21, tx_M_c a2 h10 h29, a3, by rw [h20]; exact a4, by rw [h12]; exact a5, p, a6, by rw [h11]; exact a7⟩
/-- what reading leaves as it was -/
def tg_f (σ s : en_M) : Prop := ∀ j, j ≠ 20 → j ≠ 22 → s j = σ j
theorem tg_tr {a b c : en_M} (h : tg_f a b) (h2 : tg_f b c) : tg_f a c := fun j q1 q2 => by rw [h2 j q1 q2, h j q1 q2]
/-- a number that was put, or a wrong text -/
def tn_ok (σ1 τ1 : en_M) (B : Nat → Nat) (l k lo hi : Nat) (y : Int32) : Prop := (tx_R σ1 τ1 B l ∧ ∃ v, lo ≤ v ∧ v ≤ hi ∧ y = nI v ∧ σ1 22 0 0 k = nI v) ∨ ∃ w, tx_X σ1 τ1 B l w
theorem tn_put {σ τ : en_M} (h : tx_R σ τ B l) (k lo hi : Nat) (hlo : lo ≤ 9999) (hhi : hi ≤ 9999) : ∃ x σ0 σ1 y τ1, k_tp_takeNumber (nI lo) (nI hi) σ = some (x, σ0) ∧ en_wr σ0 22 0 0 k x = σ1 ∧ k_mm_number (nI lo) (nI hi) τ = some (y, τ1) ∧ tm_f τ τ1 ∧ tg_f σ σ1 ∧ (∀ k', k' ≠ k → σ1 22 0 0 k' = σ 22 0 0 k') ∧ tn_ok σ1 τ1 B l k lo hi y := by
  obtain ⟨σ0, τ1, x, y, a1, a2, a3, a4, a5⟩ := tn_num hlo hhi h
  obtain ⟨σ1, h1⟩ : ∃ z, en_wr σ0 22 0 0 k x = z := ⟨_, rfl⟩
  refine ⟨x, σ0, σ1, y, τ1, a1, h1, a2, a3, fun j q1 q2 => by rw [← h1, pu_wr_j q2, a4 j q1], fun k' q => by rw [← h1, pu_wr_k q, a4 22 (by decide)], ?_⟩
  have e20 : σ1 20 = σ0 20 := by rw [← h1, pu_wr_j (by decide)]
  have e21 : σ1 21 = σ0 21 := by rw [← h1, pu_wr_j (by decide)]
  rcases a5 with ⟨b1, v, b2, b3, b4, b5⟩ | ⟨w, b1⟩
  · exact Or.inl ⟨tx_R_c b1 e20 e21 rfl rfl rfl rfl, v, b4, b5, b3, by rw [← h1, pu_wr_eq]; exact b2⟩
  · exact Or.inr ⟨w, tx_X_c b1 e20 e21 rfl rfl rfl rfl⟩
theorem tn_putX {σ τ : en_M} {w : Nat} (h : tx_X σ τ B l w) (k : Nat) (x : Int32) : ∃ σ1, en_wr σ 22 0 0 k x = σ1 ∧ tx_X σ1 τ B l w ∧ tg_f σ σ1 := by
  refine ⟨_, rfl, tx_X_c h (by rw [pu_wr_j (by decide)]) (by rw [pu_wr_j (by decide)]) rfl rfl rfl rfl, fun j q1 q2 => by rw [pu_wr_j q2]⟩
/-- a word that may stand, and a number behind it -/
theorem tn_beh {σ τ : en_M} (h : tx_R σ τ B l) {w L : Nat} (k : Nat) (hL : en_sl.getD (w - 1) 0 = L) (h0 : 0 < L) (h5 : L ≤ 5) : ∃ x σ0 σ1 y τ1, k_tp_takeBehind w 9999 σ = some (x, σ0) ∧ en_wr σ0 22 0 0 k x = σ1 ∧ (∀ F : Int32 → en_M → Option (Int32 × en_M), (en_b2 (k_mm_has w τ) fun t s => if t = 0 then F 0 s else en_b2 (k_mm_number 0 9999 s) F) = F y τ1) ∧ tm_f τ τ1 ∧ tg_f σ σ1 ∧ (∀ k', k' ≠ k → σ1 22 0 0 k' = σ 22 0 0 k') ∧ tn_ok σ1 τ1 B l k 0 9999 y := by
  obtain ⟨b, p, hS⟩ := h
  have right : k_tp_isRight σ = 1 := by rw [k_tp_isRight, if_pos hS.2.2.2.2.2.2.1]
  rcases tw_word hS hL h0 h5 with ⟨τ1, a1, a2, a3, a4⟩ | ⟨τ1, σ1, a1, a2, a3, a4, a5, a6⟩
  · obtain ⟨σ1, h1⟩ : ∃ z, en_wr σ 22 0 0 k 0 = z := ⟨_, rfl⟩
    refine ⟨0, σ, σ1, 0, τ1, ?_, h1, fun F => ?_, a4, fun j q1 q2 => by rw [← h1, pu_wr_j q2], fun k' q => by rw [← h1, pu_wr_k q], Or.inl ⟨?_, 0, by omega, by omega, rfl, by rw [← h1, pu_wr_eq]; rfl⟩⟩
    · rw [k_tp_takeBehind, right, if_neg (by decide), a1, pu_b1, if_pos rfl]
    · rw [a2, pu_b2, if_pos rfl]
    · exact tx_R_c ⟨b, b, a3⟩ (by rw [← h1, pu_wr_j (by decide)]) (by rw [← h1, pu_wr_j (by decide)]) rfl rfl rfl rfl
  · obtain ⟨x, σ2, σ3, y, τ2, b1, b2, b3, b4, b5, b6, b7⟩ := tn_put a4 k 0 9999 (by decide) (by decide)
    refine ⟨x, σ2, σ3, y, τ2, ?_, b2, fun F => ?_, tm_f_tr a6 b4, fun j q1 q2 => by rw [b5 j q1 q2, a5.1 j q1], fun k' q => by rw [b6 k' q, a5.1 22 (by decide)], b7⟩
    · have b1' : k_tp_takeNumber 0 9999 σ1 = some (x, σ2) := b1
      rw [k_tp_takeBehind, right, if_neg (by decide), a1, pu_b1, if_neg (by decide), a3, pu_b1, b1', pu_b2]
    · have b3' : k_mm_number 0 9999 τ1 = some (y, τ2) := b3
      rw [a2, pu_b2, if_neg (by decide), b3', pu_b2]
theorem tn_behX {σ τ : en_M} {v : Nat} (h : tx_X σ τ B l v) (w k : Nat) : ∃ σ1 τ1, k_tp_takeBehind w 9999 σ = some (0, σ) ∧ en_wr σ 22 0 0 k 0 = σ1 ∧ (∀ F : Int32 → en_M → Option (Int32 × en_M), (en_b2 (k_mm_has w τ) fun t s => if t = 0 then F 0 s else en_b2 (k_mm_number 0 9999 s) F) = F 0 τ1) ∧ tm_f τ τ1 ∧ tg_f σ σ1 ∧ tx_X σ1 τ1 B l v := by
  obtain ⟨s, s1, s2, s3⟩ := tw_wordX h w
  obtain ⟨σ1, q1, q2, q3⟩ := tn_putX s2 k 0
  refine ⟨σ1, s, ?_, q1, fun F => by rw [s1, pu_b2, if_pos rfl], s3, q3, q2⟩
  rw [k_tp_takeBehind, k_tp_isRight, h.2.2.2.1, it_m1 (by have := h.2.2.1; omega), if_pos rfl]
theorem tx_X_ne {σ τ : en_M} {w : Nat} (h : tx_X σ τ B l w) : ¬ τ 24 0 0 12 = -1 := by
  rw [h.2.2.2.2.1, nu_m1 (by have := h.2.2.1; omega)]
  exact fun q => q
theorem tx_R_eq {σ τ : en_M} (h : tx_R σ τ B l) : τ 24 0 0 12 = -1 := by
  obtain ⟨b, p, h⟩ := h
  exact h.2.2.2.2.2.2.2
/-- what an act of a text leaves of the model -/
def mf_f (τ s : en_M) : Prop := (∀ k, k ≠ 0 → k < 20 → k ≠ 11 → k ≠ 12 → s 24 0 0 k = τ 24 0 0 k) ∧ s 26 0 = τ 26 0 ∧ s 27 0 = τ 27 0 ∧ s 28 0 = τ 28 0 ∧ s 29 0 = τ 29 0
theorem mf_t {a b : en_M} (h : tm_f a b) : mf_f a b := ⟨fun k _ _ q1 q2 => h.2 k q1 q2, by rw [h.1 26 (by decide)], by rw [h.1 27 (by decide)], by rw [h.1 28 (by decide)], by rw [h.1 29 (by decide)]⟩
theorem mf_m {a b : en_M} (h : rl_m a b) : mf_f a b := ⟨fun k q0 q _ _ => h.1 k q0 q, h.2.1, h.2.2.1, h.2.2.2.1, h.2.2.2.2⟩
theorem mf_tr {a b c : en_M} (h : mf_f a b) (h2 : mf_f b c) : mf_f a c := ⟨fun k q0 q q1 q2 => by rw [h2.1 k q0 q q1 q2, h.1 k q0 q q1 q2], by rw [h2.2.1, h.2.1], by rw [h2.2.2.1, h.2.2.1], by rw [h2.2.2.2.1, h.2.2.2.1], by rw [h2.2.2.2.2, h.2.2.2.2]⟩
theorem tx_R_m {s τ1 τ2 : en_M} (h : tx_R s τ1 B l) (hm : rl_m τ1 τ2) : tx_R s τ2 B l := tx_R_c h rfl rfl (hm.1 10 (by decide) (by decide)) (hm.1 11 (by decide) (by decide)) (hm.1 12 (by decide) (by decide)) hm.2.2.2.2
/-- an act of a text: read, and done, refused, or wrong -/
def tq_P (i : Nat) (σ τ : en_M) (B : Nat → Nat) (l t : Nat) : Prop := ∃ s τ2 code, k_cc_readNumbers (nI i) σ = some s ∧ tg_f σ s ∧ tb_br i τ = some (code, τ2) ∧ mf_f τ τ2 ∧ ((∃ w, tx_X s τ2 B l w ∧ code = 0) ∨ (tx_R s τ2 B l ∧ k_cc_refusalOf (nI i) s = some code ∧ (code = 0 ∨ ¬ code ≤ 0) ∧ (code = 0 → ∃ σ1 A1, k_cc_perform (nI i) s = some σ1 ∧ ab_PR σ1 0 (τ2 25 0 0) A1 t ∧ ∀ j g, ¬ (j < 14 ∧ g = 0) → σ1 j g = s j g)))
theorem tq_PR {σ s τ τ1 : en_M} {t : Nat} {A : ab_A} (hA : ab_PR σ 0 (τ 25 0 0) A t) (h1 : tg_f σ s) (h2 : tm_f τ τ1) : ab_PR s 0 (τ1 25 0 0) A t := by
  rw [h2.1 25 (by decide)]
  exact PR_fr hA (fun j q => by rw [h1 j (by omega) (by omega)])
end tpu

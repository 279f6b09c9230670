/-! Cards remembered. -/
theorem W_mono {A : ab_A} {t t' : Nat} (h : ab_W A t) (h1 : t ≤ t') (h2 : t' ≤ 7168) : ab_W A t' := by
  obtain ⟨w1, w2, w3, w4, w5, w6⟩ := h
  refine ⟨?_, fun f hf => ?_, fun n hn => ?_, w4, w5, w6⟩
  · simp only [ab_W1] at w1 ⊢
    omega
  · obtain ⟨x1, x2, x3, x4, x5, x6⟩ := w2 f hf
    exact ⟨x1, x2, x3, by omega, x5, x6⟩
  · obtain ⟨x1, x2, x3, x4, x5, x6, x7⟩ := w3 n hn
    refine ⟨x1, x2, x3, x4, x5, fun q => ?_, x7⟩
    obtain ⟨y1, y2, y3, y4, y5⟩ := x6 q
    exact ⟨y1, y2, y3, y4, by omega⟩
theorem MR_ext {r r' : Nat → Int32} {A : ab_A} {t : Nat} (hW : ab_W A t) (h : ab_MR r A) (hr : ∀ x, x < 938 → r' x = r x) : ab_MR r' A := by
  obtain ⟨m1, m2, m3, m4, m5, m6⟩ := h
  have hN := ab_N hW
  have h9 := ab_l40 hW
  have hm : ∀ n, n % 8 < 8 := fun n => Nat.mod_lt _ (by decide)
  obtain ⟨x1, x2⟩ := m1
  refine ⟨⟨fun k hk => by rw [hr k (by omega)]; exact x1 k hk, ?_⟩, fun f hf => ?_, fun n hn => ?_, fun n k hn hk => ?_, fun row c q1 q2 => ?_, fun k w q1 q2 q3 => ?_⟩
  · rw [hr 7 (by omega), hr 8 (by omega), hr 9 (by omega), hr 10 (by omega), hr 11 (by omega), hr 12 (by omega), hr 13 (by omega), hr 14 (by omega), hr 15 (by omega), hr 16 (by omega), hr 17 (by omega), hr 18 (by omega), hr 19 (by omega)]
    exact x2
  · have hx := m2 f hf
    rw [hr _ (by omega), hr _ (by omega), hr _ (by omega), hr _ (by omega)]
    exact ⟨fun w hw => by rw [hr _ (by omega)]; exact hx.1 w hw, hx.2⟩
  · have hx := m3 n hn
    have := hm n
    exact ⟨fun w hw => by rw [hr _ (by omega)]; exact hx.1 w hw, fun w hw => by rw [hr _ (by omega)]; exact hx.2 w hw⟩
  · have := hm n
    rw [hr _ (by omega), hr _ (by omega), hr _ (by omega)]
    exact m4 n k hn hk
  · rw [hr _ (by omega)]
    exact m5 row c q1 q2
  · rw [hr _ (by omega)]
    exact m6 k w q1 q2 q3
theorem PR_mono {σ : en_M} {g t t' : Nat} {r : Nat → Int32} {A : ab_A} (h : ab_PR σ g r A t) (h1 : t ≤ t') (h2 : t' ≤ 7168) : ab_PR σ g r A t' := ⟨h.1, h.2.1, W_mono h.2.2.1 h1 h2, h.2.2.2⟩
theorem PR_row {σ : en_M} {g t : Nat} {r r' : Nat → Int32} {A : ab_A} (h : ab_PR σ g r A t) (hr : ∀ x, x < 938 → r' x = r x) : ab_PR σ g r' A t := ⟨h.1, MR_ext h.2.2.1 h.2.1 hr, h.2.2⟩
theorem PR_cls {σ s : en_M} {g g' t : Nat} {r : Nat → Int32} {A : ab_A} (h : ab_PR σ g r A t) (hs : cd_same σ g s g') : ab_PR s g' r A t := ⟨hs.CR h.2.2.1 h.1, h.2⟩
theorem PR_fr {σ s : en_M} {g t : Nat} {r : Nat → Int32} {A : ab_A} (h : ab_PR σ g r A t) (hs : ∀ j, j < 14 → s j g = σ j g) : ab_PR s g r A t := PR_cls h (cd_same.fr hs)
/-- the cards that undo goes back to -/
def rl_hi (σ τ : en_M) (t : Nat) : Prop := ∃ e c, e < 8 ∧ c ≤ 8 ∧ σ 15 0 0 1 = nI e ∧ σ 15 0 0 2 = nI c ∧ τ 24 0 0 5 = nI c ∧ ∀ i, i < c → ∃ A, ab_PR σ (3 + (e + i) % 8) (fun x => τ 28 0 0 (938 * i + x)) A t
def rl_fc (q : Nat) : List (Nat × Nat) := [(12, q), (13, q), (3, q), (4, q), (5, q), (7, q), (6, q), (9, q), (10, q), (8, q), (11, q), (0, q)]
theorem rl_rem {σ τ : en_M} {t : Nat} {r : Nat → Int32} {A : ab_A} (h : rl_hi σ τ t) (hp : ab_PR σ 0 r A t) : ∃ σ1 q, q < 8 ∧ k_hi_remember 0 σ = some σ1 ∧ en_fr ((15, 0) :: rl_fc (3 + q)) σ σ1 ∧ ∀ τ' : en_M, τ' 24 0 0 5 = τ 24 0 0 5 → τ' 28 0 = τ 28 0 → (∀ x, x < 938 → τ' 26 0 0 x = r x) → ∃ τ1, k_mm_remembers τ' = some τ1 ∧ rl_hi σ1 τ1 t ∧ (∀ x, x ≠ 5 → τ1 24 0 0 x = τ' 24 0 0 x) ∧ en_fr [(24, 0), (28, 0)] τ' τ1 := by
  obtain ⟨e, c, he, hc, h1, h2, h3, h4⟩ := h
  obtain ⟨q, hq⟩ : ∃ q, (e + c) % 8 = q := ⟨_, rfl⟩
  have hq8 : q < 8 := by omega
  obtain ⟨s3, a1, a2⟩ := cp_card (g := 3 + q) (g1 := 0) (σ := σ) (by omega) hp.1.1.2.2.2.1
  have a3 : en_fr (rl_fc (3 + q)) σ s3 := f_cd_copyFrom a1
  have e15 : s3 15 0 = σ 15 0 := a3 15 0 (by simp [rl_fc])
  have hpq : ab_PR s3 (3 + q) r A t := PR_cls hp a2
  obtain ⟨σ1, hσ1⟩ : ∃ z, (if c = 8 then en_wr s3 15 0 0 1 (nI ((e + 1) % 8)) else en_wr s3 15 0 0 2 (nI (c + 1))) = z := ⟨_, rfl⟩
  have e1j : ∀ j, j ≠ 15 → σ1 j = s3 j := fun j hj => by
    rw [← hσ1]
    split
    · rw [pu_wr_j hj]
    · rw [pu_wr_j hj]
  have hfr : en_fr ((15, 0) :: rl_fc (3 + q)) σ σ1 := by
    refine fr_tr (fr_sub a3 (fun w hw => List.mem_cons_of_mem _ hw)) ?_
    rw [← hσ1]
    split
    · exact fr_wr rfl (by simp)
    · exact fr_wr rfl (by simp)
  have hk : k_hi_remember 0 σ = some σ1 := by
    rw [k_hi_remember, h1, h2, nI_add, show (8 : Int32) = nI 8 from rfl, nu_fm (by omega) (by decide) (by decide), hq, pu_ix hq8 (by decide), pu_b1, a1, pu_b1, e15, h2, it_le (by decide) (by omega), ← hσ1]
    by_cases ec : c = 8
    · rw [if_pos (by omega), if_pos ec, pu_let, h1, nI_1, nu_fm (by omega) (by decide) (by decide)]
    · rw [if_neg (by omega), if_neg ec, pu_let, nI_1]
  refine ⟨σ1, q, hq8, hk, hfr, fun τ' b1 b2 b3 => ?_⟩
  obtain ⟨τ1, c1, c2, c3, c4, c5, c6⟩ := cy_rem (τ := τ') (c := c) hc (by rw [b1, h3])
  refine ⟨τ1, c1, ?_, c3, c6⟩
  have hold : ∀ i, i < c → (e + i) % 8 ≠ q → ∃ A, ab_PR σ1 (3 + (e + i) % 8) (fun x => τ 28 0 0 (938 * i + x)) A t := fun i hi hne => by
    obtain ⟨A', hA'⟩ := h4 i hi
    refine ⟨A', PR_fr hA' (fun j hj => ?_)⟩
    rw [e1j j (by omega)]
    exact a3 j _ (by simp [rl_fc, hne])
  have hnew : ab_PR σ1 (3 + q) r A t := PR_fr hpq (fun j hj => by rw [e1j j (by omega)])
  by_cases ec : c = 8
  · subst ec
    rw [if_pos rfl] at hσ1
    have hqe : q = e := by omega
    refine ⟨(e + 1) % 8, 8, by omega, by omega, by rw [← hσ1, pu_wr_eq], by rw [← hσ1, pu_wr_k (by decide), e15, h2], c2, fun i hi => ?_⟩
    by_cases ei : i = 7
    · subst ei
      refine ⟨A, PR_row (r := r) ?_ (fun x hx => ?_)⟩
      · rw [show ((e + 1) % 8 + 7) % 8 = q by omega]
        exact hnew
      · rw [← b3 x hx]
        exact c4 x hx
    · obtain ⟨A', hA'⟩ := hold (i + 1) (by omega) (by omega)
      refine ⟨A', PR_row (r := fun x => τ 28 0 0 (938 * (i + 1) + x)) ?_ (fun x hx => ?_)⟩
      · rw [show ((e + 1) % 8 + i) % 8 = (e + (i + 1)) % 8 by omega]
        exact hA'
      · have := c5 i x (by omega) hx
        rw [if_pos rfl, b2] at this
        exact this
  · rw [if_neg ec] at hσ1
    have em : min 8 (c + 1) = c + 1 := by omega
    rw [em] at c2 c4 c5
    refine ⟨e, c + 1, he, by omega, by rw [← hσ1, pu_wr_k (by decide), e15, h1], by rw [← hσ1, pu_wr_eq], c2, fun i hi => ?_⟩
    by_cases ei : i = c
    · subst ei
      refine ⟨A, PR_row (r := r) ?_ (fun x hx => ?_)⟩
      · rw [hq]
        exact hnew
      · rw [← b3 x hx]
        exact c4 x hx
    · obtain ⟨A', hA'⟩ := hold i (by omega) (by omega)
      refine ⟨A', PR_row hA' (fun x hx => ?_)⟩
      have := c5 i x (by omega) hx
      rw [if_neg ec, b2] at this
      exact this

/-! The bell whole. -/
theorem be_loop {g u : Nat} : ∀ (F n acc : Nat) (σ τ : en_M) (A : ab_A), ab_CW σ g A → ab_MR (τ 25 0 0) A → ab_W A (u + 1) → aH A 6 ≤ n → n ≤ aH A 5 → aH A 5 < n + F → acc + aH A 6 ≤ n → (∀ f, f < aH A 3 → aF A f 3 ≤ 1600 * u + 200 * (n - aH A 6)) →
    ∃ x σ1 τ1 A1, k_cd_ringBell_7 F g (nI acc) (nI n) σ = some (nI x, σ1) ∧ k_mm_bell0_10 F (nI acc) (nI n) τ = some (nI x, τ1) ∧ ab_CW σ1 g A1 ∧ ab_MR (τ1 25 0 0) A1 ∧ ab_W A1 (u + 1) ∧ aH A1 = aH A ∧ aC A1 = aC A ∧ x ≤ 8 ∧ (∀ m, aS A1 m 4 = aS A m 4 ∨ aS A1 m 4 = 1) ∧ aL A1 = aL A := by
  intro F
  induction F with
  | zero => intro n acc σ τ A _ _ _ h1 h2 h3; omega
  | succ F ih =>
    intro n acc σ τ A hC hM hW h1 h2 h3 h4 hsb
    have hN := ab_N hW
    have c5 := hC.1.2.2.2.2.2.1
    have m5 := hM.1.1 5 (by decide)
    by_cases hn : n < aH A 5
    · have hw := ab_in_win hW h1 hn
      obtain ⟨q0, q1, q2, q3, q4, -⟩ := hW.2.2.1 n hw
      obtain ⟨d0, d1, -, -, -, d5, -⟩ := hC.2.1 n hw
      rw [k_cd_ringBell_7, c5, it_le (by omega) (by omega), if_neg (by omega), ac_sendAt hC.s hW hw, pu_b1]
      simp only []
      rw [d1, ac_flowIn hC.s hW q0, pu_b1]
      simp only []
      rw [d5, itx_eq (a := aS A n 4) (b := 0) (y := 0) rfl rfl (by omega) (by decide)]
      by_cases h0 : aS A n 4 = 0
      · obtain ⟨s9, s11, s19, τ21, b1, b2, b3, b4, b5, b6, b7⟩ := be_step hC hM hW h1 hn h0 (by have := hsb _ q0; omega) (nI acc)
        rw [if_pos h0, b1, pu_b1, pu_let, b2, b3, pu_b1, b4, nI_1, nI_1]
        have hH : aH (be_A A n) = aH A := rfl
        obtain ⟨x, σ1, τ1, A1, e1, e2, e3, e4, e5, e6, e7, e8, e9, e10⟩ := ih (n + 1) (acc + 1) s19 τ21 (be_A A n) b5 b6 b7 (by rw [hH]; omega) (by rw [hH]; omega) (by rw [hH]; omega) (by rw [hH]; omega) (fun f hf => by
          rw [hH] at hf ⊢
          have hx := hsb f hf
          show u2 (aF A) (aS A n 0) 3 (aF A (aS A n 0) 3 + aS A n 1) f 3 ≤ _
          by_cases e : f = aS A n 0
          · rw [e, u2_s]
            rw [e] at hx
            omega
          · rw [u2_n (by omega)]
            omega)
        refine ⟨x, σ1, τ1, A1, e1, e2, e3, e4, e5, e6, e7, e8, fun m => ?_, e10⟩
        rcases e9 m with e | e
        · by_cases hmn : m = n
          · right
            rw [e, hmn]
            show (if n = n then _ else _) = _
            rw [if_pos rfl]
            rfl
          · left
            rw [e]
            show (if m = n then _ else _) = _
            rw [if_neg hmn]
        · exact Or.inr e
      · rw [if_neg h0, nI_1, k_mm_bell0_10, m5, it_le (by omega) (by omega), if_neg (by omega), mo_snd hM hW (x := 4) (w := 4) rfl hw (by decide), pu_b1, itx_eq (a := aS A n 4) (b := 0) (y := 0) rfl rfl (by omega) (by decide), if_neg h0, nI_1]
        exact ih (n + 1) acc σ τ A hC hM hW (by omega) (by omega) (by omega) (by omega) (fun f hf => by have := hsb f hf; omega)
    · rw [k_cd_ringBell_7, c5, it_le (by omega) (by omega), if_pos (by omega), k_mm_bell0_10, m5, it_le (by omega) (by omega), if_pos (by omega)]
      exact ⟨acc, σ, τ, A, rfl, rfl, hC, hM, hW, rfl, rfl, by omega, fun _ => Or.inl rfl, rfl⟩
theorem be_141 {g t : Nat} {A : ab_A} (hW : ab_W A t) {v : Int32} : ∀ (F f : Nat) (s : en_M), ab_CW s g A → f ≤ aH A 3 → aH A 3 < f + F → (∀ f', f' < f → ab_CTf s g A f') → ∃ s1, k_cd_ringBell_141 F g v (nI f) s = some s1 ∧ ab_CW s1 g A ∧ ab_CT s1 g A := by
  have hN := ab_N hW
  intro F
  induction F with
  | zero => intro f s _ h1 h2; omega
  | succ F ih =>
    intro f s hC h1 h2 h3
    have c3 := hC.1.2.2.2.2.1
    rw [k_cd_ringBell_141, c3, it_le (by omega) (by omega)]
    by_cases hf : f < aH A 3
    · obtain ⟨x, s7, s9, p1, p2, p3, p4, p5, -⟩ := pd_one hC hW hf
      have b0 := (hC.2.2.1 f hf).1
      rw [if_neg (by omega), itx_le (a := 6) (b := f) (x := 6) rfl rfl (by decide) (by omega), if_neg (by omega), pu_ix (by omega) (by decide), pu_b1, pu_b1, b0, p1, pu_b2, pu_let, p2, nI_1]
      refine ih (f + 1) s9 p3 (by omega) (by omega) (fun f' hf' => ?_)
      by_cases e : f' = f
      · rw [e]
        exact p4
      · exact p5 f' e (by omega) (h3 f' (by omega))
    · rw [if_pos (by omega)]
      exact ⟨s, rfl, hC, CT_of hW (fun f' hf' => h3 f' (by omega))⟩
/-- counters of the card changed -/
theorem CR_cnt {σ s : en_M} {g : Nat} {A : ab_A} {C' : Nat → Int32} (h : ab_CR σ g A) (hj : ∀ j, j < 14 → j ≠ 11 → s j g = σ j g) (hc : ∀ k, k < 6 → s 11 g 0 k = C' k) : ab_CR s g (sC A C') := by
  obtain ⟨⟨k1, k3, k2, k2b, k4, k5, k6, k7⟩, t1, t2⟩ := h
  refine ⟨⟨?_, ?_, ?_, ?_, ?_, ?_, ?_, hc⟩, ?_, ?_⟩
  · simp only [ab_C1, hj 0 (by omega) (by omega)]
    exact k1
  · intro n hn
    rw [hj 13 (by omega) (by omega)]
    exact k3 n hn
  · intro f hf
    rw [hj 12 (by omega) (by omega)]
    exact k2 f hf
  · intro f hf
    rw [hj 12 (by omega) (by omega)]
    exact k2b f hf
  · intro n k hn hk
    rw [hj 3 (by omega) (by omega), hj 4 (by omega) (by omega), hj 5 (by omega) (by omega)]
    exact k4 n k hn hk
  · simp only [ab_C5, hj 6 (by omega) (by omega), hj 7 (by omega) (by omega)]
    exact k5
  · simp only [ab_C6, hj 8 (by omega) (by omega), hj 9 (by omega) (by omega), hj 10 (by omega) (by omega)]
    exact k6
  · intro f hf
    have e : ab_nx (sC A C') f = ab_nx A f := by
      show ab_ns (sC A C') f (aF A f 0) (aH A 5 - aH A 6) = ab_ns A f (aF A f 0) (aH A 5 - aH A 6)
      exact ns_eq (A := A) (A' := sC A C') rfl rfl _ (fun _ _ _ => rfl)
    rw [hj 12 (by omega) (by omega), e]
    exact t1 f hf
  · intro n k hn h1 h2 h3 h4
    have e : ab_de (sC A C') n k = ab_de A n k := by
      show ab_dp (sC A C') (aF A (aS A n 0) 0) n k = ab_dp A (aF A (aS A n 0) 0) n k
      exact dp_eq (A := A) (A' := sC A C') rfl rfl (ns_eq (A := A) (A' := sC A C') rfl rfl _ (fun _ _ _ => rfl))
    rw [hj 3 (by omega) (by omega), e]
    exact t2 n k hn h1 h2 h3 h4
theorem MR_cnt {r r' : Nat → Int32} {A : ab_A} {C' : Nat → Int32} {t : Nat} (hW : ab_W A t) (h : ab_MR r A) (hr : ∀ k, k < 938 → (k < 7 ∨ k = 10 ∨ 15 ≤ k) → r' k = r k) (h7 : r' 7 = C' 0) (h8 : r' 8 - r' 9 = C' 1) (h11 : r' 11 = C' 2) (h12 : r' 12 = C' 3) (h13 : r' 13 = C' 4) (h14 : r' 14 = C' 5) : ab_MR r' (sC A C') := by
  obtain ⟨m1, m2, m3, m4, m5, m6⟩ := h
  have hN := ab_N hW
  have h9 := hW.1.2.2.2.2.2.2.2.2.2.1
  have hm : ∀ n, n % 8 < 8 := fun n => Nat.mod_lt _ (by decide)
  obtain ⟨x1, x2, x3, x4, x5, x6, x7, x8, x9, x10, x11, x12⟩ := m1
  refine ⟨⟨fun k hk => by rw [hr k (by omega) (by omega)]; exact x1 k hk, h7, h8, by rw [hr 10 (by omega) (by omega)]; exact x4, h11, h12, h13, h14, ?_, by rw [hr 17 (by omega) (by omega)]; exact x10, by rw [hr 18 (by omega) (by omega)]; exact x11, by rw [hr 19 (by omega) (by omega)]; exact x12⟩, fun f hf => ?_, fun n hn => ?_, fun n k hn hk => ?_, fun row c h1 h2 => ?_, fun k w h1 h2 h3 => ?_⟩
  · rw [hr 15 (by omega) (by omega), hr 16 (by omega) (by omega)]
    exact x9
  · have : f < aH A 3 := hf
    have hx := m2 f hf
    rw [hr _ (by omega) (by omega), hr _ (by omega) (by omega), hr _ (by omega) (by omega), hr _ (by omega) (by omega)]
    exact ⟨fun w hw => by rw [hr _ (by omega) (by omega)]; exact hx.1 w hw, hx.2⟩
  · have := hm n
    have hx := m3 n hn
    exact ⟨fun w hw => by rw [hr _ (by omega) (by omega)]; exact hx.1 w hw, fun w hw => by rw [hr _ (by omega) (by omega)]; exact hx.2 w hw⟩
  · have := hm n
    rw [hr _ (by omega) (by omega), hr _ (by omega) (by omega), hr _ (by omega) (by omega)]
    exact m4 n k hn hk
  · have : row < aH A 9 := h1
    rw [hr _ (by omega) (by omega)]
    exact m5 row c h1 h2
  · rw [hr _ (by omega) (by show 898 + 2 * (min 20 (aH A 10) - 1 - k) + w < 7 ∨ _; omega)]
    exact m6 k w h1 h2 h3
theorem be_bell {σ τ : en_M} {g u : Nat} {A : ab_A} (hC : ab_CW σ g A) (hM : ab_MR (τ 25 0 0) A) (hW : ab_W A (u + 1)) (hWR : ab_WR A) (hsb : ∀ f, f < aH A 3 → aF A f 3 ≤ 1600 * u) : ∃ x σ1 τ1 A1, k_cd_ringBell g σ = some (x, σ1) ∧ k_mm_bell0 τ = some (x, τ1) ∧ ab_PR σ1 g (τ1 25 0 0) A1 (u + 1) ∧ aH A1 = aH A := by
  have hN := ab_N hW
  have c6 := hC.1.2.2.2.2.2.2.1
  have m6 := hM.1.1 6 (by decide)
  obtain ⟨x, s26, τ27, A1, a1, a2, a3, a4, a5, a6, a7, a8, a9, a10⟩ := be_loop en_fu (aH A 6) 0 σ τ A hC hM hW (Nat.le_refl _) (by omega) (by rw [en_fu]; omega) (by omega) (fun f hf => by have := hsb f hf; omega)
  rw [nI_0] at a1 a2
  obtain ⟨s40, b1, b2, b3⟩ := be_141 a5 (v := nI x) en_fu 0 s26 a3 (by omega) (by rw [a6, en_fu]; omega) (fun f' hf' => by omega)
  rw [nI_0] at b1
  have t0 : s40 11 g 0 0 = aC A1 0 := b2.2.2.2.2.2.2.2 0 (by decide)
  have t1 : s40 11 g 0 1 = aC A1 1 := b2.2.2.2.2.2.2.2 1 (by decide)
  obtain ⟨s42, h42⟩ : ∃ z, en_wr s40 11 g 0 0 (aC A1 0 + 1) = z := ⟨_, rfl⟩
  have t1' : s42 11 g 0 1 = aC A1 1 := by rw [← h42, pu_wr_k (by decide)]; exact t1
  have hmx : (if (0 : Int32) < (nI x - 1) then (nI x - 1) else 0) = nI (x - 1) := by
    by_cases hx : x = 0
    · subst hx
      rw [if_neg (by decide)]
      rfl
    · rw [show (1 : Int32) = nI 1 from rfl, pk_sub (by omega), ← nI_0, it_lt (by decide) (by omega)]
      split
      · rfl
      · congr 1
        omega
  obtain ⟨s44, h44⟩ : ∃ z, en_wr s42 11 g 0 1 (aC A1 1 + nI (x - 1)) = z := ⟨_, rfl⟩
  obtain ⟨C', hC'⟩ : ∃ C', C' = u1 (u1 (aC A1) 0 (aC A1 0 + 1)) 1 (aC A1 1 + nI (x - 1)) := ⟨_, rfl⟩
  have hcls : k_cd_ringBell g σ = some (nI x, s44) := by
    rw [k_cd_ringBell, c6, a1, pu_b2, b1, pu_b1, pu_let, t0, h42, pu_let, t1', hmx, h44]
  have m7 := a4.1.2.1
  have m89 := a4.1.2.2.1
  obtain ⟨τ29, h29⟩ : ∃ z, en_wr τ27 25 0 0 7 (aC A1 0 + 1) = z := ⟨_, rfl⟩
  obtain ⟨τ31, h31⟩ : ∃ z, en_wr τ29 25 0 0 8 (τ29 25 0 0 8 + nI x) = z := ⟨_, rfl⟩
  obtain ⟨y, hy⟩ : ∃ y : Int32, y = (if x = 0 then 0 else 1) := ⟨_, rfl⟩
  obtain ⟨τ36, h36⟩ : ∃ z, en_wr τ31 25 0 0 9 (τ31 25 0 0 9 + y) = z := ⟨_, rfl⟩
  have hmod : k_mm_bell0 τ = some (nI x, τ36) := by
    rw [k_mm_bell0, m6, a2, pu_b2, pu_let, m7, h29, pu_let, h31, itx_le (a := x) (b := 0) (y := 0) rfl rfl (by omega) (by decide)]
    by_cases hx : x = 0
    · rw [if_pos (by omega), pu_let, ← h36, hy, if_pos hx]
    · rw [if_neg (by omega), pu_let, ← h36, hy, if_neg hx]
  have hWR' : ab_WR (sC A1 C') := ⟨fun h => by
    show aS A1 (aH A1 6) 4 ≤ 1
    have h' : aH A1 6 < aH A1 5 := h
    rw [a6] at h' ⊢
    have := hWR.1 h'
    rcases a9 (aH A 6) with e | e <;> omega, by
    show (aH A1 11 = 0 ↔ aH A1 7 = 0) ∧ ∀ row, row < aH A1 9 → aL A1 row 5 < aH A1 4
    rw [a6, a10]
    exact hWR.2⟩
  refine ⟨nI x, s44, τ36, sC A1 C', hcls, hmod, ⟨CR_cnt ⟨b2, b3⟩ (fun j hj h11 => ?_) (fun k hk => ?_), MR_cnt a5 a4 (fun k hk hk2 => ?_) ?_ ?_ ?_ ?_ ?_ ?_, a5, hWR'⟩, a6⟩
  · rw [← h44, pu_wr_j h11, ← h42, pu_wr_j h11]
  · rw [hC']
    by_cases e1 : k = 1
    · subst e1
      rw [u1_s, ← h44, pu_wr_eq]
    · rw [u1_n e1, ← h44, pu_wr_k e1]
      by_cases e0 : k = 0
      · subst e0
        rw [u1_s, ← h42, pu_wr_eq]
      · rw [u1_n e0, ← h42, pu_wr_k e0]
        exact b2.2.2.2.2.2.2.2 k hk
  · rw [← h36, pu_wr_k (by omega), ← h31, pu_wr_k (by omega), ← h29, pu_wr_k (by omega)]
  · rw [← h36, pu_wr_k (by omega), ← h31, pu_wr_k (by omega), ← h29, pu_wr_eq, hC', u1_n (by omega), u1_s]
  · rw [hC', u1_s, ← m89, ← h36, pu_wr_k (by omega), pu_wr_eq, ← h31, pu_wr_eq, pu_wr_k (by omega), ← h29, pu_wr_k (by omega), pu_wr_k (by omega)]
    have hxy : nI x - y = nI (x - 1) := by
      rw [hy]
      by_cases hx : x = 0
      · rw [if_pos hx, hx]
        rfl
      · rw [if_neg hx, show (1 : Int32) = nI 1 from rfl, pk_sub (by omega)]
    rw [← hxy, Int32.sub_eq_add_neg, Int32.neg_add, Int32.sub_eq_add_neg, Int32.sub_eq_add_neg, Int32.sub_eq_add_neg]
    simp only [Int32.add_assoc]
    congr 1
    rw [← Int32.add_assoc, ← Int32.add_assoc, Int32.add_comm (nI x)]
  · rw [← h36, pu_wr_k (by omega), ← h31, pu_wr_k (by omega), ← h29, pu_wr_k (by omega), hC', u1_n (by omega), u1_n (by omega)]
    exact a4.1.2.2.2.2.1
  · rw [← h36, pu_wr_k (by omega), ← h31, pu_wr_k (by omega), ← h29, pu_wr_k (by omega), hC', u1_n (by omega), u1_n (by omega)]
    exact a4.1.2.2.2.2.2.1
  · rw [← h36, pu_wr_k (by omega), ← h31, pu_wr_k (by omega), ← h29, pu_wr_k (by omega), hC', u1_n (by omega), u1_n (by omega)]
    exact a4.1.2.2.2.2.2.2.1
  · rw [← h36, pu_wr_k (by omega), ← h31, pu_wr_k (by omega), ← h29, pu_wr_k (by omega), hC', u1_n (by omega), u1_n (by omega)]
    exact a4.1.2.2.2.2.2.2.2.1

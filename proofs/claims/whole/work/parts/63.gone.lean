/-! A piece is gone: not the last one of its send. -/
def go_suf (g z f : Nat) (s13 : en_M) : Option en_M :=
  en_let (en_wr s13 13 g z 5 2) fun s16 =>
  en_let (en_wr s16 13 g z 9 (s16 0 g 0 11)) fun s18 =>
  en_let (en_wr s18 12 g f 8 ((s18 12 g f 8) + 1)) fun s20 =>
  en_b1 (k_fi_add g (s20 13 g z 0) (s20 0 g 0 11) s20) fun s22 =>
  if (s22 13 g z 0) ≤ (s22 0 g 0 14) then
    en_let (en_wr s22 11 g 0 2 ((s22 11 g 0 2) + 0)) fun s25 =>
    en_b1 (k_cd_reclaim g s25) fun s27 =>
    some s27
  else
    en_let (en_wr s22 11 g 0 2 ((s22 11 g 0 2) + 1)) fun s29 =>
    en_b1 (k_cd_reclaim g s29) fun s31 =>
    some s31
section gon
variable {σ τ : en_M} {g t : Nat} {A : ab_A}
theorem go_cls (hC : ab_CR σ g A) (hW : ab_W A t) (h11 : aH A 11 ≠ 0) {n k f : Nat} (hn : aH A 8 = n) (hk : aS A n 7 = k + 1) (hf : aS A n 0 = f) : ∃ s13, k_cd_letGo g σ = (if aS A n 6 ≤ k + 1 then go_suf g (n % 8) f s13 else some s13) ∧ (∀ j, j ≠ 0 → j ≠ 5 → j ≠ 12 → s13 j g = σ j g) ∧ (∀ x, x ≠ 15 → s13 0 g 0 x = σ 0 g 0 x) ∧ s13 0 g 0 15 = -1 ∧ (∀ x, x ≠ 20 * (n % 8) + k → s13 5 g 0 x = σ 5 g 0 x) ∧ s13 5 g 0 (20 * (n % 8) + k) = nI (aH A 4) ∧ (∀ f' w, ¬ (f' = f ∧ w = 7) → s13 12 g f' w = σ 12 g f' w) ∧ s13 12 g f 7 = aX A f 0 + nI (ab_sz A n k - 12) := by
  have hN := ab_N hW
  obtain ⟨hR, hlt, h4, -⟩ := hW.2.2.2.2.1 h11
  rw [hn] at hR hlt h4
  have hw := ab_in_win hW hR hlt
  have hp := ab_pc hW hw
  have hm8 : n % 8 < 8 := Nat.mod_lt _ (by decide)
  have hf3 := (hW.2.2.1 n hw).1
  rw [hf] at hf3
  have hkp : k < aS A n 6 := by omega
  have c15 : σ 0 g 0 15 = nI n := by rw [hC.1.1.2.2.2.2.2.2.2.1, if_neg h11, hn]
  have cT := hC.1.1.2.2.2.1
  have hCs := hC.1.s
  obtain ⟨d0, d1, -, -, -, -, d6, d7, -⟩ := hC.1.2.1 n hw
  rw [hf] at d1
  rw [hk] at d7
  have b7 := (hC.1.2.2.1 f hf3).2.2.2.2.2.2.1
  have hsz12 : 12 ≤ ab_sz A n k := by rw [ab_sz]; omega
  obtain ⟨s8, hs8⟩ : ∃ z, en_wr σ 0 g 0 15 (-1) = z := ⟨_, rfl⟩
  have e8 : ∀ j, j ≠ 0 → s8 j = σ j := fun j h => by rw [← hs8, pu_wr_j h]
  have e80 : ∀ x, x ≠ 15 → s8 0 g 0 x = σ 0 g 0 x := fun x h => by rw [← hs8, pu_wr_k h]
  obtain ⟨s11, hs11⟩ : ∃ z, en_wr s8 5 g 0 (20 * (n % 8) + k) (nI (aH A 4)) = z := ⟨_, rfl⟩
  obtain ⟨s13, hs13⟩ : ∃ z, en_wr s11 12 g f 7 (aX A f 0 + nI (ab_sz A n k - 12)) = z := ⟨_, rfl⟩
  have hix : k_sd_indexOf g (n % 8) (nI k) s8 = nI (20 * (n % 8) + k) := by
    have e : k_sd_indexOf g (n % 8) (nI k) s8 = k_sd_indexOf g (n % 8) (nI k) σ := by simp only [k_sd_indexOf, e8 13 (by omega)]
    rw [e, ac_index hCs hW hw (by omega)]
  have hsz : k_sd_sizeOf g (n % 8) (nI k) s11 = nI (ab_sz A n k) := by
    have e : k_sd_sizeOf g (n % 8) (nI k) s11 = k_sd_sizeOf g (n % 8) (nI k) σ := by
      have e13 : s11 13 = σ 13 := by rw [← hs11, pu_wr_j (by decide), e8 13 (by omega)]
      simp only [k_sd_sizeOf, e13]
    rw [e, ac_size hCs hW hw hkp]
  have e127 : s11 12 g f 7 = aX A f 0 := by rw [← hs11, pu_wr_j (by decide), e8 12 (by omega)]; exact b7
  have e136 : s13 13 g (n % 8) 6 = nI (aS A n 6) := by rw [← hs13, pu_wr_j (by decide), ← hs11, pu_wr_j (by decide), e8 13 (by omega)]; exact d6
  have e137 : s13 13 g (n % 8) 7 = nI (k + 1) := by rw [← hs13, pu_wr_j (by decide), ← hs11, pu_wr_j (by decide), e8 13 (by omega)]; exact d7
  refine ⟨s13, ?_, fun j h0 h5 h12 => ?_, fun x hx => ?_, ?_, fun x hx => ?_, ?_, fun f' w h => ?_, ?_⟩
  · rw [k_cd_letGo, c15, ac_sendAt hCs hW hw, pu_b1]
    simp only []
    rw [d1, ac_flowIn hCs hW hf3, pu_b1, pu_let, hs8]
    simp only []
    rw [e8 13 (by omega), d7, nI_pred, hix, e80 11 (by omega), cT, pu_wa (by omega) (by decide), pu_b1, hs11, hsz, e127, show (12 : Int32) = nI 12 from rfl, pk_sub hsz12, pu_let, hs13, e136, e137, it_le (by omega) (by omega)]
    rfl
  · rw [← hs13, pu_wr_j h12, ← hs11, pu_wr_j h5, e8 j h0]
  · rw [← hs13, pu_wr_j (by decide), ← hs11, pu_wr_j (by decide), e80 x hx]
  · rw [← hs13, pu_wr_j (by decide), ← hs11, pu_wr_j (by decide), ← hs8, pu_wr_eq]
  · rw [← hs13, pu_wr_j (by decide), ← hs11, pu_wr_k hx, e8 5 (by omega)]
  · rw [← hs13, pu_wr_j (by decide), ← hs11, pu_wr_eq]
  · rw [← hs13, pu_wr_ne (fun z => h ⟨z.2.2.1, z.2.2.2⟩), ← hs11, pu_wr_j (by decide), e8 12 (by omega)]
  · rw [← hs13, pu_wr_eq]
/-- whether all pieces are gone, by the row -/
theorem go_all {r : en_M} {n P : Nat} (hn : n < 2 ^ 31) (hP : P ≤ 20) (hpc : k_mm_piecesOf (nI n) r = some (nI P)) : ∀ (m k F : Nat), k + m = P → m < F → ((∀ k', k ≤ k' → k' < P → r 25 0 0 (74 + 68 * (n % 8) + (8 + 3 * k' + 2)) ≠ -1) → k_mm_isAllGone_2 F (nI n) (nI k) r = some (.inr ())) ∧ ((∃ k', k ≤ k' ∧ k' < P ∧ r 25 0 0 (74 + 68 * (n % 8) + (8 + 3 * k' + 2)) = -1) → k_mm_isAllGone_2 F (nI n) (nI k) r = some (.inl 0)) := by
  have hm8 : n % 8 < 8 := Nat.mod_lt _ (by decide)
  intro m
  induction m with
  | zero =>
    intro k F e hF
    obtain ⟨F, rfl⟩ : ∃ q, F = q + 1 := ⟨F - 1, by omega⟩
    refine ⟨fun _ => ?_, fun ⟨k', a1, a2, _⟩ => by omega⟩
    rw [k_mm_isAllGone_2, hpc, pu_b1, it_le (by omega) (by omega), if_pos (by omega)]
  | succ m ih =>
    intro k F e hF
    obtain ⟨F, rfl⟩ : ∃ q, F = q + 1 := ⟨F - 1, by omega⟩
    rw [k_mm_isAllGone_2, hpc, pu_b1, it_le (by omega) (by omega), if_neg (by omega), mo_pat (x := 2) (w := 2) rfl hn, pu_rd (by omega) (by decide), pu_b1, nI_1]
    obtain ⟨i1, i2⟩ := ih (k + 1) F (by omega) (by omega)
    refine ⟨fun h => ?_, fun ⟨k', a1, a2, a3⟩ => ?_⟩
    · rw [if_neg (h k (Nat.le_refl _) (by omega))]
      exact i1 (fun k' b1 b2 => h k' (by omega) b2)
    · by_cases c : r 25 0 0 (74 + 68 * (n % 8) + (8 + 3 * k + 2)) = -1
      · rw [if_pos c]
      · rw [if_neg c]
        refine i2 ⟨k', ?_, a2, a3⟩
        rcases Nat.lt_or_ge k k' with h | h
        · omega
        · exfalso
          have : k' = k := by omega
          rw [this] at a3
          exact c a3
theorem go_mod (hM : ab_MR (τ 25 0 0) A) (hW : ab_W A t) (h11 : aH A 11 ≠ 0) {n k f : Nat} (hn : aH A 8 = n) (hk : aS A n 7 = k + 1) (hf : aS A n 0 = f) : ∃ r, k_mm_isGone τ = (if aS A n 6 ≤ k + 1 then en_b1 (k_mm_isDone (nI n) r) (fun s14 => some s14) else some r) ∧ (∀ x, x ≠ 74 + 68 * (n % 8) + (8 + 3 * k + 2) → x ≠ 20 + 9 * f + 7 → r 25 0 0 x = τ 25 0 0 x) ∧ r 25 0 0 (74 + 68 * (n % 8) + (8 + 3 * k + 2)) = nI (aH A 4) ∧ r 25 0 0 (20 + 9 * f + 7) = aX A f 0 + nI (ab_sz A n k - 12) ∧ en_fr [(25, 0)] τ r := by
  have hN := ab_N hW
  obtain ⟨hR, hlt, h4, -⟩ := hW.2.2.2.2.1 h11
  rw [hn] at hR hlt h4
  have hw := ab_in_win hW hR hlt
  have hp := ab_pc hW hw
  have hm8 : n % 8 < 8 := Nat.mod_lt _ (by decide)
  obtain ⟨q0, q1, q2, -, -, q5, -⟩ := hW.2.2.1 n hw
  rw [hf] at q0
  have hkp : k < aS A n 6 := by omega
  obtain ⟨-, hup, hkc, hk20⟩ := ab_pk hW hw hkp
  have r15 := (hM.1.2.2.2.2.2.2.2.2.1 h11).1
  have r16 := (hM.1.2.2.2.2.2.2.2.2.1 h11).2
  rw [hn] at r15
  rw [hn, hk, Nat.add_sub_cancel] at r16
  have mT := hM.1.1 4 (by decide)
  have r3 := hM.2.2.1 n hw
  have r7 := (hM.2.1 f q0).2.2.1
  obtain ⟨s1, hs1⟩ : ∃ z, en_wr τ 25 0 0 (74 + 68 * (n % 8) + (8 + 3 * k + 2)) (nI (aH A 4)) = z := ⟨_, rfl⟩
  have o1 : ∀ x, x ≠ 74 + 68 * (n % 8) + (8 + 3 * k + 2) → s1 25 0 0 x = τ 25 0 0 x := fun x h => by rw [← hs1, pu_wr_k h]
  obtain ⟨r, hr⟩ : ∃ z, en_wr s1 25 0 0 (20 + 9 * f + 7) (aX A f 0 + nI (ab_sz A n k - 12)) = z := ⟨_, rfl⟩
  have or : ∀ x, x ≠ 74 + 68 * (n % 8) + (8 + 3 * k + 2) → x ≠ 20 + 9 * f + 7 → r 25 0 0 x = τ 25 0 0 x := fun x h1 h2 => by rw [← hr, pu_wr_k h2, o1 x h1]
  have vr : r 25 0 0 (74 + 68 * (n % 8) + (8 + 3 * k + 2)) = nI (aH A 4) := by rw [← hr, pu_wr_k (by omega), ← hs1, pu_wr_eq]
  have oS : ∀ w, w < 8 → r 25 0 0 (74 + 68 * (n % 8) + w) = τ 25 0 0 (74 + 68 * (n % 8) + w) := fun w hw' => or _ (le_ix hw' hk20 (by omega)) (by omega)
  have hbyt : k_mm_bytesOf (nI n) (nI k) s1 = some (nI (ab_sz A n k - 12)) := by
    rw [k_mm_bytesOf, mo_of (x := 2) (w := 2) rfl (by omega) (by decide), pu_b1, mo_of (x := 1) (w := 1) rfl (by omega) (by decide), pu_b1, pu_b1, o1 _ (le_ix (by omega) hk20 (by omega)), o1 _ (le_ix (by omega) hk20 (by omega)), r3.1 2 (by decide), r3.1 1 (by decide), pk_mul, pk_sub (by omega), nu_ls (by omega) (by omega), ab_sz, Nat.add_sub_cancel_left]
  have hpc : k_mm_piecesOf (nI n) r = some (nI (aS A n 6)) := by
    rw [k_mm_piecesOf, k_mm_cutsOf, mo_of (x := 4) (w := 4) rfl (by omega) (by decide), pu_b1, mo_of (x := 1) (w := 1) rfl (by omega) (by decide), pu_b1, mo_of (x := 2) (w := 2) rfl (by omega) (by decide), pu_b1, pu_b1, oS 4 (by omega), oS 1 (by omega), oS 2 (by omega), r3.1 4 (by decide), r3.1 1 (by decide), r3.1 2 (by decide), h4, if_pos (show nI 1 = 1 from rfl), nI_add, show (1 : Int32) = nI 1 from rfl, pk_sub (by omega), en_dv, if_neg (nI_ne0 (by omega) (by omega)), pu_b1, pk_div (by omega) (by omega) (by omega), pu_b1, hup, ab_up]
  have hg := go_all (r := r) (n := n) (P := aS A n 6) (by omega) hp.1 hpc (aS A n 6) 0 en_fu (by omega) (by rw [en_fu]; omega)
  rw [nI_0] at hg
  refine ⟨r, ?_, or, vr, by rw [← hr, pu_wr_eq], fr_tr (fr_wr hs1 (by simp)) (fr_wr hr (by simp))⟩
  rw [k_mm_isGone, r15, r16, mT, mo_pat (x := 2) (w := 2) rfl (by omega), pu_wa (by omega) (by decide), pu_b1, hs1, mo_of (x := 0) (w := 0) rfl (by omega) (by decide), pu_b1, o1 _ (le_ix (by omega) hk20 (by omega)), r3.1 0 (by decide), hf, show (20 : Int32) = nI 20 from rfl, show (9 : Int32) = nI 9 from rfl, show (7 : Int32) = nI 7 from rfl, pk_mul, nI_add, nI_add, pu_rd (by omega) (by decide), pu_b1, o1 (20 + 9 * f + 7) (by omega), r7, o1 16 (by omega), r16, hbyt, pu_b1, pu_wa (by omega) (by decide), pu_b1, hr, k_mm_isAllGone]
  by_cases hl : aS A n 6 ≤ k + 1
  · rw [if_pos hl, hg.1 (fun k' a1 a2 => ?_), pu_rxr, pu_b1, if_neg (show ¬ (1 : Int32) = 0 by decide)]
    by_cases e : k' = k
    · rw [e, vr]
      intro q
      have := nu_m1 (show aH A 4 < 2 ^ 31 by omega)
      rw [q] at this
      exact (of_eq_true (this ▸ eq_self (-1 : Int32)) : False).elim
    · rw [or _ (le_ix2 hk20 (by omega) (by omega) (by omega) (by omega)) (by omega)]
      have hx := (hM.2.2.2.1 n k' hw (by omega)).1 (Or.inl (by omega))
      obtain ⟨v, v1, v2⟩ := ((hW.2.2.2.1 n k' hw (Or.inl (by omega))).1 (by omega)).2.2 (fun q => by omega)
      rw [hx.2, v2]
      intro q
      exact (of_eq_true ((nu_m1 (show v < 2 ^ 31 by omega)) ▸ (eq_true q)) : False).elim
  · rw [if_neg hl, hg.2 ⟨k + 1, by omega, by omega, ?_⟩, pu_rxl, pu_b1, if_pos rfl]
    rw [or _ (le_ix2 hk20 (by omega) (by omega) (by omega) (by omega)) (by omega)]
    have hx := (hM.2.2.2.1 n (k + 1) hw (by omega)).1 (Or.inl (by omega))
    rw [hx.2]
    exact ((hW.2.2.2.1 n (k + 1) hw (Or.inl (by omega))).2 (by omega)).2
end gon

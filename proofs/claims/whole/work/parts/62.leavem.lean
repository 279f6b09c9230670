/-! A piece leaves: the model. -/
theorem le_ix {a b w k w' : Nat} (hw : w < 8) (hk : k < 20) (hw' : w' < 3) : 74 + 68 * a + w ≠ 74 + 68 * b + (8 + 3 * k + w') := by
  rcases Nat.lt_trichotomy a b with h | h | h <;> omega
theorem le_ix2 {a b k k' w w' : Nat} (hk : k < 20) (hk' : k' < 20) (h1 : w < 3) (h2 : w' < 3) (h : ¬ (a = b ∧ k' = k ∧ w = w')) : 74 + 68 * a + (8 + 3 * k' + w) ≠ 74 + 68 * b + (8 + 3 * k + w') := by
  rcases Nat.lt_trichotomy a b with h' | h' | h'
  · omega
  · rcases Nat.lt_trichotomy k k' with h3 | h3 | h3 <;> omega
  · omega
/-- the model's row, seven cells changed -/
theorem le_row {τ : en_M} {n k f D T sz tk : Nat} (hk : k < 20) (hf : f < 6) : ∃ t7 t9 t11 t13 t15 t17 t19 t23, en_wr τ 25 0 0 (74 + 68 * (n % 8) + (8 + 3 * k + 0)) (nI D) = t7 ∧ en_wr t7 25 0 0 (74 + 68 * (n % 8) + (8 + 3 * k + 1)) (nI T) = t9 ∧ en_wr t9 25 0 0 (20 + 9 * f + 4) 1 = t11 ∧ en_wr t11 25 0 0 (20 + 9 * f + 5) (nI D) = t13 ∧ en_wr t13 25 0 0 (20 + 9 * f + 6) (nI sz) = t15 ∧ en_wr t15 25 0 0 15 (nI n) = t17 ∧ en_wr t17 25 0 0 16 (nI k) = t19 ∧ en_wr t19 25 0 0 17 (nI tk) = t23 ∧ t7 25 0 0 4 = τ 25 0 0 4 ∧ t19 25 0 0 1 = τ 25 0 0 1 ∧
    (∀ x, x < 20 → x ≠ 15 → x ≠ 16 → x ≠ 17 → t23 25 0 0 x = τ 25 0 0 x) ∧ (∀ f' w, f' < 6 → w < 9 → ¬ (f' = f ∧ (w = 4 ∨ w = 5 ∨ w = 6)) → t23 25 0 0 (20 + 9 * f' + w) = τ 25 0 0 (20 + 9 * f' + w)) ∧ (∀ a w, w < 8 → t23 25 0 0 (74 + 68 * a + w) = τ 25 0 0 (74 + 68 * a + w)) ∧ (∀ a k' w, k' < 20 → w < 3 → ¬ (a = n % 8 ∧ k' = k ∧ (w = 0 ∨ w = 1)) → t23 25 0 0 (74 + 68 * a + (8 + 3 * k' + w)) = τ 25 0 0 (74 + 68 * a + (8 + 3 * k' + w))) ∧ (∀ x, 618 ≤ x → t23 25 0 0 x = τ 25 0 0 x) ∧
    t23 25 0 0 (74 + 68 * (n % 8) + (8 + 3 * k + 0)) = nI D ∧ t23 25 0 0 (74 + 68 * (n % 8) + (8 + 3 * k + 1)) = nI T ∧ t23 25 0 0 (20 + 9 * f + 4) = nI 1 ∧ t23 25 0 0 (20 + 9 * f + 5) = nI D ∧ t23 25 0 0 (20 + 9 * f + 6) = nI sz ∧ t23 25 0 0 15 = nI n ∧ t23 25 0 0 16 = nI k ∧ t23 25 0 0 17 = nI tk := by
  have hm8 : n % 8 < 8 := Nat.mod_lt _ (by decide)
  obtain ⟨z, hz⟩ : ∃ z, n % 8 = z := ⟨_, rfl⟩
  rw [hz] at hm8 ⊢
  clear hz
  obtain ⟨t7, ht7⟩ : ∃ y, en_wr τ 25 0 0 (74 + 68 * z + (8 + 3 * k + 0)) (nI D) = y := ⟨_, rfl⟩
  obtain ⟨t9, ht9⟩ : ∃ y, en_wr t7 25 0 0 (74 + 68 * z + (8 + 3 * k + 1)) (nI T) = y := ⟨_, rfl⟩
  obtain ⟨t11, ht11⟩ : ∃ y, en_wr t9 25 0 0 (20 + 9 * f + 4) 1 = y := ⟨_, rfl⟩
  obtain ⟨t13, ht13⟩ : ∃ y, en_wr t11 25 0 0 (20 + 9 * f + 5) (nI D) = y := ⟨_, rfl⟩
  obtain ⟨t15, ht15⟩ : ∃ y, en_wr t13 25 0 0 (20 + 9 * f + 6) (nI sz) = y := ⟨_, rfl⟩
  obtain ⟨t17, ht17⟩ : ∃ y, en_wr t15 25 0 0 15 (nI n) = y := ⟨_, rfl⟩
  obtain ⟨t19, ht19⟩ : ∃ y, en_wr t17 25 0 0 16 (nI k) = y := ⟨_, rfl⟩
  obtain ⟨t23, ht23⟩ : ∃ y, en_wr t19 25 0 0 17 (nI tk) = y := ⟨_, rfl⟩
  have o23 : ∀ x, x ≠ 74 + 68 * z + (8 + 3 * k + 0) → x ≠ 74 + 68 * z + (8 + 3 * k + 1) → x ≠ 20 + 9 * f + 4 → x ≠ 20 + 9 * f + 5 → x ≠ 20 + 9 * f + 6 → x ≠ 15 → x ≠ 16 → x ≠ 17 → t23 25 0 0 x = τ 25 0 0 x := fun x g1 g2 g3 g4 g5 g6 g7 g8 => by
    rw [← ht23, pu_wr_k g8, ← ht19, pu_wr_k g7, ← ht17, pu_wr_k g6, ← ht15, pu_wr_k g5, ← ht13, pu_wr_k g4, ← ht11, pu_wr_k g3, ← ht9, pu_wr_k g2, ← ht7, pu_wr_k g1]
  refine ⟨t7, t9, t11, t13, t15, t17, t19, t23, ht7, ht9, ht11, ht13, ht15, ht17, ht19, ht23, ?_, ?_, fun x h1 h2 h3 h4 => o23 x (by omega) (by omega) (by omega) (by omega) (by omega) h2 h3 h4, fun f' w h1 h2 h3 => o23 _ (by omega) (by omega) (by omega) (by omega) (by omega) (by omega) (by omega) (by omega), fun a w hw => o23 _ (le_ix hw hk (by omega)) (le_ix hw hk (by omega)) (by omega) (by omega) (by omega) (by omega) (by omega) (by omega), fun a k' w h1 h2 h3 => o23 _ (le_ix2 hk h1 h2 (by omega) (by omega)) (le_ix2 hk h1 h2 (by omega) (by omega)) (by omega) (by omega) (by omega) (by omega) (by omega) (by omega), fun x hx => o23 x (by omega) (by omega) (by omega) (by omega) (by omega) (by omega) (by omega) (by omega), ?_, ?_, ?_, ?_, ?_, ?_, ?_, ?_⟩
  · rw [← ht7, pu_wr_k (by omega)]
  · rw [← ht19, pu_wr_k (by omega), ← ht17, pu_wr_k (by omega), ← ht15, pu_wr_k (by omega), ← ht13, pu_wr_k (by omega), ← ht11, pu_wr_k (by omega), ← ht9, pu_wr_k (by omega), ← ht7, pu_wr_k (by omega)]
  · rw [← ht23, pu_wr_k (by omega), ← ht19, pu_wr_k (by omega), ← ht17, pu_wr_k (by omega), ← ht15, pu_wr_k (by omega), ← ht13, pu_wr_k (by omega), ← ht11, pu_wr_k (by omega), ← ht9, pu_wr_k (by omega), ← ht7, pu_wr_eq]
  · rw [← ht23, pu_wr_k (by omega), ← ht19, pu_wr_k (by omega), ← ht17, pu_wr_k (by omega), ← ht15, pu_wr_k (by omega), ← ht13, pu_wr_k (by omega), ← ht11, pu_wr_k (by omega), ← ht9, pu_wr_eq]
  · rw [← ht23, pu_wr_k (by omega), ← ht19, pu_wr_k (by omega), ← ht17, pu_wr_k (by omega), ← ht15, pu_wr_k (by omega), ← ht13, pu_wr_k (by omega), ← ht11, pu_wr_eq]
    rfl
  · rw [← ht23, pu_wr_k (by omega), ← ht19, pu_wr_k (by omega), ← ht17, pu_wr_k (by omega), ← ht15, pu_wr_k (by omega), ← ht13, pu_wr_eq]
  · rw [← ht23, pu_wr_k (by omega), ← ht19, pu_wr_k (by omega), ← ht17, pu_wr_k (by omega), ← ht15, pu_wr_eq]
  · rw [← ht23, pu_wr_k (by omega), ← ht19, pu_wr_k (by omega), ← ht17, pu_wr_eq]
  · rw [← ht23, pu_wr_k (by omega), ← ht19, pu_wr_eq]
  · rw [← ht23, pu_wr_eq]
theorem le_mod {τ : en_M} {t n : Nat} {A : ab_A} (hM : ab_MR (τ 25 0 0) A) (hW : ab_W A t) (hR : aH A 6 ≤ n) (hn : n < aH A 5) (h4 : aS A n 4 = 1) (hlt : aS A n 7 < aS A n 6) (hd : τ 30 0 0 (20 * (n % 8) + aS A n 7) = nI (rd_D A n)) : ∃ τ1, k_mm_leaves (nI n) (nI (aS A n 7)) τ = some τ1 ∧ ab_MR (τ1 25 0 0) (le_A A n (rd_D A n)) := by
  have hN := ab_N hW
  have hw := ab_in_win hW hR hn
  have hm : ∀ n, n % 8 < 8 := fun n => Nat.mod_lt _ (by decide)
  obtain ⟨q0, q1, q2, -, -, q5, -⟩ := hW.2.2.1 n hw
  obtain ⟨-, -, -, q54, -⟩ := q5 (Or.inl h4)
  obtain ⟨-, -, hkc, hk20⟩ := ab_pk hW hw hlt
  have h40 := ab_l40 hW
  have hwire := hW.1.2.1
  have hsz1 := ab_sz_le (A := A) (n := n) (k := aS A n 7) q2.2
  have hf6 : aS A n 0 < 6 := by omega
  have hm8 := hm n
  obtain ⟨t7, t9, t11, t13, t15, t17, t19, t23, ht7, ht9, ht11, ht13, ht15, ht17, ht19, ht23, a4, a1, oL, oF, oS, oP, oX, v0, v1, v4, v5, v6, v15, v16, v17⟩ := le_row (τ := τ) (n := n) (k := aS A n 7) (f := aS A n 0) (D := rd_D A n) (T := aH A 4) (sz := ab_sz A n (aS A n 7)) (tk := ab_up (ab_sz A n (aS A n 7)) (aH A 1)) hk20 hf6
  obtain ⟨m1, m2, m3, m4, m5, m6⟩ := hM
  have r3 := m3 n hw
  obtain ⟨τ1, y1, y2, y3, y4, y5⟩ := lv_mod (τ := t23) (n := n) (k := aS A n 7) (D := rd_D A n) (T := aH A 4) (f := aS A n 0) (len := aS A n 1) (cut := aS A n 2) (pl := aS A n 8) (A := A) h40 (by omega) (by rw [oL 18 (by omega) (by omega) (by omega) (by omega)]; exact m1.2.2.2.2.2.2.2.2.2.2.1) (fun row c h1 h2 => by rw [oX _ (by omega)]; exact m5 row c h1 h2) (by rw [oS _ 0 (by omega)]; exact r3.1 0 (by decide)) (by rw [oS _ 1 (by omega)]; exact r3.1 1 (by decide)) (by rw [oS _ 2 (by omega)]; exact r3.1 2 (by decide)) (by
      have := r3.2 2 (by decide)
      rw [oS _ 7 (by omega), ← q54]
      exact this) (by rw [oL 4 (by omega) (by omega) (by omega) (by omega)]; exact m1.1 4 (by decide)) (by omega) q1.2 q2.2 (new := le_new A n (rd_D A n)) (by simp [le_new, ab_sz])
  refine ⟨τ1, ?_, ?_⟩
  · have hM' : ab_MR (τ 25 0 0) A := ⟨m1, m2, m3, m4, m5, m6⟩
    rw [m1.1 4 (by decide)] at a4
    rw [m1.1 1 (by decide)] at a1
    rw [k_mm_leaves, mo_pl (by omega), pu_rd (by omega) (by decide), pu_b1, hd, mo_sz hM' hW hw hlt, pu_b1, mo_snd hM' hW (x := 0) (w := 0) rfl hw (by decide), pu_b1, mo_pat (x := 0) (w := 0) rfl (by omega), pu_wa (by omega) (by decide), pu_b1, ht7, a4, mo_pat (x := 1) (w := 1) rfl (by omega), pu_wa (by omega) (by decide), pu_b1, ht9, show (20 : Int32) = nI 20 from rfl, show (9 : Int32) = nI 9 from rfl, pk_mul, nI_add, show (4 : Int32) = nI 4 from rfl, show (5 : Int32) = nI 5 from rfl, show (6 : Int32) = nI 6 from rfl, nI_add, nI_add, nI_add, pu_wa (by omega) (by decide), pu_b1, ht11, pu_wa (by omega) (by decide), pu_b1, ht13, pu_wa (by omega) (by decide), pu_b1, ht15, pu_let, ht17, pu_let, ht19, nu_tk a1 (by omega) (by omega), pu_b1, pu_let, ht23, y1, pu_b1]
  · obtain ⟨B, hB⟩ : ∃ B, le_A A n (rd_D A n) = B := ⟨_, rfl⟩
    rw [hB]
    obtain ⟨D, hD⟩ : ∃ D, rd_D A n = D := ⟨_, rfl⟩
    rw [hD] at hB v0 v5 y5
    obtain ⟨k, hk⟩ : ∃ k, aS A n 7 = k := ⟨_, rfl⟩
    obtain ⟨f, hf⟩ : ∃ f, aS A n 0 = f := ⟨_, rfl⟩
    obtain ⟨sz, hsz⟩ : ∃ sz, ab_sz A n k = sz := ⟨_, rfl⟩
    obtain ⟨tk, htk⟩ : ∃ tk, ab_up sz (aH A 1) = tk := ⟨_, rfl⟩
    rw [hk] at v0 v1 v6 v16 v17 oP hk20 hlt
    rw [hk] at hsz1
    rw [hsz] at v6 v17
    rw [htk] at v17
    rw [hf] at v4 v5 v6 oF q0 hf6
    clear hW hd ht7 ht9 ht11 ht13 ht15 ht17 ht19 ht23 a4 a1 y1 hsz1 hwire q1 q2 q5 q54 hkc r3
    have bH : ∀ x, x ≠ 7 → x ≠ 8 → x ≠ 11 → x ≠ 9 → aH B x = aH A x := fun x h7 h8 h11 h9 => by
      rw [← hB]
      show u1 (u1 (u1 (u1 (aH A) 7 _) 8 n) 11 1) 9 _ x = _
      rw [u1_n h9, u1_n h11, u1_n h8, u1_n h7]
    have bH7 : aH B 7 = tk := by
      rw [← hB, ← htk, ← hsz, ← hk]
      show u1 (u1 (u1 (u1 (aH A) 7 (ab_up (ab_sz A n (aS A n 7)) (aH A 1))) 8 n) 11 1) 9 (min 40 (aH A 9 + 1)) 7 = _
      rw [u1_n (by omega), u1_n (by omega), u1_n (by omega), u1_s]
    have bH8 : aH B 8 = n := by
      rw [← hB]
      show u1 (u1 (u1 (u1 (aH A) 7 (ab_up (ab_sz A n (aS A n 7)) (aH A 1))) 8 n) 11 1) 9 (min 40 (aH A 9 + 1)) 8 = _
      rw [u1_n (by omega), u1_n (by omega), u1_s]
    have bH11 : aH B 11 = 1 := by
      rw [← hB]
      show u1 (u1 (u1 (u1 (aH A) 7 (ab_up (ab_sz A n (aS A n 7)) (aH A 1))) 8 n) 11 1) 9 (min 40 (aH A 9 + 1)) 11 = _
      rw [u1_n (by omega), u1_s]
    have bH9 : aH B 9 = min 40 (aH A 9 + 1) := by
      rw [← hB]
      show u1 (u1 (u1 (u1 (aH A) 7 (ab_up (ab_sz A n (aS A n 7)) (aH A 1))) 8 n) 11 1) 9 (min 40 (aH A 9 + 1)) 9 = _
      rw [u1_s]
    have bC : aC B = aC A := by rw [← hB]; rfl
    have bX : aX B = aX A := by rw [← hB]; rfl
    have bD : aD B = aD A := by rw [← hB]; rfl
    have bR : aR B = aR A := by rw [← hB]; rfl
    have bSo : ∀ m w, ¬ (m = n ∧ w = 7) → aS B m w = aS A m w := fun m w h => by
      rw [← hB]
      show u2 (aS A) n 7 _ m w = _
      rw [u2_n h]
    have bS7 : aS B n 7 = k + 1 := by
      rw [← hB, ← hk]
      show u2 (aS A) n 7 (aS A n 7 + 1) n 7 = _
      rw [u2_s]
    have bSm : ∀ m, m ≠ n → aS B m = aS A m := fun m e => funext fun w => bSo m w (by omega)
    have bFo : ∀ f' w, ¬ (f' = f ∧ (w = 4 ∨ w = 5 ∨ w = 6)) → aF B f' w = aF A f' w := fun f' w h => by
      rw [← hB]
      show u2 (u2 (u2 (aF A) (aS A n 0) 4 1) (aS A n 0) 5 D) (aS A n 0) 6 _ f' w = _
      rw [hf, u2_n (by omega), u2_n (by omega), u2_n (by omega)]
    have bF4 : aF B f 4 = 1 := by
      rw [← hB]
      show u2 (u2 (u2 (aF A) (aS A n 0) 4 1) (aS A n 0) 5 D) (aS A n 0) 6 (ab_sz A n (aS A n 7)) f 4 = _
      rw [hf, u2_n (by omega), u2_n (by omega), u2_s]
    have bF5 : aF B f 5 = D := by
      rw [← hB]
      show u2 (u2 (u2 (aF A) (aS A n 0) 4 1) (aS A n 0) 5 D) (aS A n 0) 6 (ab_sz A n (aS A n 7)) f 5 = _
      rw [hf, u2_n (by omega), u2_s]
    have bF6 : aF B f 6 = sz := by
      rw [← hB]
      show u2 (u2 (u2 (aF A) (aS A n 0) 4 1) (aS A n 0) 5 D) (aS A n 0) 6 (ab_sz A n (aS A n 7)) f 6 = _
      rw [hf, hk, hsz, u2_s]
    have bPo : ∀ m k' w, ¬ (m = n ∧ k' = k ∧ (w = 0 ∨ w = 1)) → aP B m k' w = aP A m k' w := fun m k' w h => by
      rw [← hB]
      show u3 (u3 (aP A) n (aS A n 7) 0 _) n (aS A n 7) 1 _ m k' w = _
      rw [hk, u3_n (by omega), u3_n (by omega)]
    have bP0 : aP B n k 0 = nI D := by
      rw [← hB]
      show u3 (u3 (aP A) n (aS A n 7) 0 (nI D)) n (aS A n 7) 1 (nI (aH A 4)) n k 0 = _
      rw [hk, u3_n (by omega), u3_s]
    have bP1 : aP B n k 1 = nI (aH A 4) := by
      rw [← hB]
      show u3 (u3 (aP A) n (aS A n 7) 0 (nI D)) n (aS A n 7) 1 (nI (aH A 4)) n k 1 = _
      rw [hk, u3_s]
    have bL : aL B = lv_L A (le_new A n D) := by rw [← hB]; rfl
    have bwin : ∀ m, ab_win B m ↔ ab_win A m := fun m => by simp only [ab_win, bH 5 (by omega) (by omega) (by omega) (by omega)]
    have hlow : ∀ x, x < 20 → x ≠ 18 → x ≠ 15 → x ≠ 16 → x ≠ 17 → τ1 25 0 0 x = τ 25 0 0 x := fun x a1 a2 a3 a4 a5 => by rw [y2 x (by omega) a2, oL x a1 a3 a4 a5]
    refine ⟨?_, ?_, ?_, ?_, ?_, ?_⟩
    · obtain ⟨x1, x2, x3, x4, x5, x6, x7, x8, x9, x10, x11, x12⟩ := m1
      refine ⟨fun x hx => by rw [hlow x (by omega) (by omega) (by omega) (by omega) (by omega), bH x (by omega) (by omega) (by omega) (by omega)]; exact x1 x hx, ?_⟩
      rw [hlow 7 (by omega) (by omega) (by omega) (by omega) (by omega), hlow 8 (by omega) (by omega) (by omega) (by omega) (by omega), hlow 9 (by omega) (by omega) (by omega) (by omega) (by omega), hlow 10 (by omega) (by omega) (by omega) (by omega) (by omega), hlow 11 (by omega) (by omega) (by omega) (by omega) (by omega), hlow 12 (by omega) (by omega) (by omega) (by omega) (by omega), hlow 13 (by omega) (by omega) (by omega) (by omega) (by omega), hlow 14 (by omega) (by omega) (by omega) (by omega) (by omega), hlow 19 (by omega) (by omega) (by omega) (by omega) (by omega), y2 15 (by omega) (by omega), y2 16 (by omega) (by omega), y2 17 (by omega) (by omega), v15, v16, v17, y4, bC, bH7, bH8, bH9, bH11, bS7, bH 10 (by omega) (by omega) (by omega) (by omega)]
      exact ⟨x2, x3, x4, x5, x6, x7, x8, fun _ => ⟨rfl, rfl⟩, rfl, rfl, x12⟩
    · intro f' hf'
      rw [bH 3 (by omega) (by omega) (by omega) (by omega)] at hf'
      have hx := m2 f' hf'
      have hf6' : f' < 6 := by omega
      have yo : ∀ w, w < 9 → ¬ (f' = f ∧ (w = 4 ∨ w = 5 ∨ w = 6)) → τ1 25 0 0 (20 + 9 * f' + w) = τ 25 0 0 (20 + 9 * f' + w) := fun w h1 h2 => by rw [y2 _ (by omega) (by omega), oF f' w hf6' h1 h2]
      rw [yo 7 (by omega) (by omega), yo 8 (by omega) (by omega), bX]
      by_cases e : f' = f
      · subst e
        refine ⟨fun w hw' => ?_, fun _ => ?_, hx.2.2⟩
        · by_cases e4 : w = 4
          · subst e4
            rw [y2 _ (by omega) (by omega), v4, bF4]
          · rw [yo w (by omega) (by omega), bFo f' w (by omega)]
            exact hx.1 w hw'
        · rw [y2 _ (by omega) (by omega), y2 _ (by omega) (by omega), v5, v6, bF5, bF6]
          exact ⟨rfl, rfl⟩
      · refine ⟨fun w hw' => ?_, ?_, hx.2.2⟩
        · rw [yo w (by omega) (by omega), bFo f' w (by omega)]
          exact hx.1 w hw'
        · rw [yo 5 (by omega) (by omega), yo 6 (by omega) (by omega), bFo f' 4 (by omega), bFo f' 5 (by omega), bFo f' 6 (by omega)]
          exact hx.2.1
    · intro m hm'
      have hx := m3 m ((bwin m).mp hm')
      have := hm m
      have yo : ∀ w, w < 8 → τ1 25 0 0 (74 + 68 * (m % 8) + w) = τ 25 0 0 (74 + 68 * (m % 8) + w) := fun w h1 => by rw [y2 _ (by omega) (by omega), oS _ w h1]
      rw [bR]
      exact ⟨fun w hw' => by rw [yo w (by omega), bSo m w (by omega)]; exact hx.1 w hw', fun w hw' => by rw [yo (5 + w) (by omega)]; exact hx.2 w hw'⟩
    · intro m k' hm' hk'
      have hmA := (bwin m).mp hm'
      have hx := m4 m k' hmA hk'
      have := hm m
      have yo : ∀ w, w < 3 → ¬ (m % 8 = n % 8 ∧ k' = k ∧ (w = 0 ∨ w = 1)) → τ1 25 0 0 (74 + 68 * (m % 8) + (8 + 3 * k' + w)) = τ 25 0 0 (74 + 68 * (m % 8) + (8 + 3 * k' + w)) := fun w h1 h2 => by rw [y2 _ (by omega) (by omega), oP _ k' w hk' h1 h2]
      rw [bSo m 6 (by omega), bSo m 4 (by omega), bPo m k' 2 (by omega), yo 2 (by omega) (by omega)]
      by_cases e : m = n ∧ k' = k
      · obtain ⟨e1, e2⟩ := e
        subst e1 e2
        rw [bP0, bP1, y2 _ (by omega) (by omega), y2 _ (by omega) (by omega), v1]
        exact ⟨fun q => ⟨rfl, (hx.1 q).2⟩, fun _ => v0⟩
      · have hne : ¬ (m % 8 = n % 8 ∧ k' = k) := fun q => e ⟨(ti_apart hmA hw (k := 0) (k' := 0) (by omega) (by omega) (by omega)).1, q.2⟩
        have y0 := yo 0 (by omega) (by omega)
        rw [Nat.add_zero] at y0
        rw [bPo m k' 0 (by omega), bPo m k' 1 (by omega), yo 1 (by omega) (by omega), y0]
        refine ⟨hx.1, fun q => ?_⟩
        by_cases em : m = n
        · subst em
          rw [bS7] at q
          exact hx.2 (by omega)
        · rw [bSo m 7 (by omega)] at q
          exact hx.2 q
    · intro row c h1 h2
      rw [bH9] at h1
      rw [bL]
      exact y5 row c h1 h2
    · intro x w h1 h2 h3
      rw [bH 10 (by omega) (by omega) (by omega) (by omega)] at h2 ⊢
      rw [y3 _ (by omega), oX _ (by omega), bD]
      exact m6 x w h1 h2 h3

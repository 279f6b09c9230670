/-! A piece leaves. -/
def le_new (A : ab_A) (n D : Nat) : Nat → Nat := fun c => if c = 0 then n else if c = 1 then aS A n 7 else if c = 2 then aS A n 0 else if c = 3 then ab_sz A n (aS A n 7) else if c = 4 then D else if c = 5 then aH A 4 else aS A n 8 + aS A n 7 * aS A n 2
def le_A (A : ab_A) (n D : Nat) : ab_A := sL (sP (sF (sS (sH A (u1 (u1 (u1 (u1 (aH A) 7 (ab_up (ab_sz A n (aS A n 7)) (aH A 1))) 8 n) 11 1) 9 (min 40 (aH A 9 + 1)))) (u2 (aS A) n 7 (aS A n 7 + 1))) (u2 (u2 (u2 (aF A) (aS A n 0) 4 1) (aS A n 0) 5 D) (aS A n 0) 6 (ab_sz A n (aS A n 7)))) (u3 (u3 (aP A) n (aS A n 7) 0 (nI D)) n (aS A n 7) 1 (nI (aH A 4)))) (lv_L A (le_new A n D))
theorem le_first {A : ab_A} {n : Nat} (hb : rd_b A false (aH A 5) (some n)) : ∀ n', aH A 6 ≤ n' → n' < n → ¬ (aS A n' 4 = 1 ∧ aS A n' 7 < aS A n' 6 ∧ aS A n' 0 = aS A n 0) := by
  intro n' h1 h2 ⟨q1, q2, q3⟩
  obtain ⟨hc, hlt, -, hmin⟩ := hb
  have hc' : rd_c A false n' := ⟨h1, by omega, q1, q2, fun _ => by rw [q3]; exact hc.2.2.2.2 rfl⟩
  have h3 : rd_D A n' ≤ rd_D A n := by
    simp only [rd_D, ab_de]
    rw [q3]
    exact rd_fl h1 h2 q1 q2 q3
  rcases hmin n' hc' (by omega) with h | ⟨h, h'⟩ <;> omega
theorem le_cls {σ : en_M} {g t n : Nat} {A : ab_A} (hC : ab_CR σ g A) (hW : ab_W A t) (hWR : ab_WR A) (h11 : aH A 11 = 0) (hb : rd_b A false (aH A 5) (some n)) :
    ∃ σ1, k_cd_letLeave g σ = some (1, σ1) ∧ ab_CR σ1 g (le_A A n (rd_D A n)) ∧ ab_W (le_A A n (rd_D A n)) t := by
  have hN := ab_N hW
  have hfirst := le_first hb
  have hb0 := hb
  obtain ⟨⟨hR, hn, h4, hlt, hps⟩, -, hDT, -⟩ := hb
  have hw := ab_in_win hW hR hn
  have hm : ∀ n, n % 8 < 8 := fun n => Nat.mod_lt _ (by decide)
  have hm8 := hm n
  have hp := ab_pc hW hw
  obtain ⟨q0, q1, q2, q3, q4, q5, q6, q7, q8, q9, -, q11⟩ := hW.2.2.1 n hw
  obtain ⟨q51, q52, q53, q54, q55⟩ := q5 (Or.inl h4)
  obtain ⟨-, hup, hkc, hk20⟩ := ab_pk hW hw hlt
  obtain ⟨k, hk⟩ : ∃ k, aS A n 7 = k := ⟨_, rfl⟩
  obtain ⟨f, hf⟩ : ∃ f, aS A n 0 = f := ⟨_, rfl⟩
  obtain ⟨D, hD⟩ : ∃ D, rd_D A n = D := ⟨_, rfl⟩
  obtain ⟨sz, hsz⟩ : ∃ sz, ab_sz A n k = sz := ⟨_, rfl⟩
  obtain ⟨tk, htk⟩ : ∃ tk, ab_up sz (aH A 1) = tk := ⟨_, rfl⟩
  have hwire := hW.1.2.1
  have h40 := ab_l40 hW
  have hsz1 : 13 ≤ sz ∧ sz ≤ 112 := by
    rw [← hsz, ab_sz]
    rw [hk] at hkc
    omega
  have htk1 : 1 ≤ tk ∧ tk ≤ 112 := by
    rw [← htk]
    refine ⟨ab_up_pos (by omega) (by omega), ?_⟩
    rw [ab_up]
    have : sz + aH A 1 - 1 < aH A 1 * 113 := by
      have := hwire.1
      have h1 : aH A 1 * 113 = aH A 1 * 112 + aH A 1 := by omega
      have h2 : 112 ≤ aH A 1 * 112 := by omega
      omega
    have := Nat.div_lt_of_lt_mul this
    omega
  have hdek : ab_de A n k = D := by rw [← hD, rd_D, hk]
  rw [hk] at hlt q7 hkc hk20
  rw [hf] at q0 hps
  rw [hD] at hDT ⊢
  obtain ⟨B, hB⟩ : ∃ B, le_A A n D = B := ⟨_, rfl⟩
  rw [hB]
  -- what B is
  have bH : ∀ x, x ≠ 7 → x ≠ 8 → x ≠ 11 → x ≠ 9 → aH B x = aH A x := fun x h7 h8 h11 h9 => by
    rw [← hB]
    show u1 (u1 (u1 (u1 (aH A) 7 _) 8 n) 11 1) 9 _ x = _
    rw [u1_n h9, u1_n h11, u1_n h8, u1_n h7]
  have bH7 : aH B 7 = tk := by
    rw [← hB, ← htk, ← hsz, ← hk]
    show u1 (u1 (u1 (u1 (aH A) 7 (ab_up (ab_sz A n (aS A n 7)) (aH A 1))) 8 n) 11 1) 9 (min 40 (aH A 9 + 1)) 7 = _
    rw [u1_n (by omega), u1_n (by omega), u1_n (by omega), u1_s]
  have bH8 : aH B 8 = n := by
    rw [← hB]
    show u1 (u1 (u1 (u1 (aH A) 7 (ab_up (ab_sz A n (aS A n 7)) (aH A 1))) 8 n) 11 1) 9 (min 40 (aH A 9 + 1)) 8 = _
    rw [u1_n (by omega), u1_n (by omega), u1_s]
  have bH11 : aH B 11 = 1 := by
    rw [← hB]
    show u1 (u1 (u1 (u1 (aH A) 7 (ab_up (ab_sz A n (aS A n 7)) (aH A 1))) 8 n) 11 1) 9 (min 40 (aH A 9 + 1)) 11 = _
    rw [u1_n (by omega), u1_s]
  have bH9 : aH B 9 = min 40 (aH A 9 + 1) := by
    rw [← hB]
    show u1 (u1 (u1 (u1 (aH A) 7 (ab_up (ab_sz A n (aS A n 7)) (aH A 1))) 8 n) 11 1) 9 (min 40 (aH A 9 + 1)) 9 = _
    rw [u1_s]
  have bC : aC B = aC A := by rw [← hB]; rfl
  have bX : aX B = aX A := by rw [← hB]; rfl
  have bD : aD B = aD A := by rw [← hB]; rfl
  have bR : aR B = aR A := by rw [← hB]; rfl
  have bSo : ∀ m w, ¬ (m = n ∧ w = 7) → aS B m w = aS A m w := fun m w h => by
    rw [← hB]
    show u2 (aS A) n 7 _ m w = _
    rw [u2_n h]
  have bS7 : aS B n 7 = k + 1 := by
    rw [← hB, ← hk]
    show u2 (aS A) n 7 (aS A n 7 + 1) n 7 = _
    rw [u2_s]
  have bSm : ∀ m, m ≠ n → aS B m = aS A m := fun m e => funext fun w => bSo m w (by omega)
  have bFo : ∀ f' w, ¬ (f' = f ∧ (w = 4 ∨ w = 5 ∨ w = 6)) → aF B f' w = aF A f' w := fun f' w h => by
    rw [← hB]
    show u2 (u2 (u2 (aF A) (aS A n 0) 4 1) (aS A n 0) 5 D) (aS A n 0) 6 _ f' w = _
    rw [hf, u2_n (by omega), u2_n (by omega), u2_n (by omega)]
  have bF4 : aF B f 4 = 1 := by
    rw [← hB]
    show u2 (u2 (u2 (aF A) (aS A n 0) 4 1) (aS A n 0) 5 D) (aS A n 0) 6 (ab_sz A n (aS A n 7)) f 4 = _
    rw [hf, u2_n (by omega), u2_n (by omega), u2_s]
  have bF5 : aF B f 5 = D := by
    rw [← hB]
    show u2 (u2 (u2 (aF A) (aS A n 0) 4 1) (aS A n 0) 5 D) (aS A n 0) 6 (ab_sz A n (aS A n 7)) f 5 = _
    rw [hf, u2_n (by omega), u2_s]
  have bF6 : aF B f 6 = sz := by
    rw [← hB]
    show u2 (u2 (u2 (aF A) (aS A n 0) 4 1) (aS A n 0) 5 D) (aS A n 0) 6 (ab_sz A n (aS A n 7)) f 6 = _
    rw [hf, hk, hsz, u2_s]
  have bPo : ∀ m k' w, ¬ (m = n ∧ k' = k ∧ (w = 0 ∨ w = 1)) → aP B m k' w = aP A m k' w := fun m k' w h => by
    rw [← hB]
    show u3 (u3 (aP A) n (aS A n 7) 0 _) n (aS A n 7) 1 _ m k' w = _
    rw [hk, u3_n (by omega), u3_n (by omega)]
  have bP0 : aP B n k 0 = nI D := by
    rw [← hB]
    show u3 (u3 (aP A) n (aS A n 7) 0 (nI D)) n (aS A n 7) 1 (nI (aH A 4)) n k 0 = _
    rw [hk, u3_n (by omega), u3_s]
  have bP1 : aP B n k 1 = nI (aH A 4) := by
    rw [← hB]
    show u3 (u3 (aP A) n (aS A n 7) 0 (nI D)) n (aS A n 7) 1 (nI (aH A 4)) n k 1 = _
    rw [hk, u3_s]
  have bL : aL B = lv_L A (le_new A n D) := by rw [← hB]; rfl
  have hnew : le_new A n D 0 = n ∧ le_new A n D 1 = k ∧ le_new A n D 2 = f ∧ le_new A n D 3 = sz ∧ le_new A n D 4 = D ∧ le_new A n D 5 = aH A 4 ∧ le_new A n D 6 = aS A n 8 + k * aS A n 2 := by
    simp [le_new, hk, hf, hsz]
  have bwin : ∀ m, ab_win B m ↔ ab_win A m := fun m => by simp only [ab_win, bH 5 (by omega) (by omega) (by omega) (by omega)]
  have bE : ∀ m, ab_e B m = ab_e A m := fun m => by
    simp only [ab_e]
    rw [bSo m 5 (by omega), bSo m 3 (by omega)]
  have bZ : ∀ m x, ab_sz B m x = ab_sz A m x := fun m x => by
    simp only [ab_sz]
    rw [bSo m 2 (by omega), bSo m 1 (by omega)]
  have bH6 := bH 6 (by omega) (by omega) (by omega) (by omega)
  have bH5 := bH 5 (by omega) (by omega) (by omega) (by omega)
  have bH3 := bH 3 (by omega) (by omega) (by omega) (by omega)
  have bH4 := bH 4 (by omega) (by omega) (by omega) (by omega)
  -- times
  obtain ⟨rt, hrt⟩ : ∃ rt, aF A f 0 = rt := ⟨_, rfl⟩
  have hpreA : ∀ m, m ≤ n - aH A 6 → ab_ns A f rt m = ab_in A f rt := by
    intro m
    induction m with
    | zero => intro _; rfl
    | succ m ih =>
      intro hm'
      simp only [ab_ns]
      rw [if_neg (fun q => hfirst (aH A 6 + m) (by omega) (by omega) ⟨q.1, q.2.1, by rw [q.2.2, hf]⟩), ih (by omega)]
  have hpreB : ∀ m, m ≤ n - aH A 6 → ab_ns B f rt m = ab_in B f rt := by
    intro m
    induction m with
    | zero => intro _; rfl
    | succ m ih =>
      intro hm'
      simp only [ab_ns]
      rw [bH6, bSm _ (show aH A 6 + m ≠ n by omega), if_neg (fun q => hfirst (aH A 6 + m) (by omega) (by omega) ⟨q.1, q.2.1, by rw [q.2.2, hf]⟩), ih (by omega)]
  have hDe : D = max (ab_e A n) (ab_in A f rt) := by
    rw [← hD]
    show ab_dp A (aF A (aS A n 0) 0) n (aS A n 7) = _
    rw [hf, hrt, ab_dp, Nat.sub_self, hf, hpreA _ (Nat.le_refl _)]
    rfl
  have hinB : ab_in B f rt = D + ab_gp sz rt := by
    rw [ab_in, bF4, bF5, bF6, if_neg (by decide)]
  have hnk : ∀ j, ab_nk B rt n (ab_in B f rt) j = ab_nk A rt n (ab_in A f rt) (j + 1) := by
    intro j
    induction j with
    | zero =>
      simp only [ab_nk]
      rw [hinB, hk, Nat.add_zero, hsz, hDe]
    | succ j ih =>
      have e1 : ab_nk B rt n (ab_in B f rt) (j + 1) = max (ab_e B n) (ab_nk B rt n (ab_in B f rt) j) + ab_gp (ab_sz B n (aS B n 7 + j)) rt := rfl
      have e2 : ab_nk A rt n (ab_in A f rt) (j + 1 + 1) = max (ab_e A n) (ab_nk A rt n (ab_in A f rt) (j + 1)) + ab_gp (ab_sz A n (aS A n 7 + (j + 1))) rt := rfl
      rw [e1, e2, ih, bE, bZ, bS7, hk, show k + 1 + j = k + (j + 1) by omega]
  have hns : ∀ d, ab_ns B f rt (n - aH A 6 + 1 + d) = ab_ns A f rt (n - aH A 6 + 1 + d) := by
    intro d
    induction d with
    | zero =>
      rw [Nat.add_zero]
      simp only [ab_ns]
      rw [bH6, show aH A 6 + (n - aH A 6) = n by omega, hpreA _ (Nat.le_refl _), hpreB _ (Nat.le_refl _), bSo n 4 (by omega), bSo n 6 (by omega), bSo n 0 (by omega), bS7, hk, if_pos (show aS A n 4 = 1 ∧ k < aS A n 6 ∧ aS A n 0 = f from ⟨h4, hlt, hf⟩)]
      by_cases hl : k + 1 < aS A n 6
      · rw [if_pos ⟨h4, hl, hf⟩, hnk, show aS A n 6 - (k + 1) + 1 = aS A n 6 - k by omega]
      · rw [if_neg (fun q => hl q.2.1), show aS A n 6 - k = 0 + 1 by omega, ← hnk]
        rfl
    | succ d ih =>
      rw [show n - aH A 6 + 1 + (d + 1) = (n - aH A 6 + 1 + d) + 1 by omega]
      simp only [ab_ns]
      have e := bSm (aH A 6 + (n - aH A 6 + 1 + d)) (by omega)
      rw [bH6, e, ih, ns_nk (A := A) (A' := B) rt _ e]
  have hnso : ∀ f' rt' m, f' ≠ f → ab_ns B f' rt' m = ab_ns A f' rt' m := fun f' rt' m hf' => ns_eqf (A := A) (A' := B) bH6 (by
      simp only [ab_in]
      rw [bFo f' 4 (by omega), bFo f' 5 (by omega), bFo f' 6 (by omega)]) m (fun n' _ _ => by
    by_cases e : n' = n
    · subst e
      exact Or.inr ⟨fun q => hf' (by rw [← q.2.2, bSo n' 0 (by omega), hf]), fun q => hf' (by rw [← q.2.2, hf])⟩
    · exact Or.inl (bSm n' e))
  have hnx : ∀ f', f' < aH A 3 → ab_nx B f' = ab_nx A f' := fun f' hf' => by
    show ab_ns B f' (aF B f' 0) (aH B 5 - aH B 6) = ab_ns A f' (aF A f' 0) (aH A 5 - aH A 6)
    rw [bFo f' 0 (by omega), bH5, bH6]
    by_cases e : f' = f
    · rw [e, hrt]
      have := hns (aH A 5 - aH A 6 - (n - aH A 6 + 1))
      rw [show n - aH A 6 + 1 + (aH A 5 - aH A 6 - (n - aH A 6 + 1)) = aH A 5 - aH A 6 by omega] at this
      exact this
    · exact hnso f' _ _ e
  have hde : ∀ m k', ab_win A m → aH A 6 ≤ m → aS A m 4 = 1 → aS B m 7 ≤ k' → k' < aS A m 6 → ab_de B m k' = ab_de A m k' := fun m k' hmw hm1 hm2 hm3 hm4 => by
    show ab_dp B (aF B (aS B m 0) 0) m k' = ab_dp A (aF A (aS A m 0) 0) m k'
    rw [bSo m 0 (by omega), bFo _ 0 (by omega)]
    by_cases e : m = n
    · subst e
      rw [hf, hrt]
      simp only [ab_dp]
      rw [bE, bSo m 0 (by omega), hf, bH6, hpreA _ (Nat.le_refl _), hpreB _ (Nat.le_refl _), bS7, hk, hnk, show k' - (k + 1) + 1 = k' - k by rw [bS7] at hm3; omega]
    · refine dp_eq (A := A) (A' := B) bH6 (bSm m e) ?_
      by_cases ef : aS A m 0 = f
      · rw [ef, hrt]
        have hmn : n < m := by
          rcases Nat.lt_or_gt_of_ne e with h | h
          · exfalso
            rw [bSm m e] at hm3
            exact hfirst m hm1 h ⟨hm2, by omega, by rw [ef, hf]⟩
          · exact h
        have := hns (m - aH A 6 - (n - aH A 6 + 1))
        rw [show n - aH A 6 + 1 + (m - aH A 6 - (n - aH A 6 + 1)) = m - aH A 6 by omega] at this
        exact this
      · exact hnso _ _ _ ef
  -- bounds
  have hWB : ab_W B t := by
    obtain ⟨w1, w2, w3, w4, w5, w6⟩ := hW
    have hWH := hWR.2.2
    refine ⟨?_, fun f' hf' => ?_, fun m hm' => ?_, fun m k' hm' hk' => ?_, fun _ => ?_, ?_, ?_⟩
    · simp only [ab_W1, bH7, bH9, bH3, bH4, bH5, bH6, bH 0 (by omega) (by omega) (by omega) (by omega), bH 1 (by omega) (by omega) (by omega) (by omega), bH 2 (by omega) (by omega) (by omega) (by omega), bH 10 (by omega) (by omega) (by omega) (by omega)] at w1 ⊢
      omega
    · rw [bH3] at hf'
      have hx := w2 f' hf'
      rw [bFo f' 0 (by omega), bFo f' 1 (by omega), bFo f' 2 (by omega), bFo f' 3 (by omega)]
      refine ⟨hx.1, hx.2.1, hx.2.2.1, hx.2.2.2.1, ?_⟩
      by_cases e : f' = f
      · rw [e, bF4, bF5, bF6]
        exact ⟨by omega, fun _ => ⟨by omega, hsz1.2⟩⟩
      · rw [bFo f' 4 (by omega), bFo f' 5 (by omega), bFo f' 6 (by omega)]
        exact hx.2.2.2.2
    · have hx := w3 m ((bwin m).mp hm')
      rw [bSo m 0 (by omega), bSo m 1 (by omega), bSo m 2 (by omega), bSo m 3 (by omega), bSo m 4 (by omega), bSo m 5 (by omega), bSo m 6 (by omega), bSo m 8 (by omega), bR, bH3, bH4, bH6, bH11, bH8]
      obtain ⟨x1, x2, x3, x4, x5, x6, x7, x8, x9, x10, x11, x12⟩ := hx
      by_cases e : m = n
      · subst e
        rw [bS7]
        exact ⟨x1, x2, x3, x4, x5, x6, x7, by omega, fun q => by omega, x10, x11, fun _ _ => ⟨by omega, rfl⟩⟩
      · rw [bSo m 7 (by omega)]
        exact ⟨x1, x2, x3, x4, x5, x6, x7, x8, x9, x10, x11, fun a b => absurd h11 (x12 a b).1⟩
    · rw [bSo m 6 (by omega), bSo m 4 (by omega)] at hk'
      have hx := w4 m k' ((bwin m).mp hm') hk'
      rw [bH11, bH8, bH4]
      by_cases e : m = n
      · subst e
        rw [bS7]
        by_cases ek : k' = k
        · subst ek
          have hy := hx.2 (by omega)
          rw [bP1, bPo m k' 2 (by omega)]
          exact ⟨fun _ => ⟨⟨_, by omega, rfl⟩, fun _ => hy.2, fun q => absurd ⟨by omega, rfl, rfl⟩ q⟩, fun q => by omega⟩
        · rw [bPo m k' 1 (by omega), bPo m k' 2 (by omega)]
          refine ⟨fun q => ?_, fun q => hx.2 (by omega)⟩
          have hy := hx.1 (by omega)
          exact ⟨hy.1, fun z => by omega, fun _ => hy.2.2 (fun z => z.1 h11)⟩
      · rw [bSo m 7 (by omega), bPo m k' 1 (by omega), bPo m k' 2 (by omega)]
        refine ⟨fun q => ?_, hx.2⟩
        have hy := hx.1 q
        exact ⟨hy.1, fun z => absurd z.2.1 e, fun _ => hy.2.2 (fun z => z.1 h11)⟩
    · rw [bH8, bH6, bH5, bSo n 4 (by omega), bS7]
      exact ⟨hR, hn, h4, by omega⟩
    · intro row hr
      rw [bH9] at hr
      rw [bL, bH4]
      simp only [lv_L]
      obtain ⟨e0, e1, e2, e3, e4, e5, e6⟩ := hnew
      by_cases hl : aH A 9 < 40
      · rw [if_pos hl, if_pos hl, if_pos hl]
        by_cases er : row = aH A 9
        · rw [if_pos er, if_pos er, if_pos er, e3, e4, e5]
          omega
        · rw [if_neg er, if_neg er, if_neg er]
          exact w6.1 row (by omega)
      · rw [if_neg hl, if_neg hl, if_neg hl]
        by_cases er : row = 39
        · rw [if_pos er, if_pos er, if_pos er, e3, e4, e5]
          omega
        · rw [if_neg er, if_neg er, if_neg er]
          exact w6.1 (row + 1) (by omega)
    · intro row hr
      rw [bH9] at hr
      rw [bL]
      simp only [lv_L]
      obtain ⟨e0, e1, e2, e3, e4, e5, e6⟩ := hnew
      by_cases hl : aH A 9 < 40
      · rw [if_pos hl, if_pos hl, if_neg (show ¬ row = aH A 9 by omega)]
        by_cases er : row + 1 = aH A 9
        · rw [if_pos er, e5]
          exact hWH row (by omega)
        · rw [if_neg er]
          exact w6.2 row (by omega)
      · rw [if_neg hl, if_neg hl, if_neg (show ¬ row = 39 by omega)]
        by_cases er : row + 1 = 39
        · rw [if_pos er, e5]
          exact hWH (row + 1) (by omega)
        · rw [if_neg er]
          exact w6.2 (row + 1) (by omega)
  -- the class
  have hCs := hC.1.s
  obtain ⟨b, hbb, hrd⟩ := rd_ready hC hW (p := false) (v := 0) rfl
  have hbn : b = some n := rd_uniq hbb hb0
  subst hbn
  obtain ⟨⟨k1, k3, k2, k2b, k4, k5, k6, k7⟩, ct1, ct2⟩ := hC
  obtain ⟨d0, d1, d2, d3, d4, d5, d6, d7, d8, d9, d10⟩ := k3 n hw
  rw [hk] at d7
  rw [hf] at d1
  have cT := k1.2.2.2.1
  have cw := k1.2.1
  have hix : ∀ s : en_M, ab_Cs s g A → k_sd_indexOf g (n % 8) (nI k) s = nI (20 * (n % 8) + k) := fun s hs => ac_index hs hW hw hk20
  have hsize : ∀ s : en_M, ab_Cs s g A → k_sd_sizeOf g (n % 8) (nI k) s = nI sz := fun s hs => by rw [ac_size hs hW hw hlt, hsz]
  have hdep : σ 3 g 0 (20 * (n % 8) + k) = nI D := by rw [ct2 n k hw hR h4 (by omega) hlt, hdek]
  obtain ⟨s7, hs7⟩ : ∃ z, en_wr σ 4 g 0 (20 * (n % 8) + k) (nI (aH A 4)) = z := ⟨_, rfl⟩
  have ej7 : ∀ j, j ≠ 4 → s7 j = σ j := fun j h => by rw [← hs7, pu_wr_j h]
  have hwh : ∀ s' : en_M, s' 13 g = s7 13 g → k_sd_whereIs g (n % 8) (nI k) s' = nI (aS A n 8 + k * aS A n 2) := fun s' hs' => by
    rw [k_sd_whereIs, hs', ej7 13 (by omega), d10, d3, q54, pk_mul, nI_add]
  have hsz7 : ∀ s' : en_M, s' 13 g = s7 13 g → k_sd_sizeOf g (n % 8) (nI k) s' = nI sz := fun s' hs' => by
    have e : k_sd_sizeOf g (n % 8) (nI k) s' = k_sd_sizeOf g (n % 8) (nI k) σ := by
      simp only [k_sd_sizeOf, hs', ej7 13 (by omega)]
    rw [e, hsize σ hCs]
  obtain ⟨s11, l1, l2, l3, e, l4, l5, l6, l7⟩ := lv_cls (s := s7) (g := g) (z := n % 8) (k := k) (D := D) (T := aH A 4) (n := n) (f := f) (sz := sz) (wh := aS A n 8 + k * aS A n 2) (A := A) (by simp only [ab_C5, ej7 6 (by omega), ej7 7 (by omega)]; exact k5) h40 (by rw [ej7 13 (by omega)]; exact d0) (by rw [ej7 13 (by omega)]; exact d1) hsz7 hwh hnew
  have ej11 : ∀ j, j ≠ 4 → j ≠ 6 → j ≠ 7 → s11 j g = σ j g := fun j h4' h6 h7 => by rw [l2 j g (by simp [h6, h7]), ej7 j h4']
  have e114 : s11 4 g = s7 4 g := l2 4 g (by simp)
  obtain ⟨s15, hs15⟩ : ∃ z, en_wr s11 12 g f 4 (nI D) = z := ⟨_, rfl⟩
  obtain ⟨s17, hs17⟩ : ∃ z, en_wr s15 12 g f 5 (nI sz) = z := ⟨_, rfl⟩
  obtain ⟨s19, hs19⟩ : ∃ z, en_wr s17 0 g 0 15 (nI n) = z := ⟨_, rfl⟩
  obtain ⟨s23, hs23⟩ : ∃ z, en_wr s19 0 g 0 16 (nI (aH A 4 + tk)) = z := ⟨_, rfl⟩
  obtain ⟨s25, hs25⟩ : ∃ z, en_wr s23 13 g (n % 8) 7 (nI (k + 1)) = z := ⟨_, rfl⟩
  have e1513 : s15 13 g = s7 13 g := by rw [← hs15, pu_wr_j (by decide), ej11 13 (by omega) (by omega) (by omega), ej7 13 (by omega)]
  have e1713 : s17 13 g (n % 8) 0 = nI n := by rw [← hs17, pu_wr_j (by decide), e1513, ej7 13 (by omega)]; exact d0
  have e195 : s19 12 g f 5 = nI sz := by rw [← hs19, pu_wr_j (by decide), ← hs17, pu_wr_eq]
  have e199 : s19 0 g 0 9 = nI (aH A 1) := by rw [← hs19, pu_wr_k (by decide), ← hs17, pu_wr_j (by decide), ← hs15, pu_wr_j (by decide), ej11 0 (by omega) (by omega) (by omega)]; exact cw
  have e1911 : s19 0 g 0 11 = nI (aH A 4) := by rw [← hs19, pu_wr_k (by decide), ← hs17, pu_wr_j (by decide), ← hs15, pu_wr_j (by decide), ej11 0 (by omega) (by omega) (by omega)]; exact cT
  have e237 : s23 13 g (n % 8) 7 = nI k := by rw [← hs23, pu_wr_j (by decide), ← hs19, pu_wr_j (by decide), ← hs17, pu_wr_j (by decide), e1513, ej7 13 (by omega)]; exact d7
  have hrun : k_cd_letLeave g σ = some (1, s25) := by
    rw [k_cd_letLeave, hrd, pu_b1]
    simp only [Option.map_some]
    rw [d1, ac_flowIn hCs hW q0, pu_b1]
    simp only []
    rw [d7, hix σ hCs, cT, pu_wa (by omega) (by decide), pu_b1, hs7, pu_rd (by omega) (by decide), pu_b1, ej7 3 (by omega), hdep, ej7 0 (by omega), cT, l1, pu_b1, pu_rd (by omega) (by decide), pu_b1, ej11 3 (by omega) (by omega) (by omega), hdep, pu_let, hs15, hsz7 s15 e1513, pu_let, hs17, e1713, pu_let, hs19, e195, e199, nu_up (by omega) (by omega), pu_b1, htk, e1911, nI_add, pu_let, hs23, e237, nI_1, pu_let, hs25]
  -- what the last store holds
  have z0 : ∀ x, x ≠ 15 → x ≠ 16 → s25 0 g 0 x = σ 0 g 0 x := fun x h15 h16 => by
    rw [← hs25, pu_wr_j (by decide), ← hs23, pu_wr_k h16, ← hs19, pu_wr_k h15, ← hs17, pu_wr_j (by decide), ← hs15, pu_wr_j (by decide), ej11 0 (by omega) (by omega) (by omega)]
  have z015 : s25 0 g 0 15 = nI n := by rw [← hs25, pu_wr_j (by decide), ← hs23, pu_wr_k (by decide), ← hs19, pu_wr_eq]
  have z016 : s25 0 g 0 16 = nI (aH A 4 + tk) := by rw [← hs25, pu_wr_j (by decide), ← hs23, pu_wr_eq]
  have zj : ∀ j, j ≠ 0 → j ≠ 4 → j ≠ 6 → j ≠ 7 → j ≠ 12 → j ≠ 13 → s25 j g = σ j g := fun j h0 h4' h6 h7 h12 h13 => by
    rw [← hs25, pu_wr_j h13, ← hs23, pu_wr_j h0, ← hs19, pu_wr_j h0, ← hs17, pu_wr_j h12, ← hs15, pu_wr_j h12, ej11 j h4' h6 h7]
  have z4 : s25 4 g = s7 4 g := by rw [← hs25, pu_wr_j (by decide), ← hs23, pu_wr_j (by decide), ← hs19, pu_wr_j (by decide), ← hs17, pu_wr_j (by decide), ← hs15, pu_wr_j (by decide), e114]
  have z67 : ∀ j, j = 6 ∨ j = 7 → s25 j g = s11 j g := fun j hj => by
    rw [← hs25, pu_wr_j (by omega), ← hs23, pu_wr_j (by omega), ← hs19, pu_wr_j (by omega), ← hs17, pu_wr_j (by omega), ← hs15, pu_wr_j (by omega)]
  have z12 : ∀ f' w, ¬ (f' = f ∧ (w = 4 ∨ w = 5)) → s25 12 g f' w = σ 12 g f' w := fun f' w h => by
    rw [← hs25, pu_wr_j (by decide), ← hs23, pu_wr_j (by decide), ← hs19, pu_wr_j (by decide), ← hs17, pu_wr_ne (fun z => h ⟨z.2.2.1, Or.inr z.2.2.2⟩), ← hs15, pu_wr_ne (fun z => h ⟨z.2.2.1, Or.inl z.2.2.2⟩), ej11 12 (by omega) (by omega) (by omega)]
  have z124 : s25 12 g f 4 = nI D := by rw [← hs25, pu_wr_j (by decide), ← hs23, pu_wr_j (by decide), ← hs19, pu_wr_j (by decide), ← hs17, pu_wr_k (by decide), ← hs15, pu_wr_eq]
  have z125 : s25 12 g f 5 = nI sz := by rw [← hs25, pu_wr_j (by decide), ← hs23, pu_wr_j (by decide)]; exact e195
  have z13 : ∀ i w, ¬ (i = n % 8 ∧ w = 7) → s25 13 g i w = σ 13 g i w := fun i w h => by
    rw [← hs25, pu_wr_ne (fun z => h ⟨z.2.2.1, z.2.2.2⟩), ← hs23, pu_wr_j (by decide), ← hs19, pu_wr_j (by decide), ← hs17, pu_wr_j (by decide), e1513, ej7 13 (by omega)]
  have z137 : s25 13 g (n % 8) 7 = nI (k + 1) := by rw [← hs25, pu_wr_eq]
  have hCB : ab_CR s25 g B := by
    refine ⟨⟨?_, ?_, ?_, ?_, ?_, ?_, ?_, ?_⟩, ?_, ?_⟩
    · simp only [ab_C1, bH7, bH8, bH11, bH3, bH4, bH5, bH6, bH 0 (by omega) (by omega) (by omega) (by omega), bH 1 (by omega) (by omega) (by omega) (by omega), bH 2 (by omega) (by omega) (by omega) (by omega), z015, z016, z0 8 (by omega) (by omega), z0 9 (by omega) (by omega), z0 10 (by omega) (by omega), z0 11 (by omega) (by omega), z0 12 (by omega) (by omega), z0 13 (by omega) (by omega), z0 14 (by omega) (by omega)]
      exact ⟨k1.1, k1.2.1, k1.2.2.1, k1.2.2.2.1, k1.2.2.2.2.1, k1.2.2.2.2.2.1, k1.2.2.2.2.2.2.1, by rw [if_neg (by decide)], fun _ => trivial⟩
    · intro m hm'
      have hmA := (bwin m).mp hm'
      by_cases e : m = n
      · subst e
        rw [z13 _ 0 (by omega), z13 _ 1 (by omega), z13 _ 2 (by omega), z13 _ 3 (by omega), z13 _ 4 (by omega), z13 _ 5 (by omega), z13 _ 6 (by omega), z137, z13 _ 8 (by omega), z13 _ 9 (by omega), z13 _ 10 (by omega), bSo m 0 (by omega), bSo m 1 (by omega), bSo m 2 (by omega), bSo m 3 (by omega), bSo m 4 (by omega), bSo m 6 (by omega), bS7, bR]
        exact ⟨d0, by rw [d1, hf], d2, d3, d4, d5, d6, rfl, d8, d9, d10⟩
      · have hne : ¬ m % 8 = n % 8 := fun q => e (ti_apart hmA hw (k := 0) (k' := 0) (by omega) (by omega) (by omega)).1
        rw [z13 _ 0 (by omega), z13 _ 1 (by omega), z13 _ 2 (by omega), z13 _ 3 (by omega), z13 _ 4 (by omega), z13 _ 5 (by omega), z13 _ 6 (by omega), z13 _ 7 (by omega), z13 _ 8 (by omega), z13 _ 9 (by omega), z13 _ 10 (by omega), bSm m e, bR]
        exact k3 m hmA
    · intro f' hf'
      rw [bH3] at hf'
      have hx := k2 f' hf'
      rw [z12 f' 0 (by omega), z12 f' 1 (by omega), z12 f' 2 (by omega), z12 f' 3 (by omega), z12 f' 7 (by omega), z12 f' 8 (by omega), bFo f' 0 (by omega), bFo f' 1 (by omega), bFo f' 2 (by omega), bFo f' 3 (by omega), bX]
      obtain ⟨x0, x1, x2, x3, x4, x5, x7, x8⟩ := hx
      by_cases e : f' = f
      · rw [e] at x0 x1 x2 x3 x7 x8 ⊢
        rw [z124, z125, bF4, bF5, bF6]
        exact ⟨x0, x1, x2, x3, by rw [if_neg (by decide)], by rw [if_neg (by decide)], x7, x8⟩
      · rw [z12 f' 4 (by omega), z12 f' 5 (by omega), bFo f' 4 (by omega), bFo f' 5 (by omega), bFo f' 6 (by omega)]
        exact ⟨x0, x1, x2, x3, x4, x5, x7, x8⟩
    · intro f' hf'
      rw [z12 f' 2 (by omega)]
      exact k2b f' hf'
    · intro m k' hm' hk'
      have hmA := (bwin m).mp hm'
      rw [bSo m 6 (by omega)] at hk'
      have hx := k4 m k' hmA hk'
      have hpm := ab_pc hW hmA
      rw [zj 3 (by omega) (by omega) (by omega) (by omega) (by omega) (by omega), zj 5 (by omega) (by omega) (by omega) (by omega) (by omega) (by omega), z4]
      by_cases e : m = n ∧ k' = k
      · obtain ⟨e1, e2⟩ := e
        rw [e1, e2] at hx ⊢
        rw [bP0, bP1, bPo n k 2 (by omega), ← hs7, pu_wr_eq]
        exact ⟨fun _ => hdep, rfl, hx.2.2⟩
      · rw [bPo m k' 0 (by omega), bPo m k' 1 (by omega), bPo m k' 2 (by omega), ← hs7, pu_wr_k (fun q => e (by
          have := ti_apart hmA hw (by omega) (by omega) q
          exact this))]
        refine ⟨fun q => ?_, hx.2⟩
        by_cases em : m = n
        · rw [em, bS7] at q
          rw [em] at hx ⊢
          exact hx.1 (by omega)
        · rw [bSm m em] at q
          exact hx.1 q
    · refine ⟨by rw [z67 6 (by omega), bH9]; exact l3, e, l4, by rw [z67 6 (by omega)]; exact l5, by rw [bH9]; exact l6, fun row c hr hc => ?_⟩
      rw [bH9] at hr
      rw [z67 7 (by omega), bL]
      exact l7 row c hr hc
    · simp only [ab_C6, bD, bH 10 (by omega) (by omega) (by omega) (by omega), zj 8 (by omega) (by omega) (by omega) (by omega) (by omega) (by omega), zj 9 (by omega) (by omega) (by omega) (by omega) (by omega) (by omega), zj 10 (by omega) (by omega) (by omega) (by omega) (by omega) (by omega)]
      exact k6
    · simp only [ab_C7, bC, zj 11 (by omega) (by omega) (by omega) (by omega) (by omega) (by omega)]
      exact k7
    · intro f' hf'
      rw [bH3] at hf'
      rw [z12 f' 6 (by omega), hnx f' hf']
      exact ct1 f' hf'
    · intro m k' hm' h1 h2 h3 h5
      have hmA := (bwin m).mp hm'
      rw [bSo m 4 (by omega)] at h2
      rw [bSo m 6 (by omega)] at h5
      rw [bH6] at h1
      rw [zj 3 (by omega) (by omega) (by omega) (by omega) (by omega) (by omega), hde m k' hmA h1 h2 h3 h5]
      refine ct2 m k' hmA h1 h2 ?_ h5
      by_cases em : m = n
      · rw [em, bS7] at h3
        rw [em]
        omega
      · rw [bSm m em] at h3
        exact h3
  exact ⟨s25, hrun, hCB, hWB⟩

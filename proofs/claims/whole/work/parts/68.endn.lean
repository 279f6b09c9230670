/-! A send is done: both sides. -/
def go_N (τ r : en_M) (A : ab_A) (n k f : Nat) : Prop :=
  (∀ x, x < 898 → x ≠ 10 → x ≠ 11 → x ≠ 19 → x ≠ 74 + 68 * (n % 8) + 4 → x ≠ 74 + 68 * (n % 8) + 6 → x ≠ 74 + 68 * (n % 8) + (8 + 3 * k + 2) → x ≠ 20 + 9 * f + 7 → x ≠ 20 + 9 * f + 8 → r 25 0 0 x = τ 25 0 0 x) ∧
  (r 25 0 0 10 = nI (aH A 10 + 1) ∧ r 25 0 0 11 = aC A 2 + (if n ≤ aH A 6 then 0 else 1) ∧ r 25 0 0 19 = nI (min 20 (aH A 10 + 1))) ∧
  (r 25 0 0 (74 + 68 * (n % 8) + 4) = 2 ∧ r 25 0 0 (74 + 68 * (n % 8) + 6) = nI (aH A 4) ∧ r 25 0 0 (74 + 68 * (n % 8) + (8 + 3 * k + 2)) = nI (aH A 4)) ∧
  (r 25 0 0 (20 + 9 * f + 7) = aX A f 0 + nI (ab_sz A n k - 12) ∧ r 25 0 0 (20 + 9 * f + 8) = aX A f 1 + 1) ∧
  r 25 0 0 (898 + 2 * (min 20 (aH A 10 + 1) - 1)) = nI n ∧ r 25 0 0 (898 + 2 * (min 20 (aH A 10 + 1) - 1) + 1) = nI (aH A 4) ∧ (∀ j w, j + 1 < 20 → j < aH A 10 → w < 2 → r 25 0 0 (898 + 2 * (min 20 (aH A 10 + 1) - 1 - (j + 1)) + w) = τ 25 0 0 (898 + 2 * (min 20 (aH A 10) - 1 - j) + w)) ∧ en_fr [(25, 0)] τ r
theorem go_modN {τ : en_M} {t : Nat} {A : ab_A} (hM : ab_MR (τ 25 0 0) A) (hW : ab_W A t) (h11 : aH A 11 ≠ 0) (hR1 : aH A 6 < aH A 5 → aS A (aH A 6) 4 ≤ 1) {n k f : Nat} (hn : aH A 8 = n) (hk : aS A n 7 = k + 1) (hf : aS A n 0 = f) (hl : aS A n 6 ≤ k + 1) : ∃ r, k_mm_isGone τ = en_b1 (en_b1 (k_mm_reclaims r) (fun s => some s)) (fun s => some s) ∧ go_N τ r A n k f := by
  obtain ⟨s, b1, b2, b3, b4, b5⟩ := go_mod hM hW h11 hn hk hf
  rw [if_pos hl] at b1
  have hN := ab_N hW
  obtain ⟨hR, hlt, h4, -⟩ := hW.2.2.2.2.1 h11
  rw [hn] at hR hlt h4
  have hw := ab_in_win hW hR hlt
  have hp := ab_pc hW hw
  have hm8 : n % 8 < 8 := Nat.mod_lt _ (by decide)
  have hf3 := (hW.2.2.1 n hw).1
  rw [hf] at hf3
  have hf6 : f < 6 := by omega
  have hk20 : k < 20 := by omega
  have hD : aH A 10 ≤ 9999 := by have := hW.1.2.2.2.2.2.2.2.2.2.2.1; omega
  obtain ⟨T, hT⟩ : ∃ T, aH A 4 = T := ⟨_, rfl⟩
  obtain ⟨D, hDe⟩ : ∃ D, aH A 10 = D := ⟨_, rfl⟩
  obtain ⟨R, hRe⟩ : ∃ R, aH A 6 = R := ⟨_, rfl⟩
  have lo : ∀ x, x < 20 → s 25 0 0 x = τ 25 0 0 x := fun x hx => b2 x (by omega) (by omega)
  have hi : ∀ x, 618 ≤ x → s 25 0 0 x = τ 25 0 0 x := fun x hx => b2 x (by omega) (by omega)
  have sl : ∀ z w, w < 8 → s 25 0 0 (74 + 68 * z + w) = τ 25 0 0 (74 + 68 * z + w) := fun z w hw' => b2 _ (le_ix hw' hk20 (by omega)) (by omega)
  have v4 : s 25 0 0 4 = nI T := by rw [lo 4 (by omega), ← hT]; exact hM.1.1 4 (by decide)
  have v6 : s 25 0 0 6 = nI R := by rw [lo 6 (by omega), ← hRe]; exact hM.1.1 6 (by decide)
  have v10 : s 25 0 0 10 = nI D := by rw [lo 10 (by omega), ← hDe]; exact hM.1.2.2.2.1
  have v11 : s 25 0 0 11 = aC A 2 := by rw [lo 11 (by omega)]; exact hM.1.2.2.2.2.1
  have v19 : s 25 0 0 19 = nI (min 20 D) := by rw [lo 19 (by omega), ← hDe]; exact hM.1.2.2.2.2.2.2.2.2.2.2.2
  have v0 : s 25 0 0 (74 + 68 * (n % 8) + 0) = nI f := by rw [sl _ 0 (by omega), ← hf]; exact (hM.2.2.1 n hw).1 0 (by decide)
  have v8 : s 25 0 0 (20 + 9 * f + 8) = aX A f 1 := by rw [b2 _ (by omega) (by omega)]; exact (hM.2.1 f hf3).2.2.2
  have vR : R < n → s 25 0 0 (74 + 68 * (R % 8) + 4) = nI (aS A R 4) ∧ aS A R 4 ≤ 1 := fun q => by
    rw [sl _ 4 (by omega)]
    have hwR := ab_in_win hW (n := R) (by omega) (by omega)
    refine ⟨(hM.2.2.1 R hwR).1 4 (by decide), ?_⟩
    rw [← hRe]
    exact hR1 (by omega)
  rw [hT] at b3
  obtain ⟨s1, h1⟩ : ∃ z, en_wr s 25 0 0 (74 + 68 * (n % 8) + 4) 2 = z := ⟨_, rfl⟩
  obtain ⟨s3, h3⟩ : ∃ z, en_wr s1 25 0 0 (74 + 68 * (n % 8) + 6) (nI T) = z := ⟨_, rfl⟩
  obtain ⟨s9, h9⟩ : ∃ z, en_wr s3 25 0 0 (20 + 9 * f + 8) (aX A f 1 + 1) = z := ⟨_, rfl⟩
  obtain ⟨s11, hs11⟩ : ∃ z, en_wr s9 25 0 0 10 (nI (D + 1)) = z := ⟨_, rfl⟩
  obtain ⟨s16, h16⟩ : ∃ z, en_wr s11 25 0 0 11 (aC A 2 + (if n ≤ R then 0 else 1)) = z := ⟨_, rfl⟩
  have e1 : ∀ x, x ≠ 74 + 68 * (n % 8) + 4 → s1 25 0 0 x = s 25 0 0 x := fun x h => by rw [← h1, pu_wr_k h]
  have e3 : ∀ x, x ≠ 74 + 68 * (n % 8) + 6 → s3 25 0 0 x = s1 25 0 0 x := fun x h => by rw [← h3, pu_wr_k h]
  have e9 : ∀ x, x ≠ 20 + 9 * f + 8 → s9 25 0 0 x = s3 25 0 0 x := fun x h => by rw [← h9, pu_wr_k h]
  have e11 : ∀ x, x ≠ 10 → s11 25 0 0 x = s9 25 0 0 x := fun x h => by rw [← hs11, pu_wr_k h]
  have e16 : ∀ x, x ≠ 11 → s16 25 0 0 x = s11 25 0 0 x := fun x h => by rw [← h16, pu_wr_k h]
  have eo : ∀ x, x ≠ 10 → x ≠ 11 → x ≠ 74 + 68 * (n % 8) + 4 → x ≠ 74 + 68 * (n % 8) + 6 → x ≠ 20 + 9 * f + 8 → s16 25 0 0 x = s 25 0 0 x := fun x q1 q2 q3 q4 q5 => by rw [e16 x q2, e11 x q1, e9 x q5, e3 x q4, e1 x q3]
  obtain ⟨r, c1, c2, c3, c4, c5, c6, c7⟩ := go_tail (s := s16) (n := n) (D := D) (T := T) (by rw [eo 19 (by omega) (by omega) (by omega) (by omega) (by omega), v19]) (by rw [eo 4 (by omega) (by omega) (by omega) (by omega) (by omega), v4])
  have hearly : k_mm_isEarly (nI n) s11 = some (if n ≤ R then 0 else 1) := by
    refine go_early (st := aS A R 4) (by omega) (by omega) ?_ (fun q => ?_)
    · rw [e11 6 (by omega), e9 6 (by omega), e3 6 (by omega), e1 6 (by omega), v6]
    · have hne : R % 8 ≠ n % 8 := fun e => by omega
      have hR8 : R % 8 < 8 := Nat.mod_lt _ (by decide)
      rw [e11 _ (by omega), e9 _ (by omega), e3 _ (by omega), e1 _ (by omega)]
      exact vR q
  have hdone : k_mm_isDone (nI n) s = en_b1 (k_mm_reclaims r) (fun s43 => some s43) := by
    rw [k_mm_isDone, mo_slot (by omega), show (4 : Int32) = nI 4 from rfl, show (6 : Int32) = nI 6 from rfl, nI_add, nI_add, pu_wa (by omega) (by decide), pu_b1, h1, e1 4 (by omega), v4, pu_wa (by omega) (by decide), pu_b1, h3, mo_of (x := 0) (w := 0) rfl (by omega) (by decide), pu_b1, e3 _ (by omega), e1 _ (by omega), v0, show (20 : Int32) = nI 20 from rfl, show (9 : Int32) = nI 9 from rfl, show (8 : Int32) = nI 8 from rfl, pk_mul, nI_add, nI_add, pu_rd (by omega) (by decide), pu_b1, e3 _ (by omega), e1 _ (by omega), v8, pu_wa (by omega) (by decide), pu_b1, h9, pu_let, e9 10 (by omega), e3 10 (by omega), e1 10 (by omega), v10, nI_1, hs11, hearly, pu_b1, show s11 25 0 0 11 = aC A 2 by rw [e11 11 (by omega), e9 11 (by omega), e3 11 (by omega), e1 11 (by omega), v11], ← c1]
    by_cases e : n ≤ R
    · rw [if_pos e, if_pos rfl, pu_let, go_tl, ← h16, if_pos e]
      rfl
    · rw [if_neg e, if_neg (show ¬ (1 : Int32) = 0 by decide), pu_let, go_tl, ← h16, if_neg e]
      rfl
  refine ⟨r, ?_, fun x hx q1 q2 q3 q4 q5 q6 q7 q8 => ?_, ⟨?_, ?_, by rw [hDe]; exact c3⟩, ⟨?_, ?_, ?_⟩, ⟨?_, ?_⟩, by rw [hDe]; exact c4, by rw [hDe, hT]; exact c5, fun j w q1 q2 q3 => ?_, ?_⟩
  · rw [b1, hdone]
  · rw [c2 x hx q3, eo x q1 q2 q4 q5 q8, b2 x q6 q7]
  · rw [c2 10 (by omega) (by omega), e16 10 (by omega), ← hs11, pu_wr_eq, hDe]
  · rw [c2 11 (by omega) (by omega), ← h16, pu_wr_eq, hRe]
  · rw [c2 _ (by omega) (by omega), e16 _ (by omega), e11 _ (by omega), e9 _ (by omega), e3 _ (by omega), ← h1, pu_wr_eq]
  · rw [c2 _ (by omega) (by omega), e16 _ (by omega), e11 _ (by omega), e9 _ (by omega), ← h3, pu_wr_eq, hT]
  · rw [c2 _ (by omega) (by omega), eo _ (by omega) (by omega) (by omega) (by omega) (by omega), b3, hT]
  · rw [c2 _ (by omega) (by omega), eo _ (by omega) (by omega) (by omega) (by omega) (by omega), b4]
  · rw [c2 _ (by omega) (by omega), e16 _ (by omega), e11 _ (by omega), ← h9, pu_wr_eq]
  · rw [hDe] at q2 ⊢
    rw [c6 j w q1 q2 q3, eo _ (by omega) (by omega) (by omega) (by omega) (by omega), hi _ (by omega)]
  · exact fr_tr b5 (fr_tr (fr_tr (fr_tr (fr_wr h1 (by simp)) (fr_wr h3 (by simp))) (fr_tr (fr_wr h9 (by simp)) (fr_wr hs11 (by simp)))) (fr_tr (fr_wr h16 (by simp)) c7))
theorem go_M {τ r : en_M} {t n k f : Nat} {A B : ab_A} (hB : go_B A B n k f) (hN' : go_N τ r A n k f) (hM : ab_MR (τ 25 0 0) A) (hW : ab_W A t) (h11 : aH A 11 ≠ 0) (hn : aH A 8 = n) (hk : aS A n 7 = k + 1) (hf : aS A n 0 = f) (hl : aS A n 6 ≤ k + 1) : ab_MR (r 25 0 0) B := by
  obtain ⟨⟨bH, bH10, bH11⟩, ⟨bS, bS4⟩, bF, ⟨bPo, bP2⟩, ⟨bCo, bC2⟩, ⟨bXo, bX0, bX1⟩, bL, ⟨bD0, bD1, bDs⟩, bR, bR1⟩ := hB
  obtain ⟨b2, ⟨b10, b11, b19⟩, ⟨b4, b6, bp⟩, ⟨b7, b8⟩, bd0, bd1, bds, -⟩ := hN'
  have hN := ab_N hW
  obtain ⟨hR, hlt, h4, -⟩ := hW.2.2.2.2.1 h11
  rw [hn] at hR hlt h4
  have hw := ab_in_win hW hR hlt
  have hp := ab_pc hW hw
  have hm : ∀ n, n % 8 < 8 := fun n => Nat.mod_lt _ (by decide)
  have hm8 := hm n
  have hf3 := (hW.2.2.1 n hw).1
  rw [hf] at hf3
  have hf6 : f < 6 := by omega
  have hk20 : k < 20 := by omega
  have h9 := ab_l40 hW
  have bwin : ∀ m, ab_win B m ↔ ab_win A m := fun m => by simp only [ab_win, bH 5 (by omega) (by omega)]
  have bSm : ∀ m, m ≠ n → aS B m = aS A m := fun m h => funext fun w => bS m w (fun z => h z.1)
  have hap : ∀ m, ab_win A m → m % 8 = n % 8 → m = n := fun m hm' e => (ti_apart hm' hw (k := 0) (k' := 0) (by omega) (by omega) (by omega)).1
  clear hlt hR
  obtain ⟨m1, m2, m3, m4, m5, m6⟩ := hM
  obtain ⟨x1, x2, x3, x4, x5, x6, x7, x8, x9, x10, x11, x12⟩ := m1
  have lo : ∀ x, x < 20 → x ≠ 10 → x ≠ 11 → x ≠ 19 → r 25 0 0 x = τ 25 0 0 x := fun x hx q1 q2 q3 => b2 x (by omega) q1 q2 q3 (by omega) (by omega) (by omega) (by omega) (by omega)
  have hi : ∀ x, 618 ≤ x → x < 898 → r 25 0 0 x = τ 25 0 0 x := fun x hx hx2 => b2 x (by omega) (by omega) (by omega) (by omega) (by omega) (by omega) (by omega) (by omega) (by omega)
  have yf : ∀ f' w, f' < 6 → w < 9 → ¬ (f' = f ∧ (w = 7 ∨ w = 8)) → r 25 0 0 (20 + 9 * f' + w) = τ 25 0 0 (20 + 9 * f' + w) := fun f' w q1 q2 q3 => b2 _ (by omega) (by omega) (by omega) (by omega) (by omega) (by omega) (by omega) (by omega) (by omega)
  have ys : ∀ z w, z < 8 → w < 8 → ¬ (z = n % 8 ∧ (w = 4 ∨ w = 6)) → r 25 0 0 (74 + 68 * z + w) = τ 25 0 0 (74 + 68 * z + w) := fun z w q1 q2 q3 => b2 _ (by omega) (by omega) (by omega) (by omega) (by omega) (by omega) (le_ix q2 hk20 (by omega)) (by omega) (by omega)
  have yp : ∀ z k' w, z < 8 → k' < 20 → w < 3 → ¬ (z = n % 8 ∧ k' = k ∧ w = 2) → r 25 0 0 (74 + 68 * z + (8 + 3 * k' + w)) = τ 25 0 0 (74 + 68 * z + (8 + 3 * k' + w)) := fun z k' w q1 q2 q3 q4 => b2 _ (by omega) (by omega) (by omega) (by omega) (Ne.symm (le_ix (by omega) q2 q3)) (Ne.symm (le_ix (by omega) q2 q3)) (le_ix2 hk20 q2 q3 (by omega) q4) (by omega) (by omega)
  refine ⟨⟨fun x hx => by rw [lo x (by omega) (by omega) (by omega) (by omega), bH x (by omega) (by omega)]; exact x1 x hx, ?_⟩, fun f' hf' => ?_, fun m hm' => ?_, fun m k' hm' hk' => ?_, fun row c q1 q2 => ?_, fun x w q1 q2 q3 => ?_⟩
  · rw [lo 7 (by omega) (by omega) (by omega) (by omega), lo 8 (by omega) (by omega) (by omega) (by omega), lo 9 (by omega) (by omega) (by omega) (by omega), b10, b11, b19, lo 12 (by omega) (by omega) (by omega) (by omega), lo 13 (by omega) (by omega) (by omega) (by omega), lo 14 (by omega) (by omega) (by omega) (by omega), lo 17 (by omega) (by omega) (by omega) (by omega), lo 18 (by omega) (by omega) (by omega) (by omega), bCo 0 (by omega), bCo 1 (by omega), bC2, bCo 3 (by omega), bCo 4 (by omega), bCo 5 (by omega), bH11, bH10, bH 7 (by omega) (by omega), bH 9 (by omega) (by omega)]
    exact ⟨x2, x3, rfl, rfl, x6, x7, x8, fun h => absurd rfl h, x10, x11, rfl⟩
  · rw [bH 3 (by omega) (by omega)] at hf'
    have hx := m2 f' hf'
    have hf6' : f' < 6 := by omega
    rw [yf f' 5 hf6' (by omega) (by omega), yf f' 6 hf6' (by omega) (by omega), bF]
    refine ⟨fun w hw' => by rw [yf f' w hf6' (by omega) (by omega)]; exact hx.1 w hw', hx.2.1, ?_⟩
    by_cases e : f' = f
    · subst e
      rw [b7, b8, bX0, bX1]
      exact ⟨rfl, rfl⟩
    · rw [yf f' 7 hf6' (by omega) (fun z => e z.1), yf f' 8 hf6' (by omega) (fun z => e z.1), bXo f' 0 e, bXo f' 1 e]
      exact hx.2.2
  · have hmA := (bwin m).mp hm'
    have hx := m3 m hmA
    have hmm := hm m
    by_cases e : m = n
    · subst e
      refine ⟨fun w hw' => ?_, fun w hw' => ?_⟩
      · by_cases e4 : w = 4
        · subst e4
          rw [b4, bS4]
          rfl
        · rw [ys _ w hmm (by omega) (by omega), bS m w (fun z => e4 z.2)]
          exact hx.1 w hw'
      · by_cases e4 : w = 1
        · subst e4
          rw [bR1]
          exact b6
        · rw [ys _ (5 + w) hmm (by omega) (by omega), bR m w (fun z => e4 z.2)]
          exact hx.2 w hw'
    · have hne : m % 8 ≠ n % 8 := fun q => e (hap m hmA q)
      rw [bSm m e]
      exact ⟨fun w hw' => by rw [ys _ w hmm (by omega) (fun z => hne z.1)]; exact hx.1 w hw', fun w hw' => by rw [ys _ (5 + w) hmm (by omega) (fun z => hne z.1), bR m w (fun z => e z.1)]; exact hx.2 w hw'⟩
  · have hmA := (bwin m).mp hm'
    have hx := m4 m k' hmA hk'
    have hmm := hm m
    have y0 := yp (m % 8) k' 0 hmm hk' (by omega) (by omega)
    rw [Nat.add_zero] at y0
    rw [yp _ k' 1 hmm hk' (by omega) (by omega), y0, bS m 6 (by omega), bS m 7 (by omega), bPo m k' 0 (by omega), bPo m k' 1 (by omega)]
    refine ⟨fun q => ?_, hx.2⟩
    by_cases e : m = n
    · subst e
      rw [bS4] at q
      have hk6 : k' < aS A m 6 := by
        rcases q with q | q
        · exact q
        · exact absurd q (by decide)
      refine ⟨(hx.1 (Or.inl hk6)).1, ?_⟩
      by_cases e2 : k' = k
      · subst e2
        rw [bp, bP2]
      · rw [yp _ k' 2 hmm hk' (by omega) (fun z => e2 z.2.1), bPo m k' 2 (fun z => e2 z.2.1)]
        exact (hx.1 (Or.inl hk6)).2
    · rw [bSm m e] at q
      rw [yp _ k' 2 hmm hk' (by omega) (fun z => e (hap m hmA z.1)), bPo m k' 2 (fun z => e z.1)]
      exact hx.1 q
  · rw [bH 9 (by omega) (by omega)] at q1
    rw [hi _ (by omega) (by omega), bL]
    exact m5 row c q1 q2
  · rw [bH10] at q2 ⊢
    rcases x with _ | x
    · rw [Nat.sub_zero]
      have : w = 0 ∨ w = 1 := by omega
      rcases this with rfl | rfl
      · rw [bD0]
        exact bd0
      · rw [bD1]
        exact bd1
    · rw [bDs, bds x w (by omega) (by omega) q3]
      exact m6 x w (by omega) (by omega) q3
theorem go_end {σ τ : en_M} {g t n k f : Nat} {A : ab_A} (hC : ab_CR σ g A) (hM : ab_MR (τ 25 0 0) A) (hW : ab_W A t) (h11 : aH A 11 ≠ 0) (h7 : aH A 7 = 0) (hR1 : aH A 6 < aH A 5 → aS A (aH A 6) 4 ≤ 1) (hlog : ∀ row, row < aH A 9 → aL A row 5 < aH A 4) (hT : aH A 10 < aH A 4) (hn : aH A 8 = n) (hk : aS A n 7 = k + 1) (hf : aS A n 0 = f) (hl : aS A n 6 ≤ k + 1) : ∃ σ1 τ1 B, k_cd_letGo g σ = some σ1 ∧ k_mm_isGone τ = some τ1 ∧ ab_PR σ1 g (τ1 25 0 0) B t ∧ (∀ x, x ≠ 6 → x ≠ 10 → x ≠ 11 → aH B x = aH A x) ∧ en_fr [(25, 0)] τ τ1 := by
  obtain ⟨s, a1, a2⟩ := go_sufK hC hW h11 hn hk hf hl
  obtain ⟨r, b1, b2⟩ := go_modN hM hW h11 hR1 hn hk hf hl
  obtain ⟨B, hB⟩ := go_ex A n k f
  obtain ⟨w1, w2⟩ := go_W hB hW h11 h7 hlog hT hn hk hl
  obtain ⟨s1, r1, B1, c1, c2, c3, c4, -, c5⟩ := re_all (go_C hB a2 hC hW h11 hn hk hl) (go_M hB b2 hM hW h11 hn hk hf hl) w1 w2
  rw [c1, pu_b1] at a1
  rw [c2, pu_b1, pu_b1] at b1
  exact ⟨s1, r1, B1, a1, b1, c3, fun x q1 q2 q3 => by rw [c4 x q1, hB.1.1 x q2 q3], fr_tr b2.2.2.2.2.2.2.2 c5⟩

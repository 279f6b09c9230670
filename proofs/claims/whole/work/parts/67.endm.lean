/-! A send is done: the model. -/
theorem go_early {s : en_M} {n R st : Nat} (hn : n < 2 ^ 31) (hR : R ≤ n) (h6 : s 25 0 0 6 = nI R) (hs : R < n → s 25 0 0 (74 + 68 * (R % 8) + 4) = nI st ∧ st ≤ 1) : k_mm_isEarly (nI n) s = some (if n ≤ R then 0 else 1) := by
  rw [k_mm_isEarly, h6, show en_fu = (en_fu - 1) + 1 from rfl, k_mm_isEarly_8, it_le hn (by omega)]
  by_cases e : n ≤ R
  · rw [if_pos e, if_pos e, pu_rxr]
  · obtain ⟨q1, q2⟩ := hs (by omega)
    rw [if_neg e, if_neg e, mo_of (x := 4) (w := 4) rfl (by omega) (by decide), pu_b1, pu_b1, q1, itx_eq (a := st) (b := 0) (y := 0) rfl rfl (by omega) (by decide), itx_eq (a := st) (b := 1) (y := 1) rfl rfl (by omega) (by decide)]
    by_cases e0 : st = 0
    · rw [if_pos e0, pu_rxl]
    · rw [if_neg e0, if_pos (by omega), pu_rxl]
theorem go_sh : ∀ (F i : Nat) (v1 : Int32) (τ : en_M), 898 ≤ i → i ≤ 936 → 936 < i + F → ∃ τ1, k_mm_isDone_104 F v1 (nI i) τ = some τ1 ∧ (∀ x, (x < i ∨ 936 ≤ x) → τ1 25 0 0 x = τ 25 0 0 x) ∧ (∀ x, i ≤ x → x < 936 → τ1 25 0 0 x = τ 25 0 0 (x + 2)) ∧ en_fr [(25, 0)] τ τ1 := by
  intro F
  induction F with
  | zero => intro i v1 τ h1 h2 h3; omega
  | succ F ih =>
    intro i v1 τ h1 h2 h3
    rw [k_mm_isDone_104, show (936 : Int32) = nI 936 from rfl, it_le (by decide) (by omega)]
    by_cases hi : i < 936
    · rw [if_neg (by omega), show (2 : Int32) = nI 2 from rfl, nI_add, pu_rd (by omega) (by decide), pu_b1, pu_wa (by omega) (by decide), pu_b1, nI_1]
      obtain ⟨τ1, a1, a2, a3, a4⟩ := ih (i + 1) v1 (en_wr τ 25 0 0 i (τ 25 0 0 (i + 2))) (by omega) (by omega) (by omega)
      refine ⟨τ1, a1, fun x hx => ?_, fun x hx hx2 => ?_, fr_tr (fr_wr rfl (by simp)) a4⟩
      · rw [a2 x (by omega), pu_wr_k (by omega)]
      · by_cases e : x = i
        · subst e
          rw [a2 x (by omega), pu_wr_eq]
        · rw [a3 x (by omega) hx2, pu_wr_k (by omega)]
    · rw [if_pos (by omega)]
      exact ⟨τ, rfl, fun _ _ => rfl, fun x _ _ => by omega, fr_rf _ _⟩
def go_tl (v1 : Int32) (s16 : en_M) : Option en_M :=
    if (s16 25 0 0 19) = 20 then
      en_b1 (k_mm_isDone_104 en_fu v1 898 s16) fun s33 =>
      en_let (en_wr s33 25 0 0 19 ((s33 25 0 0 19) - 1)) fun s35 =>
      en_b1 (en_wa 938 s35 25 0 0 (898 + (2 * (s35 25 0 0 19))) v1) fun s37 =>
      en_b1 (en_wa 938 s37 25 0 0 ((898 + (2 * (s37 25 0 0 19))) + 1) (s37 25 0 0 4)) fun s39 =>
      en_let (en_wr s39 25 0 0 19 ((s39 25 0 0 19) + 1)) fun s41 =>
      en_b1 (k_mm_reclaims s41) fun s43 =>
      some s43
    else
      en_b1 (en_wa 938 s16 25 0 0 (898 + (2 * (s16 25 0 0 19))) v1) fun s19 =>
      en_b1 (en_wa 938 s19 25 0 0 ((898 + (2 * (s19 25 0 0 19))) + 1) (s19 25 0 0 4)) fun s21 =>
      en_let (en_wr s21 25 0 0 19 ((s21 25 0 0 19) + 1)) fun s23 =>
      en_b1 (k_mm_reclaims s23) fun s25 =>
      some s25
/-- the row of the last that was done is put on -/
theorem go_put {s : en_M} {m T : Nat} {v : Int32} (hm : m < 20) (h19 : s 25 0 0 19 = nI m) (h4 : s 25 0 0 4 = nI T) : ∃ r, (en_b1 (en_wa 938 s 25 0 0 (898 + (2 * (s 25 0 0 19))) v) fun s37 =>
      en_b1 (en_wa 938 s37 25 0 0 ((898 + (2 * (s37 25 0 0 19))) + 1) (s37 25 0 0 4)) fun s39 =>
      en_let (en_wr s39 25 0 0 19 ((s39 25 0 0 19) + 1)) fun s41 =>
      en_b1 (k_mm_reclaims s41) fun s43 => some s43) = en_b1 (k_mm_reclaims r) (fun s43 => some s43) ∧ (∀ x, x ≠ 19 → x ≠ 898 + 2 * m → x ≠ 898 + 2 * m + 1 → r 25 0 0 x = s 25 0 0 x) ∧ r 25 0 0 19 = nI (m + 1) ∧ r 25 0 0 (898 + 2 * m) = v ∧ r 25 0 0 (898 + 2 * m + 1) = nI T ∧ en_fr [(25, 0)] s r := by
  obtain ⟨s1, h1⟩ : ∃ z, en_wr s 25 0 0 (898 + 2 * m) v = z := ⟨_, rfl⟩
  obtain ⟨s2, h2⟩ : ∃ z, en_wr s1 25 0 0 (898 + 2 * m + 1) (nI T) = z := ⟨_, rfl⟩
  obtain ⟨r, hr⟩ : ∃ z, en_wr s2 25 0 0 19 (nI (m + 1)) = z := ⟨_, rfl⟩
  have e1 : ∀ x, x ≠ 898 + 2 * m → s1 25 0 0 x = s 25 0 0 x := fun x h => by rw [← h1, pu_wr_k h]
  have e2 : ∀ x, x ≠ 898 + 2 * m + 1 → s2 25 0 0 x = s1 25 0 0 x := fun x h => by rw [← h2, pu_wr_k h]
  have er : ∀ x, x ≠ 19 → r 25 0 0 x = s2 25 0 0 x := fun x h => by rw [← hr, pu_wr_k h]
  refine ⟨r, ?_, fun x q1 q2 q3 => ?_, by rw [← hr, pu_wr_eq], ?_, ?_, fr_tr (fr_tr (fr_wr h1 (by simp)) (fr_wr h2 (by simp))) (fr_wr hr (by simp))⟩
  · rw [h19, show (898 : Int32) = nI 898 from rfl, show (2 : Int32) = nI 2 from rfl, pk_mul, nI_add, pu_wa (by omega) (by decide), pu_b1, h1, e1 19 (by omega), h19, pk_mul, nI_add, nI_1, e1 4 (by omega), h4, pu_wa (by omega) (by decide), pu_b1, h2, pu_let, e2 19 (by omega), e1 19 (by omega), h19, nI_1, hr]
  · rw [er x q1, e2 x q3, e1 x q2]
  · rw [er _ (by omega), e2 _ (by omega), ← h1, pu_wr_eq]
  · rw [er _ (by omega), ← h2, pu_wr_eq]
theorem go_tail {s : en_M} {n D T : Nat} (h19 : s 25 0 0 19 = nI (min 20 D)) (h4 : s 25 0 0 4 = nI T) : ∃ r, go_tl (nI n) s = en_b1 (k_mm_reclaims r) (fun s43 => some s43) ∧ (∀ x, x < 898 → x ≠ 19 → r 25 0 0 x = s 25 0 0 x) ∧ r 25 0 0 19 = nI (min 20 (D + 1)) ∧ r 25 0 0 (898 + 2 * (min 20 (D + 1) - 1)) = nI n ∧ r 25 0 0 (898 + 2 * (min 20 (D + 1) - 1) + 1) = nI T ∧ (∀ j w, j + 1 < 20 → j < D → w < 2 → r 25 0 0 (898 + 2 * (min 20 (D + 1) - 1 - (j + 1)) + w) = s 25 0 0 (898 + 2 * (min 20 D - 1 - j) + w)) ∧ en_fr [(25, 0)] s r := by
  rw [go_tl, itx_eq (a := min 20 D) (b := 20) (y := 20) h19 rfl (by omega) (by decide)]
  by_cases e : min 20 D = 20
  · have e2 : min 20 (D + 1) = 20 := by omega
    rw [if_pos e, e, e2]
    obtain ⟨s1, a1, a2, a3, a4⟩ := go_sh en_fu 898 (nI n) s (by omega) (by omega) (by rw [en_fu]; omega)
    rw [show nI 898 = (898 : Int32) from rfl] at a1
    have b19 : s1 25 0 0 19 = nI 20 := by rw [a2 19 (by omega), h19, e]
    obtain ⟨s2, h2⟩ : ∃ z, en_wr s1 25 0 0 19 (nI 19) = z := ⟨_, rfl⟩
    obtain ⟨r, b1, b2, b3, b4, b5, b6⟩ := go_put (s := s2) (m := 19) (T := T) (v := nI n) (by omega) (by rw [← h2, pu_wr_eq]) (by rw [← h2, pu_wr_k (by omega), a2 4 (by omega), h4])
    refine ⟨r, ?_, fun x q1 q2 => ?_, b3, b4, b5, fun j w q1 q2 q3 => ?_, fr_tr (fr_tr a4 (fr_wr h2 (by simp))) b6⟩
    · rw [a1, pu_b1, pu_let, b19, show nI 20 - 1 = nI 19 from rfl, h2]
      exact b1
    · rw [b2 x q2 (by omega) (by omega), ← h2, pu_wr_k q2, a2 x (by omega)]
    · rw [b2 _ (by omega) (by omega) (by omega), ← h2, pu_wr_k (by omega), a3 _ (by omega) (by omega)]
      congr 1
      omega
  · have e2 : min 20 D = D := by omega
    have e3 : min 20 (D + 1) = D + 1 := by omega
    rw [e2] at h19
    obtain ⟨r, b1, b2, b3, b4, b5, b6⟩ := go_put (s := s) (m := D) (T := T) (v := nI n) (by omega) h19 h4
    rw [if_neg e, e2, e3]
    refine ⟨r, b1, fun x q1 q2 => b2 x q2 (by omega) (by omega), b3, b4, b5, fun j w q1 q2 q3 => ?_, b6⟩
    rw [b2 _ (by omega) (by omega) (by omega)]
    congr 1
    omega

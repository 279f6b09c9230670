/-! Feed, both sides. -/
theorem fd_Mb (v : Int32) {j r : Nat} (hj : j < 20) (hr : j % 4 = r) {sc : Int32} (hsc : sc = nI (24 - 8 * r)) : ∃ b, b < 256 ∧ fd_M v (nI j) = nI b ∧ ((v >>> (sc &&& 31)).toInt8.toInt32).toInt8.toInt32 = (nI b).toInt8.toInt32 := by
  rw [fd_M, show (4 : Int32) = nI 4 from rfl, pu_rem (by omega) (by decide) (by decide), hr, show (8 : Int32) = nI 8 from rfl, pk_mul, show (24 : Int32) = nI 24 from rfl, pk_sub (by omega), hsc]
  rcases (show r = 0 ∨ r = 1 ∨ r = 2 ∨ r = 3 by omega) with rfl | rfl | rfl | rfl
  · exact fd_byte v (s := 24) (by decide) (by decide) (by decide)
  · exact fd_byte v (s := 16) (by decide) (by decide) (by decide)
  · exact fd_byte v (s := 8) (by decide) (by decide) (by decide)
  · exact fd_byte v (s := 0) (by decide) (by decide) (by decide)
theorem fd_both {σ τ : en_M} {l q : Nat} {v1 v2 v3 v4 v5 : Int32} (hq : q < 5) (hl : l + 4 ≤ 400) (hs : σ 20 0 0 1 = nI l) (ht : τ 24 0 0 9 = nI l) (hx : ∀ i, i < l → ∃ b, b < 256 ∧ τ 29 0 0 i = nI b ∧ σ 21 0 0 i = (nI b).toInt8.toInt32) : ∃ σ1 τ1, k_tp_append (fd_V v1 v2 v3 v4 v5 q) σ = some σ1 ∧ (∀ F, k_mm_feed_23 (F + 1 + 1 + 1 + 1) v1 v2 v3 v4 v5 (nI (4 * q)) τ = k_mm_feed_23 F v1 v2 v3 v4 v5 (nI (4 * q + 4)) τ1) ∧ σ1 20 0 0 1 = nI (l + 4) ∧ τ1 24 0 0 9 = nI (l + 4) ∧ (∀ i, i < l + 4 → ∃ b, b < 256 ∧ τ1 29 0 0 i = nI b ∧ σ1 21 0 0 i = (nI b).toInt8.toInt32) ∧ en_fr [(20, 0), (21, 0)] σ σ1 ∧ (∀ k, k ≠ 9 → τ1 24 0 0 k = τ 24 0 0 k) ∧ en_fr [(24, 0), (29, 0)] τ τ1 := by
  obtain ⟨σ1, a1, a2, a3, ⟨x0, x1, x2, x3⟩, a5⟩ := fd_c4 (fd_V v1 v2 v3 v4 v5 q) hl hs
  obtain ⟨v, hv⟩ : ∃ v, fd_V v1 v2 v3 v4 v5 q = v := ⟨_, rfl⟩
  rw [hv] at x0 x1 x2 x3
  obtain ⟨b0, p0, q0, r0⟩ := fd_Mb v (j := 4 * q) (r := 0) (sc := 24) (by omega) (by omega) rfl
  obtain ⟨b1, p1, q1, r1⟩ := fd_Mb v (j := 4 * q + 1) (r := 1) (sc := 16) (by omega) (by omega) rfl
  obtain ⟨b2, p2, q2, r2⟩ := fd_Mb v (j := 4 * q + 1 + 1) (r := 2) (sc := 8) (by omega) (by omega) rfl
  obtain ⟨b3, p3, q3, r3⟩ := fd_Mb v (j := 4 * q + 1 + 1 + 1) (r := 3) (sc := 0) (by omega) (by omega) rfl
  obtain ⟨a, ha⟩ : ∃ z, en_wr (en_wr τ 29 0 0 l (nI b0)) 24 0 0 9 (nI (l + 1)) = z := ⟨_, rfl⟩
  obtain ⟨b, hb⟩ : ∃ z, en_wr (en_wr a 29 0 0 (l + 1) (nI b1)) 24 0 0 9 (nI (l + 1 + 1)) = z := ⟨_, rfl⟩
  obtain ⟨c, hc⟩ : ∃ z, en_wr (en_wr b 29 0 0 (l + 2) (nI b2)) 24 0 0 9 (nI (l + 2 + 1)) = z := ⟨_, rfl⟩
  obtain ⟨d, hd⟩ : ∃ z, en_wr (en_wr c 29 0 0 (l + 3) (nI b3)) 24 0 0 9 (nI (l + 3 + 1)) = z := ⟨_, rfl⟩
  have e1 : a 24 0 0 9 = nI (l + 1) := by rw [← ha, pu_wr_eq]
  have e2 : b 24 0 0 9 = nI (l + 2) := by rw [← hb, pu_wr_eq]
  have e3 : c 24 0 0 9 = nI (l + 3) := by rw [← hc, pu_wr_eq]
  have oa : ∀ x, x ≠ l → a 29 0 0 x = τ 29 0 0 x := fun x q => by rw [← ha, pu_wr_j (by decide), pu_wr_k q]
  have ob : ∀ x, x ≠ l + 1 → b 29 0 0 x = a 29 0 0 x := fun x q => by rw [← hb, pu_wr_j (by decide), pu_wr_k q]
  have oc : ∀ x, x ≠ l + 2 → c 29 0 0 x = b 29 0 0 x := fun x q => by rw [← hc, pu_wr_j (by decide), pu_wr_k q]
  have od : ∀ x, x ≠ l + 3 → d 29 0 0 x = c 29 0 0 x := fun x q => by rw [← hd, pu_wr_j (by decide), pu_wr_k q]
  refine ⟨σ1, d, a1, fun F => ?_, a2, by rw [← hd, pu_wr_eq], fun i hi => ?_, a5, fun k hk => ?_, ?_⟩
  · rw [fd_m1 (by omega) (by omega) ht, show 4 * q / 4 = q by omega, hv, q0, ha, fd_m1 (by omega) (by omega) e1, show (4 * q + 1) / 4 = q by omega, hv, q1, hb, fd_m1 (by omega) (by omega) e2, show (4 * q + 1 + 1) / 4 = q by omega, hv, q2, hc, fd_m1 (by omega) (by omega) e3, show (4 * q + 1 + 1 + 1) / 4 = q by omega, hv, q3, hd]
  · rcases (show i < l ∨ i = l ∨ i = l + 1 ∨ i = l + 2 ∨ i = l + 3 by omega) with h | rfl | rfl | rfl | rfl
    · obtain ⟨b', c1, c2, c3⟩ := hx i h
      exact ⟨b', c1, by rw [od i (by omega), oc i (by omega), ob i (by omega), oa i (by omega), c2], by rw [a3 i h, c3]⟩
    · exact ⟨b0, p0, by rw [od _ (by omega), oc _ (by omega), ob _ (by omega), ← ha, pu_wr_j (by decide), pu_wr_eq], x0.trans r0⟩
    · exact ⟨b1, p1, by rw [od _ (by omega), oc _ (by omega), ← hb, pu_wr_j (by decide), pu_wr_eq], x1.trans r1⟩
    · exact ⟨b2, p2, by rw [od _ (by omega), ← hc, pu_wr_j (by decide), pu_wr_eq], x2.trans r2⟩
    · exact ⟨b3, p3, by rw [← hd, pu_wr_j (by decide), pu_wr_eq], x3.trans r3⟩
  · rw [← hd, pu_wr_k hk, pu_wr_j (by decide), ← hc, pu_wr_k hk, pu_wr_j (by decide), ← hb, pu_wr_k hk, pu_wr_j (by decide), ← ha, pu_wr_k hk, pu_wr_j (by decide)]
  · exact fr_tr (fr_tr (fr_tr (fr_wr rfl (by simp)) (fr_wr ha (by simp))) (fr_tr (fr_wr rfl (by simp)) (fr_wr hb (by simp)))) (fr_tr (fr_tr (fr_wr rfl (by simp)) (fr_wr hc (by simp))) (fr_tr (fr_wr rfl (by simp)) (fr_wr hd (by simp))))

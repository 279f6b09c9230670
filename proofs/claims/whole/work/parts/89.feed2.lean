/-! Feed. -/
theorem fd_c1 {σ : en_M} {F l : Nat} {v w : Int32} (hl : l < 400) (h1 : σ 20 0 0 1 = nI l) (hw : ¬ w < 0) : k_tp_append_3 (F + 1) v w σ = k_tp_append_3 F v (w + (-8)) (en_wr (en_wr σ 21 0 0 l (((v >>> (w &&& 31)).toInt8.toInt32).toInt8.toInt32)) 20 0 0 1 (nI (l + 1))) := by
  rw [k_tp_append_3, if_neg hw, h1, itx_le (a := 400) (b := l) (x := 400) rfl rfl (by decide) (by omega), if_neg (by omega), pu_wa hl (by decide), pu_b1, pu_let, pu_wr_j (by decide), h1, nI_1]
/-- what a step of both leaves -/
theorem fd_t1 {σ τ : en_M} {l b : Nat} {x : Int32} (hl : l < 400) (hb : b < 256) (hx : x = (nI b).toInt8.toInt32) (h1 : σ 20 0 0 1 = nI l) (h2 : τ 24 0 0 9 = nI l) (h3 : ∀ i, i < l → ∃ b, b < 256 ∧ τ 29 0 0 i = nI b ∧ σ 21 0 0 i = (nI b).toInt8.toInt32) : ∀ i, i < l + 1 → ∃ b', b' < 256 ∧ (en_wr (en_wr τ 29 0 0 l (nI b)) 24 0 0 9 (nI (l + 1))) 29 0 0 i = nI b' ∧ (en_wr (en_wr σ 21 0 0 l x) 20 0 0 1 (nI (l + 1))) 21 0 0 i = (nI b').toInt8.toInt32 := by
  intro i hi
  by_cases e : i = l
  · subst e
    exact ⟨b, hb, by rw [pu_wr_j (by decide), pu_wr_eq], by rw [pu_wr_j (by decide), pu_wr_eq, hx]⟩
  · obtain ⟨b', c1, c2, c3⟩ := h3 i (by omega)
    exact ⟨b', c1, by rw [pu_wr_j (by decide), pu_wr_k e, c2], by rw [pu_wr_j (by decide), pu_wr_k e, c3]⟩
/-- four bytes of one number: class, with what the model must write -/
theorem fd_c4 {σ : en_M} {l : Nat} (v : Int32) (hl : l + 4 ≤ 400) (h1 : σ 20 0 0 1 = nI l) : ∃ σ1, k_tp_append v σ = some σ1 ∧ σ1 20 0 0 1 = nI (l + 4) ∧ (∀ x, x < l → σ1 21 0 0 x = σ 21 0 0 x) ∧ (σ1 21 0 0 l = ((v >>> (24 &&& 31)).toInt8.toInt32).toInt8.toInt32 ∧ σ1 21 0 0 (l + 1) = ((v >>> (16 &&& 31)).toInt8.toInt32).toInt8.toInt32 ∧ σ1 21 0 0 (l + 2) = ((v >>> (8 &&& 31)).toInt8.toInt32).toInt8.toInt32 ∧ σ1 21 0 0 (l + 3) = ((v >>> (0 &&& 31)).toInt8.toInt32).toInt8.toInt32) ∧ en_fr [(20, 0), (21, 0)] σ σ1 := by
  obtain ⟨a, ha⟩ : ∃ z, en_wr (en_wr σ 21 0 0 l (((v >>> (24 &&& 31)).toInt8.toInt32).toInt8.toInt32)) 20 0 0 1 (nI (l + 1)) = z := ⟨_, rfl⟩
  obtain ⟨b, hb⟩ : ∃ z, en_wr (en_wr a 21 0 0 (l + 1) (((v >>> (16 &&& 31)).toInt8.toInt32).toInt8.toInt32)) 20 0 0 1 (nI (l + 1 + 1)) = z := ⟨_, rfl⟩
  obtain ⟨c, hc⟩ : ∃ z, en_wr (en_wr b 21 0 0 (l + 2) (((v >>> (8 &&& 31)).toInt8.toInt32).toInt8.toInt32)) 20 0 0 1 (nI (l + 2 + 1)) = z := ⟨_, rfl⟩
  obtain ⟨d, hd⟩ : ∃ z, en_wr (en_wr c 21 0 0 (l + 3) (((v >>> (0 &&& 31)).toInt8.toInt32).toInt8.toInt32)) 20 0 0 1 (nI (l + 3 + 1)) = z := ⟨_, rfl⟩
  have e1 : a 20 0 0 1 = nI (l + 1) := by rw [← ha, pu_wr_eq]
  have e2 : b 20 0 0 1 = nI (l + 2) := by rw [← hb, pu_wr_eq]
  have e3 : c 20 0 0 1 = nI (l + 3) := by rw [← hc, pu_wr_eq]
  have oa : ∀ x, x ≠ l → a 21 0 0 x = σ 21 0 0 x := fun x q => by rw [← ha, pu_wr_j (by decide), pu_wr_k q]
  have ob : ∀ x, x ≠ l + 1 → b 21 0 0 x = a 21 0 0 x := fun x q => by rw [← hb, pu_wr_j (by decide), pu_wr_k q]
  have oc : ∀ x, x ≠ l + 2 → c 21 0 0 x = b 21 0 0 x := fun x q => by rw [← hc, pu_wr_j (by decide), pu_wr_k q]
  have od : ∀ x, x ≠ l + 3 → d 21 0 0 x = c 21 0 0 x := fun x q => by rw [← hd, pu_wr_j (by decide), pu_wr_k q]
  refine ⟨d, ?_, by rw [← hd, pu_wr_eq], fun x hx => by rw [od x (by omega), oc x (by omega), ob x (by omega), oa x (by omega)], ⟨?_, ?_, ?_, ?_⟩, ?_⟩
  · rw [k_tp_append, show en_fu = (en_fu - 5) + 1 + 1 + 1 + 1 + 1 from rfl, fd_c1 (w := 24) (by omega) h1 (by decide), ha, show (24 : Int32) + (-8) = 16 from rfl, fd_c1 (w := 16) (by omega) e1 (by decide), hb, show (16 : Int32) + (-8) = 8 from rfl, fd_c1 (w := 8) (by omega) e2 (by decide), hc, show (8 : Int32) + (-8) = 0 from rfl, fd_c1 (w := 0) (by omega) e3 (by decide), hd, show (0 : Int32) + (-8) = -8 from rfl, k_tp_append_3, if_pos (by decide), pu_b1]
  · rw [od _ (by omega), oc _ (by omega), ob _ (by omega), ← ha, pu_wr_j (by decide), pu_wr_eq]
  · rw [od _ (by omega), oc _ (by omega), ← hb, pu_wr_j (by decide), pu_wr_eq]
  · rw [od _ (by omega), ← hc, pu_wr_j (by decide), pu_wr_eq]
  · rw [← hd, pu_wr_j (by decide), pu_wr_eq]
  · refine fr_tr (fr_tr (fr_tr (fr_wr rfl (by simp)) (fr_wr ha (by simp))) (fr_tr (fr_wr rfl (by simp)) (fr_wr hb (by simp)))) (fr_tr (fr_tr (fr_wr rfl (by simp)) (fr_wr hc (by simp))) (fr_tr (fr_wr rfl (by simp)) (fr_wr hd (by simp))))

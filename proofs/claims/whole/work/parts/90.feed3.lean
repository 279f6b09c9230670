/-! Feed, the model. -/
def fd_V (v1 v2 v3 v4 v5 : Int32) (q : Nat) : Int32 := if q = 0 then v1 else if q = 1 then v2 else if q = 2 then v3 else if q = 3 then v4 else v5
def fd_M (v v6 : Int32) : Int32 := (((v.toUInt32 >>> ((24 - (8 * (v6 - v6 / 4 * 4))).toUInt32 &&& Int32.toUInt32 31)).toInt32) &&& 255)
theorem fd_m1 {τ : en_M} {F l j : Nat} {v1 v2 v3 v4 v5 : Int32} (hj : j < 20) (hl : l < 400) (h1 : τ 24 0 0 9 = nI l) : k_mm_feed_23 (F + 1) v1 v2 v3 v4 v5 (nI j) τ = k_mm_feed_23 F v1 v2 v3 v4 v5 (nI (j + 1)) (en_wr (en_wr τ 29 0 0 l (fd_M (fd_V v1 v2 v3 v4 v5 (j / 4)) (nI j))) 24 0 0 9 (nI (l + 1))) := by
  have fin : ∀ x : Int32, (en_b1 (en_wa 400 τ 29 0 0 (τ 24 0 0 9) x) fun s9 => en_let (en_wr s9 24 0 0 9 ((s9 24 0 0 9) + 1)) fun s11 => k_mm_feed_23 F v1 v2 v3 v4 v5 (nI j + 1) s11) = k_mm_feed_23 F v1 v2 v3 v4 v5 (nI (j + 1)) (en_wr (en_wr τ 29 0 0 l x) 24 0 0 9 (nI (l + 1))) := fun x => by
    rw [h1, pu_wa hl (by decide), pu_b1, pu_let, pu_wr_j (by decide), h1, nI_1, nI_1]
  rw [k_mm_feed_23, itx_le (a := 20) (b := j) (x := 20) rfl rfl (by decide) (by omega), if_neg (by omega), itx_le (a := 4) (b := j) (x := 4) rfl rfl (by decide) (by omega), itx_le (a := 8) (b := j) (x := 8) rfl rfl (by decide) (by omega), itx_le (a := 12) (b := j) (x := 12) rfl rfl (by decide) (by omega), itx_le (a := 16) (b := j) (x := 16) rfl rfl (by decide) (by omega), fd_V]
  by_cases c1 : 4 ≤ j
  · rw [if_pos c1, if_neg (show ¬ j / 4 = 0 by omega)]
    by_cases c2 : 8 ≤ j
    · rw [if_pos c2, if_neg (show ¬ j / 4 = 1 by omega)]
      by_cases c3 : 12 ≤ j
      · rw [if_pos c3, if_neg (show ¬ j / 4 = 2 by omega)]
        by_cases c4 : 16 ≤ j
        · rw [if_pos c4, if_neg (show ¬ j / 4 = 3 by omega)]
          exact fin _
        · rw [if_neg c4, if_pos (show j / 4 = 3 by omega)]
          exact fin _
      · rw [if_neg c3, if_pos (show j / 4 = 2 by omega)]
        exact fin _
    · rw [if_neg c2, if_pos (show j / 4 = 1 by omega)]
      exact fin _
  · rw [if_neg c1, if_pos (show j / 4 = 0 by omega)]
    exact fin _

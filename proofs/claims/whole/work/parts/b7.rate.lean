/-! On paper: another rate of a flow. -/
theorem up_le {a b c : Nat} (hb : 0 < b) : ab_up a b ≤ c ↔ a ≤ c * b := by
  have h1 : ab_up a b < c + 1 ↔ a + b - 1 < (c + 1) * b := by
    rw [ab_up]
    exact Nat.div_lt_iff_lt_mul hb
  rw [Nat.succ_mul] at h1
  constructor
  · intro h
    have := h1.1 (by omega)
    omega
  · intro h
    have := h1.2 (by omega)
    omega
theorem gp_up {s r : Nat} (hr : 1 ≤ r) : ab_gp s r = ab_up (10 * s) r := by
  rw [ab_gp, if_neg (by omega), ab_up]
theorem gp_le {s r c : Nat} (hr : 1 ≤ r) : ab_gp s r ≤ c ↔ 10 * s ≤ c * r := by
  rw [gp_up hr]
  exact up_le (by omega)
theorem gp_mono {s r r' : Nat} (h1 : 1 ≤ r) (h : r ≤ r') : ab_gp s r' ≤ ab_gp s r := by
  rw [gp_le (by omega)]
  have z := (gp_le (s := s) (c := ab_gp s r) h1).1 (Nat.le_refl _)
  exact Nat.le_trans z (Nat.mul_le_mul_left _ h)
section prt
variable {t : Nat} {A : ab_A}
/-- by a greater rate no piece may leave later -/
theorem nk_mono {r r' n v v' : Nat} (h1 : 1 ≤ r) (h : r ≤ r') (hv : v' ≤ v) : ∀ j, ab_nk A r' n v' j ≤ ab_nk A r n v j := by
  intro j
  induction j with
  | zero => exact hv
  | succ j ih =>
    have := gp_mono (s := ab_sz A n (aS A n 7 + j)) h1 h
    simp only [ab_nk]
    omega
theorem ns_mono {f r r' : Nat} (h1 : 1 ≤ r) (h : r ≤ r') : ∀ m, ab_ns A f r' m ≤ ab_ns A f r m := by
  intro m
  induction m with
  | zero =>
    rw [ab_ns, ab_ns, ab_in, ab_in]
    by_cases z : aF A f 4 = 0
    · rw [if_pos z, if_pos z]
      exact Nat.le_refl _
    · rw [if_neg z, if_neg z]
      have := gp_mono (s := aF A f 6) h1 h
      omega
  | succ m ih =>
    rw [ab_ns, ab_ns]
    by_cases z : aS A (aH A 6 + m) 4 = 1 ∧ aS A (aH A 6 + m) 7 < aS A (aH A 6 + m) 6 ∧ aS A (aH A 6 + m) 0 = f
    · rw [if_pos z, if_pos z]
      exact nk_mono h1 h ih _
    · rw [if_neg z, if_neg z]
      exact ih
theorem dp_mono {r r' n k : Nat} (h1 : 1 ≤ r) (h : r ≤ r') : ab_dp A r' n k ≤ ab_dp A r n k := by
  have := nk_mono (A := A) (n := n) h1 h (ns_mono (A := A) (f := aS A n 0) h1 h (n - aH A 6)) (k - aS A n 7)
  rw [ab_dp, ab_dp]
  omega
/-- of a flow no piece may leave later than one of a later send -/
theorem dp_send {rt n n' k k' : Nat} (h0 : aH A 6 ≤ n) (h : n < n') (h4 : aS A n 4 = 1) (h7 : aS A n 7 ≤ k) (hk : k < aS A n 6) (hf : aS A n 0 = aS A n' 0) : ab_dp A rt n k ≤ ab_dp A rt n' k' := by
  have h1 : ab_dp A rt n k ≤ ab_ns A (aS A n' 0) rt (n - aH A 6 + 1) := by
    have hc : aS A n 4 = 1 ∧ aS A n 7 < aS A n 6 ∧ aS A n 0 = aS A n' 0 := ⟨h4, by omega, hf⟩
    rw [ab_ns, ab_dp, show aH A 6 + (n - aH A 6) = n by omega, if_pos hc, hf]
    have := rd_nk_le A rt n (ab_ns A (aS A n' 0) rt (n - aH A 6)) (aS A n 6 - aS A n 7 - (k - aS A n 7 + 1)) (k - aS A n 7 + 1)
    rw [show k - aS A n 7 + 1 + (aS A n 6 - aS A n 7 - (k - aS A n 7 + 1)) = aS A n 6 - aS A n 7 by omega, ab_nk] at this
    omega
  have h2 := rd_ns_le A (aS A n' 0) rt (n' - aH A 6 - (n - aH A 6 + 1)) (n - aH A 6 + 1)
  rw [show n - aH A 6 + 1 + (n' - aH A 6 - (n - aH A 6 + 1)) = n' - aH A 6 by omega] at h2
  have h3 : ab_ns A (aS A n' 0) rt (n' - aH A 6) ≤ ab_dp A rt n' k' := by
    have z : ab_ns A (aS A n' 0) rt (n' - aH A 6) ≤ ab_nk A rt n' (ab_ns A (aS A n' 0) rt (n' - aH A 6)) (0 + (k' - aS A n' 7)) := rd_nk_le A rt n' (ab_ns A (aS A n' 0) rt (n' - aH A 6)) (k' - aS A n' 7) 0
    rw [Nat.zero_add] at z
    rw [ab_dp]
    omega
  omega
theorem dp_code {rt x y : Nat} (hx : pq_in A x) (hf : aS A (x / 64) 0 = aS A (y / 64) 0) (h : x < y) : ab_dp A rt (x / 64) (x % 64) ≤ ab_dp A rt (y / 64) (y % 64) := by
  by_cases e : x / 64 = y / 64
  · rw [e]
    exact rd_dp_k (by omega)
  · exact dp_send hx.1 (by omega) hx.2.2.1 hx.2.2.2.2.1 hx.2.2.2.2.2 hf
/-- the card with another rate of a flow -/
def ra (A : ab_A) (f r : Nat) : ab_A := sF A (u2 (aF A) f 0 r)
theorem ra_F {f r f' w : Nat} (h : ¬ (f' = f ∧ w = 0)) : aF (ra A f r) f' w = aF A f' w := u2_n h
theorem ra_F0 {f r : Nat} : aF (ra A f r) f 0 = r := u2_s
theorem ra_W {f r : Nat} (hW : ab_W A t) (hr : r ≤ 999) : ab_W (ra A f r) t := ⟨hW.1, fun f' hf' => by
  have hx := hW.2.1 f' hf'
  rw [ra_F (w := 1) (by omega), ra_F (w := 2) (by omega), ra_F (w := 3) (by omega), ra_F (w := 4) (by omega), ra_F (w := 5) (by omega), ra_F (w := 6) (by omega)]
  refine ⟨?_, hx.2⟩
  by_cases e : f' = f
  · subst e
    rw [ra_F0]
    exact hr
  · rw [ra_F (by omega)]
    exact hx.1, hW.2.2⟩
theorem ra_M {f rt : Nat} {r r' : Nat → Int32} (hW : ab_W A t) (hf : f < aH A 3) (h : ab_MR r A) (hr : ∀ k, k ≠ 20 + 9 * f → r' k = r k) (h0 : r' (20 + 9 * f) = nI rt) : ab_MR r' (ra A f rt) := by
  have hN := ab_N hW
  refine MR_fl (A := A) (fun k _ hk => hr k (by omega)) ⟨rfl, rfl, rfl, rfl, rfl, rfl, rfl⟩ h (fun f' hf' => ?_) hW
  have hx := h.2.1 f' hf'
  have hf6 : f' < 6 := by
    have : f' < aH A 3 := hf'
    omega
  refine ⟨fun w hw => ?_, ?_, ?_, ?_⟩
  · by_cases e : f' = f ∧ w = 0
    · obtain ⟨rfl, rfl⟩ := e
      rw [ra_F0]
      exact h0
    · rw [ra_F e, hr _ (by omega)]
      exact hx.1 w hw
  · rw [ra_F (w := 4) (by omega), ra_F (w := 5) (by omega), ra_F (w := 6) (by omega), hr _ (by omega), hr _ (by omega)]
    exact hx.2.1
  · rw [hr _ (by omega)]
    exact hx.2.2.1
  · rw [hr _ (by omega)]
    exact hx.2.2.2
theorem ra_in {f r x : Nat} : pq_in (ra A f r) x ↔ pq_in A x := by
  have e : aF (ra A f r) (aS A (x / 64) 0) 2 = aF A (aS A (x / 64) 0) 2 := ra_F (by omega)
  constructor
  · intro h
    obtain ⟨h1, h2, h3, h4, h5, h6⟩ := h
    exact ⟨h1, h2, h3, by rw [← e]; exact h4, h5, h6⟩
  · intro h
    obtain ⟨h1, h2, h3, h4, h5, h6⟩ := h
    exact ⟨h1, h2, h3, e.trans h4, h5, h6⟩
theorem ra_dp {f r rt n k : Nat} : ab_dp (ra A f r) rt n k = ab_dp A rt n k := by
  refine dp_eq (A := A) (A' := ra A f r) rfl rfl ?_
  refine ns_eq (A := A) (A' := ra A f r) rfl ?_ _ (fun _ _ _ => rfl)
  simp only [ab_in]
  rw [ra_F (w := 4) (by omega), ra_F (w := 5) (by omega), ra_F (w := 6) (by omega)]
theorem ra_D {f r x : Nat} (h : aS A (x / 64) 0 = f) : pq_D (ra A f r) x = ab_dp A r (x / 64) (x % 64) := by
  rw [pq_D, ab_de]
  show ab_dp (ra A f r) (aF (ra A f r) (aS A (x / 64) 0) 0) _ _ = _
  rw [h, ra_F0, ra_dp]
theorem ra_D' {f r x : Nat} (h : aS A (x / 64) 0 ≠ f) : pq_D (ra A f r) x = pq_D A x := by
  rw [pq_D, pq_D, ab_de, ab_de]
  show ab_dp (ra A f r) (aF (ra A f r) (aS A (x / 64) 0) 0) _ _ = _
  rw [ra_F (fun z => h z.1), ra_dp]
theorem ra_pp {f r : Nat} {σ : en_M} (h : pp_C σ A) : pp_C σ (ra A f r) := ⟨h.1, fun f' hf' => by
  rw [ra_F (by omega)]
  exact h.2 f' hf'⟩
end prt

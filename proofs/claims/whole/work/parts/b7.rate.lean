/-! On paper: another rate of a flow. -/
theorem up_le {a b c : Nat} (hb : 0 < b) : ab_up a b ≤ c ↔ a ≤ c * b := by
  have h1 : ab_up a b < c + 1 ↔ a + b - 1 < (c + 1) * b := by
    rw [ab_up]
    exact Nat.div_lt_iff_lt_mul hb
  rw [Nat.succ_mul] at h1
  constructor
  · intro h
    have := h1.1 (by omega)
    omega
  · intro h
    have := h1.2 (by omega)
    omega
theorem gp_up {s r : Nat} (hr : 1 ≤ r) : ab_gp s r = ab_up (10 * s) r := by
  rw [ab_gp, if_neg (by omega), ab_up]
theorem gp_le {s r c : Nat} (hr : 1 ≤ r) : ab_gp s r ≤ c ↔ 10 * s ≤ c * r := by
  rw [gp_up hr]
  exact up_le (by omega)
/-- the least greater rate by which the gap of a size is less -/
def rg (s r : Nat) : Nat := if ab_gp s r ≤ 1 then 1000 else ab_up (10 * s) (ab_gp s r - 1)
theorem rg_gt {s r : Nat} (h1 : 1 ≤ r) (h9 : r ≤ 999) : r < rg s r := by
  rw [rg]
  by_cases h : ab_gp s r ≤ 1
  · rw [if_pos h]
    omega
  · rw [if_neg h]
    apply Decidable.byContradiction
    intro z
    have z1 := (up_le (a := 10 * s) (b := ab_gp s r - 1) (c := r) (by omega)).1 (by omega)
    rw [Nat.mul_comm r] at z1
    have := (gp_le (s := s) (c := ab_gp s r - 1) h1).2 z1
    omega
theorem gp_mono {s r r' : Nat} (h1 : 1 ≤ r) (h : r ≤ r') : ab_gp s r' ≤ ab_gp s r := by
  rw [gp_le (by omega)]
  have z := (gp_le (s := s) (c := ab_gp s r) h1).1 (Nat.le_refl _)
  exact Nat.le_trans z (Nat.mul_le_mul_left _ h)
theorem rg_eq {s r r' : Nat} (h1 : 1 ≤ r) (h : r ≤ r') (h2 : r' < rg s r) : ab_gp s r' = ab_gp s r := by
  have hm := gp_mono (s := s) h1 h
  apply Decidable.byContradiction
  intro hne
  rw [rg] at h2
  by_cases hg : ab_gp s r ≤ 1
  · have h0 : ab_gp s r' ≤ 0 := by omega
    rw [gp_le (by omega), Nat.zero_mul] at h0
    have := (gp_le (s := s) (c := 0) h1).2 (by omega)
    omega
  · rw [if_neg hg] at h2
    have z1 := (gp_le (s := s) (r := r') (c := ab_gp s r - 1) (by omega)).1 (by omega)
    rw [Nat.mul_comm _ r'] at z1
    have := (up_le (a := 10 * s) (b := ab_gp s r - 1) (c := r') (by omega)).2 z1
    omega
theorem rg_le {s r : Nat} (hs : s ≤ 112) : rg s r ≤ 1120 := by
  rw [rg]
  by_cases h : ab_gp s r ≤ 1
  · rw [if_pos h]
    omega
  · rw [if_neg h]
    have := (up_le (a := 10 * s) (b := ab_gp s r - 1) (c := 10 * s) (by omega)).2 (Nat.le_mul_of_pos_right _ (by omega))
    omega
theorem rg_cls {s r : Nat} (hs : s ≤ 112) (hr : r ≤ 999) : k_pp_rateOfLessGap (nI s) (nI r) = some (nI (rg s r)) := by
  have hg := ab_gp_le (a := s) (b := r) hs
  rw [k_pp_rateOfLessGap, nu_gap (by omega), pu_b1, itx_lt (a := 1) (b := ab_gp s r) (x := 1) rfl rfl (by decide) (by omega), rg]
  by_cases h : ab_gp s r ≤ 1
  · rw [if_neg (by omega), if_pos h]
    rfl
  · rw [if_pos (by omega), if_neg h, show (10 : Int32) = nI 10 from rfl, pk_mul, show (1 : Int32) = nI 1 from rfl, pk_sub (by omega), nu_up (by omega) (by omega), pu_b1]
theorem nu_min {a b : Nat} (ha : a < 2 ^ 31) (hb : b < 2 ^ 31) : (if nI a < nI b then nI a else nI b) = nI (min a b) := by
  rw [it_lt ha hb]
  by_cases h : a < b
  · rw [if_pos h, Nat.min_eq_left (by omega)]
  · rw [if_neg h, Nat.min_eq_right (by omega)]
section prt
variable {t : Nat} {A : ab_A}
theorem nr_35 (hW : ab_W A t) {σ : en_M} (hC : ab_Cs σ 0 A) {f r : Nat} (hf : f < aH A 3) (h1 : 1 ≤ r) (h9 : r ≤ 999) : ∀ d q F cur, q + d = aH A 5 → aH A 6 ≤ q → d < F → cur ≤ 1200 → r < cur → ∃ nx, k_pp_nextRate_35 F 0 (nI f) (nI r) (nI cur) (nI q) σ = some (nI nx) ∧ nx ≤ cur ∧ r < nx ∧ ∀ q', q ≤ q' → q' < aH A 5 → aS A q' 4 = 1 → aS A q' 7 < aS A q' 6 → aS A q' 0 = f → nx ≤ rg (ab_sz A q' (aS A q' 7)) r ∧ nx ≤ rg (ab_sz A q' (aS A q' 6 - 1)) r := by
  have hN := ab_N hW
  have c5 := hC.1.2.2.2.2.2.1
  intro d
  induction d with
  | zero =>
    intro q F cur e h6 hF hc hr
    obtain ⟨F, rfl⟩ : ∃ q, F = q + 1 := ⟨F - 1, by omega⟩
    refine ⟨cur, ?_, Nat.le_refl _, hr, fun q' z1 z2 => by omega⟩
    rw [k_pp_nextRate_35, c5, it_le (by omega) (by omega), if_pos (by omega)]
  | succ d ih =>
    intro q F cur e h6 hF hc hr
    obtain ⟨F, rfl⟩ : ∃ q, F = q + 1 := ⟨F - 1, by omega⟩
    have hw := ab_in_win hW h6 (show q < aH A 5 by omega)
    have hp := ab_pc hW hw
    obtain ⟨-, d1, -, -, -, -, d6, d7, -⟩ := hC.2 q hw
    have q0 := (hW.2.2.1 q hw).1
    have q2 := (hW.2.2.1 q hw).2.2.1.2
    have skip : ¬ (aS A q 4 = 1 ∧ aS A q 7 < aS A q 6 ∧ aS A q 0 = f) → ∃ nx, k_pp_nextRate_35 F 0 (nI f) (nI r) (nI cur) (nI (q + 1)) σ = some (nI nx) ∧ nx ≤ cur ∧ r < nx ∧ ∀ q', q ≤ q' → q' < aH A 5 → aS A q' 4 = 1 → aS A q' 7 < aS A q' 6 → aS A q' 0 = f → nx ≤ rg (ab_sz A q' (aS A q' 7)) r ∧ nx ≤ rg (ab_sz A q' (aS A q' 6 - 1)) r := fun hn => by
      obtain ⟨nx, x1, x2, x3, x4⟩ := ih (q + 1) F cur (by omega) (by omega) (by omega) hc hr
      refine ⟨nx, x1, x2, x3, fun q' z1 z2 z3 z4 z5 => ?_⟩
      by_cases e : q' = q
      · rw [e] at z3 z4 z5
        exact absurd ⟨z3, z4, z5⟩ hn
      · exact x4 q' (by omega) z2 z3 z4 z5
    rw [k_pp_nextRate_35, c5, it_le (by omega) (by omega), if_neg (by omega), ac_sendAt hC hW hw, pu_b1]
    simp only []
    rw [nI_1]
    by_cases hwt : aS A q 4 = 1 ∧ aS A q 7 < aS A q 6
    · have ew : k_sd_waits 0 (q % 8) σ = 1 := by rw [ac_waits hC hW hw, if_pos hwt]
      rw [ew, if_neg (show ¬ (1 : Int32) = 0 by decide), d1, it_eq (by omega) (by omega)]
      by_cases hq : aS A q 0 = f
      · have l1 := ab_sz_le (A := A) (n := q) (k := aS A q 7) q2
        have l2 := ab_sz_le (A := A) (n := q) (k := aS A q 6 - 1) q2
        have g1 := rg_gt (s := ab_sz A q (aS A q 7)) h1 h9
        have g2 := rg_gt (s := ab_sz A q (aS A q 6 - 1)) h1 h9
        have k1 := rg_le (r := r) l1
        have k2 := rg_le (r := r) l2
        rw [if_pos hq, d7, ac_size hC hW hw (by omega), rg_cls l1 h9, pu_b1, d6, show (1 : Int32) = nI 1 from rfl, pk_sub (by omega), ac_size hC hW hw (by omega), rg_cls l2 h9, pu_b1, nu_min (by omega) (by omega), nu_min (by omega) (by omega)]
        obtain ⟨nx, x1, x2, x3, x4⟩ := ih (q + 1) F (min (rg (ab_sz A q (aS A q 6 - 1)) r) (min (rg (ab_sz A q (aS A q 7)) r) cur)) (by omega) (by omega) (by omega) (by omega) (by omega)
        refine ⟨nx, x1, by omega, x3, fun q' z1 z2 z3 z4 z5 => ?_⟩
        by_cases e : q' = q
        · rw [e]
          omega
        · exact x4 q' (by omega) z2 z3 z4 z5
      · rw [if_neg hq]
        exact skip (fun z => hq z.2.2)
    · have ew : k_sd_waits 0 (q % 8) σ = 0 := by rw [ac_waits hC hW hw, if_neg hwt]
      rw [ew, if_pos rfl]
      exact skip (fun z => hwt ⟨z.1, z.2.1⟩)
theorem nr_all (hW : ab_W A t) {σ : en_M} (hC : ab_Cs σ 0 A) {f r : Nat} (hf : f < aH A 3) (h5 : σ 12 0 f 5 = nI (if aF A f 4 = 0 then 0 else aF A f 6)) (h1 : 1 ≤ r) (h9 : r ≤ 999) : ∃ nx, k_pp_nextRate 0 (nI f) (nI r) σ = some (nI nx) ∧ nx ≤ 1200 ∧ r < nx ∧ (aF A f 4 ≠ 0 → nx ≤ rg (aF A f 6) r) ∧ ∀ q', aH A 6 ≤ q' → q' < aH A 5 → aS A q' 4 = 1 → aS A q' 7 < aS A q' 6 → aS A q' 0 = f → nx ≤ rg (ab_sz A q' (aS A q' 7)) r ∧ nx ≤ rg (ab_sz A q' (aS A q' 6 - 1)) r := by
  have hN := ab_N hW
  have c6 := hC.1.2.2.2.2.2.2.1
  obtain ⟨-, -, -, -, w4, w5⟩ := hW.2.1 f hf
  obtain ⟨L, hL⟩ : ∃ L, (if aF A f 4 = 0 then 0 else aF A f 6) = L := ⟨_, rfl⟩
  have hL2 : L ≤ 112 := by
    rw [← hL]
    split
    · omega
    · exact (w5 (by omega)).2
  have g1 := rg_gt (s := L) h1 h9
  have k1 := rg_le (r := r) hL2
  rw [hL] at h5
  obtain ⟨nx, x1, x2, x3, x4⟩ := nr_35 hW hC hf h1 h9 (aH A 5 - aH A 6) (aH A 6) en_fu (rg L r) (by omega) (Nat.le_refl _) (by rw [en_fu]; omega) (by omega) g1
  refine ⟨nx, ?_, by omega, x3, fun z => ?_, x4⟩
  · rw [k_pp_nextRate, ac_flowIn hC hW hf, pu_b1]
    simp only []
    rw [h5, rg_cls hL2 h9, pu_b1, c6, x1, pu_b1]
  · rw [if_neg z] at hL
    rw [hL]
    exact x2
/-- rates by which all gaps of a flow are alike time alike -/
def rG (A : ab_A) (f r r' : Nat) : Prop := (aF A f 4 ≠ 0 → ab_gp (aF A f 6) r' = ab_gp (aF A f 6) r) ∧ ∀ n k, aH A 6 ≤ n → n < aH A 5 → aS A n 4 = 1 → aS A n 0 = f → aS A n 7 ≤ k → k < aS A n 6 → ab_gp (ab_sz A n k) r' = ab_gp (ab_sz A n k) r
theorem rG_of (hW : ab_W A t) {f r r' nx : Nat} (h1 : 1 ≤ r) (h : r ≤ r') (h2 : r' < nx) (hl : aF A f 4 ≠ 0 → nx ≤ rg (aF A f 6) r) (hs : ∀ q', aH A 6 ≤ q' → q' < aH A 5 → aS A q' 4 = 1 → aS A q' 7 < aS A q' 6 → aS A q' 0 = f → nx ≤ rg (ab_sz A q' (aS A q' 7)) r ∧ nx ≤ rg (ab_sz A q' (aS A q' 6 - 1)) r) : rG A f r r' := by
  refine ⟨fun z => rg_eq h1 h (by have := hl z; omega), fun n k z1 z2 z3 z4 z5 z6 => ?_⟩
  obtain ⟨y1, y2⟩ := hs n z1 z2 z3 (by omega) z4
  have hw := ab_in_win hW z1 z2
  by_cases e : k = aS A n 6 - 1
  · rw [e]
    exact rg_eq h1 h (by omega)
  · have full : ∀ i, i + 1 < aS A n 6 → ab_sz A n i = 12 + aS A n 2 := fun i hi => by
      have hu := (ab_pk hW hw (show i < aS A n 6 by omega)).2.1
      have := ab_up_mid (l := aS A n 1) (c := aS A n 2) (k := i) (by omega)
      rw [ab_sz]
      omega
    rw [full k (by omega), ← full (aS A n 7) (by omega)]
    exact rg_eq h1 h (by omega)
theorem rG_nk {f r r' : Nat} (hG : rG A f r r') {n : Nat} (h6 : aH A 6 ≤ n) (h5 : n < aH A 5) (h4 : aS A n 4 = 1) (hf : aS A n 0 = f) (v : Nat) : ∀ j, aS A n 7 + j ≤ aS A n 6 → ab_nk A r' n v j = ab_nk A r n v j := by
  intro j
  induction j with
  | zero => intro _; rfl
  | succ j ih =>
    intro hj
    rw [ab_nk, ab_nk, ih (by omega), hG.2 n (aS A n 7 + j) h6 h5 h4 hf (by omega) (by omega)]
theorem rG_ns {f r r' : Nat} (hG : rG A f r r') : ∀ m, aH A 6 + m ≤ aH A 5 → ab_ns A f r' m = ab_ns A f r m := by
  intro m
  induction m with
  | zero =>
    intro _
    rw [ab_ns, ab_ns, ab_in, ab_in]
    by_cases z : aF A f 4 = 0
    · rw [if_pos z, if_pos z]
    · rw [if_neg z, if_neg z, hG.1 z]
  | succ m ih =>
    intro hm
    have h1 := ih (by omega)
    rw [ab_ns, ab_ns, h1]
    by_cases z : aS A (aH A 6 + m) 4 = 1 ∧ aS A (aH A 6 + m) 7 < aS A (aH A 6 + m) 6 ∧ aS A (aH A 6 + m) 0 = f
    · rw [if_pos z, if_pos z, rG_nk hG (by omega) (by omega) z.1 z.2.2 _ _ (by omega)]
    · rw [if_neg z, if_neg z]
theorem rG_dp {f r r' : Nat} (hG : rG A f r r') {n k : Nat} (h6 : aH A 6 ≤ n) (h5 : n < aH A 5) (h4 : aS A n 4 = 1) (hf : aS A n 0 = f) (hk : aS A n 7 ≤ k) (hk2 : k < aS A n 6) : ab_dp A r' n k = ab_dp A r n k := by
  rw [ab_dp, ab_dp, hf, rG_ns hG _ (by omega), rG_nk hG h6 h5 h4 hf _ _ (by omega)]
/-- the card with another rate of a flow -/
def ra (A : ab_A) (f r : Nat) : ab_A := sF A (u2 (aF A) f 0 r)
theorem ra_F {f r f' w : Nat} (h : ¬ (f' = f ∧ w = 0)) : aF (ra A f r) f' w = aF A f' w := u2_n h
theorem ra_F0 {f r : Nat} : aF (ra A f r) f 0 = r := u2_s
theorem ra_W {f r : Nat} (hW : ab_W A t) (hr : r ≤ 999) : ab_W (ra A f r) t := ⟨hW.1, fun f' hf' => by
  have hx := hW.2.1 f' hf'
  rw [ra_F (w := 1) (by omega), ra_F (w := 2) (by omega), ra_F (w := 3) (by omega), ra_F (w := 4) (by omega), ra_F (w := 5) (by omega), ra_F (w := 6) (by omega)]
  refine ⟨?_, hx.2⟩
  by_cases e : f' = f
  · subst e
    rw [ra_F0]
    exact hr
  · rw [ra_F (by omega)]
    exact hx.1, hW.2.2⟩
theorem ra_M {f rt : Nat} {r r' : Nat → Int32} (hW : ab_W A t) (hf : f < aH A 3) (h : ab_MR r A) (hr : ∀ k, k ≠ 20 + 9 * f → r' k = r k) (h0 : r' (20 + 9 * f) = nI rt) : ab_MR r' (ra A f rt) := by
  have hN := ab_N hW
  refine MR_fl (A := A) (fun k _ hk => hr k (by omega)) ⟨rfl, rfl, rfl, rfl, rfl, rfl, rfl⟩ h (fun f' hf' => ?_) hW
  have hx := h.2.1 f' hf'
  have hf6 : f' < 6 := by
    have : f' < aH A 3 := hf'
    omega
  refine ⟨fun w hw => ?_, ?_, ?_, ?_⟩
  · by_cases e : f' = f ∧ w = 0
    · obtain ⟨rfl, rfl⟩ := e
      rw [ra_F0]
      exact h0
    · rw [ra_F e, hr _ (by omega)]
      exact hx.1 w hw
  · rw [ra_F (w := 4) (by omega), ra_F (w := 5) (by omega), ra_F (w := 6) (by omega), hr _ (by omega), hr _ (by omega)]
    exact hx.2.1
  · rw [hr _ (by omega)]
    exact hx.2.2.1
  · rw [hr _ (by omega)]
    exact hx.2.2.2
theorem ra_in {f r x : Nat} : pq_in (ra A f r) x ↔ pq_in A x := by
  have e : aF (ra A f r) (aS A (x / 64) 0) 2 = aF A (aS A (x / 64) 0) 2 := ra_F (by omega)
  constructor
  · intro h
    obtain ⟨h1, h2, h3, h4, h5, h6⟩ := h
    exact ⟨h1, h2, h3, by rw [← e]; exact h4, h5, h6⟩
  · intro h
    obtain ⟨h1, h2, h3, h4, h5, h6⟩ := h
    exact ⟨h1, h2, h3, e.trans h4, h5, h6⟩
theorem ra_dp {f r rt n k : Nat} : ab_dp (ra A f r) rt n k = ab_dp A rt n k := by
  refine dp_eq (A := A) (A' := ra A f r) rfl rfl ?_
  refine ns_eq (A := A) (A' := ra A f r) rfl ?_ _ (fun _ _ _ => rfl)
  simp only [ab_in]
  rw [ra_F (w := 4) (by omega), ra_F (w := 5) (by omega), ra_F (w := 6) (by omega)]
theorem ra_D {f r x : Nat} (h : aS A (x / 64) 0 = f) : pq_D (ra A f r) x = ab_dp A r (x / 64) (x % 64) := by
  rw [pq_D, ab_de]
  show ab_dp (ra A f r) (aF (ra A f r) (aS A (x / 64) 0) 0) _ _ = _
  rw [h, ra_F0, ra_dp]
theorem ra_D' {f r x : Nat} (h : aS A (x / 64) 0 ≠ f) : pq_D (ra A f r) x = pq_D A x := by
  rw [pq_D, pq_D, ab_de, ab_de]
  show ab_dp (ra A f r) (aF (ra A f r) (aS A (x / 64) 0) 0) _ _ = _
  rw [ra_F (fun z => h z.1), ra_dp]
theorem ra_pp {f r : Nat} {σ : en_M} (h : pp_C σ A) : pp_C σ (ra A f r) := ⟨h.1, fun f' hf' => by
  rw [ra_F (by omega)]
  exact h.2 f' hf'⟩
end prt

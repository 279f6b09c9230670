/-! The sum of all octets of a piece, one of them changed. -/
def fx_w (o x : Nat) : Nat := if o % 2 = 0 then 256 * x else x
def fx_s (f : Nat → Nat) : Nat → Nat
  | 0 => 0
  | j + 1 => fx_s f j + fx_w j (f j)
theorem fx_lo (f : Nat → Nat) (o v : Nat) : ∀ j, j ≤ o → fx_s (fun i => if i = o then v else f i) j = fx_s f j := by
  intro j
  induction j with
  | zero => intro _; rfl
  | succ j ih =>
    intro h
    rw [fx_s, fx_s, ih (by omega), if_neg (by omega)]
theorem fx_up (f : Nat → Nat) (o v : Nat) : ∀ d, fx_s (fun i => if i = o then v else f i) (o + 1 + d) + fx_w o (f o) = fx_s f (o + 1 + d) + fx_w o v := by
  intro d
  induction d with
  | zero =>
    rw [Nat.add_zero, fx_s, fx_s, fx_lo f o v o (Nat.le_refl _), if_pos rfl]
    omega
  | succ d ih =>
    rw [show o + 1 + (d + 1) = (o + 1 + d) + 1 by omega, fx_s, fx_s, if_neg (by omega)]
    omega
theorem oc_o_lt {A : ab_A} {t n k o : Nat} (hW : ab_W A t) (h : ab_win A n) (hk : k < aS A n 6) : oc_o A n k o < 256 := by
  have hc : oc_c A n k < 65536 := by rw [oc_c]; omega
  rw [oc_o]
  by_cases c : o < 12
  · rw [if_pos c]
    by_cases c5 : o / 2 = 5
    · rw [if_pos c5]
      split <;> omega
    · have := oc_w_lt hW h hk (w := o / 2) (by omega)
      rw [if_neg c5]
      split <;> omega
  · rw [if_neg c]
    exact oc_b_lt _ _ _
theorem fx_le {A : ab_A} {t n k : Nat} (hW : ab_W A t) (h : ab_win A n) (hk : k < aS A n 6) {o v : Nat} (hv : v < 256) : ∀ j, fx_s (fun i => if i = o then v else oc_o A n k i) j ≤ 65280 * j := by
  intro j
  induction j with
  | zero => exact Nat.le_refl _
  | succ j ih =>
    have := oc_o_lt (o := j) hW h hk
    rw [fx_s, fx_w]
    split <;> split <;> omega
theorem fx_b2 {A : ab_A} (n k : Nat) (hc : oc_c A n k < 65536) {w : Nat} (hw : w < 6) (hl : w < 5 → oc_w A n k w < 65536) : fx_s (oc_o A n k) (2 * (w + 1)) = fx_s (oc_o A n k) (2 * w) + (if w = 5 then oc_c A n k else oc_w A n k w) := by
  rw [show 2 * (w + 1) = 2 * w + 1 + 1 by omega, fx_s, fx_s, fx_w, fx_w, if_pos (show 2 * w % 2 = 0 by omega), if_neg (show ¬ (2 * w + 1) % 2 = 0 by omega), oc_o, oc_o, if_pos (show 2 * w < 12 by omega), if_pos (show 2 * w + 1 < 12 by omega), if_pos (show 2 * w % 2 = 0 by omega), if_neg (show ¬ (2 * w + 1) % 2 = 0 by omega), show 2 * w / 2 = w by omega, show (2 * w + 1) / 2 = w by omega]
  by_cases e : w = 5
  · rw [if_pos e]
    omega
  · rw [if_neg e]
    have := hl (by omega)
    omega
theorem fx_head {A : ab_A} {t n k : Nat} (hW : ab_W A t) (h : ab_win A n) (hk : k < aS A n 6) : fx_s (oc_o A n k) 12 = oc_h A n k 5 + oc_c A n k := by
  have hc : oc_c A n k < 65536 := by rw [oc_c]; omega
  have key : ∀ w, w < 6 → fx_s (oc_o A n k) (2 * (w + 1)) = fx_s (oc_o A n k) (2 * w) + (if w = 5 then oc_c A n k else oc_w A n k w) := fun w hw => fx_b2 n k hc hw (fun q => oc_w_lt hW h hk q)
  have k0 := key 0 (by decide)
  have k1 := key 1 (by decide)
  have k2 := key 2 (by decide)
  have k3 := key 3 (by decide)
  have k4 := key 4 (by decide)
  have k5 := key 5 (by decide)
  rw [if_neg (by decide)] at k0 k1 k2 k3 k4
  rw [if_pos rfl] at k5
  have e0 : fx_s (oc_o A n k) (2 * 0) = 0 := rfl
  rw [show (12 : Nat) = 2 * (5 + 1) from rfl, k5, show 2 * 5 = 2 * (4 + 1) from rfl, k4, show 2 * 4 = 2 * (3 + 1) from rfl, k3, show 2 * 3 = 2 * (2 + 1) from rfl, k2, show 2 * 2 = 2 * (1 + 1) from rfl, k1, show 2 * 1 = 2 * (0 + 1) from rfl, k0, e0]
  rfl
theorem fx_body {A : ab_A} (n k : Nat) : ∀ j, fx_s (oc_o A n k) (12 + j) = fx_s (oc_o A n k) 12 + oc_s A n (k * aS A n 2) j := by
  intro j
  induction j with
  | zero => rfl
  | succ j ih =>
    rw [show 12 + (j + 1) = 12 + j + 1 by omega, fx_s, ih, oc_s, fx_w, oc_o, if_neg (show ¬ 12 + j < 12 by omega), show k * aS A n 2 + (12 + j) - 12 = k * aS A n 2 + j by omega]
    by_cases e : j % 2 = 0
    · rw [if_pos (by omega), if_pos e]
      omega
    · rw [if_neg (by omega), if_neg e]
      omega
theorem fx_all {A : ab_A} {t n k : Nat} (hW : ab_W A t) (h : ab_win A n) (hk : k < aS A n 6) : fx_s (oc_o A n k) (ab_sz A n k) = oc_t A n k + oc_c A n k := by
  have hs12 : 12 ≤ ab_sz A n k := by rw [ab_sz]; omega
  have e := fx_body (A := A) n k (ab_sz A n k - 12)
  rw [show 12 + (ab_sz A n k - 12) = ab_sz A n k by omega, fx_head hW h hk] at e
  rw [e, oc_t]
  omega
theorem bt_shs {T v x : Nat} (hv : v < 256) (hx : x < 256) (hT : T < 2 ^ 25) (hle : 256 * x ≤ T + 256 * v) : nI T + (nI v - nI x) <<< (8 &&& 31) = nI (T + 256 * v - 256 * x) := by
  apply Int32.toBitVec_inj.mp
  apply BitVec.eq_of_toNat_eq
  show ((nI T).toBitVec + ((nI v).toBitVec - (nI x).toBitVec) <<< ((8 &&& 31 : Int32).toBitVec.smod 32)).toNat = _
  rw [show ((8 &&& 31 : Int32).toBitVec.smod 32) = 8#32 by decide, BitVec.shiftLeft_eq', BitVec.toNat_add, BitVec.toNat_shiftLeft, BitVec.toNat_sub, pk_tn (by omega), pk_tn (by omega), pk_tn (by omega), pk_tn (by omega), show (8#32).toNat = 8 from rfl, Nat.shiftLeft_eq]
  omega
theorem bt_ads {T v x : Nat} (hv : v < 256) (hx : x < 256) (hT : T < 2 ^ 25) (hle : x ≤ T + v) : nI T + (nI v - nI x) = nI (T + v - x) := by
  apply Int32.toBitVec_inj.mp
  apply BitVec.eq_of_toNat_eq
  rw [Int32.toBitVec_add, Int32.toBitVec_sub, BitVec.toNat_add, BitVec.toNat_sub, pk_tn (by omega), pk_tn (by omega), pk_tn (by omega), pk_tn (by omega)]
  omega
theorem fo_fs {V F : Nat} {σ : en_M} (h : V < 2 ^ 26) : k_mm_finds2_126 (F + 1) (nI V) σ = if V ≤ 65535 then some (nI V) else k_mm_finds2_126 F (nI (V / 65536 + V % 65536)) σ := by
  rw [k_mm_finds2_126, itx_le (a := V) (b := 65535) (y := 65535) rfl rfl (by omega) (by decide), show (65536 : Int32) = nI 65536 from rfl, pu_rem (by omega) (by decide) (by decide), pk_div (by omega) (by decide) (by omega), nI_add]
theorem fo_f {V : Nat} {σ : en_M} (h : V < 2 ^ 26) : k_mm_finds2_126 en_fu (nI V) σ = some (nI (oc_f (oc_f V))) := by
  obtain ⟨a1, a2⟩ := oc_ff h
  rw [show en_fu = (en_fu - 3) + 1 + 1 + 1 from rfl, fo_fs h]
  by_cases c : V ≤ 65535
  · have e : oc_f V = V := by rw [oc_f, if_pos c]
    rw [if_pos c, e, e]
  · have e : oc_f V = V / 65536 + V % 65536 := by rw [oc_f, if_neg c]
    rw [if_neg c, ← e, fo_fs (by omega)]
    generalize oc_f V = W at a1 a2 ⊢
    by_cases c2 : W ≤ 65535
    · rw [if_pos c2, oc_f, if_pos c2]
    · have e2 : oc_f W = W / 65536 + W % 65536 := by rw [oc_f, if_neg c2]
      rw [if_neg c2, ← e2, fo_fs (by omega), if_pos a2]
section fnd
variable {σ τ : en_M} {g t : Nat} {A : ab_A}
theorem fm_loop (hC : ab_Cs σ g A) (hM : ab_MR (τ 25 0 0) A) (hW : ab_W A t) {n k o v : Nat} (h : ab_win A n) (hk : k < aS A n 6) (hv : v < 256) : ∀ (d j F : Nat), j + d = ab_sz A n k → d < F → o < ab_sz A n k → k_mm_finds2_65 F (nI n) (nI k) (nI o) (nI v) (nI (fx_s (fun i => if i = o then v else oc_o A n k i) j)) (nI j) τ = some (nI (fx_s (fun i => if i = o then v else oc_o A n k i) (ab_sz A n k))) := by
  obtain ⟨b1, b2, b3, b4, b5, b6, b7, b8⟩ := oc_bd hW h hk
  have hs := ab_sz_le (A := A) (n := n) (k := k) b8.2
  have hsm := mo_sz hM hW h hk
  intro d
  induction d with
  | zero =>
    intro j F e hF ho
    obtain ⟨F, rfl⟩ : ∃ q, F = q + 1 := ⟨F - 1, by omega⟩
    rw [k_mm_finds2_65, hsm, pu_b1, it_le (by omega) (by omega), if_pos (by omega), show j = ab_sz A n k by omega]
  | succ d ih =>
    intro j F e hF ho
    obtain ⟨F, rfl⟩ : ∃ q, F = q + 1 := ⟨F - 1, by omega⟩
    have i1 := ih (j + 1) F (by omega) (by omega) ho
    rw [fx_s, fx_w] at i1
    rw [k_mm_finds2_65, hsm, pu_b1, it_le (by omega) (by omega), if_neg (by omega), it_eq (by omega) (by omega), show (2 : Int32) = nI 2 from rfl, pu_rem (by omega) (by decide) (by decide), (sm_oct hC hM hW h hk (o := j) (by omega)).2, pu_b1, itx_eq (a := j % 2) (b := 0) (y := 0) rfl rfl (by omega) (by decide), itx_eq (a := j % 2) (b := 0) (y := 0) rfl rfl (by omega) (by decide), show (256 : Int32) = nI 256 from rfl, pk_mul, pk_mul, nI_add, nI_add, nI_add, nI_add, nI_1]
    by_cases c1 : j = o
    · rw [if_pos c1]
      rw [if_pos c1] at i1
      by_cases c : j % 2 = 0
      · rw [if_pos c] at i1 ⊢
        exact i1
      · rw [if_neg c] at i1 ⊢
        exact i1
    · rw [if_neg c1]
      rw [if_neg c1] at i1
      by_cases c : j % 2 = 0
      · rw [if_pos c] at i1 ⊢
        exact i1
      · rw [if_neg c] at i1 ⊢
        exact i1
/-- the sum with the changed octet -/
noncomputable def fx_v (A : ab_A) (n k o v : Nat) : Nat := fx_s (fun i => if i = o then v else oc_o A n k i) (ab_sz A n k)
theorem fx_v_eq (hW : ab_W A t) {n k o v : Nat} (h : ab_win A n) (hk : k < aS A n 6) (hv : v < 256) (ho : o < ab_sz A n k) : fx_v A n k o v + fx_w o (oc_o A n k o) = oc_t A n k + oc_c A n k + fx_w o v ∧ fx_v A n k o v < 2 ^ 24 := by
  obtain ⟨b1, b2, b3, b4, b5, b6, b7, b8⟩ := oc_bd hW h hk
  have hs := ab_sz_le (A := A) (n := n) (k := k) b8.2
  have h1 := fx_up (oc_o A n k) o v (ab_sz A n k - (o + 1))
  rw [show o + 1 + (ab_sz A n k - (o + 1)) = ab_sz A n k by omega, fx_all hW h hk] at h1
  have h2 := fx_le hW h hk (o := o) hv (ab_sz A n k)
  refine ⟨h1, ?_⟩
  rw [fx_v]
  omega
theorem fc_found (hC : ab_Cs σ g A) (hM : ab_MR (τ 25 0 0) A) (hW : ab_W A t) {n k o v : Nat} (h : ab_win A n) (hk : k < aS A n 6) (hv : v < 256) (ho : o < ab_sz A n k) : k_sd_isFound g (n % 8) (nI k) (nI o) (nI v) σ = some (if oc_f (oc_f (fx_v A n k o v)) = 65535 then 0 else 1) := by
  obtain ⟨b1, b2, b3, b4, b5, b6, b7, b8⟩ := oc_bd hW h hk
  have hs := ab_sz_le (A := A) (n := n) (k := k) b8.2
  have hol := oc_o_lt (o := o) hW h hk
  have htl := oc_t_lt hW h hk
  have hc : oc_c A n k < 65536 := by rw [oc_c]; omega
  obtain ⟨e1, e2⟩ := fx_v_eq hW h hk hv ho
  have hf := (oc_ff (show fx_v A n k o v < 2 ^ 26 by omega)).2
  rw [k_sd_isFound, (sm_oct hC hM hW h hk ho).1, pu_b1, sm_plain hC hM hW h hk, pu_b1, sm_sum hC hM hW h hk, pu_b1, show (2 : Int32) = nI 2 from rfl, pu_rem (by omega) (by decide) (by decide), itx_eq (a := o % 2) (b := 0) (y := 0) rfl rfl (by omega) (by decide), nI_add]
  rw [fx_w, fx_w] at e1
  by_cases c : o % 2 = 0
  · rw [if_pos c, if_pos c] at e1
    rw [if_pos c, bt_shs hv hol (by omega) (by omega), show oc_t A n k + oc_c A n k + 256 * v - 256 * oc_o A n k o = fx_v A n k o v by omega, fo_c (by omega), pu_b1, itx_eq (b := 65535) (y := 65535) rfl rfl (by omega) (by decide)]
    split <;> rfl
  · rw [if_neg c, if_neg c] at e1
    rw [if_neg c, bt_ads hv hol (by omega) (by omega), show oc_t A n k + oc_c A n k + v - oc_o A n k o = fx_v A n k o v by omega, fo_c (by omega), pu_b1, itx_eq (b := 65535) (y := 65535) rfl rfl (by omega) (by decide)]
    split <;> rfl
end fnd

/-! Sums folded; octets. -/
def oc_f (V : Nat) : Nat := if V ≤ 65535 then V else V / 65536 + V % 65536
theorem oc_ff {V : Nat} (h : V < 2 ^ 26) : oc_f V ≤ 66558 ∧ oc_f (oc_f V) ≤ 65535 := by
  have h1 : oc_f V ≤ 66558 := by
    rw [oc_f]
    split <;> omega
  refine ⟨h1, ?_⟩
  generalize oc_f V = W at h1 ⊢
  rw [oc_f]
  split <;> omega
theorem fo_step {V i F : Nat} {σ : en_M} (h : V < 2 ^ 26) (hi : i < 4) : k_sd_folded_4 (F + 1) (nI V) (nI i) σ = if V ≤ 65535 then some (nI V) else k_sd_folded_4 F (nI (V / 65536 + V % 65536)) (nI (i + 1)) σ := by
  rw [k_sd_folded_4, itx_le (a := 4) (b := i) (x := 4) rfl rfl (by decide) (by omega), if_neg (by omega), itx_le (a := V) (b := 65535) (y := 65535) rfl rfl (by omega) (by decide), bt_shr16 (by omega), bt_and16 (by omega), nI_add, nI_1]
theorem fo_c {V : Nat} {σ : en_M} (h : V < 2 ^ 26) : k_sd_folded (nI V) σ = some (nI (oc_f (oc_f V))) := by
  obtain ⟨a1, a2⟩ := oc_ff h
  have key : k_sd_folded_4 en_fu (nI V) 0 σ = some (nI (oc_f (oc_f V))) := by
    rw [show en_fu = (en_fu - 3) + 1 + 1 + 1 from rfl, show (0 : Int32) = nI 0 from rfl, fo_step h (by decide)]
    by_cases c : V ≤ 65535
    · have e : oc_f V = V := by rw [oc_f, if_pos c]
      rw [if_pos c, e, e]
    · have e : oc_f V = V / 65536 + V % 65536 := by rw [oc_f, if_neg c]
      rw [if_neg c, ← e, fo_step (by omega) (by decide)]
      generalize oc_f V = W at a1 a2 ⊢
      by_cases c2 : W ≤ 65535
      · rw [if_pos c2, oc_f, if_pos c2]
      · have e2 : oc_f W = W / 65536 + W % 65536 := by rw [oc_f, if_neg c2]
        rw [if_neg c2, ← e2, fo_step (by omega) (by decide), if_pos a2]
  rw [k_sd_folded, key, pu_b1]
theorem fo_ms {V F : Nat} {σ : en_M} (h : V < 2 ^ 26) : k_mm_sumOf_95 (F + 1) (nI V) σ = if V ≤ 65535 then some (nI V) else k_mm_sumOf_95 F (nI (V / 65536 + V % 65536)) σ := by
  rw [k_mm_sumOf_95, itx_le (a := V) (b := 65535) (y := 65535) rfl rfl (by omega) (by decide), show (65536 : Int32) = nI 65536 from rfl, pu_rem (by omega) (by decide) (by decide), pk_div (by omega) (by decide) (by omega), nI_add]
theorem fo_m {V : Nat} {σ : en_M} (h : V < 2 ^ 26) : k_mm_sumOf_95 en_fu (nI V) σ = some (nI (oc_f (oc_f V))) := by
  obtain ⟨a1, a2⟩ := oc_ff h
  rw [show en_fu = (en_fu - 3) + 1 + 1 + 1 from rfl, fo_ms h]
  by_cases c : V ≤ 65535
  · have e : oc_f V = V := by rw [oc_f, if_pos c]
    rw [if_pos c, e, e]
  · have e : oc_f V = V / 65536 + V % 65536 := by rw [oc_f, if_neg c]
    rw [if_neg c, ← e, fo_ms (by omega)]
    generalize oc_f V = W at a1 a2 ⊢
    by_cases c2 : W ≤ 65535
    · rw [if_pos c2, oc_f, if_pos c2]
    · have e2 : oc_f W = W / 65536 + W % 65536 := by rw [oc_f, if_neg c2]
      rw [if_neg c2, ← e2, fo_ms (by omega), if_pos a2]
def oc_t (A : ab_A) (n k : Nat) : Nat := oc_h A n k 5 + oc_s A n (k * aS A n 2) (ab_sz A n k - 12)
def oc_c (A : ab_A) (n k : Nat) : Nat := 65535 - oc_f (oc_f (oc_t A n k))
def oc_o (A : ab_A) (n k o : Nat) : Nat := if o < 12 then (if o % 2 = 0 then (if o / 2 = 5 then oc_c A n k else oc_w A n k (o / 2)) / 256 else (if o / 2 = 5 then oc_c A n k else oc_w A n k (o / 2)) % 256) else oc_b A n (k * aS A n 2 + o - 12)
section osm
variable {σ τ : en_M} {g t : Nat} {A : ab_A}
theorem oc_t_lt (hW : ab_W A t) {n k : Nat} (h : ab_win A n) (hk : k < aS A n 6) : oc_t A n k < 2 ^ 23 := by
  obtain ⟨b1, b2, b3, b4, b5, b6, b7, b8⟩ := oc_bd hW h hk
  have hs := ab_sz_le (A := A) (n := n) (k := k) b8.2
  have h1 := oc_h_le hW h hk 5 (by omega)
  have h2 := oc_s_le A n (k * aS A n 2) (ab_sz A n k - 12)
  rw [oc_t]
  omega
theorem sm_plain (hC : ab_Cs σ g A) (hM : ab_MR (τ 25 0 0) A) (hW : ab_W A t) {n k : Nat} (h : ab_win A n) (hk : k < aS A n 6) : k_sd_plainSum g (n % 8) (nI k) σ = some (nI (oc_t A n k)) := by
  obtain ⟨b1, b2, b3, b4, b5, b6, b7, b8⟩ := oc_bd hW h hk
  have hs := ab_sz_le (A := A) (n := n) (k := k) b8.2
  have hs12 : 12 ≤ ab_sz A n k := by rw [ab_sz]; omega
  have h1 := (sm_h hC hM hW h hk 5 0 en_fu (by omega) (by rw [en_fu]; omega)).1
  have h2 := sm_c hC hW h hk (oc_h A n k 5) ((ab_sz A n k - 12 + 1) / 2) 0 en_fu (by omega) (by rw [en_fu]; omega)
  rw [show min (ab_sz A n k - 12) (2 * 0) = 0 by omega] at h2
  have h2' : k_sd_plainSum_38 en_fu g (n % 8) (nI k) (nI (oc_h A n k 5)) (nI ((ab_sz A n k + 1) / 2)) 6 σ = some (nI (oc_t A n k)) := h2
  have h1' : k_sd_plainSum_4 en_fu g (n % 8) (nI k) 0 0 σ = some (nI (oc_h A n k 5)) := h1
  rw [k_sd_plainSum, h1', pu_b1, ac_size hC hW h hk, nI_1, show (2 : Int32) = nI 2 from rfl, pk_div (by omega) (by decide) (by omega), h2', pu_b1]
theorem sm_sum (hC : ab_Cs σ g A) (hM : ab_MR (τ 25 0 0) A) (hW : ab_W A t) {n k : Nat} (h : ab_win A n) (hk : k < aS A n 6) : k_sd_sumOf g (n % 8) (nI k) σ = some (nI (oc_c A n k)) := by
  have ht := oc_t_lt hW h hk
  have hf := (oc_ff (show oc_t A n k < 2 ^ 26 by omega)).2
  rw [k_sd_sumOf, sm_plain hC hM hW h hk, pu_b1, fo_c (by omega), pu_b1, show (65535 : Int32) = nI 65535 from rfl, pk_sub hf, oc_c]
theorem sm_summ (hC : ab_Cs σ g A) (hM : ab_MR (τ 25 0 0) A) (hW : ab_W A t) {n k : Nat} (h : ab_win A n) (hk : k < aS A n 6) : k_mm_sumOf (nI n) (nI k) τ = some (nI (oc_c A n k)) := by
  obtain ⟨b1, b2, b3, b4, b5, b6, b7, b8⟩ := oc_bd hW h hk
  have hs := ab_sz_le (A := A) (n := n) (k := k) b8.2
  have ht := oc_t_lt hW h hk
  have hf := (oc_ff (show oc_t A n k < 2 ^ 26 by omega)).2
  have h1 : k_mm_sumOf_5 en_fu (nI n) (nI k) 0 0 τ = some (nI (oc_h A n k 5)) := (sm_h hC hM hW h hk 5 0 en_fu (by omega) (by rw [en_fu]; omega)).2
  have h2 : k_mm_sumOf_41 en_fu (nI n) (nI k) (nI (oc_h A n k 5)) (nI (k * aS A n 2)) 0 τ = some (nI (oc_t A n k)) := sm_m hM hW h hk (oc_h A n k 5) (ab_sz A n k - 12) 0 en_fu (by omega) (by rw [en_fu]; omega)
  rw [k_mm_sumOf, h1, pu_b1, mo_snd hM hW (x := 2) (w := 2) rfl h (by decide), pu_b1, pk_mul, h2, pu_b1, fo_m (by omega), pu_b1, show (65535 : Int32) = nI 65535 from rfl, pk_sub hf, oc_c]
theorem sm_oct (hC : ab_Cs σ g A) (hM : ab_MR (τ 25 0 0) A) (hW : ab_W A t) {n k o : Nat} (h : ab_win A n) (hk : k < aS A n 6) (ho : o < ab_sz A n k) : k_sd_octetOf g (n % 8) (nI k) (nI o) σ = some (nI (oc_o A n k o)) ∧ k_mm_byteIn (nI n) (nI k) (nI o) τ = some (nI (oc_o A n k o)) := by
  obtain ⟨b1, b2, b3, b4, b5, b6, b7, b8⟩ := oc_bd hW h hk
  have hs := ab_sz_le (A := A) (n := n) (k := k) b8.2
  have hc : oc_c A n k < 65536 := by rw [oc_c]; omega
  rw [k_sd_octetOf, itx_le (a := 12) (b := o) (x := 12) rfl rfl (by decide) (by omega), itx_le (a := 10) (b := o) (x := 10) rfl rfl (by decide) (by omega), k_mm_byteIn, itx_lt (a := o) (b := 12) (y := 12) rfl rfl (by omega) (by decide), show (2 : Int32) = nI 2 from rfl, pu_rem (by omega) (by decide) (by decide), pk_div (by omega) (by decide) (by omega), oc_o]
  by_cases c : o < 12
  · rw [if_neg (by omega), if_pos c, if_pos c, itx_eq (a := o / 2) (b := 5) (y := 5) rfl rfl (by omega) (by decide)]
    by_cases c5 : o / 2 = 5
    · rw [if_pos (show 10 ≤ o by omega), if_pos c5, sm_sum hC hM hW h hk, sm_summ hC hM hW h hk, pu_b1, pu_b1, bt_shr8 (by omega), bt_and8 (by omega), show (256 : Int32) = nI 256 from rfl, pu_rem (by omega) (by decide) (by decide), pk_div (by omega) (by decide) (by omega), itx_eq (a := o % 2) (b := 0) (y := 0) rfl rfl (by omega) (by decide)]
      by_cases e : o % 2 = 0
      · simp only [if_pos e, if_pos c5, and_self]
      · simp only [if_neg e, if_pos c5, and_self]
    · have hwl := oc_w_lt hW h hk (w := o / 2) (by omega)
      rw [if_neg (show ¬ 10 ≤ o by omega), if_neg c5, oc_head hC hW h hk (by omega), oc_headm hM hW h hk (by omega), pu_b1, bt_shr8 (by omega), bt_and8 (by omega), show (256 : Int32) = nI 256 from rfl, pu_rem (by omega) (by decide) (by decide), pk_div (by omega) (by decide) (by omega), itx_eq (a := o % 2) (b := 0) (y := 0) rfl rfl (by omega) (by decide)]
      by_cases e : o % 2 = 0
      · simp only [if_pos e, if_neg c5, and_self]
      · simp only [if_neg e, if_neg c5, and_self]
  · rw [if_pos (show 12 ≤ o by omega), if_neg c, if_neg c, oc_body hC hW h hk (by omega) (by omega), mo_snd hM hW (x := nI 2) (w := 2) rfl h (by decide), pu_b1, pk_mul, nI_add, show (12 : Int32) = nI 12 from rfl, pk_sub (by omega), oc_bodym hM hW h (by omega), pu_b1]
    exact ⟨rfl, rfl⟩
end osm

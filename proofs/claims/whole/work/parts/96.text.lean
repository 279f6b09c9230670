/-! Texts: runs of bytes. -/
def tx_r (P : Nat → Bool) (B : Nat → Nat) : Nat → Nat → Nat
  | 0, p => p
  | d + 1, p => if P (B p) then tx_r P B d (p + 1) else p
def tx_run (P : Nat → Bool) (B : Nat → Nat) (l p : Nat) : Nat := tx_r P B (l - p) p
def tx_bl (b : Nat) : Bool := b == 32
def tx_lt (b : Nat) : Bool := Nat.ble 97 b && Nat.ble b 122
def tx_dg (b : Nat) : Bool := Nat.ble 48 b && Nat.ble b 57
theorem tx_go {P : Nat → Bool} {B : Nat → Nat} {l p : Nat} (h : p < l) (hP : P (B p) = true) : tx_run P B l p = tx_run P B l (p + 1) := by
  rw [tx_run, show l - p = (l - (p + 1)) + 1 by omega, tx_r, if_pos hP, tx_run]
theorem tx_no {P : Nat → Bool} {B : Nat → Nat} {l p : Nat} (hP : ¬ P (B p) = true) : tx_run P B l p = p := by
  rw [tx_run]
  cases l - p with
  | zero => rfl
  | succ d => rw [tx_r, if_neg hP]
theorem tx_end {P : Nat → Bool} {B : Nat → Nat} {l p : Nat} (h : l ≤ p) : tx_run P B l p = p := by
  rw [tx_run, show l - p = 0 by omega]
  rfl
theorem tx_rb {P : Nat → Bool} {B : Nat → Nat} {l : Nat} : ∀ d p, p + d = l → p ≤ tx_run P B l p ∧ tx_run P B l p ≤ l ∧ (∀ i, p ≤ i → i < tx_run P B l p → P (B i) = true) ∧ (tx_run P B l p < l → ¬ P (B (tx_run P B l p)) = true) := by
  intro d
  induction d with
  | zero =>
    intro p e
    rw [tx_end (by omega)]
    exact ⟨Nat.le_refl _, by omega, fun i a b => by omega, fun h => by omega⟩
  | succ d ih =>
    intro p e
    by_cases hP : P (B p) = true
    · rw [tx_go (by omega) hP]
      obtain ⟨a1, a2, a3, a4⟩ := ih (p + 1) (by omega)
      refine ⟨by omega, a2, fun i b1 b2 => ?_, a4⟩
      by_cases c : i = p
      · rw [c]; exact hP
      · exact a3 i (by omega) b2
    · rw [tx_no hP]
      exact ⟨Nat.le_refl _, by omega, fun i a b => by omega, fun _ => hP⟩
theorem tx_bd {P : Nat → Bool} {B : Nat → Nat} {l p : Nat} (h : p ≤ l) : p ≤ tx_run P B l p ∧ tx_run P B l p ≤ l ∧ (∀ i, p ≤ i → i < tx_run P B l p → P (B i) = true) ∧ (tx_run P B l p < l → ¬ P (B (tx_run P B l p)) = true) := tx_rb (l - p) p (by omega)
theorem tx_idem {P : Nat → Bool} {B : Nat → Nat} {l p : Nat} (h : p ≤ l) : tx_run P B l (tx_run P B l p) = tx_run P B l p := by
  obtain ⟨a1, a2, a3, a4⟩ := tx_bd (P := P) (B := B) h
  by_cases c : tx_run P B l p < l
  · exact tx_no (a4 c)
  · exact tx_end (by omega)
/-- the thing that begins at b: 0 the end, 1 a word, 2 a number, 3 another sign -/
def tx_k (B : Nat → Nat) (l b : Nat) : Nat := if l ≤ b then 0 else if tx_lt (B b) then 1 else if tx_dg (B b) then 2 else 3
/-- where it ends -/
def tx_a (B : Nat → Nat) (l b : Nat) : Nat := if l ≤ b then b else if tx_lt (B b) then tx_run tx_lt B l b else if tx_dg (B b) then tx_run tx_dg B l b else b + 1
def tx_C (σ : en_M) (B : Nat → Nat) (l : Nat) : Prop := l ≤ 400 ∧ σ 20 0 0 1 = nI l ∧ ∀ i, i < l → B i < 256 ∧ σ 21 0 0 i = (nI (B i)).toInt8.toInt32
def tx_M (τ : en_M) (B : Nat → Nat) (l : Nat) : Prop := l ≤ 400 ∧ τ 24 0 0 10 = nI l ∧ ∀ i, i < l → B i < 256 ∧ τ 29 0 0 i = nI (B i)
def tx_ct (σ : en_M) (B : Nat → Nat) (l b : Nat) : Prop := σ 20 0 0 3 = nI b ∧ σ 20 0 0 2 = nI (tx_k B l b) ∧ σ 20 0 0 4 = nI (tx_a B l b)
/-- only where one reads has changed -/
def tp_f (σ s : en_M) : Prop := (∀ j, j ≠ 20 → s j = σ j) ∧ s 20 0 0 1 = σ 20 0 0 1 ∧ s 20 0 0 5 = σ 20 0 0 5
theorem tp_f_rf (σ : en_M) : tp_f σ σ := ⟨fun _ _ => rfl, rfl, rfl⟩
theorem tp_f_tr {a b c : en_M} (h : tp_f a b) (h2 : tp_f b c) : tp_f a c := ⟨fun j q => by rw [h2.1 j q, h.1 j q], by rw [h2.2.1, h.2.1], by rw [h2.2.2, h.2.2]⟩
theorem tp_f_wr {σ : en_M} {k : Nat} {v : Int32} (h1 : k ≠ 1) (h5 : k ≠ 5) : tp_f σ (en_wr σ 20 0 0 k v) := ⟨fun j q => by rw [pu_wr_j q], by rw [pu_wr_k (Ne.symm h1)], by rw [pu_wr_k (Ne.symm h5)]⟩
theorem tx_C_f {σ s : en_M} {B : Nat → Nat} {l : Nat} (h : tx_C σ B l) (hf : tp_f σ s) : tx_C s B l := ⟨h.1, by rw [hf.2.1]; exact h.2.1, by rw [hf.1 21 (by decide)]; exact h.2.2⟩
theorem tp_and {b : Nat} (hb : b < 256) : (nI b).toInt8.toInt32 &&& 255 = nI b := by
  apply Int32.toBitVec_inj.mp
  rw [Int32.toBitVec_and]
  show (((nI b).toBitVec.signExtend 8).signExtend 32) &&& 255#32 = _
  apply BitVec.eq_of_getLsbD_eq
  intro i hi
  rw [BitVec.getLsbD_and, BitVec.getLsbD_signExtend, BitVec.getLsbD_signExtend]
  by_cases h8 : i < 8
  · have h255 : (255#32).getLsbD i = true := by
      rcases (show i = 0 ∨ i = 1 ∨ i = 2 ∨ i = 3 ∨ i = 4 ∨ i = 5 ∨ i = 6 ∨ i = 7 by omega) with rfl | rfl | rfl | rfl | rfl | rfl | rfl | rfl <;> decide
    have h32 : i < 32 := by omega
    simp [h255, h8, h32, hi]
  · have h255 : (255#32).getLsbD i = false := by
      rw [show (255#32) = BitVec.ofNat 32 (2 ^ 8 - 1) from rfl, BitVec.getLsbD_ofNat, Nat.testBit_two_pow_sub_one]
      simp [h8]
    have hn : (nI b).toBitVec.getLsbD i = false := by
      rw [BitVec.getLsbD, pk_tn (by omega)]
      exact Nat.testBit_lt_two_pow (Nat.lt_of_lt_of_le (show b < 2 ^ 8 from hb) (Nat.pow_le_pow_right (n := 2) (by decide) (show 8 ≤ i by omega)))
    rw [h255, hn, Bool.and_false]
section tpc
variable {σ : en_M} {B : Nat → Nat} {l : Nat}
theorem tp_byte (h : tx_C σ B l) {i : Nat} (hi : i < l) : k_tp_byteAt (nI i) σ = some (nI (B i)) := by
  obtain ⟨h1, h2, h3⟩ := h
  obtain ⟨b1, b2⟩ := h3 i hi
  rw [k_tp_byteAt, it_neg (by omega), h2, it_le (by omega) (by omega), if_neg (by omega), itx_lt (a := i) (b := 400) (y := 400) rfl rfl (by omega) (by decide), if_pos (by omega), pu_rd (by omega) (by decide), pu_b1, b2, tp_and b1]
theorem tp_lt {b : Nat} (hb : b < 256) : (k_tp_isLetter (nI b) = 0) = ¬ tx_lt b = true := by
  rw [k_tp_isLetter, itx_lt (a := b) (b := 97) (y := 97) rfl rfl (by omega) (by decide), itx_lt (a := 122) (b := b) (x := 122) rfl rfl (by decide) (by omega), tx_lt, Bool.and_eq_true, Nat.ble_eq, Nat.ble_eq]
  by_cases h1 : b < 97
  · rw [if_pos h1]
    exact propext ⟨fun _ => by omega, fun _ => rfl⟩
  · rw [if_neg h1]
    by_cases h2 : 122 < b
    · rw [if_pos h2]
      exact propext ⟨fun _ => by omega, fun _ => rfl⟩
    · rw [if_neg h2]
      exact propext ⟨fun h => absurd h (by decide), fun h => absurd ⟨by omega, by omega⟩ h⟩
theorem tp_dg {b : Nat} (hb : b < 256) : (k_tp_isDigit (nI b) = 0) = ¬ tx_dg b = true := by
  rw [k_tp_isDigit, itx_lt (a := b) (b := 48) (y := 48) rfl rfl (by omega) (by decide), itx_lt (a := 57) (b := b) (x := 57) rfl rfl (by decide) (by omega), tx_dg, Bool.and_eq_true, Nat.ble_eq, Nat.ble_eq]
  by_cases h1 : b < 48
  · rw [if_pos h1]
    exact propext ⟨fun _ => by omega, fun _ => rfl⟩
  · rw [if_neg h1]
    by_cases h2 : 57 < b
    · rw [if_pos h2]
      exact propext ⟨fun _ => by omega, fun _ => rfl⟩
    · rw [if_neg h2]
      exact propext ⟨fun h => absurd h (by decide), fun h => absurd ⟨by omega, by omega⟩ h⟩
theorem tp_8 : ∀ d p F (σ : en_M), tx_C σ B l → σ 20 0 0 3 = nI p → p + d = l → d < F → ∃ s, k_tp_advance_8 F σ = some s ∧ s 20 0 0 3 = nI (tx_run tx_bl B l p) ∧ s 20 0 0 4 = σ 20 0 0 4 ∧ tp_f σ s := by
  intro d
  induction d with
  | zero =>
    intro p F σ h h3 e hF
    obtain ⟨F, rfl⟩ : ∃ q, F = q + 1 := ⟨F - 1, by omega⟩
    have h400 := h.1
    refine ⟨σ, ?_, by rw [tx_end (by omega)]; exact h3, rfl, tp_f_rf σ⟩
    rw [k_tp_advance_8, h3, h.2.1, it_le (by omega) (by omega), if_pos (by omega)]
  | succ d ih =>
    intro p F σ h h3 e hF
    obtain ⟨F, rfl⟩ : ∃ q, F = q + 1 := ⟨F - 1, by omega⟩
    have h400 := h.1
    have hb := (h.2.2 p (by omega)).1
    rw [k_tp_advance_8, h3, h.2.1, it_le (by omega) (by omega), if_neg (by omega), tp_byte h (by omega), pu_b1, itx_eq (a := B p) (b := 32) (y := 32) rfl rfl (by omega) (by decide), pu_let, nI_1]
    by_cases c : B p = 32
    · rw [if_pos c]
      have hP : tx_bl (B p) = true := by rw [tx_bl, c]; rfl
      obtain ⟨s, s1, s2, s3, s4⟩ := ih (p + 1) F (en_wr σ 20 0 0 3 (nI (p + 1))) (tx_C_f h (tp_f_wr (by decide) (by decide))) pu_wr_eq (by omega) (by omega)
      exact ⟨s, s1, by rw [tx_go (by omega) hP]; exact s2, by rw [s3, pu_wr_k (by decide)], tp_f_tr (tp_f_wr (by decide) (by decide)) s4⟩
    · rw [if_neg c]
      have hP : ¬ tx_bl (B p) = true := by
        rw [tx_bl, beq_iff_eq]
        exact c
      exact ⟨σ, rfl, by rw [tx_no hP]; exact h3, rfl, tp_f_rf σ⟩
theorem tp_91 : ∀ d p F (σ : en_M), tx_C σ B l → σ 20 0 0 4 = nI p → p + d = l → d < F → ∃ s, k_tp_advance_91 F σ = some s ∧ s 20 0 0 4 = nI (tx_run tx_lt B l p) ∧ s 20 0 0 3 = σ 20 0 0 3 ∧ s 20 0 0 2 = σ 20 0 0 2 ∧ tp_f σ s := by
  intro d
  induction d with
  | zero =>
    intro p F σ h h3 e hF
    obtain ⟨F, rfl⟩ : ∃ q, F = q + 1 := ⟨F - 1, by omega⟩
    have h400 := h.1
    refine ⟨σ, ?_, by rw [tx_end (by omega)]; exact h3, rfl, rfl, tp_f_rf σ⟩
    rw [k_tp_advance_91, h3, h.2.1, it_le (by omega) (by omega), if_pos (by omega)]
  | succ d ih =>
    intro p F σ h h3 e hF
    obtain ⟨F, rfl⟩ : ∃ q, F = q + 1 := ⟨F - 1, by omega⟩
    have h400 := h.1
    have hb := (h.2.2 p (by omega)).1
    rw [k_tp_advance_91, h3, h.2.1, it_le (by omega) (by omega), if_neg (by omega), tp_byte h (by omega), pu_b1, pu_let, nI_1]
    by_cases c : tx_lt (B p) = true
    · rw [if_neg (by rw [tp_lt hb]; exact fun q => q c)]
      obtain ⟨s, s1, s2, s3, s4, s5⟩ := ih (p + 1) F (en_wr σ 20 0 0 4 (nI (p + 1))) (tx_C_f h (tp_f_wr (by decide) (by decide))) pu_wr_eq (by omega) (by omega)
      exact ⟨s, s1, by rw [tx_go (by omega) c]; exact s2, by rw [s3, pu_wr_k (by decide)], by rw [s4, pu_wr_k (by decide)], tp_f_tr (tp_f_wr (by decide) (by decide)) s5⟩
    · rw [if_pos (by rw [tp_lt hb]; exact c)]
      exact ⟨σ, rfl, by rw [tx_no c]; exact h3, rfl, rfl, tp_f_rf σ⟩
theorem tp_148 : ∀ d p F (σ : en_M), tx_C σ B l → σ 20 0 0 4 = nI p → p + d = l → d < F → ∃ s, k_tp_advance_148 F σ = some s ∧ s 20 0 0 4 = nI (tx_run tx_dg B l p) ∧ s 20 0 0 3 = σ 20 0 0 3 ∧ s 20 0 0 2 = σ 20 0 0 2 ∧ tp_f σ s := by
  intro d
  induction d with
  | zero =>
    intro p F σ h h3 e hF
    obtain ⟨F, rfl⟩ : ∃ q, F = q + 1 := ⟨F - 1, by omega⟩
    have h400 := h.1
    refine ⟨σ, ?_, by rw [tx_end (by omega)]; exact h3, rfl, rfl, tp_f_rf σ⟩
    rw [k_tp_advance_148, h3, h.2.1, it_le (by omega) (by omega), if_pos (by omega)]
  | succ d ih =>
    intro p F σ h h3 e hF
    obtain ⟨F, rfl⟩ : ∃ q, F = q + 1 := ⟨F - 1, by omega⟩
    have h400 := h.1
    have hb := (h.2.2 p (by omega)).1
    rw [k_tp_advance_148, h3, h.2.1, it_le (by omega) (by omega), if_neg (by omega), tp_byte h (by omega), pu_b1, pu_let, nI_1]
    by_cases c : tx_dg (B p) = true
    · rw [if_neg (by rw [tp_dg hb]; exact fun q => q c)]
      obtain ⟨s, s1, s2, s3, s4, s5⟩ := ih (p + 1) F (en_wr σ 20 0 0 4 (nI (p + 1))) (tx_C_f h (tp_f_wr (by decide) (by decide))) pu_wr_eq (by omega) (by omega)
      exact ⟨s, s1, by rw [tx_go (by omega) c]; exact s2, by rw [s3, pu_wr_k (by decide)], by rw [s4, pu_wr_k (by decide)], tp_f_tr (tp_f_wr (by decide) (by decide)) s5⟩
    · rw [if_pos (by rw [tp_dg hb]; exact c)]
      exact ⟨σ, rfl, by rw [tx_no c]; exact h3, rfl, rfl, tp_f_rf σ⟩
/-- one thing further -/
theorem tp_adv (h : tx_C σ B l) {p : Nat} (hp : p ≤ l) (h4 : σ 20 0 0 4 = nI p) : ∃ s, k_tp_advance σ = some s ∧ tx_ct s B l (tx_run tx_bl B l p) ∧ tp_f σ s := by
  have h400 := h.1
  obtain ⟨σ0, h0⟩ : ∃ z, en_wr σ 20 0 0 3 (nI p) = z := ⟨_, rfl⟩
  have f0 : tp_f σ σ0 := by rw [← h0]; exact tp_f_wr (by decide) (by decide)
  obtain ⟨s9, a1, a2, a3, a4⟩ := tp_8 (B := B) (l := l) (l - p) p en_fu σ0 (tx_C_f h f0) (by rw [← h0, pu_wr_eq]) (by omega) (by rw [en_fu]; omega)
  obtain ⟨b1, b2, b3, b4⟩ := tx_bd (P := tx_bl) (B := B) hp
  obtain ⟨b, hb⟩ : ∃ b, tx_run tx_bl B l p = b := ⟨_, rfl⟩
  rw [hb] at a2 b1 b2 b3 b4 ⊢
  obtain ⟨s11, h11⟩ : ∃ z, en_wr s9 20 0 0 4 (nI b) = z := ⟨_, rfl⟩
  have f11 : tp_f σ s11 := tp_f_tr (tp_f_tr f0 a4) (by rw [← h11]; exact tp_f_wr (by decide) (by decide))
  have c11 := tx_C_f h f11
  have e3 : s11 20 0 0 3 = nI b := by rw [← h11, pu_wr_k (by decide), a2]
  have e4 : s11 20 0 0 4 = nI b := by rw [← h11, pu_wr_eq]
  rw [k_tp_advance, h4, pu_let, h0, a1, pu_b1, pu_let, a2, h11, e3, c11.2.1, it_lt (by omega) (by omega)]
  by_cases hl : b < l
  · have hB := (c11.2.2 b hl).1
    rw [if_pos hl, tp_byte c11 hl, pu_b1, pu_b1, pu_let, pu_let, pu_let, pu_let]
    by_cases cL : tx_lt (B b) = true
    · rw [if_neg (by rw [tp_lt hB]; exact fun q => q cL)]
      obtain ⟨s, s1, s2, s3, s4, s5⟩ := tp_91 (B := B) (l := l) (l - b) b en_fu (en_wr s11 20 0 0 2 1) (tx_C_f c11 (tp_f_wr (by decide) (by decide))) (by rw [pu_wr_k (by decide), e4]) (by omega) (by rw [en_fu]; omega)
      rw [s1, pu_b1]
      refine ⟨s, rfl, ⟨by rw [s3, pu_wr_k (by decide), e3], ?_, ?_⟩, tp_f_tr f11 (tp_f_tr (tp_f_wr (by decide) (by decide)) s5)⟩
      · rw [s4, pu_wr_eq, tx_k, if_neg (by omega), if_pos cL]
        rfl
      · rw [s2, tx_a, if_neg (by omega), if_pos cL]
    · rw [if_pos (by rw [tp_lt hB]; exact cL)]
      by_cases cD : tx_dg (B b) = true
      · rw [if_neg (by rw [tp_dg hB]; exact fun q => q cD)]
        obtain ⟨s, s1, s2, s3, s4, s5⟩ := tp_148 (B := B) (l := l) (l - b) b en_fu (en_wr s11 20 0 0 2 2) (tx_C_f c11 (tp_f_wr (by decide) (by decide))) (by rw [pu_wr_k (by decide), e4]) (by omega) (by rw [en_fu]; omega)
        rw [s1, pu_b1]
        refine ⟨s, rfl, ⟨by rw [s3, pu_wr_k (by decide), e3], ?_, ?_⟩, tp_f_tr f11 (tp_f_tr (tp_f_wr (by decide) (by decide)) s5)⟩
        · rw [s4, pu_wr_eq, tx_k, if_neg (by omega), if_neg cL, if_pos cD]
          rfl
        · rw [s2, tx_a, if_neg (by omega), if_neg cL, if_pos cD]
      · rw [if_pos (by rw [tp_dg hB]; exact cD)]
        refine ⟨_, rfl, ⟨by rw [pu_wr_k (by decide), pu_wr_k (by decide), e3], ?_, ?_⟩, tp_f_tr f11 (tp_f_tr (tp_f_wr (by decide) (by decide)) (tp_f_wr (by decide) (by decide)))⟩
        · rw [pu_wr_k (by decide), pu_wr_eq, tx_k, if_neg (by omega), if_neg cL, if_neg cD]
          rfl
        · rw [pu_wr_eq, pu_wr_k (by decide), e4, nI_1, tx_a, if_neg (by omega), if_neg cL, if_neg cD]
  · rw [if_neg hl, pu_let]
    refine ⟨_, rfl, ⟨by rw [pu_wr_k (by decide), e3], ?_, ?_⟩, tp_f_tr f11 (tp_f_wr (by decide) (by decide))⟩
    · rw [pu_wr_eq, tx_k, if_pos (by omega)]
      rfl
    · rw [pu_wr_k (by decide), e4, tx_a, if_pos (by omega)]
end tpc

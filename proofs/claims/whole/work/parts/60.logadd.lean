/-! A row more in the log. -/
def lv_L (A : ab_A) (new : Nat → Nat) : Nat → Nat → Nat := fun row c => if aH A 9 < 40 then (if row = aH A 9 then new c else aL A row c) else (if row = 39 then new c else aL A (row + 1) c)
theorem lv_cls {s : en_M} {g z k D T n f sz wh : Nat} {A : ab_A} (h5 : ab_C5 s g A) (h40 : aH A 9 ≤ 40) (d0 : s 13 g z 0 = nI n) (d1 : s 13 g z 1 = nI f) (d3 : ∀ s' : en_M, s' 13 g = s 13 g → k_sd_sizeOf g z (nI k) s' = nI sz) (d6 : ∀ s' : en_M, s' 13 g = s 13 g → k_sd_whereIs g z (nI k) s' = nI wh) {new : Nat → Nat} (hnew : new 0 = n ∧ new 1 = k ∧ new 2 = f ∧ new 3 = sz ∧ new 4 = D ∧ new 5 = T ∧ new 6 = wh) :
    ∃ s1, k_lg_add g g z (nI k) (nI D) (nI T) s = some s1 ∧ en_fr [(7, g), (6, g)] s s1 ∧ s1 6 g 0 2 = nI (min 40 (aH A 9 + 1)) ∧ ∃ e, e < 40 ∧ s1 6 g 0 1 = nI e ∧ (min 40 (aH A 9 + 1) < 40 → e = 0) ∧ ∀ row c, row < min 40 (aH A 9 + 1) → c < 7 → s1 7 g 0 (7 * ((e + row) % 40) + c) = nI (lv_L A new row c) := by
  obtain ⟨a1, e, he, a2, a3, a4⟩ := h5
  have hp : (e + aH A 9) % 40 < 40 := Nat.mod_lt _ (by decide)
  obtain ⟨p, hpp⟩ : ∃ p, (e + aH A 9) % 40 = p := ⟨_, rfl⟩
  rw [hpp] at hp
  have hfm : en_fm ((s 6 g 0 1) + (s 6 g 0 2)) 40 = nI p := by
    rw [a1, a2, nI_add, show (40 : Int32) = nI 40 from rfl, nu_fm (by omega) (by decide) (by decide), hpp]
  have hix : ∀ (c : Nat) (x : Int32), x = nI c → nI p * 7 + x = nI (7 * p + c) := fun c x hx => by
    rw [hx, show (7 : Int32) = nI 7 from rfl, pk_mul, nI_add, Nat.mul_comm]
  obtain ⟨s1, h1⟩ : ∃ z', en_wr s 7 g 0 (7 * p + 0) (nI n) = z' := ⟨_, rfl⟩
  obtain ⟨s3, h3⟩ : ∃ z', en_wr s1 7 g 0 (7 * p + 1) (nI k) = z' := ⟨_, rfl⟩
  obtain ⟨s5, h5'⟩ : ∃ z', en_wr s3 7 g 0 (7 * p + 2) (nI f) = z' := ⟨_, rfl⟩
  obtain ⟨s7, h7⟩ : ∃ z', en_wr s5 7 g 0 (7 * p + 3) (nI sz) = z' := ⟨_, rfl⟩
  obtain ⟨s9, h9⟩ : ∃ z', en_wr s7 7 g 0 (7 * p + 4) (nI D) = z' := ⟨_, rfl⟩
  obtain ⟨s11, h11⟩ : ∃ z', en_wr s9 7 g 0 (7 * p + 5) (nI T) = z' := ⟨_, rfl⟩
  obtain ⟨s13, h13⟩ : ∃ z', en_wr s11 7 g 0 (7 * p + 6) (nI wh) = z' := ⟨_, rfl⟩
  have ej1 : ∀ j, j ≠ 7 → s1 j = s j := fun j h => by rw [← h1, pu_wr_j h]
  have ej3 : ∀ j, j ≠ 7 → s3 j = s j := fun j h => by rw [← h3, pu_wr_j h, ej1 j h]
  have ej5 : ∀ j, j ≠ 7 → s5 j = s j := fun j h => by rw [← h5', pu_wr_j h, ej3 j h]
  have ej11 : ∀ j, j ≠ 7 → s11 j = s j := fun j h => by rw [← h11, pu_wr_j h, ← h9, pu_wr_j h, ← h7, pu_wr_j h, ej5 j h]
  have ej13 : ∀ j, j ≠ 7 → s13 j = s j := fun j h => by rw [← h13, pu_wr_j h, ej11 j h]
  have hfr13 : en_fr [(7, g), (6, g)] s s13 := fr_tr (fr_tr (fr_tr (fr_tr (fr_tr (fr_tr (fr_wr h1 (by simp)) (fr_wr h3 (by simp))) (fr_wr h5' (by simp))) (fr_wr h7 (by simp))) (fr_wr h9 (by simp))) (fr_wr h11 (by simp))) (fr_wr h13 (by simp))
  have o13 : ∀ x, (x < 7 * p ∨ 7 * p + 7 ≤ x) → s13 7 g 0 x = s 7 g 0 x := fun x hx => by
    rw [← h13, pu_wr_k (by omega), ← h11, pu_wr_k (by omega), ← h9, pu_wr_k (by omega), ← h7, pu_wr_k (by omega), ← h5', pu_wr_k (by omega), ← h3, pu_wr_k (by omega), ← h1, pu_wr_k (by omega)]
  have n13 : ∀ c, c < 7 → s13 7 g 0 (7 * p + c) = nI (new c) := fun c hc => by
    obtain ⟨e0, e1, e2, e3, e4, e5, e6⟩ := hnew
    rcases (show c = 0 ∨ c = 1 ∨ c = 2 ∨ c = 3 ∨ c = 4 ∨ c = 5 ∨ c = 6 by omega) with rfl | rfl | rfl | rfl | rfl | rfl | rfl
    · rw [e0, ← h13, pu_wr_k (by omega), ← h11, pu_wr_k (by omega), ← h9, pu_wr_k (by omega), ← h7, pu_wr_k (by omega), ← h5', pu_wr_k (by omega), ← h3, pu_wr_k (by omega), ← h1, pu_wr_eq]
    · rw [e1, ← h13, pu_wr_k (by omega), ← h11, pu_wr_k (by omega), ← h9, pu_wr_k (by omega), ← h7, pu_wr_k (by omega), ← h5', pu_wr_k (by omega), ← h3, pu_wr_eq]
    · rw [e2, ← h13, pu_wr_k (by omega), ← h11, pu_wr_k (by omega), ← h9, pu_wr_k (by omega), ← h7, pu_wr_k (by omega), ← h5', pu_wr_eq]
    · rw [e3, ← h13, pu_wr_k (by omega), ← h11, pu_wr_k (by omega), ← h9, pu_wr_k (by omega), ← h7, pu_wr_eq]
    · rw [e4, ← h13, pu_wr_k (by omega), ← h11, pu_wr_k (by omega), ← h9, pu_wr_eq]
    · rw [e5, ← h13, pu_wr_k (by omega), ← h11, pu_wr_eq]
    · rw [e6, ← h13, pu_wr_eq]
  have b2 : s13 6 g 0 2 = nI (aH A 9) := by rw [ej13 6 (by omega)]; exact a1
  have b1 : s13 6 g 0 1 = nI e := by rw [ej13 6 (by omega)]; exact a2
  have hrun : k_lg_add g g z (nI k) (nI D) (nI T) s = (if aH A 9 < 40 then some (en_wr s13 6 g 0 2 (nI (aH A 9 + 1))) else some (en_wr s13 6 g 0 1 (nI ((e + 1) % 40)))) := by
    rw [k_lg_add, hfm, hix 0 0 rfl, hix 1 1 rfl, hix 2 2 rfl, hix 3 3 rfl, hix 4 4 rfl, hix 5 5 rfl, hix 6 6 rfl, d0, pu_wa (by omega) (by decide), pu_b1, h1, pu_wa (by omega) (by decide), pu_b1, h3, ej3 13 (by omega), d1, pu_wa (by omega) (by decide), pu_b1, h5', d3 s5 (by rw [ej5 13 (by omega)]), pu_wa (by omega) (by decide), pu_b1, h7, pu_wa (by omega) (by decide), pu_b1, h9, pu_wa (by omega) (by decide), pu_b1, h11, d6 s11 (by rw [ej11 13 (by omega)]), pu_wa (by omega) (by decide), pu_b1, h13, b2, b1, itx_le (a := 40) (b := aH A 9) (x := 40) rfl rfl (by decide) (by omega), pu_let, pu_let, nI_1, nI_1, show (40 : Int32) = nI 40 from rfl, nu_fm (by omega) (by decide) (by decide)]
    by_cases h : aH A 9 < 40
    · rw [if_neg (by omega), if_pos h]
    · rw [if_pos (by omega), if_neg h]
  rw [hrun]
  by_cases h : aH A 9 < 40
  · have e0 := a3 h
    subst e0
    rw [if_pos h]
    have hp9 : p = aH A 9 := by rw [← hpp, Nat.zero_add, Nat.mod_eq_of_lt h]
    refine ⟨_, rfl, fr_tr hfr13 (fr_wr rfl (by simp)), ?_, 0, by omega, ?_, fun _ => rfl, fun row c hr hc => ?_⟩
    · rw [pu_wr_eq, show min 40 (aH A 9 + 1) = aH A 9 + 1 by omega]
    · rw [pu_wr_k (by decide), b1]
    · rw [pu_wr_j (by decide), lv_L, if_pos h, Nat.zero_add, Nat.mod_eq_of_lt (by omega)]
      by_cases er : row = aH A 9
      · rw [if_pos er, er, ← hp9, n13 c hc]
      · have := a4 row c (by omega) hc
        rw [Nat.zero_add, Nat.mod_eq_of_lt (by omega)] at this
        rw [if_neg er, o13 _ (by omega), this]
  · have e9 : aH A 9 = 40 := by omega
    have hpe : p = e := by rw [← hpp, e9]; omega
    rw [if_neg h]
    refine ⟨_, rfl, fr_tr hfr13 (fr_wr rfl (by simp)), ?_, (e + 1) % 40, Nat.mod_lt _ (by decide), ?_, fun q => by omega, fun row c hr hc => ?_⟩
    · rw [pu_wr_k (by decide), b2, e9]
      rfl
    · rw [pu_wr_eq]
    · rw [pu_wr_j (by decide), lv_L, if_neg h]
      by_cases er : row = 39
      · rw [if_pos er, er, show ((e + 1) % 40 + 39) % 40 = p by omega, n13 c hc]
      · have := a4 (row + 1) c (by omega) hc
        rw [if_neg er, show ((e + 1) % 40 + row) % 40 = (e + (row + 1)) % 40 by omega, o13 _ (by omega), this]
theorem lv_shift : ∀ (F i : Nat) (v1 v2 v3 : Int32) (τ : en_M), 618 ≤ i → i ≤ 891 → 891 < i + F → ∃ τ1, k_mm_logs_17 F v1 v2 v3 (nI i) τ = some τ1 ∧ (∀ x, (x < i ∨ 891 ≤ x) → τ1 25 0 0 x = τ 25 0 0 x) ∧ (∀ x, i ≤ x → x < 891 → τ1 25 0 0 x = τ 25 0 0 (x + 7)) := by
  intro F
  induction F with
  | zero => intro i v1 v2 v3 τ h1 h2 h3; omega
  | succ F ih =>
    intro i v1 v2 v3 τ h1 h2 h3
    rw [k_mm_logs_17, show (891 : Int32) = nI 891 from rfl, it_le (by decide) (by omega)]
    by_cases hi : i < 891
    · rw [if_neg (by omega), show (7 : Int32) = nI 7 from rfl, nI_add, pu_rd (by omega) (by decide), pu_b1, pu_wa (by omega) (by decide), pu_b1, nI_1]
      obtain ⟨τ1, a1, a2, a3⟩ := ih (i + 1) v1 v2 v3 (en_wr τ 25 0 0 i (τ 25 0 0 (i + 7))) (by omega) (by omega) (by omega)
      refine ⟨τ1, a1, fun x hx => ?_, fun x hx hx2 => ?_⟩
      · rw [a2 x (by omega), pu_wr_k (by omega)]
      · by_cases e : x = i
        · subst e
          rw [a2 x (by omega), pu_wr_eq]
        · rw [a3 x (by omega) hx2, pu_wr_k (by omega)]
    · rw [if_pos (by omega)]
      exact ⟨τ, rfl, fun _ _ => rfl, fun x _ _ => by omega⟩
theorem lv_szraw {τ : en_M} {n k len cut : Nat} (hn : n < 2 ^ 31) (h1 : τ 25 0 0 (74 + 68 * (n % 8) + 1) = nI len) (h2 : τ 25 0 0 (74 + 68 * (n % 8) + 2) = nI cut) (hk : k * cut ≤ len) (hl : len ≤ 200) (hc : cut ≤ 100) : k_mm_sizeOf (nI n) (nI k) τ = some (nI (12 + min cut (len - k * cut))) := by
  rw [k_mm_sizeOf, k_mm_bytesOf, mo_of (x := 2) (w := 2) rfl hn (by decide), pu_b1, mo_of (x := 1) (w := 1) rfl hn (by decide), pu_b1, pu_b1, h1, h2, pk_mul, pk_sub hk, nu_ls (by omega) (by omega), pu_b1, show (12 : Int32) = nI 12 from rfl, nI_add]
theorem lv_mod {τ : en_M} {n k D T f len cut pl : Nat} {A : ab_A} (h40 : aH A 9 ≤ 40) (hn : n < 2 ^ 31) (m18 : τ 25 0 0 18 = nI (aH A 9)) (m5 : ab_M5 (τ 25 0 0) A) (r0 : τ 25 0 0 (74 + 68 * (n % 8) + 0) = nI f) (r1 : τ 25 0 0 (74 + 68 * (n % 8) + 1) = nI len) (r2 : τ 25 0 0 (74 + 68 * (n % 8) + 2) = nI cut) (r7 : τ 25 0 0 (74 + 68 * (n % 8) + 7) = nI pl) (r4 : τ 25 0 0 4 = nI T) (hk : k * cut ≤ len) (hl : len ≤ 200) (hc : cut ≤ 100) {new : Nat → Nat} (hnew : new 0 = n ∧ new 1 = k ∧ new 2 = f ∧ new 3 = 12 + min cut (len - k * cut) ∧ new 4 = D ∧ new 5 = T ∧ new 6 = pl + k * cut) :
    ∃ τ1, k_mm_logs (nI n) (nI k) (nI D) τ = some τ1 ∧ (∀ x, x < 618 → x ≠ 18 → τ1 25 0 0 x = τ 25 0 0 x) ∧ (∀ x, 898 ≤ x → τ1 25 0 0 x = τ 25 0 0 x) ∧ τ1 25 0 0 18 = nI (min 40 (aH A 9 + 1)) ∧ (∀ row c, row < min 40 (aH A 9 + 1) → c < 7 → τ1 25 0 0 (618 + 7 * row + c) = nI (lv_L A new row c)) := by
  have hm8 : n % 8 < 8 := Nat.mod_lt _ (by decide)
  -- seven cells written from a base on
  have key : ∀ (z : en_M) (b : Nat), 618 ≤ b → b + 7 ≤ 898 → (∀ x, x < 618 → x ≠ 18 → z 25 0 0 x = τ 25 0 0 x) →
      ∃ z1, (en_b1 (en_wa 938 z 25 0 0 (nI b) (nI n)) fun s2 => en_b1 (en_wa 938 s2 25 0 0 (nI b + 1) (nI k)) fun s4 => en_b1 (k_mm_of (nI n) 0 s4) fun t6 => en_b1 (en_wa 938 s4 25 0 0 (nI b + 2) t6) fun s8 => en_b1 (k_mm_sizeOf (nI n) (nI k) s8) fun t10 => en_b1 (en_wa 938 s8 25 0 0 (nI b + 3) t10) fun s12 => en_b1 (en_wa 938 s12 25 0 0 (nI b + 4) (nI D)) fun s14 => en_b1 (en_wa 938 s14 25 0 0 (nI b + 5) (s14 25 0 0 4)) fun s16 => en_b1 (k_mm_of (nI n) 7 s16) fun t18 => en_b1 (k_mm_of (nI n) 2 s16) fun t20 => en_b1 (en_wa 938 s16 25 0 0 (nI b + 6) (t18 + (nI k * t20))) fun s22 => en_let (en_wr s22 25 0 0 18 ((s22 25 0 0 18) + 1)) fun s24 => some s24) = some z1 ∧ (∀ x, x ≠ 18 → (x < b ∨ b + 7 ≤ x) → z1 25 0 0 x = z 25 0 0 x) ∧ z1 25 0 0 18 = z 25 0 0 18 + 1 ∧ ∀ c, c < 7 → z1 25 0 0 (b + c) = nI (new c) := by
    intro z b hb hb2 hz
    have bi : ∀ (c : Nat) (x : Int32), x = nI c → nI b + x = nI (b + c) := fun c x hx => by rw [hx, nI_add]
    obtain ⟨s2, h2⟩ : ∃ y, en_wr z 25 0 0 b (nI n) = y := ⟨_, rfl⟩
    obtain ⟨s4, h4⟩ : ∃ y, en_wr s2 25 0 0 (b + 1) (nI k) = y := ⟨_, rfl⟩
    obtain ⟨s8, h8⟩ : ∃ y, en_wr s4 25 0 0 (b + 2) (nI f) = y := ⟨_, rfl⟩
    obtain ⟨s12, h12⟩ : ∃ y, en_wr s8 25 0 0 (b + 3) (nI (12 + min cut (len - k * cut))) = y := ⟨_, rfl⟩
    obtain ⟨s14, h14⟩ : ∃ y, en_wr s12 25 0 0 (b + 4) (nI D) = y := ⟨_, rfl⟩
    obtain ⟨s16, h16⟩ : ∃ y, en_wr s14 25 0 0 (b + 5) (nI T) = y := ⟨_, rfl⟩
    obtain ⟨s22, h22⟩ : ∃ y, en_wr s16 25 0 0 (b + 6) (nI (pl + k * cut)) = y := ⟨_, rfl⟩
    have o4 : ∀ x, x < 618 → x ≠ 18 → s4 25 0 0 x = τ 25 0 0 x := fun x hx hx2 => by rw [← h4, pu_wr_k (by omega), ← h2, pu_wr_k (by omega), hz x hx hx2]
    have o8 : ∀ x, x < 618 → x ≠ 18 → s8 25 0 0 x = τ 25 0 0 x := fun x hx hx2 => by rw [← h8, pu_wr_k (by omega), o4 x hx hx2]
    have o14 : ∀ x, x < 618 → x ≠ 18 → s14 25 0 0 x = τ 25 0 0 x := fun x hx hx2 => by rw [← h14, pu_wr_k (by omega), ← h12, pu_wr_k (by omega), o8 x hx hx2]
    have o16 : ∀ x, x < 618 → x ≠ 18 → s16 25 0 0 x = τ 25 0 0 x := fun x hx hx2 => by rw [← h16, pu_wr_k (by omega), o14 x hx hx2]
    refine ⟨en_wr s22 25 0 0 18 ((s22 25 0 0 18) + 1), ?_, fun x hx hx2 => ?_, ?_, fun c hc' => ?_⟩
    · rw [pu_wa (by omega) (by decide), pu_b1, h2, bi 1 1 rfl, pu_wa (by omega) (by decide), pu_b1, h4, mo_of (x := 0) (w := 0) rfl hn (by decide), pu_b1, o4 _ (by omega) (by omega), r0, bi 2 2 rfl, pu_wa (by omega) (by decide), pu_b1, h8, lv_szraw hn (by rw [o8 _ (by omega) (by omega)]; exact r1) (by rw [o8 _ (by omega) (by omega)]; exact r2) hk hl hc, pu_b1, bi 3 3 rfl, pu_wa (by omega) (by decide), pu_b1, h12, bi 4 4 rfl, pu_wa (by omega) (by decide), pu_b1, h14, o14 4 (by omega) (by omega), r4, bi 5 5 rfl, pu_wa (by omega) (by decide), pu_b1, h16, mo_of (x := 7) (w := 7) rfl hn (by decide), pu_b1, mo_of (x := 2) (w := 2) rfl hn (by decide), pu_b1, o16 _ (by omega) (by omega), o16 _ (by omega) (by omega), r7, r2, pk_mul, nI_add, bi 6 6 rfl, pu_wa (by omega) (by decide), pu_b1, h22, pu_let]
    · rw [pu_wr_k hx, ← h22, pu_wr_k (by omega), ← h16, pu_wr_k (by omega), ← h14, pu_wr_k (by omega), ← h12, pu_wr_k (by omega), ← h8, pu_wr_k (by omega), ← h4, pu_wr_k (by omega), ← h2, pu_wr_k (by omega)]
    · rw [pu_wr_eq, ← h22, pu_wr_k (by omega), ← h16, pu_wr_k (by omega), ← h14, pu_wr_k (by omega), ← h12, pu_wr_k (by omega), ← h8, pu_wr_k (by omega), ← h4, pu_wr_k (by omega), ← h2, pu_wr_k (by omega)]
    · obtain ⟨e0, e1, e2, e3, e4, e5, e6⟩ := hnew
      rw [pu_wr_k (by omega)]
      rcases (show c = 0 ∨ c = 1 ∨ c = 2 ∨ c = 3 ∨ c = 4 ∨ c = 5 ∨ c = 6 by omega) with rfl | rfl | rfl | rfl | rfl | rfl | rfl
      · rw [e0, Nat.add_zero, ← h22, pu_wr_k (by omega), ← h16, pu_wr_k (by omega), ← h14, pu_wr_k (by omega), ← h12, pu_wr_k (by omega), ← h8, pu_wr_k (by omega), ← h4, pu_wr_k (by omega), ← h2, pu_wr_eq]
      · rw [e1, ← h22, pu_wr_k (by omega), ← h16, pu_wr_k (by omega), ← h14, pu_wr_k (by omega), ← h12, pu_wr_k (by omega), ← h8, pu_wr_k (by omega), ← h4, pu_wr_eq]
      · rw [e2, ← h22, pu_wr_k (by omega), ← h16, pu_wr_k (by omega), ← h14, pu_wr_k (by omega), ← h12, pu_wr_k (by omega), ← h8, pu_wr_eq]
      · rw [e3, ← h22, pu_wr_k (by omega), ← h16, pu_wr_k (by omega), ← h14, pu_wr_k (by omega), ← h12, pu_wr_eq]
      · rw [e4, ← h22, pu_wr_k (by omega), ← h16, pu_wr_k (by omega), ← h14, pu_wr_eq]
      · rw [e5, ← h22, pu_wr_k (by omega), ← h16, pu_wr_eq]
      · rw [e6, ← h22, pu_wr_eq]
  by_cases h : aH A 9 < 40
  · obtain ⟨z1, k1, k2, k3, k4⟩ := key τ (618 + 7 * aH A 9) (by omega) (by omega) (fun _ _ _ => rfl)
    refine ⟨z1, ?_, fun x h1 h2 => k2 x h2 (by omega), fun x h1 => k2 x (by omega) (by omega), ?_, fun row c hr hc' => ?_⟩
    · rw [k_mm_logs, m18, itx_eq (a := aH A 9) (b := 40) (y := 40) rfl rfl (by omega) (by decide), if_neg (by omega), show (618 : Int32) = nI 618 from rfl, show (7 : Int32) * nI (aH A 9) = nI (7 * aH A 9) from pk_mul 7 (aH A 9), nI_add]
      exact k1
    · rw [k3, m18, nI_1, show min 40 (aH A 9 + 1) = aH A 9 + 1 by omega]
    · rw [lv_L, if_pos h]
      by_cases er : row = aH A 9
      · rw [if_pos er, er, k4 c hc']
      · rw [if_neg er, k2 _ (by omega) (by omega)]
        exact m5 row c (by omega) hc'
  · have e9 : aH A 9 = 40 := by omega
    obtain ⟨s32, a1, a2, a3⟩ := lv_shift en_fu 618 (nI n) (nI k) (nI D) τ (by omega) (by omega) (by rw [en_fu]; omega)
    obtain ⟨s34, h34⟩ : ∃ y, en_wr s32 25 0 0 18 (nI 39) = y := ⟨_, rfl⟩
    have m18' : s32 25 0 0 18 = nI 40 := by rw [a2 18 (by omega), m18, e9]
    have m34 : s34 25 0 0 18 = nI 39 := by rw [← h34, pu_wr_eq]
    obtain ⟨z1, k1, k2, k3, k4⟩ := key s34 (618 + 7 * 39) (by omega) (by omega) (fun x h1 h2 => by rw [← h34, pu_wr_k h2, a2 x (by omega)])
    refine ⟨z1, ?_, fun x h1 h2 => ?_, fun x h1 => ?_, ?_, fun row c hr hc' => ?_⟩
    · rw [k_mm_logs, m18, e9, if_pos (show nI 40 = 40 from rfl), show (618 : Int32) = nI 618 from rfl, a1, pu_b1, pu_let, m18', show nI 40 - 1 = nI 39 by decide, h34, m34, show (7 : Int32) * nI 39 = nI (7 * 39) from pk_mul 7 39, nI_add]
      exact k1
    · rw [k2 x h2 (by omega), ← h34, pu_wr_k h2, a2 x (by omega)]
    · rw [k2 x (by omega) (by omega), ← h34, pu_wr_k (by omega), a2 x (by omega)]
    · rw [k3, m34, e9]
      rfl
    · rw [lv_L, if_neg h]
      by_cases er : row = 39
      · rw [if_pos er, er, k4 c hc']
      · rw [if_neg er, k2 _ (by omega) (by omega), ← h34, pu_wr_k (by omega), a3 _ (by omega) (by omega), show 618 + 7 * row + c + 7 = 618 + 7 * (row + 1) + c by omega]
        exact m5 (row + 1) c (by omega) hc'

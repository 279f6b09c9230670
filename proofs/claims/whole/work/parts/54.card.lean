/-! The act card; a new card. -/
theorem nc_zero : ∀ (f k : Nat) (v1 v2 v3 : Int32) (τ : en_M), k ≤ 938 → 938 < k + f → ∃ τ1, k_mm_clears_3 f v1 v2 v3 (nI k) τ = some τ1 ∧ (∀ x, x < k → τ1 25 0 0 x = τ 25 0 0 x) ∧ (∀ x, k ≤ x → x < 938 → τ1 25 0 0 x = 0) := by
  intro f
  induction f with
  | zero => intro k v1 v2 v3 τ h1 h2; omega
  | succ f ih =>
    intro k v1 v2 v3 τ h1 h2
    rw [k_mm_clears_3, show (938 : Int32) = nI 938 from rfl, it_le (by decide) (by omega)]
    by_cases hk : k < 938
    · rw [if_neg (by omega), pu_wa (by omega) (by decide), pu_b1, nI_1]
      obtain ⟨τ1, a1, a2, a3⟩ := ih (k + 1) v1 v2 v3 (en_wr τ 25 0 0 k 0) (by omega) (by omega)
      refine ⟨τ1, a1, fun x hx => ?_, fun x hx hx2 => ?_⟩
      · rw [a2 x (by omega), pu_wr_k (by omega)]
      · by_cases e : x = k
        · rw [a2 x (by omega), e, pu_wr_eq]
        · exact a3 x (by omega) hx2
    · rw [if_pos (by omega)]
      exact ⟨τ, rfl, fun _ _ => rfl, fun x _ _ => by omega⟩
def nc_A (a b c : Nat) : ab_A := (fun k => if k = 0 then a else if k = 1 then b else if k = 2 then c else 0, fun _ _ => 0, fun _ _ => 0, fun _ _ _ => 0, fun _ => 0, fun _ _ => 0, fun _ _ => 0, fun _ _ => 0, fun _ _ => 0)
theorem nc_W {a b c t : Nat} (ha : 1 ≤ a ∧ a ≤ 8) (hb : 1 ≤ b ∧ b ≤ 40) (hc : 1 ≤ c ∧ c ≤ 8) (ht : t ≤ 7168) : ab_W (nc_A a b c) t := by
  have h0 : ∀ k, 3 ≤ k → aH (nc_A a b c) k = 0 := fun k hk => by
    show (if k = 0 then a else if k = 1 then b else if k = 2 then c else 0) = 0
    rw [if_neg (by omega), if_neg (by omega), if_neg (by omega)]
  refine ⟨?_, fun f hf => ?_, fun n hn => ?_, fun n k hn => ?_, fun h => ?_, fun row hr => ?_, fun row hr => ?_⟩
  · simp only [ab_W1, h0 3 (by omega), h0 4 (by omega), h0 5 (by omega), h0 6 (by omega), h0 7 (by omega), h0 9 (by omega), h0 10 (by omega)]
    exact ⟨ha, hb, hc, by omega, by omega, by omega, by omega, by omega, by omega, by omega, by omega, ht⟩
  · rw [h0 3 (by omega)] at hf
    omega
  · have := hn.1
    rw [h0 5 (by omega)] at this
    omega
  · have := hn.1
    rw [h0 5 (by omega)] at this
    omega
  · rw [h0 11 (by omega)] at h
    exact absurd rfl h
  · rw [h0 9 (by omega)] at hr
    omega
  · rw [h0 9 (by omega)] at hr
    omega
theorem nc_CR {s : en_M} {g a b c : Nat} (h0 : s 0 g 0 8 = nI a ∧ s 0 g 0 9 = nI b ∧ s 0 g 0 10 = nI c ∧ s 0 g 0 11 = 0 ∧ s 0 g 0 12 = 0 ∧ s 0 g 0 13 = 0 ∧ s 0 g 0 14 = 0 ∧ s 0 g 0 15 = -1) (h6 : s 6 g 0 1 = 0 ∧ s 6 g 0 2 = 0) (h8 : s 8 g 0 2 = 0) (h11 : ∀ k, k < 6 → s 11 g 0 k = 0) (hb : ab_C2b s g) : ab_CR s g (nc_A a b c) := by
  have hz : ∀ k, 3 ≤ k → aH (nc_A a b c) k = 0 := fun k hk => by
    show (if k = 0 then a else if k = 1 then b else if k = 2 then c else 0) = 0
    rw [if_neg (by omega), if_neg (by omega), if_neg (by omega)]
  have hw : ∀ n, ¬ ab_win (nc_A a b c) n := fun n h => by
    have := h.1
    rw [hz 5 (by omega)] at this
    omega
  obtain ⟨a1, a2, a3, a4, a5, a6, a7, a8⟩ := h0
  refine ⟨⟨⟨a1, a2, a3, a4, a5, a6, a7, ?_, ?_⟩, fun n hn => absurd hn (hw n), fun f hf => ?_, hb, fun n k hn => absurd hn (hw n), ⟨h6.2, 0, by omega, h6.1, fun _ => rfl, fun row c hr => ?_⟩, ⟨h8, fun k _ hk => ?_⟩, h11⟩, fun f hf => ?_, fun n k hn => absurd hn (hw n)⟩
  · rw [hz 11 (by omega), if_pos rfl]
    exact a8
  · intro h
    exact absurd (hz 11 (by omega)) h
  · rw [hz 3 (by omega)] at hf
    omega
  · rw [hz 9 (by omega)] at hr
    omega
  · rw [hz 10 (by omega)] at hk
    omega
  · rw [hz 3 (by omega)] at hf
    omega
theorem nc_MR {r : Nat → Int32} {a b c : Nat} (h0 : r 0 = nI a ∧ r 1 = nI b ∧ r 2 = nI c) (hz : ∀ k, 3 ≤ k → k < 938 → r k = 0) : ab_MR r (nc_A a b c) := by
  have hH : ∀ k, 3 ≤ k → aH (nc_A a b c) k = 0 := fun k hk => by
    show (if k = 0 then a else if k = 1 then b else if k = 2 then c else 0) = 0
    rw [if_neg (by omega), if_neg (by omega), if_neg (by omega)]
  have hw : ∀ n, ¬ ab_win (nc_A a b c) n := fun n h => by
    have := h.1
    rw [hH 5 (by omega)] at this
    omega
  refine ⟨⟨fun k hk => ?_, ?_⟩, fun f hf => ?_, fun n hn => absurd hn (hw n), fun n k hn => absurd hn (hw n), fun row c hr => ?_, fun k w _ hk => ?_⟩
  · by_cases h3 : 3 ≤ k
    · rw [hH k h3, hz k h3 (by omega)]
      rfl
    · rcases (show k = 0 ∨ k = 1 ∨ k = 2 by omega) with rfl | rfl | rfl
      · exact h0.1
      · exact h0.2.1
      · exact h0.2.2
  · rw [hz 7 (by omega) (by omega), hz 8 (by omega) (by omega), hz 9 (by omega) (by omega), hz 10 (by omega) (by omega), hz 11 (by omega) (by omega), hz 12 (by omega) (by omega), hz 13 (by omega) (by omega), hz 14 (by omega) (by omega), hz 17 (by omega) (by omega), hz 18 (by omega) (by omega), hz 19 (by omega) (by omega), hH 10 (by omega), hH 7 (by omega), hH 11 (by omega), hH 9 (by omega)]
    exact ⟨rfl, rfl, rfl, rfl, rfl, rfl, rfl, fun h => absurd rfl h, rfl, rfl, rfl⟩
  · rw [hH 3 (by omega)] at hf
    omega
  · rw [hH 9 (by omega)] at hr
    omega
  · rw [hH 10 (by omega)] at hk
    omega
theorem nc_card {σ τ : en_M} {g a b c t : Nat} (ha : 1 ≤ a ∧ a ≤ 8) (hb : 1 ≤ b ∧ b ≤ 40) (hc : 1 ≤ c ∧ c ≤ 8) (ht : t ≤ 7168) (h2b : ab_C2b σ g) : ∃ σ1 τ1, k_cd_reset g (nI a) (nI b) (nI c) σ = some σ1 ∧ k_mm_clears (nI a) (nI b) (nI c) τ = some τ1 ∧ ab_PR σ1 g (τ1 25 0 0) (nc_A a b c) t := by
  obtain ⟨τ5, a1, -, a3⟩ := nc_zero en_fu 0 (nI a) (nI b) (nI c) τ (by omega) (by rw [en_fu]; omega)
  rw [nI_0] at a1
  obtain ⟨σ1, h1⟩ : ∃ z, k_cd_reset g (nI a) (nI b) (nI c) σ = some z := ⟨_, rfl⟩
  refine ⟨σ1, _, h1, by rw [k_mm_clears, a1, pu_b1, pu_let, pu_let, pu_let], ?_, ?_, nc_W ha hb hc ht, fun h => absurd h (by show ¬ (0 < 0); omega), ⟨fun _ => rfl, fun _ => rfl⟩, fun row h => absurd h (by show ¬ (row < 0); omega)⟩
  · have fr := f_cd_reset h1
    have e12 : σ1 12 g = σ 12 g := fr 12 g (by simp)
    simp only [k_cd_reset, k_lg_clear, k_fi_clear, k_ta_clear, pu_let, pu_b1] at h1
    have h1' := (Option.some.inj h1).symm
    refine nc_CR ⟨?_, ?_, ?_, ?_, ?_, ?_, ?_, ?_⟩ ⟨?_, ?_⟩ ?_ (fun k hk => ?_) (fun f hf => by rw [e12]; exact h2b f hf)
    · rw [h1']; simp [en_wr]
    · rw [h1']; simp [en_wr]
    · rw [h1']; simp [en_wr]
    · rw [h1']; simp [en_wr]
    · rw [h1']; simp [en_wr]
    · rw [h1']; simp [en_wr]
    · rw [h1']; simp [en_wr]
    · rw [h1']; simp [en_wr]
    · rw [h1']; simp [en_wr]
    · rw [h1']; simp [en_wr]
    · rw [h1']; simp [en_wr]
    · rw [h1']
      rcases (show k = 0 ∨ k = 1 ∨ k = 2 ∨ k = 3 ∨ k = 4 ∨ k = 5 by omega) with rfl | rfl | rfl | rfl | rfl | rfl <;> simp [en_wr]
  · refine nc_MR ⟨?_, ?_, ?_⟩ (fun k h3 hk => ?_)
    · rw [pu_wr_k (by decide), pu_wr_k (by decide), pu_wr_eq]
    · rw [pu_wr_k (by decide), pu_wr_eq]
    · rw [pu_wr_eq]
    · rw [pu_wr_k (by omega), pu_wr_k (by omega), pu_wr_k (by omega), a3 k (by omega) hk]

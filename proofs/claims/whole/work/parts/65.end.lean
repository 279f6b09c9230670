/-! A send is done: what the card is then. -/
def go_B (A B : ab_A) (n k f : Nat) : Prop :=
  ((∀ x, x ≠ 10 → x ≠ 11 → aH B x = aH A x) ∧ aH B 10 = aH A 10 + 1 ∧ aH B 11 = 0) ∧
  ((∀ m w, ¬ (m = n ∧ w = 4) → aS B m w = aS A m w) ∧ aS B n 4 = 2) ∧ aF B = aF A ∧
  ((∀ m k' w, ¬ (m = n ∧ k' = k ∧ w = 2) → aP B m k' w = aP A m k' w) ∧ aP B n k 2 = nI (aH A 4)) ∧
  ((∀ x, x ≠ 2 → aC B x = aC A x) ∧ aC B 2 = aC A 2 + (if n ≤ aH A 6 then 0 else 1)) ∧
  ((∀ f' w, f' ≠ f → aX B f' w = aX A f' w) ∧ aX B f 0 = aX A f 0 + nI (ab_sz A n k - 12) ∧ aX B f 1 = aX A f 1 + 1) ∧
  aL B = aL A ∧ (aD B 0 0 = nI n ∧ aD B 0 1 = nI (aH A 4) ∧ ∀ j w, aD B (j + 1) w = aD A j w) ∧
  (∀ m w, ¬ (m = n ∧ w = 1) → aR B m w = aR A m w) ∧ aR B n 1 = nI (aH A 4)
theorem go_ex (A : ab_A) (n k f : Nat) : ∃ B, go_B A B n k f := by
  refine ⟨(fun x => if x = 10 then aH A 10 + 1 else if x = 11 then 0 else aH A x, u2 (aS A) n 4 2, aF A, u3 (aP A) n k 2 (nI (aH A 4)), u1 (aC A) 2 (aC A 2 + (if n ≤ aH A 6 then 0 else 1)), u2 (u2 (aX A) f 0 (aX A f 0 + nI (ab_sz A n k - 12))) f 1 (aX A f 1 + 1), aL A, fun j w => if j = 0 then (if w = 0 then nI n else nI (aH A 4)) else aD A (j - 1) w, u2 (aR A) n 1 (nI (aH A 4))), ?_⟩
  refine ⟨⟨fun x h1 h2 => ?_, rfl, rfl⟩, ⟨fun m w h => u2_n h, u2_s⟩, rfl, ⟨fun m k' w h => u3_n h, u3_s⟩, ⟨fun x h => u1_n h, ?_⟩, ⟨fun f' w h => ?_, ?_, u2_s⟩, rfl, ⟨rfl, rfl, fun j w => rfl⟩, fun m w h => u2_n h, u2_s⟩
  · show (if x = 10 then _ else if x = 11 then _ else _) = _
    rw [if_neg h1, if_neg h2]
  · show u1 (aC A) 2 (aC A 2 + (if n ≤ aH A 6 then 0 else 1)) 2 = _
    exact u1_s
  · show u2 _ f 1 _ f' w = _
    rw [u2_n (by omega), u2_n (by omega)]
  · show u2 (u2 (aX A) f 0 (aX A f 0 + nI (ab_sz A n k - 12))) f 1 (aX A f 1 + 1) f 0 = _
    rw [u2_n (by omega), u2_s]
theorem go_W {t n k f : Nat} {A B : ab_A} (hB : go_B A B n k f) (hW : ab_W A t) (h11 : aH A 11 ≠ 0) (h7 : aH A 7 = 0) (hlog : ∀ row, row < aH A 9 → aL A row 5 < aH A 4) (hT : aH A 10 < aH A 4) (hn : aH A 8 = n) (hk : aS A n 7 = k + 1) (hl : aS A n 6 ≤ k + 1) : ab_W B t ∧ ab_WH B := by
  obtain ⟨⟨bH, bH10, bH11⟩, ⟨bS, bS4⟩, bF, ⟨bPo, bP2⟩, -, -, bL, -, bR, bR1⟩ := hB
  have hN := ab_N hW
  obtain ⟨hR, hlt, h4, -⟩ := hW.2.2.2.2.1 h11
  rw [hn] at hR hlt h4
  have hw := ab_in_win hW hR hlt
  have hp := ab_pc hW hw
  have bwin : ∀ m, ab_win B m ↔ ab_win A m := fun m => by simp only [ab_win, bH 5 (by omega) (by omega)]
  refine ⟨?_, ⟨fun _ => by rw [bH 7 (by omega) (by omega)]; exact h7, fun _ => bH11⟩, ?_⟩
  · obtain ⟨w1, w2, w3, w4, w5, w6⟩ := hW
    refine ⟨?_, fun f' hf' => ?_, fun m hm' => ?_, fun m k' hm' hk' => ?_, fun h => absurd bH11 h, ?_⟩
    · simp only [ab_W1, bH10, bH 0 (by omega) (by omega), bH 1 (by omega) (by omega), bH 2 (by omega) (by omega), bH 3 (by omega) (by omega), bH 4 (by omega) (by omega), bH 5 (by omega) (by omega), bH 6 (by omega) (by omega), bH 7 (by omega) (by omega), bH 9 (by omega) (by omega)]
      simp only [ab_W1] at w1
      omega
    · rw [bH 3 (by omega) (by omega)] at hf'
      rw [bF]
      exact w2 f' hf'
    · have hx := w3 m ((bwin m).mp hm')
      obtain ⟨x1, x2, x3, x4, x5, x6, x7, x8, x9, x10, x11, x12⟩ := hx
      rw [bS m 0 (by omega), bS m 1 (by omega), bS m 2 (by omega), bS m 3 (by omega), bS m 5 (by omega), bS m 6 (by omega), bS m 7 (by omega), bS m 8 (by omega), bR m 0 (by omega), bR m 2 (by omega), bH 3 (by omega) (by omega), bH 4 (by omega) (by omega), bH 6 (by omega) (by omega)]
      by_cases e : m = n
      · subst e
        rw [bS4]
        refine ⟨x1, x2, x3, x4, by omega, fun _ => x6 (Or.inl h4), fun q => by omega, x8, fun _ => by omega, fun _ => Nat.le_refl _, fun q => absurd rfl q, fun q => by omega⟩
      · rw [bS m 4 (by omega), bR m 1 (by omega)]
        refine ⟨x1, x2, x3, x4, x5, x6, x7, x8, x9, x10, x11, fun q1 q2 => ?_⟩
        have := (x12 q1 q2).2
        omega
    · rw [bS m 6 (by omega), bS m 7 (by omega)] at *
      have hmA := (bwin m).mp hm'
      rw [bH11, bH 4 (by omega) (by omega), bPo m k' 1 (by omega)]
      by_cases e : m = n
      · subst e
        have hk2 : k' < aS A m 6 := by
          rcases hk' with h | h
          · exact h
          · omega
        have hx := w4 m k' hmA (Or.inl hk2)
        refine ⟨fun q => ⟨(hx.1 q).1, fun z => absurd rfl z.1, fun _ => ?_⟩, fun q => by omega⟩
        by_cases e : k' = k
        · subst e
          rw [bP2]
          exact ⟨_, Nat.le_refl _, rfl⟩
        · rw [bPo m k' 2 (by omega)]
          exact (hx.1 q).2.2 (fun z => e (by omega))
      · rw [bS m 4 (by omega)] at hk'
        have hx := w4 m k' hmA hk'
        rw [bPo m k' 2 (fun z => e z.1)]
        refine ⟨fun q => ⟨(hx.1 q).1, fun z => absurd rfl z.1, fun _ => (hx.1 q).2.2 (fun z => e (z.2.1.trans hn))⟩, hx.2⟩
    · simp only [ab_W6, bL, bH 9 (by omega) (by omega), bH 4 (by omega) (by omega)]
      exact w6
  · rw [bH 9 (by omega) (by omega), bL, bH 4 (by omega) (by omega)]
    exact hlog

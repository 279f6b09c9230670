/-! Numbers: places, remainders, quotients; stores that were written. -/
theorem pu_cl {k : Nat} (h : k < 2 ^ 31) : (nI k).toNatClampNeg = k := nI_clamp h
theorem pu_inb {k n : Nat} (h : k < n) (hn : n < 2 ^ 31) : en_inb (nI k) n = true := by
  have h1 : ¬ nI k < 0 := nI_pos (by omega)
  simp [en_inb, h1, pu_cl (show k < 2 ^ 31 by omega), h]
theorem pu_rd {k n : Nat} {f : Nat → Int32} (h : k < n) (hn : n < 2 ^ 31) : en_rd n f (nI k) = some (f k) := by
  simp [en_rd, pu_inb h hn, pu_cl (show k < 2 ^ 31 by omega)]
theorem pu_wa {k n j g i : Nat} {σ : en_M} {v : Int32} (h : k < n) (hn : n < 2 ^ 31) : en_wa n σ j g i (nI k) v = some (en_wr σ j g i k v) := by
  simp [en_wa, pu_inb h hn, pu_cl (show k < 2 ^ 31 by omega)]
theorem pu_ix {k n : Nat} (h : k < n) (hn : n < 2 ^ 31) : en_ix n (nI k) = some k := by
  simp [en_ix, pu_inb h hn, pu_cl (show k < 2 ^ 31 by omega)]
theorem pu_rdx {n : Nat} {f : Nat → Int32} {x : Int32} {k : Nat} (e : x = nI k) (h : k < n) (hn : n < 2 ^ 31) : en_rd n f x = some (f k) := by rw [e]; exact pu_rd h hn
theorem pu_wax {k n j g i : Nat} {σ : en_M} {v x : Int32} (e : x = nI k) (h : k < n) (hn : n < 2 ^ 31) : en_wa n σ j g i x v = some (en_wr σ j g i k v) := by rw [e]; exact pu_wa h hn
theorem pu_ixx {k n : Nat} {x : Int32} (e : x = nI k) (h : k < n) (hn : n < 2 ^ 31) : en_ix n x = some k := by rw [e]; exact pu_ix h hn
theorem pu_rem {a d : Nat} (ha : a < 2 ^ 31) (h0 : 0 < d) (hd : d < 2 ^ 31) : nI a - nI a / nI d * nI d = nI (a % d) := pk_rem ha h0 hd
theorem pu_wr_eq {σ : en_M} {j g i k : Nat} {v : Int32} : en_wr σ j g i k v j g i k = v := by simp [en_wr]
theorem pu_wr_ne {σ : en_M} {j g i k j' g' i' k' : Nat} {v : Int32} (h : ¬ (j' = j ∧ g' = g ∧ i' = i ∧ k' = k)) : en_wr σ j g i k v j' g' i' k' = σ j' g' i' k' := by simp only [en_wr, if_neg h]
theorem pu_wr_k {σ : en_M} {j g i k k' : Nat} {v : Int32} (h : k' ≠ k) : en_wr σ j g i k v j g i k' = σ j g i k' := pu_wr_ne (fun z => h z.2.2.2)
theorem pu_wr_j {σ : en_M} {j g i k j' : Nat} {v : Int32} (h : j' ≠ j) : en_wr σ j g i k v j' = σ j' := by
  funext g' i' k'
  exact pu_wr_ne (fun z => h z.1)
theorem pu_wr_g {σ : en_M} {j g i k g' : Nat} {v : Int32} (h : g' ≠ g) : en_wr σ j g i k v j g' = σ j g' := by
  funext i' k'
  exact pu_wr_ne (fun z => h z.2.1)
theorem pu_wr_i {σ : en_M} {j g i k i' : Nat} {v : Int32} (h : i' ≠ i) : en_wr σ j g i k v j g i' = σ j g i' := by
  funext k'
  exact pu_wr_ne (fun z => h z.2.2.1)
theorem pu_b1 {α γ : Type} {a : α} {f : α → Option γ} : en_b1 (some a) f = f a := rfl
theorem pu_b2 {α β γ : Type} {a : α} {b : β} {f : α → β → Option γ} : en_b2 (some (a, b)) f = f a b := rfl
theorem pu_b3 {α β δ γ : Type} {a : α} {b : β} {c : δ} {f : α → β → δ → Option γ} : en_b3 (some (a, b, c)) f = f a b c := rfl
theorem pu_b4 {α β δ ε γ : Type} {a : α} {b : β} {c : δ} {e : ε} {f : α → β → δ → ε → Option γ} : en_b4 (some (a, b, c, e)) f = f a b c e := rfl
theorem pu_b5 {α β δ ε ζ γ : Type} {a : α} {b : β} {c : δ} {e : ε} {z : ζ} {f : α → β → δ → ε → ζ → Option γ} : en_b5 (some (a, b, c, e, z)) f = f a b c e z := rfl
theorem pu_let {α β : Type} {x : α} {f : α → β} : en_let x f = f x := rfl
theorem pu_rxl {α β γ : Type} {a : α} {f : α → Option γ} {g : β → Option γ} : en_rx (some (.inl a)) f g = f a := rfl
theorem pu_rxr {α β γ : Type} {b : β} {f : α → Option γ} {g : β → Option γ} : en_rx (some (.inr b)) f g = g b := rfl
/-- comparisons of numbers that are places -/
theorem pu_lt {a b : Nat} (ha : a < 2 ^ 31) (hb : b < 2 ^ 31) : (nI a < nI b) = (a < b) := propext (nI_ltI ha hb)
theorem pu_le {a b : Nat} (ha : a < 2 ^ 31) (hb : b < 2 ^ 31) : (nI a ≤ nI b) = (a ≤ b) := propext (nI_leI ha hb)
theorem pu_eq {a b : Nat} (ha : a < 2 ^ 31) (hb : b < 2 ^ 31) : (nI a = nI b) = (a = b) := propext (nI_eq ha hb)
/-- every int that isn't negative is a place -/
theorem pu_of {x : Int32} (h : 0 ≤ x) : ∃ n : Nat, n < 2 ^ 31 ∧ x = nI n := nI_of (by rw [Int32.not_lt]; exact h)
theorem pu_in {x : Int32} {n : Nat} (h : en_inb x n = true) (hn : n < 2 ^ 31) : ∃ k, k < n ∧ x = nI k := by
  obtain ⟨j, h1, h2⟩ := vp_in_of (en_inb_vp h) hn
  exact ⟨j, h1, h2⟩
/-- a counting loop: by the distance to its end -/
theorem pu_loop {P : Nat → Nat → Prop} (N : Nat) (h0 : ∀ f, P (f + 1) N) (hs : ∀ f k, k < N → P f (k + 1) → P (f + 1) k) : ∀ f k, k ≤ N → N < k + f → P f k := by
  intro f
  induction f with
  | zero =>
    intro k hk h
    omega
  | succ f ih =>
    intro k hk h
    by_cases hN : k < N
    · exact hs f k hN (ih (k + 1) (by omega) (by omega))
    · have : k = N := by omega
      subst this
      exact h0 f
theorem pu_wr_same {σ : en_M} {j g i k : Nat} {v : Int32} (h : σ j g i k = v) : en_wr σ j g i k v = σ := by
  funext j' g' i' k'
  simp only [en_wr]
  split
  · rename_i hc
    obtain ⟨rfl, rfl, rfl, rfl⟩ := hc
    exact h.symm
  · rfl
/-- the model's rows cleared where they are clear -/
theorem pu_clears3 {a b c : Int32} {σ : en_M} (h : ∀ k, σ 25 0 0 k = 0) : ∀ f k, k ≤ 938 → 938 < k + f → k_mm_clears_3 f a b c (nI k) σ = some σ := by
  refine pu_loop (P := fun f k => k_mm_clears_3 f a b c (nI k) σ = some σ) 938 (fun f => ?_) (fun f k hk ih => ?_)
  · rw [k_mm_clears_3]
    exact if_pos (by decide)
  · rw [k_mm_clears_3]
    have h9 : (938 : Int32) = nI 938 := rfl
    have hc : ¬ (938 : Int32) ≤ nI k := by
      rw [h9, pu_le (by decide) (by omega)]
      omega
    rw [if_neg hc, pu_wa hk (by decide), pu_b1, pu_wr_same (h k), nI_1]
    exact ih
theorem pu_clears {σ : en_M} (h : ∀ k, σ 25 0 0 k = 0) : k_mm_clears 4 10 1 σ = some (en_wr (en_wr (en_wr σ 25 0 0 0 4) 25 0 0 1 10) 25 0 0 2 1) := by
  have h3 := pu_clears3 (a := 4) (b := 10) (c := 1) h en_fu 0 (by decide) (by decide)
  have e0 : nI 0 = 0 := rfl
  rw [e0] at h3
  rw [k_mm_clears, h3]
  rfl

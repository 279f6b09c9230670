/-! Changes of the abstract card. -/
def u1 {α : Type} (f : Nat → α) (a : Nat) (v : α) : Nat → α := fun i => if i = a then v else f i
def u2 {α : Type} (f : Nat → Nat → α) (a b : Nat) (v : α) : Nat → Nat → α := fun i j => if i = a ∧ j = b then v else f i j
def u3 {α : Type} (f : Nat → Nat → Nat → α) (a b c : Nat) (v : α) : Nat → Nat → Nat → α := fun i j k => if i = a ∧ j = b ∧ k = c then v else f i j k
theorem u1_s {α : Type} {f : Nat → α} {a : Nat} {v : α} : u1 f a v a = v := if_pos rfl
theorem u1_n {α : Type} {f : Nat → α} {a i : Nat} {v : α} (h : i ≠ a) : u1 f a v i = f i := if_neg h
theorem u2_s {α : Type} {f : Nat → Nat → α} {a b : Nat} {v : α} : u2 f a b v a b = v := if_pos ⟨rfl, rfl⟩
theorem u2_n {α : Type} {f : Nat → Nat → α} {a b i j : Nat} {v : α} (h : ¬ (i = a ∧ j = b)) : u2 f a b v i j = f i j := if_neg h
theorem u3_s {α : Type} {f : Nat → Nat → Nat → α} {a b c : Nat} {v : α} : u3 f a b c v a b c = v := if_pos ⟨rfl, rfl, rfl⟩
theorem u3_n {α : Type} {f : Nat → Nat → Nat → α} {a b c i j k : Nat} {v : α} (h : ¬ (i = a ∧ j = b ∧ k = c)) : u3 f a b c v i j k = f i j k := if_neg h
def sH (A : ab_A) (x : Nat → Nat) : ab_A := (x, A.2)
def sS (A : ab_A) (x : Nat → Nat → Nat) : ab_A := (A.1, x, A.2.2)
def sF (A : ab_A) (x : Nat → Nat → Nat) : ab_A := (A.1, A.2.1, x, A.2.2.2)
def sP (A : ab_A) (x : Nat → Nat → Nat → Int32) : ab_A := (A.1, A.2.1, A.2.2.1, x, A.2.2.2.2)
def sC (A : ab_A) (x : Nat → Int32) : ab_A := (A.1, A.2.1, A.2.2.1, A.2.2.2.1, x, A.2.2.2.2.2)
def sX (A : ab_A) (x : Nat → Nat → Int32) : ab_A := (A.1, A.2.1, A.2.2.1, A.2.2.2.1, A.2.2.2.2.1, x, A.2.2.2.2.2.2)
def sL (A : ab_A) (x : Nat → Nat → Nat) : ab_A := (A.1, A.2.1, A.2.2.1, A.2.2.2.1, A.2.2.2.2.1, A.2.2.2.2.2.1, x, A.2.2.2.2.2.2.2)
def sD (A : ab_A) (x : Nat → Nat → Int32) : ab_A := (A.1, A.2.1, A.2.2.1, A.2.2.2.1, A.2.2.2.2.1, A.2.2.2.2.2.1, A.2.2.2.2.2.2.1, x, A.2.2.2.2.2.2.2.2)
def sR (A : ab_A) (x : Nat → Nat → Int32) : ab_A := (A.1, A.2.1, A.2.2.1, A.2.2.2.1, A.2.2.2.2.1, A.2.2.2.2.2.1, A.2.2.2.2.2.2.1, A.2.2.2.2.2.2.2.1, x)
/-- NEXT is told by the sends, the first that isn't reclaimed, and the flow's beginning -/
theorem ns_nk {A A' : ab_A} {n : Nat} (rt v : Nat) (hS : aS A' n = aS A n) : ∀ j, ab_nk A' rt n v j = ab_nk A rt n v j := by
  intro j
  induction j with
  | zero => rfl
  | succ j ih =>
    simp only [ab_nk, ab_e, ab_sz] at ih ⊢
    simp only [hS, ih]
theorem ns_eq {A A' : ab_A} {f rt : Nat} (hR : aH A' 6 = aH A 6) (hi : ab_in A' f rt = ab_in A f rt) : ∀ m, (∀ n, aH A 6 ≤ n → n < aH A 6 + m → aS A' n = aS A n) → ab_ns A' f rt m = ab_ns A f rt m := by
  intro m
  induction m with
  | zero => intro _; exact hi
  | succ m ih =>
    intro h
    have h1 := ih (fun n a b => h n a (by omega))
    have h2 := h (aH A 6 + m) (by omega) (by omega)
    simp only [ab_ns]
    rw [hR, h2, h1, ns_nk rt _ h2]
/-- .. more loosely: where no send of the flow has changed -/
theorem ns_eqf {A A' : ab_A} {f rt : Nat} (hR : aH A' 6 = aH A 6) (hi : ab_in A' f rt = ab_in A f rt) : ∀ m, (∀ n, aH A 6 ≤ n → n < aH A 6 + m → aS A' n = aS A n ∨ (¬ (aS A' n 4 = 1 ∧ aS A' n 7 < aS A' n 6 ∧ aS A' n 0 = f) ∧ ¬ (aS A n 4 = 1 ∧ aS A n 7 < aS A n 6 ∧ aS A n 0 = f))) → ab_ns A' f rt m = ab_ns A f rt m := by
  intro m
  induction m with
  | zero => intro _; exact hi
  | succ m ih =>
    intro h
    have h1 := ih (fun n a b => h n a (by omega))
    simp only [ab_ns]
    rcases h (aH A 6 + m) (by omega) (by omega) with h2 | ⟨h2, h3⟩
    · rw [hR, h2, h1, ns_nk rt _ h2]
    · rw [hR, if_neg h2, if_neg h3, h1]
/-- sends that don't wait may be reclaimed -/
theorem ns_shift {A A' : ab_A} {f rt d : Nat} (hR : aH A' 6 = aH A 6 + d) (hi : ab_in A' f rt = ab_in A f rt) (hS : aS A' = aS A) (hd : ∀ n, aH A 6 ≤ n → n < aH A 6 + d → ¬ aS A n 4 = 1) : ∀ m, ab_ns A' f rt m = ab_ns A f rt (d + m) := by
  have h0 : ∀ e, e ≤ d → ab_ns A f rt e = ab_in A f rt := by
    intro e
    induction e with
    | zero => intro _; rfl
    | succ e ih =>
      intro he
      simp only [ab_ns]
      rw [if_neg (fun q => hd (aH A 6 + e) (by omega) (by omega) q.1)]
      exact ih (by omega)
  intro m
  induction m with
  | zero =>
    rw [Nat.add_zero, h0 d (Nat.le_refl _)]
    exact hi
  | succ m ih =>
    rw [show d + (m + 1) = (d + m) + 1 by omega]
    simp only [ab_ns]
    have e : aH A' 6 + m = aH A 6 + (d + m) := by omega
    rw [e, hS, ih, ns_nk (A := A) (A' := A') rt _ (by rw [hS])]
theorem dp_eq {A A' : ab_A} {rt n k : Nat} (hR : aH A' 6 = aH A 6) (hn : aS A' n = aS A n) (hs : ab_ns A' (aS A n 0) rt (n - aH A 6) = ab_ns A (aS A n 0) rt (n - aH A 6)) : ab_dp A' rt n k = ab_dp A rt n k := by
  simp only [ab_dp, ab_e]
  rw [hR, hn, hs, ns_nk rt _ hn]
/-! The class's card copied. -/
/-- card g' of s is card g of σ -/
def cd_same (σ : en_M) (g : Nat) (s : en_M) (g' : Nat) : Prop := (∀ k, 8 ≤ k → k < 17 → s 0 g' 0 k = σ 0 g 0 k) ∧ (∀ i k, i < 6 → k < 9 → s 12 g' i k = σ 12 g i k) ∧ (∀ i k, i < 8 → k < 11 → s 13 g' i k = σ 13 g i k) ∧ (∀ k, k < 160 → s 3 g' 0 k = σ 3 g 0 k ∧ s 4 g' 0 k = σ 4 g 0 k ∧ s 5 g' 0 k = σ 5 g 0 k) ∧ (∀ k, 1 ≤ k → k < 3 → s 6 g' 0 k = σ 6 g 0 k) ∧ (∀ k, k < 280 → s 7 g' 0 k = σ 7 g 0 k) ∧ s 8 g' 0 2 = σ 8 g 0 2 ∧ (∀ k, k < 20 → s 9 g' 0 k = σ 9 g 0 k ∧ s 10 g' 0 k = σ 10 g 0 k) ∧ ∀ k, k < 6 → s 11 g' 0 k = σ 11 g 0 k
theorem cd_same.CR {σ s : en_M} {g g' t : Nat} {A : ab_A} (h : cd_same σ g s g') (hW : ab_W A t) (hC : ab_CR σ g A) : ab_CR s g' A := by
  obtain ⟨h0, h12, h13, h3, h6, h7, h8, h9, h11⟩ := h
  obtain ⟨⟨c1, c3, c2, c2b, c4, c5, c6, c7⟩, ct1, ct2⟩ := hC
  have hF := (ab_N hW).2.2.2.2.2.2.1
  have hm : ∀ n, n % 8 < 8 := fun n => Nat.mod_lt _ (by decide)
  refine ⟨⟨?_, ?_, ?_, ?_, ?_, ?_, ?_, ?_⟩, ?_, ?_⟩
  · simp only [ab_C1] at c1 ⊢
    rw [h0 8 (by omega) (by omega), h0 9 (by omega) (by omega), h0 10 (by omega) (by omega), h0 11 (by omega) (by omega), h0 12 (by omega) (by omega), h0 13 (by omega) (by omega), h0 14 (by omega) (by omega), h0 15 (by omega) (by omega), h0 16 (by omega) (by omega)]
    exact c1
  · intro n hn
    have := c3 n hn
    rw [h13 _ 0 (hm n) (by omega), h13 _ 1 (hm n) (by omega), h13 _ 2 (hm n) (by omega), h13 _ 3 (hm n) (by omega), h13 _ 4 (hm n) (by omega), h13 _ 5 (hm n) (by omega), h13 _ 6 (hm n) (by omega), h13 _ 7 (hm n) (by omega), h13 _ 8 (hm n) (by omega), h13 _ 9 (hm n) (by omega), h13 _ 10 (hm n) (by omega)]
    exact this
  · intro f hf
    have := c2 f hf
    rw [h12 f 0 (by omega) (by omega), h12 f 1 (by omega) (by omega), h12 f 2 (by omega) (by omega), h12 f 3 (by omega) (by omega), h12 f 4 (by omega) (by omega), h12 f 5 (by omega) (by omega), h12 f 7 (by omega) (by omega), h12 f 8 (by omega) (by omega)]
    exact this
  · intro f hf
    rw [h12 f 2 hf (by omega)]
    exact c2b f hf
  · intro n k hn hk
    have hp := ab_pc hW hn
    have := hm n
    obtain ⟨e1, e2, e3⟩ := h3 (20 * (n % 8) + k) (by omega)
    rw [e1, e2, e3]
    exact c4 n k hn hk
  · obtain ⟨a1, e, he, a2, a3, a4⟩ := c5
    refine ⟨by rw [h6 2 (by omega) (by omega)]; exact a1, e, he, by rw [h6 1 (by omega) (by omega)]; exact a2, a3, fun row c hr hc => ?_⟩
    have : (e + row) % 40 < 40 := Nat.mod_lt _ (by decide)
    rw [h7 _ (by omega)]
    exact a4 row c hr hc
  · obtain ⟨a1, a2⟩ := c6
    refine ⟨by rw [h8]; exact a1, fun k hk hk2 => ?_⟩
    obtain ⟨e1, e2⟩ := h9 ((aH A 10 - 1 - k) % 20) (Nat.mod_lt _ (by decide))
    rw [e1, e2]
    exact a2 k hk hk2
  · intro k hk
    rw [h11 k hk]
    exact c7 k hk
  · intro f hf
    rw [h12 f 6 (by omega) (by omega)]
    exact ct1 f hf
  · intro n k hn h1 h2 h4 h5
    have hp := ab_pc hW hn
    have := hm n
    rw [(h3 (20 * (n % 8) + k) (by omega)).1]
    exact ct2 n k hn h1 h2 h4 h5
/-- a card's own cells kept -/
theorem cd_same.fr {σ s : en_M} {g : Nat} (h : ∀ j, j < 14 → s j g = σ j g) : cd_same σ g s g :=
  ⟨fun k _ _ => by rw [h 0 (by omega)], fun i k _ _ => by rw [h 12 (by omega)], fun i k _ _ => by rw [h 13 (by omega)], fun k _ => ⟨by rw [h 3 (by omega)], by rw [h 4 (by omega)], by rw [h 5 (by omega)]⟩, fun k _ _ => by rw [h 6 (by omega)], fun k _ => by rw [h 7 (by omega)], by rw [h 8 (by omega)], fun k _ => ⟨by rw [h 9 (by omega)], by rw [h 10 (by omega)]⟩, fun k _ => by rw [h 11 (by omega)]⟩

/-! The abstract card: numbers that the class's card and the model's row both tell. -/
abbrev ab_A : Type := (Nat → Nat) × (Nat → Nat → Nat) × (Nat → Nat → Nat) × (Nat → Nat → Nat → Int32) × (Nat → Int32) × (Nat → Nat → Int32) × (Nat → Nat → Nat) × (Nat → Nat → Int32) × (Nat → Nat → Int32)
/-- the head: 0 ring, 1 wire, 2 batch, 3 flows, 4 time, 5 posted, 6 reclaimed, 7 ticks that the wire still has its piece, 8 the send of that, 9 log rows, 10 sends done, 11 whether the wire has a piece -/
abbrev aH (A : ab_A) : Nat → Nat := A.1
/-- a send: 0 flow, 1 length, 2 cut, 3 at, 4 state, 5 seen at, 6 pieces, 7 how many left, 8 place -/
abbrev aS (A : ab_A) : Nat → Nat → Nat := A.2.1
/-- a flow: 0 rate, 1 first, 2 paused, 3 bytes seen, 4 whether one left, 5 its depart, 6 its size -/
abbrev aF (A : ab_A) : Nat → Nat → Nat := A.2.2.1
/-- a piece: 0 depart as it left, 1 left, 2 gone -/
abbrev aP (A : ab_A) : Nat → Nat → Nat → Int32 := A.2.2.2.1
/-- counters: 0 bells, 1 saved, 2 early, 3 busy, 4 idle, 5 starved -/
abbrev aC (A : ab_A) : Nat → Int32 := A.2.2.2.2.1
/-- a flow: 0 bytes gone, 1 sends done -/
abbrev aX (A : ab_A) : Nat → Nat → Int32 := A.2.2.2.2.2.1
/-- log rows -/
abbrev aL (A : ab_A) : Nat → Nat → Nat := A.2.2.2.2.2.2.1
/-- the k-th latest that was done: 0 send, 1 time -/
abbrev aD (A : ab_A) : Nat → Nat → Int32 := A.2.2.2.2.2.2.2.1
/-- a send's raw numbers: 0 seen at, 1 done at, 2 place -/
abbrev aR (A : ab_A) : Nat → Nat → Int32 := A.2.2.2.2.2.2.2.2
def ab_gp (size rate : Nat) : Nat := if rate = 0 then 0 else (10 * size + rate - 1) / rate
def ab_up (a b : Nat) : Nat := (a + b - 1) / b
def ab_sz (A : ab_A) (n k : Nat) : Nat := 12 + min (aS A n 2) (aS A n 1 - k * aS A n 2)
def ab_wt (A : ab_A) (n : Nat) : Prop := aS A n 4 = 1 ∧ aS A n 7 < aS A n 6
def ab_e (A : ab_A) (n : Nat) : Nat := max (aS A n 5) (aS A n 3)
def ab_in (A : ab_A) (f rt : Nat) : Nat := if aF A f 4 = 0 then 0 else aF A f 5 + ab_gp (aF A f 6) rt
/-- NEXT behind j pieces of send n, from v on -/
def ab_nk (A : ab_A) (rt n v : Nat) : Nat → Nat
  | 0 => v
  | j + 1 => max (ab_e A n) (ab_nk A rt n v j) + ab_gp (ab_sz A n (aS A n 7 + j)) rt
/-- NEXT of flow f behind m sends from the first that isn't reclaimed -/
noncomputable def ab_ns (A : ab_A) (f rt : Nat) : Nat → Nat
  | 0 => ab_in A f rt
  | m + 1 => if aS A (aH A 6 + m) 4 = 1 ∧ aS A (aH A 6 + m) 7 < aS A (aH A 6 + m) 6 ∧ aS A (aH A 6 + m) 0 = f then ab_nk A rt (aH A 6 + m) (ab_ns A f rt m) (aS A (aH A 6 + m) 6 - aS A (aH A 6 + m) 7) else ab_ns A f rt m
/-- when piece k of send n may leave by a rate of its flow -/
noncomputable def ab_dp (A : ab_A) (rt n k : Nat) : Nat := max (ab_e A n) (ab_nk A rt n (ab_ns A (aS A n 0) rt (n - aH A 6)) (k - aS A n 7))
noncomputable def ab_de (A : ab_A) (n k : Nat) : Nat := ab_dp A (aF A (aS A n 0) 0) n k
noncomputable def ab_nx (A : ab_A) (f : Nat) : Nat := ab_ns A f (aF A f 0) (aH A 5 - aH A 6)
def ab_win (A : ab_A) (n : Nat) : Prop := n < aH A 5 ∧ aH A 5 ≤ n + 8
/-! The class's card. -/
def ab_C1 (σ : en_M) (g : Nat) (A : ab_A) : Prop := σ 0 g 0 8 = nI (aH A 0) ∧ σ 0 g 0 9 = nI (aH A 1) ∧ σ 0 g 0 10 = nI (aH A 2) ∧ σ 0 g 0 11 = nI (aH A 4) ∧ σ 0 g 0 12 = nI (aH A 3) ∧ σ 0 g 0 13 = nI (aH A 5) ∧ σ 0 g 0 14 = nI (aH A 6) ∧ σ 0 g 0 15 = (if aH A 11 = 0 then -1 else nI (aH A 8)) ∧ (aH A 11 ≠ 0 → σ 0 g 0 16 = nI (aH A 4 + aH A 7))
def ab_C2 (σ : en_M) (g : Nat) (A : ab_A) : Prop := ∀ f, f < aH A 3 → σ 12 g f 0 = nI (aF A f 0) ∧ σ 12 g f 1 = nI (aF A f 1) ∧ σ 12 g f 2 = nI (aF A f 2) ∧ σ 12 g f 3 = nI (aF A f 3) ∧ σ 12 g f 4 = (if aF A f 4 = 0 then -1 else nI (aF A f 5)) ∧ σ 12 g f 5 = nI (if aF A f 4 = 0 then 0 else aF A f 6) ∧ σ 12 g f 7 = aX A f 0 ∧ σ 12 g f 8 = aX A f 1
def ab_C2b (σ : en_M) (g : Nat) : Prop := ∀ f, f < 6 → σ 12 g f 2 = 0 ∨ σ 12 g f 2 = 1
def ab_C3 (σ : en_M) (g : Nat) (A : ab_A) : Prop := ∀ n, ab_win A n → σ 13 g (n % 8) 0 = nI n ∧ σ 13 g (n % 8) 1 = nI (aS A n 0) ∧ σ 13 g (n % 8) 2 = nI (aS A n 1) ∧ σ 13 g (n % 8) 3 = nI (aS A n 2) ∧ σ 13 g (n % 8) 4 = nI (aS A n 3) ∧ σ 13 g (n % 8) 5 = nI (aS A n 4) ∧ σ 13 g (n % 8) 6 = nI (aS A n 6) ∧ σ 13 g (n % 8) 7 = nI (aS A n 7) ∧ σ 13 g (n % 8) 8 = aR A n 0 ∧ σ 13 g (n % 8) 9 = aR A n 1 ∧ σ 13 g (n % 8) 10 = aR A n 2
def ab_C4 (σ : en_M) (g : Nat) (A : ab_A) : Prop := ∀ n k, ab_win A n → k < aS A n 6 → (k < aS A n 7 → σ 3 g 0 (20 * (n % 8) + k) = aP A n k 0) ∧ σ 4 g 0 (20 * (n % 8) + k) = aP A n k 1 ∧ σ 5 g 0 (20 * (n % 8) + k) = aP A n k 2
def ab_C5 (σ : en_M) (g : Nat) (A : ab_A) : Prop := σ 6 g 0 2 = nI (aH A 9) ∧ ∃ e, e < 40 ∧ σ 6 g 0 1 = nI e ∧ (aH A 9 < 40 → e = 0) ∧ ∀ row c, row < aH A 9 → c < 7 → σ 7 g 0 (7 * ((e + row) % 40) + c) = nI (aL A row c)
def ab_C6 (σ : en_M) (g : Nat) (A : ab_A) : Prop := σ 8 g 0 2 = nI (aH A 10) ∧ ∀ k, k < 20 → k < aH A 10 → σ 9 g 0 ((aH A 10 - 1 - k) % 20) = aD A k 0 ∧ σ 10 g 0 ((aH A 10 - 1 - k) % 20) = aD A k 1
def ab_C7 (σ : en_M) (g : Nat) (A : ab_A) : Prop := ∀ k, k < 6 → σ 11 g 0 k = aC A k
/-- all of a card but when pieces may leave -/
def ab_CW (σ : en_M) (g : Nat) (A : ab_A) : Prop := ab_C1 σ g A ∧ ab_C3 σ g A ∧ ab_C2 σ g A ∧ ab_C2b σ g ∧ ab_C4 σ g A ∧ ab_C5 σ g A ∧ ab_C6 σ g A ∧ ab_C7 σ g A
/-- when pieces may leave -/
def ab_CT (σ : en_M) (g : Nat) (A : ab_A) : Prop := (∀ f, f < aH A 3 → σ 12 g f 6 = nI (ab_nx A f)) ∧ ∀ n k, ab_win A n → aH A 6 ≤ n → aS A n 4 = 1 → aS A n 7 ≤ k → k < aS A n 6 → σ 3 g 0 (20 * (n % 8) + k) = nI (ab_de A n k)
def ab_CR (σ : en_M) (g : Nat) (A : ab_A) : Prop := ab_CW σ g A ∧ ab_CT σ g A
/-- the head and the sends alone -/
def ab_Cs (σ : en_M) (g : Nat) (A : ab_A) : Prop := ab_C1 σ g A ∧ ab_C3 σ g A
theorem ab_CW.s {σ : en_M} {g : Nat} {A : ab_A} (h : ab_CW σ g A) : ab_Cs σ g A := ⟨h.1, h.2.1⟩
/-! The model's row. -/
def ab_M1 (r : Nat → Int32) (A : ab_A) : Prop := (∀ k, k < 7 → r k = nI (aH A k)) ∧ r 7 = aC A 0 ∧ r 8 - r 9 = aC A 1 ∧ r 10 = nI (aH A 10) ∧ r 11 = aC A 2 ∧ r 12 = aC A 3 ∧ r 13 = aC A 4 ∧ r 14 = aC A 5 ∧ (aH A 11 ≠ 0 → r 15 = nI (aH A 8) ∧ r 16 = nI (aS A (aH A 8) 7 - 1)) ∧ r 17 = nI (aH A 7) ∧ r 18 = nI (aH A 9) ∧ r 19 = nI (min 20 (aH A 10))
def ab_M2 (r : Nat → Int32) (A : ab_A) : Prop := ∀ f, f < aH A 3 → (∀ w, w < 5 → r (20 + 9 * f + w) = nI (aF A f w)) ∧ (aF A f 4 = 1 → r (20 + 9 * f + 5) = nI (aF A f 5) ∧ r (20 + 9 * f + 6) = nI (aF A f 6)) ∧ r (20 + 9 * f + 7) = aX A f 0 ∧ r (20 + 9 * f + 8) = aX A f 1
def ab_M3 (r : Nat → Int32) (A : ab_A) : Prop := ∀ n, ab_win A n → (∀ w, w < 5 → r (74 + 68 * (n % 8) + w) = nI (aS A n w)) ∧ (∀ w, w < 3 → r (74 + 68 * (n % 8) + (5 + w)) = aR A n w)
def ab_M4 (r : Nat → Int32) (A : ab_A) : Prop := ∀ n k, ab_win A n → k < 20 → (k < aS A n 6 ∨ aS A n 4 = 0 → r (74 + 68 * (n % 8) + (8 + 3 * k + 1)) = aP A n k 1 ∧ r (74 + 68 * (n % 8) + (8 + 3 * k + 2)) = aP A n k 2) ∧ (k < aS A n 7 → r (74 + 68 * (n % 8) + (8 + 3 * k)) = aP A n k 0)
def ab_M5 (r : Nat → Int32) (A : ab_A) : Prop := ∀ row c, row < aH A 9 → c < 7 → r (618 + 7 * row + c) = nI (aL A row c)
def ab_M6 (r : Nat → Int32) (A : ab_A) : Prop := ∀ k w, k < 20 → k < aH A 10 → w < 2 → r (898 + 2 * (min 20 (aH A 10) - 1 - k) + w) = aD A k w
def ab_MR (r : Nat → Int32) (A : ab_A) : Prop := ab_M1 r A ∧ ab_M2 r A ∧ ab_M3 r A ∧ ab_M4 r A ∧ ab_M5 r A ∧ ab_M6 r A
/-! What holds of every card that t acts have made. -/
def ab_W1 (A : ab_A) (t : Nat) : Prop := (1 ≤ aH A 0 ∧ aH A 0 ≤ 8) ∧ (1 ≤ aH A 1 ∧ aH A 1 ≤ 40) ∧ (1 ≤ aH A 2 ∧ aH A 2 ≤ 8) ∧ aH A 3 ≤ 6 ∧ aH A 4 ≤ 9999 ∧ aH A 5 ≤ t ∧ aH A 6 ≤ aH A 5 ∧ aH A 5 ≤ aH A 6 + aH A 0 ∧ aH A 7 ≤ 112 ∧ aH A 9 ≤ 40 ∧ aH A 10 ≤ aH A 4 ∧ t ≤ 7168
def ab_W2 (A : ab_A) (t : Nat) : Prop := ∀ f, f < aH A 3 → aF A f 0 ≤ 999 ∧ aF A f 1 ≤ 9999 ∧ aF A f 2 ≤ 1 ∧ aF A f 3 ≤ 1600 * t ∧ aF A f 4 ≤ 1 ∧ (aF A f 4 = 1 → aF A f 5 ≤ 9999 ∧ aF A f 6 ≤ 112)
def ab_W3 (A : ab_A) (t : Nat) : Prop := ∀ n, ab_win A n → aS A n 0 < aH A 3 ∧ (1 ≤ aS A n 1 ∧ aS A n 1 ≤ 200) ∧ (10 ≤ aS A n 2 ∧ aS A n 2 ≤ 100) ∧ aS A n 3 ≤ 9999 ∧ aS A n 4 ≤ 3 ∧ (aS A n 4 = 1 ∨ aS A n 4 = 2 → aS A n 6 = ab_up (aS A n 1) (aS A n 2) ∧ aR A n 0 = nI (aS A n 5) ∧ aS A n 5 ≤ aH A 4 ∧ aR A n 2 = nI (aS A n 8) ∧ aS A n 8 ≤ 9999 + 1600 * t) ∧ (aS A n 4 = 0 ∨ aS A n 4 = 3 → aS A n 6 = 0) ∧ aS A n 7 ≤ aS A n 6 ∧ (aS A n 4 = 2 → aS A n 7 = aS A n 6) ∧ (n < aH A 6 → 2 ≤ aS A n 4) ∧ (aS A n 4 ≠ 2 → aR A n 1 = -1) ∧ (aS A n 4 = 1 → aS A n 7 = aS A n 6 → aH A 11 ≠ 0 ∧ aH A 8 = n)
def ab_W4 (A : ab_A) : Prop := ∀ n k, ab_win A n → (k < aS A n 6 ∨ aS A n 4 = 0 ∧ k < 20) → (k < aS A n 7 → (∃ v, v ≤ 9999 ∧ aP A n k 1 = nI v) ∧ (aH A 11 ≠ 0 ∧ n = aH A 8 ∧ k + 1 = aS A n 7 → aP A n k 2 = -1) ∧ (¬ (aH A 11 ≠ 0 ∧ n = aH A 8 ∧ k + 1 = aS A n 7) → ∃ v, v ≤ aH A 4 ∧ aP A n k 2 = nI v)) ∧ (aS A n 7 ≤ k → aP A n k 1 = -1 ∧ aP A n k 2 = -1)
def ab_W5 (A : ab_A) : Prop := aH A 11 ≠ 0 → aH A 6 ≤ aH A 8 ∧ aH A 8 < aH A 5 ∧ aS A (aH A 8) 4 = 1 ∧ 1 ≤ aS A (aH A 8) 7
def ab_W6 (A : ab_A) : Prop := (∀ row, row < aH A 9 → 13 ≤ aL A row 3 ∧ aL A row 3 ≤ 112 ∧ aL A row 4 ≤ aL A row 5 ∧ aL A row 5 ≤ aH A 4) ∧ ∀ row, row + 1 < aH A 9 → aL A row 5 < aL A (row + 1) 5
/-- the first send that isn't reclaimed isn't over; the wire has a piece for some ticks -/
def ab_WH (A : ab_A) : Prop := (aH A 11 = 0 ↔ aH A 7 = 0) ∧ ∀ row, row < aH A 9 → aL A row 5 < aH A 4
def ab_WR (A : ab_A) : Prop := (aH A 6 < aH A 5 → aS A (aH A 6) 4 ≤ 1) ∧ ab_WH A
def ab_W (A : ab_A) (t : Nat) : Prop := ab_W1 A t ∧ ab_W2 A t ∧ ab_W3 A t ∧ ab_W4 A ∧ ab_W5 A ∧ ab_W6 A
/-! Conditions of numbers. -/
theorem it_le {α : Type} {a b : Nat} {p q : α} (ha : a < 2 ^ 31) (hb : b < 2 ^ 31) : (if nI a ≤ nI b then p else q) = (if a ≤ b then p else q) := by simp only [pu_le ha hb]
theorem it_lt {α : Type} {a b : Nat} {p q : α} (ha : a < 2 ^ 31) (hb : b < 2 ^ 31) : (if nI a < nI b then p else q) = (if a < b then p else q) := by simp only [pu_lt ha hb]
theorem it_eq {α : Type} {a b : Nat} {p q : α} (ha : a < 2 ^ 31) (hb : b < 2 ^ 31) : (if nI a = nI b then p else q) = (if a = b then p else q) := by simp only [pu_eq ha hb]
theorem itx_le {α : Type} {a b : Nat} {x y : Int32} {p q : α} (hx : x = nI a) (hy : y = nI b) (ha : a < 2 ^ 31) (hb : b < 2 ^ 31) : (if x ≤ y then p else q) = (if a ≤ b then p else q) := by subst hx hy; exact it_le ha hb
theorem itx_lt {α : Type} {a b : Nat} {x y : Int32} {p q : α} (hx : x = nI a) (hy : y = nI b) (ha : a < 2 ^ 31) (hb : b < 2 ^ 31) : (if x < y then p else q) = (if a < b then p else q) := by subst hx hy; exact it_lt ha hb
theorem itx_eq {α : Type} {a b : Nat} {x y : Int32} {p q : α} (hx : x = nI a) (hy : y = nI b) (ha : a < 2 ^ 31) (hb : b < 2 ^ 31) : (if x = y then p else q) = (if a = b then p else q) := by subst hx hy; exact it_eq ha hb
theorem it_m1 {α : Type} {a : Nat} {p q : α} (ha : a < 2 ^ 31) : (if nI a = -1 then p else q) = q := by
  rw [if_neg]
  intro h
  have h1 := nI_pos ha
  rw [h] at h1
  exact h1 (by decide)
theorem it_neg {α : Type} {a : Nat} {p q : α} (ha : a < 2 ^ 31) : (if nI a < 0 then p else q) = q := if_neg (nI_pos ha)
theorem it_pos {α : Type} {a : Nat} {p q : α} (ha : a < 2 ^ 31) : (if 0 ≤ nI a then p else q) = p := if_pos (nI_pos' ha)
/-! Numbers. -/
theorem nu_le {a b : Nat} {x y : Int32} (hx : x = nI a) (hy : y = nI b) (ha : a < 2 ^ 31) (hb : b < 2 ^ 31) : (x ≤ y) = (a ≤ b) := by rw [hx, hy]; exact pu_le ha hb
theorem nu_lt {a b : Nat} {x y : Int32} (hx : x = nI a) (hy : y = nI b) (ha : a < 2 ^ 31) (hb : b < 2 ^ 31) : (x < y) = (a < b) := by rw [hx, hy]; exact pu_lt ha hb
theorem nu_eq {a b : Nat} {x y : Int32} (hx : x = nI a) (hy : y = nI b) (ha : a < 2 ^ 31) (hb : b < 2 ^ 31) : (x = y) = (a = b) := by rw [hx, hy]; exact pu_eq ha hb
theorem nu_m1 {a : Nat} (ha : a < 2 ^ 31) : (nI a = -1) = False := by
  apply eq_false
  intro h
  have h1 := nI_pos ha
  rw [h] at h1
  exact h1 (by decide)
theorem nu_neg {a : Nat} (ha : a < 2 ^ 31) : (nI a < 0) = False := eq_false (nI_pos ha)
theorem nu_pos {a : Nat} (ha : a < 2 ^ 31) : (0 ≤ nI a) = True := eq_true (nI_pos' ha)
theorem nu_max {a b : Nat} (ha : a < 2 ^ 31) (hb : b < 2 ^ 31) : (if nI a < nI b then nI b else nI a) = nI (max a b) := by
  rw [it_lt ha hb]
  split
  · rw [Nat.max_eq_right (by omega)]
  · rw [Nat.max_eq_left (by omega)]
theorem nu_gr {a b : Nat} (ha : a < 2 ^ 31) (hb : b < 2 ^ 31) : k_mm_greater (nI a) (nI b) = nI (max a b) := by
  rw [k_mm_greater, it_le ha hb]
  split
  · rw [Nat.max_eq_right (by omega)]
  · rw [Nat.max_eq_left (by omega)]
theorem nu_ls {a b : Nat} (ha : a < 2 ^ 31) (hb : b < 2 ^ 31) : k_mm_lesser (nI a) (nI b) = nI (min a b) := by
  rw [k_mm_lesser, it_le hb ha]
  split
  · rw [Nat.min_eq_right (by omega)]
  · rw [Nat.min_eq_left (by omega)]
theorem nu_fm {a d : Nat} (ha : a < 2 ^ 31) (h0 : 0 < d) (hd : d < 2 ^ 31) : en_fm (nI a) (nI d) = nI (a % d) := by
  have hx : 0 ≤ nI a ^^^ nI d := by
    rw [Int32.le_iff_toInt_le]
    have e : (nI a ^^^ nI d).toInt = ((a ^^^ d : Nat) : Int) := by
      have hlt : a ^^^ d < 2 ^ 31 := Nat.xor_lt_two_pow ha hd
      have e1 : nI a ^^^ nI d = nI (a ^^^ d) := by
        apply Int32.toBitVec_inj.mp
        apply BitVec.eq_of_toNat_eq
        rw [Int32.toBitVec_xor, BitVec.toNat_xor, pk_tn (by omega), pk_tn (by omega), pk_tn (by omega)]
      rw [e1, nI_toInt hlt]
    rw [e]
    exact Int.natCast_nonneg _
  rw [en_fm, if_pos hx, pu_rem ha h0 hd]
theorem nu_up {a b : Nat} (h0 : 0 < b) (h : a + b < 2 ^ 31) : k_cc_roundedUp (nI a) (nI b) = some (nI (ab_up a b)) := by
  have h1 : (0 : Int32) < nI b := by
    rw [← nI_0, pu_lt (by decide) (by omega)]
    exact h0
  have h2 : ¬ nI b = 0 := nI_ne0 h0 (by omega)
  rw [k_cc_roundedUp, if_pos h1, nI_add, show (1 : Int32) = nI 1 from rfl, pk_sub (by omega), en_dv, if_neg h2, pu_b1, pk_div (by omega) h0 (by omega), ab_up]
theorem nu_tk {a b : Nat} {τ : en_M} (hw : τ 25 0 0 1 = nI b) (h0 : 0 < b) (h : a + b < 2 ^ 31) : k_mm_ticksOf (nI a) τ = some (nI (ab_up a b)) := by
  have h2 : ¬ nI b = 0 := nI_ne0 h0 (by omega)
  rw [k_mm_ticksOf, hw, nI_add, show (1 : Int32) = nI 1 from rfl, pk_sub (by omega), en_dv, if_neg h2, pu_b1, pk_div (by omega) h0 (by omega), ab_up]
theorem nu_gap {a b : Nat} (h : 10 * a + b < 2 ^ 31) : k_cc_gapOf (nI a) (nI b) = some (nI (ab_gp a b)) := by
  rw [k_cc_gapOf]
  by_cases h0 : b = 0
  · subst h0
    rw [if_neg (by decide), ab_gp, if_pos rfl]
    rfl
  · have h1 : (0 : Int32) < nI b := by
      rw [← nI_0, pu_lt (by decide) (by omega)]
      omega
    have h2 : ¬ nI b = 0 := nI_ne0 (by omega) (by omega)
    rw [if_pos h1, show (10 : Int32) = nI 10 from rfl, pk_mul, nI_add, show (1 : Int32) = nI 1 from rfl, pk_sub (by omega), en_dv, if_neg h2, pu_b1, pk_div (by omega) (by omega) (by omega), ab_gp, if_neg h0]
theorem nu_gapm {a b : Nat} (h : 10 * a + b < 2 ^ 31) : k_mm_gap (nI a) (nI b) = some (nI (ab_gp a b)) := by
  rw [k_mm_gap]
  by_cases h0 : b = 0
  · subst h0
    rw [if_pos (by decide), ab_gp, if_pos rfl]
    rfl
  · have h2 : ¬ nI b = 0 := nI_ne0 (by omega) (by omega)
    rw [if_neg h2, show (10 : Int32) = nI 10 from rfl, pk_mul, nI_add, show (1 : Int32) = nI 1 from rfl, pk_sub (by omega), en_dv, if_neg h2, pu_b1, pk_div (by omega) (by omega) (by omega), ab_gp, if_neg h0]
theorem ab_up_le {l c : Nat} (hl : l ≤ 200) (hc : 10 ≤ c) : ab_up l c ≤ 20 := by
  rw [ab_up]
  have := Nat.div_lt_of_lt_mul (show l + c - 1 < c * 21 by omega)
  omega
theorem ab_up_pos {l c : Nat} (hl : 1 ≤ l) (hc : 1 ≤ c) : 1 ≤ ab_up l c := by
  rw [ab_up]
  exact Nat.div_pos (by omega) (by omega)
theorem ab_up_lt {l c k : Nat} (hl : 1 ≤ l) (hk : k < ab_up l c) : k * c < l := by
  rw [ab_up] at hk
  have h1 : (k + 1) * c ≤ l + c - 1 := by
    have := Nat.mul_le_of_le_div c (k + 1) (l + c - 1) (by omega)
    exact this
  have : (k + 1) * c = k * c + c := Nat.succ_mul k c
  omega
theorem ab_up_last {l c k : Nat} (hc : 1 ≤ c) (hk : k + 1 = ab_up l c) : l - k * c ≤ c := by
  rw [ab_up] at hk
  have h1 : l + c - 1 < (k + 1 + 1) * c := by
    rw [hk]
    have := Nat.lt_mul_div_succ (l + c - 1) (show 0 < c by omega)
    rw [Nat.mul_comm] at this
    exact this
  have e1 : (k + 1 + 1) * c = k * c + c + c := by rw [Nat.succ_mul, Nat.succ_mul]
  omega
theorem ab_up_mid {l c k : Nat} (hk : k + 1 < ab_up l c) : c ≤ l - k * c := by
  rw [ab_up] at hk
  have h1 : (k + 1 + 1) * c ≤ l + c - 1 := Nat.mul_le_of_le_div c (k + 1 + 1) (l + c - 1) (by omega)
  have e1 : (k + 1 + 1) * c = k * c + c + c := by rw [Nat.succ_mul, Nat.succ_mul]
  omega
theorem ab_gp_le {a b : Nat} (ha : a ≤ 112) : ab_gp a b ≤ 1120 := by
  rw [ab_gp]
  split
  · omega
  · have : 10 * a + b - 1 < b * 1121 := by
      have : 1 ≤ b := by omega
      omega
    have := Nat.div_lt_of_lt_mul this
    omega
theorem ab_sz_le {A : ab_A} {n k : Nat} (h : aS A n 2 ≤ 100) : ab_sz A n k ≤ 112 := by
  rw [ab_sz]
  omega

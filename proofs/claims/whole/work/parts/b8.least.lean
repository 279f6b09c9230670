/-! On paper: the least rate. -/
section ple
variable {t : Nat} {A : ab_A}
/-- the class's store between two tries -/
def le_C (σ : en_M) (A : ab_A) (f : Nat) : Prop := pp_C σ A ∧ σ 12 0 f 4 = (if aF A f 4 = 0 then -1 else nI (aF A f 5)) ∧ σ 12 0 f 5 = nI (if aF A f 4 = 0 then 0 else aF A f 6) ∧ ∀ x, pq_in A x → aS A (x / 64) 0 ≠ f → σ 19 0 0 (20 * (x / 64 % 8) + x % 64) = nI (pq_D A x)
theorem le_Cj {σ s : en_M} {f : Nat} (h : le_C σ A f) (hj : ∀ j, j ≠ 17 → j ≠ 18 → s j = σ j) : le_C s A f := ⟨pp_Cj h.1 (hj 0 (by decide) (by decide)) (hj 12 (by decide) (by decide)) (hj 13 (by decide) (by decide)), by rw [hj 12 (by decide) (by decide)]; exact h.2.1, by rw [hj 12 (by decide) (by decide)]; exact h.2.2.1, by rw [hj 19 (by decide) (by decide)]; exact h.2.2.2⟩
theorem le_try (hW : ab_W A t) (hH : ab_WH A) {σ : en_M} {f r : Nat} (hf : f < aH A 3) (hr : r ≤ 999) (h : le_C σ A f) : ∃ s5 x s8, k_pp_begin 0 σ = some s5 ∧ s5 13 = σ 13 ∧ k_cd_putDeparts 0 (nI f) (nI r) 19 0 0 s5 = some (x, s8) ∧ (∀ c, pc_S s8 (ra A f r) c 0) ∧ (∀ j, j ≠ 17 → j ≠ 18 → j ≠ 19 → s8 j = σ j) ∧ le_C s8 A f := by
  obtain ⟨s5, a1, a2, a3, a4, a5⟩ := pb_begin hW hH h.1 (fun _ => 0)
  have h5 := le_Cj h a5
  obtain ⟨s8, b1, b2, b3, b4⟩ := pd_put a2.1 h5.2.1 h5.2.2.1 hW (rt := r) (j3 := 19) (g3 := 0) (i3 := 0) ⟨by decide, by decide⟩ hf hr
  have j8 : ∀ j, j ≠ 19 → s8 j 0 = s5 j 0 := fun j q => b2 j 0 (by simp [q])
  have oth : ∀ x, pq_in A x → aS A (x / 64) 0 ≠ f → s8 19 0 0 (20 * (x / 64 % 8) + x % 64) = nI (pq_D A x) := fun x hx hne => by
    obtain ⟨e1, e2, e3, e4, e5⟩ := pq_bd hW hx
    rw [b4 0 _ (fun z => by
      obtain ⟨-, n', k, z1, z2, z3, z4, z5, z6, z7⟩ := z
      have hw' := ab_in_win hW z1 z2
      have h20 := (ab_pc hW hw').1
      obtain ⟨g1, g2⟩ := ti_apart e4 hw' e3 (by omega) z7
      rw [← g1] at z4
      exact hne z4)]
    exact h5.2.2.2 x hx hne
  have hall : ∀ j, j ≠ 19 → s8 j = s5 j := fun j q => by
    funext g
    exact b2 j g (by simp [q])
  have hpp : pp_C s8 A := pp_Cj a2 (hall 0 (by decide)) (hall 12 (by decide)) (hall 13 (by decide))
  refine ⟨s5, _, s8, a1, a5 13 (by decide) (by decide), b1, fun c => ⟨ra_pp hpp, ?_, fun n hn => ?_, fun x hx => ?_⟩, fun j q1 q2 q3 => by rw [hall j q3, a5 j q1 q2], hpp, by rw [hall 12 (by decide)]; exact h5.2.1, by rw [hall 12 (by decide)]; exact h5.2.2.1, oth⟩
  · rw [hall 17 (by decide)]
    exact a3
  · rw [hall 18 (by decide)]
    exact a4 n hn
  · have hx' := ra_in.1 hx
    by_cases e : aS A (x / 64) 0 = f
    · rw [b3 _ _ hx'.1 hx'.2.1 hx'.2.2.1 e hx'.2.2.2.2.1 hx'.2.2.2.2.2, ra_D e]
    · rw [oth x hx' e, ra_D' e]
/-- the model's store between two tries -/
def le_M (τ τ0 : en_M) (f : Nat) : Prop := (∀ i k, ¬ (i = 0 ∧ k = 20 + 9 * f) → τ 25 0 i k = τ0 25 0 i k) ∧ (∀ j, j < 30 → j ≠ 24 → j ≠ 25 → τ j 0 = τ0 j 0) ∧ ∀ k, k ≠ 16 → τ 24 0 0 k = τ0 24 0 0 k
theorem lr_mod (hW : ab_W A t) (hH : ab_WH A) {τ τ0 : en_M} {f r n : Nat} (hM : ab_MR (τ0 25 0 0) A) (hf : f < aH A 3) (hr : r ≤ 999) (h : le_M τ τ0 f) (h6 : aH A 6 ≤ n) (h5 : n < aH A 5) (h4 : aS A n 4 = 1) : ∃ s15 s17 x c N, en_wa 938 τ 25 0 0 (nI (20 + 9 * f)) (nI r) = some s15 ∧ k_mm_plays s15 = some s17 ∧ k_mm_endOf (nI n) s17 = some x ∧ pq_S (ra A f r) c N ∧ eo_P (ra A f r) c N n x ∧ le_M s17 τ0 f := by
  have hN := ab_N hW
  obtain ⟨s15, h15⟩ : ∃ z, en_wr τ 25 0 0 (20 + 9 * f) (nI r) = z := ⟨_, rfl⟩
  have hM15 : ab_MR (s15 25 0 0) (ra A f r) := ra_M hW hf hM (fun k q => by rw [← h15, pu_wr_k q]; exact h.1 0 k (fun z => q z.2)) (by rw [← h15, pu_wr_eq])
  have hW' : ab_W (ra A f r) t := ra_W hW hr
  have hH' : ab_WH (ra A f r) := hH
  obtain ⟨s17, c, N, a1, a2, a3, a4⟩ := pl_all hW' hH' hM15
  have hM17 : ab_MR (s17 25 0 0) (ra A f r) := by rw [a3 25 (by decide) (by decide)]; exact hM15
  obtain ⟨x, x1, x2⟩ := eo_end hW' hH' hM17 a2 (n := n) h6 h5 h4
  refine ⟨s15, s17, x, c, N, by rw [pu_wa (by omega) (by decide), h15], a1, x1, a2.1, x2, fun i k q => ?_, fun j q1 q2 q3 => ?_, fun k q => ?_⟩
  · rw [a3 25 (by decide) (by decide), ← h15, pu_wr_ne (by omega)]
    exact h.1 i k q
  · rw [a3 j q1 q2, ← h15, pu_wr_j q3]
    exact h.2.1 j q1 q2 q3
  · rw [a4 k q, ← h15, pu_wr_j (by decide)]
    exact h.2.2 k q
/-- when a send would be done: no time, or a time -/
theorem eo_num {c : Nat → Nat} {N n : Nat} {x : Int32} (h : eo_P A c N n x) (hx : ¬ x = -1) : ∃ u, u ≤ 9999 ∧ x = nI u := by
  have hv : ∀ v, x = pl_v v → ∃ u, u ≤ 9999 ∧ x = nI u := fun v z => by
    rw [pl_v] at z
    by_cases q : v ≤ 9999
    · rw [if_pos q] at z
      exact ⟨v, q, z⟩
    · rw [if_neg q] at z
      exact absurd z hx
  rcases h with ⟨-, a2⟩ | ⟨-, -, j, -, -, j3⟩ | ⟨-, -, a3⟩
  · exact hv _ a2
  · exact hv _ j3
  · exact absurd a3 hx
/-- by a rate of its flow a send is done in time -/
def le_ok (A : ab_A) (f n Lm r : Nat) : Prop := ∃ c N u, pq_S (ra A f r) c N ∧ eo_P (ra A f r) c N n (nI u) ∧ u ≤ Lm
theorem le_has (hW : ab_W A t) {f r r' n Lm N' : Nat} {c' : Nat → Nat} {x' : Int32} (h1 : 1 ≤ r) (h : r ≤ r') (hf : aS A n 0 = f) (hL : Lm ≤ 9999) (h6 : aH A 6 ≤ n) (h5 : n < aH A 5) (hk : le_ok A f n Lm r) (hS' : pq_S (ra A f r') c' N') (hx' : eo_P (ra A f r') c' N' n x') : ∃ u', u' ≤ Lm ∧ x' = nI u' := by
  obtain ⟨c, N, u, k1, k2, k3⟩ := hk
  obtain ⟨u', q1, q2⟩ := rx_eo hW h1 h hf h6 h5 k1 hS' k2 (by omega) hx'
  exact ⟨u', by omega, q2⟩
theorem le_mono (hW : ab_W A t) (hH : ab_WH A) {τ0 : en_M} {f r r' n Lm : Nat} (hM : ab_MR (τ0 25 0 0) A) (hf3 : f < aH A 3) (h1 : 1 ≤ r) (h : r ≤ r') (h9 : r' ≤ 999) (hf : aS A n 0 = f) (hL : Lm ≤ 9999) (h6 : aH A 6 ≤ n) (h5 : n < aH A 5) (h4 : aS A n 4 = 1) (hk : le_ok A f n Lm r) : le_ok A f n Lm r' := by
  obtain ⟨s15, s17, x, c, N, -, -, -, m4, m5, -⟩ := lr_mod hW hH hM hf3 h9 ⟨fun _ _ _ => rfl, fun _ _ _ _ => rfl, fun _ _ => rfl⟩ h6 h5 h4
  obtain ⟨u, u1, rfl⟩ := le_has hW h1 h hf hL h6 h5 hk m4 m5
  exact ⟨c, N, u, m4, m5, u1⟩
/-- the class tries a rate -/
theorem le_tryr (hW : ab_W A t) (hH : ab_WH A) {τ0 σ : en_M} {f r n Lm : Nat} (hM : ab_MR (τ0 25 0 0) A) (hf3 : f < aH A 3) (h1 : 1 ≤ r) (h9 : r ≤ 999) (hf : aS A n 0 = f) (hL : Lm ≤ 9999) (h6 : aH A 6 ≤ n) (h5 : n < aH A 5) (h4 : aS A n 4 = 1) (hC : le_C σ A f) : ∃ v s, k_pp_isDoneBy 0 0 (n % 8) (nI r) (nI Lm) σ = some (v, s) ∧ le_C s A f ∧ (∀ j, j ≠ 17 → j ≠ 18 → j ≠ 19 → s j = σ j) ∧ ((v = 0 ∧ ¬ le_ok A f n Lm r) ∨ (v = 1 ∧ le_ok A f n Lm r)) := by
  have hw := ab_in_win hW h6 h5
  obtain ⟨s15, s17, x, c, N, -, -, -, m4, m5, -⟩ := lr_mod hW hH hM hf3 h9 ⟨fun _ _ _ => rfl, fun _ _ _ _ => rfl, fun _ _ => rfl⟩ h6 h5 h4
  obtain ⟨s5, y, s8, b1, b13, b2, b3, b4, b5⟩ := le_try hW hH hf3 h9 hC
  have e1 : s5 13 0 (n % 8) 1 = nI f := by rw [b13, (hC.1.1.2 n hw).2.1, hf]
  obtain ⟨s11, v, r1, r2, r3, r4, r5⟩ := re_end (ra_W hW h9) m4 (n := n) h6 h5 h4 hL m5 (b3 c)
  have c11 := le_Cj b5 r3
  have j11 : ∀ j, j ≠ 17 → j ≠ 18 → j ≠ 19 → s11 j = σ j := fun j q1 q2 q3 => by rw [r3 j q1 q2, b4 j q1 q2 q3]
  rw [k_pp_isDoneBy, b1, pu_b1, e1, b2, pu_b2, r1, pu_b2, it_lt (by omega) (by omega)]
  by_cases hv : Lm < v
  · rw [if_pos hv]
    refine ⟨0, s11, rfl, c11, j11, Or.inl ⟨rfl, fun z => ?_⟩⟩
    obtain ⟨u', q1, q2⟩ := le_has hW h1 (Nat.le_refl _) hf hL h6 h5 z m4 m5
    rcases r5 hv with e | ⟨u, u1, u2, e⟩
    · rw [e] at q2
      have := nu_m1 (a := u') (by omega)
      rw [← q2] at this
      exact cast this rfl
    · rw [e] at q2
      have := (nI_eq (by omega) (by omega)).1 q2
      omega
  · rw [if_neg hv]
    refine ⟨1, s11, rfl, c11, j11, Or.inr ⟨rfl, c, N, v, m4, ?_, by omega⟩⟩
    rw [← r4 (by omega)]
    exact m5
/-- the class halves the rates -/
theorem le_half (hW : ab_W A t) (hH : ab_WH A) {τ0 σ0 : en_M} {f n Lm : Nat} (hM : ab_MR (τ0 25 0 0) A) (hf3 : f < aH A 3) (hf : aS A n 0 = f) (hL : Lm ≤ 9999) (h6 : aH A 6 ≤ n) (h5 : n < aH A 5) (h4 : aS A n 4 = 1) : ∀ d lo hi i F (σ : en_M), lo + d = hi → 1 ≤ lo → hi ≤ 999 → i + d ≤ 998 → d < F → le_C σ A f → (∀ j, j ≠ 17 → j ≠ 18 → j ≠ 19 → σ j = σ0 j) → le_ok A f n Lm hi → (∀ q, 1 ≤ q → q < lo → ¬ le_ok A f n Lm q) → ∃ m s, k_pp_leastRate_31 F 0 0 (n % 8) (nI Lm) (nI lo) (nI hi) (nI i) σ = some (nI m, s) ∧ (∀ j, j ≠ 17 → j ≠ 18 → j ≠ 19 → s j = σ0 j) ∧ 1 ≤ m ∧ m ≤ 999 ∧ le_ok A f n Lm m ∧ ∀ q, 1 ≤ q → q < m → ¬ le_ok A f n Lm q := by
  intro d
  induction d using Nat.strongRecOn with
  | ind d ih =>
    intro lo hi i F σ e hlo hhi hi9 hF hC hj hok hno
    obtain ⟨F, rfl⟩ : ∃ q, F = q + 1 := ⟨F - 1, by omega⟩
    rw [k_pp_leastRate_31, itx_le (a := 999) (b := i) (x := 999) rfl rfl (by decide) (by omega), if_neg (by omega), it_le (by omega) (by omega)]
    by_cases q : hi ≤ lo
    · have e2 : hi = lo := by omega
      rw [if_pos q]
      exact ⟨hi, σ, rfl, hj, by omega, hhi, hok, by rw [e2]; exact hno⟩
    · obtain ⟨v, s, v1, v2, v3, v4⟩ := le_tryr hW hH (r := (lo + hi) / 2) hM hf3 (by omega) (by omega) hf hL h6 h5 h4 hC
      have js : ∀ j, j ≠ 17 → j ≠ 18 → j ≠ 19 → s j = σ0 j := fun j q1 q2 q3 => by rw [v3 j q1 q2 q3, hj j q1 q2 q3]
      rw [if_neg q, nI_add, show (2 : Int32) = nI 2 from rfl, pk_div (a := lo + hi) (d := 2) (by omega) (by decide) (by decide), v1, pu_b2, nI_1, nI_1]
      rcases v4 with ⟨rfl, v5⟩ | ⟨rfl, v5⟩
      · rw [if_pos rfl]
        refine ih (hi - ((lo + hi) / 2 + 1)) (by omega) ((lo + hi) / 2 + 1) hi (i + 1) F s (by omega) (by omega) hhi (by omega) (by omega) v2 js hok (fun z z1 z2 z3 => v5 (le_mono hW hH hM hf3 z1 (by omega) (by omega) hf hL h6 h5 h4 z3))
      · rw [if_neg (show ¬ (1 : Int32) = 0 by decide)]
        exact ih ((lo + hi) / 2 - lo) (by omega) lo ((lo + hi) / 2) (i + 1) F s (by omega) hlo (by omega) (by omega) (by omega) v2 js v5 hno
/-- the model tries one rate behind the other -/
theorem le_seek (hW : ab_W A t) (hH : ab_WH A) {τ0 : en_M} {f n Lm : Nat} {w : Int32} (hM : ab_MR (τ0 25 0 0) A) (hf3 : f < aH A 3) (hf : aS A n 0 = f) (hL : Lm ≤ 9999) (h6 : aH A 6 ≤ n) (h5 : n < aH A 5) (h4 : aS A n 4 = 1) : ∀ d r F (τ : en_M), r + d = 1000 → 1 ≤ r → d + 1 < F → le_M τ τ0 f → (∀ q, 1 ≤ q → q < r → ¬ le_ok A f n Lm q) → ∃ x τ1, k_mm_least_82 F (nI n) (nI Lm) (nI (20 + 9 * f)) w (-1) (nI r) τ = some (x, τ1) ∧ le_M τ1 τ0 f ∧ ((x = -1 ∧ ∀ q, 1 ≤ q → q ≤ 999 → ¬ le_ok A f n Lm q) ∨ ∃ m, x = nI m ∧ 1 ≤ m ∧ m ≤ 999 ∧ le_ok A f n Lm m ∧ ∀ q, 1 ≤ q → q < m → ¬ le_ok A f n Lm q) := by
  have hN := ab_N hW
  intro d
  induction d with
  | zero =>
    intro r F τ e h1 hF hm hno
    obtain ⟨F, rfl⟩ : ∃ q, F = q + 1 := ⟨F - 1, by omega⟩
    refine ⟨-1, τ, ?_, hm, Or.inl ⟨rfl, fun q z1 z2 => hno q z1 (by omega)⟩⟩
    rw [k_mm_least_82, itx_le (a := 1000) (b := r) (x := 1000) rfl rfl (by decide) (by omega), if_pos (by omega)]
  | succ d ih =>
    intro r F τ e h1 hF hm hno
    obtain ⟨F, rfl⟩ : ∃ q, F = q + 1 + 1 := ⟨F - 2, by omega⟩
    obtain ⟨s15, s17, x, c, N, m1, m2, m3, m4, m5, m6⟩ := lr_mod hW hH hM hf3 (show r ≤ 999 by omega) hm h6 h5 h4
    have em : k_mm_least_82 (F + 1 + 1) (nI n) (nI Lm) (nI (20 + 9 * f)) w (-1) (nI r) τ = if x = -1 then k_mm_least_82 (F + 1) (nI n) (nI Lm) (nI (20 + 9 * f)) w (-1) (nI (r + 1)) s17 else if nI Lm < x then k_mm_least_82 (F + 1) (nI n) (nI Lm) (nI (20 + 9 * f)) w (-1) (nI (r + 1)) s17 else k_mm_least_82 (F + 1) (nI n) (nI Lm) (nI (20 + 9 * f)) w (nI r) (nI (r + 1)) s17 := by
      rw [k_mm_least_82, itx_le (a := 1000) (b := r) (x := 1000) rfl rfl (by decide) (by omega), if_neg (by omega), if_pos rfl, m1, pu_b1, m2, pu_b1, m3, pu_b1, nI_1]
    have go : ¬ le_ok A f n Lm r → ∃ x τ1, k_mm_least_82 (F + 1) (nI n) (nI Lm) (nI (20 + 9 * f)) w (-1) (nI (r + 1)) s17 = some (x, τ1) ∧ le_M τ1 τ0 f ∧ ((x = -1 ∧ ∀ q, 1 ≤ q → q ≤ 999 → ¬ le_ok A f n Lm q) ∨ ∃ m, x = nI m ∧ 1 ≤ m ∧ m ≤ 999 ∧ le_ok A f n Lm m ∧ ∀ q, 1 ≤ q → q < m → ¬ le_ok A f n Lm q) := fun hn => ih (r + 1) (F + 1) s17 (by omega) (by omega) (by omega) m6 (fun q z1 z2 => by
      by_cases z : q = r
      · rw [z]; exact hn
      · exact hno q z1 (by omega))
    rw [em]
    by_cases k : le_ok A f n Lm r
    · obtain ⟨u, u1, rfl⟩ := le_has hW h1 (Nat.le_refl _) hf hL h6 h5 k m4 m5
      refine ⟨nI r, s17, ?_, m6, Or.inr ⟨r, rfl, h1, by omega, k, hno⟩⟩
      rw [it_m1 (by omega), it_lt (by omega) (by omega), if_neg (by omega), k_mm_least_82, it_m1 (by omega)]
      split <;> rfl
    · by_cases e1 : x = -1
      · rw [if_pos e1]
        exact go k
      · by_cases e2 : nI Lm < x
        · rw [if_neg e1, if_pos e2]
          exact go k
        · exfalso
          obtain ⟨u, u1, rfl⟩ := eo_num m5 e1
          rw [pu_lt (by omega) (by omega)] at e2
          exact k ⟨c, N, u, m4, m5, by omega⟩
/-- the class finds the rate that the model finds -/
theorem le_rate (hW : ab_W A t) (hH : ab_WH A) {τ0 σ σ2 : en_M} {f n Lm : Nat} {x : Int32} (hM : ab_MR (τ0 25 0 0) A) (hf3 : f < aH A 3) (hf : aS A n 0 = f) (hL : Lm ≤ 9999) (h6 : aH A 6 ≤ n) (h5 : n < aH A 5) (h4 : aS A n 4 = 1) (hC : le_C σ2 A f) (hb : k_pp_beginAsTimed 0 σ = some σ2) (hj : ∀ j, j ≠ 17 → j ≠ 18 → j ≠ 19 → σ2 j = σ j) (hx : (x = -1 ∧ ∀ q, 1 ≤ q → q ≤ 999 → ¬ le_ok A f n Lm q) ∨ ∃ m, x = nI m ∧ 1 ≤ m ∧ m ≤ 999 ∧ le_ok A f n Lm m ∧ ∀ q, 1 ≤ q → q < m → ¬ le_ok A f n Lm q) : ∃ s, k_pp_leastRate 0 0 (n % 8) (nI Lm) σ = some (x, s) ∧ ∀ j, j ≠ 17 → j ≠ 18 → j ≠ 19 → s j = σ j := by
  obtain ⟨v, s4, v1, v2, v3, v4⟩ := le_tryr hW hH (r := 999) hM hf3 (by decide) (by decide) hf hL h6 h5 h4 hC
  have v1' : k_pp_isDoneBy 0 0 (n % 8) 999 (nI Lm) σ2 = some (v, s4) := v1
  have js : ∀ j, j ≠ 17 → j ≠ 18 → j ≠ 19 → s4 j = σ j := fun j q1 q2 q3 => by rw [v3 j q1 q2 q3, hj j q1 q2 q3]
  rw [k_pp_leastRate, hb, pu_b1, v1', pu_b2]
  rcases v4 with ⟨rfl, v5⟩ | ⟨rfl, v5⟩
  · rw [if_pos rfl]
    rcases hx with ⟨rfl, -⟩ | ⟨m, rfl, k1, k2, k3, -⟩
    · exact ⟨s4, rfl, js⟩
    · exact absurd (le_mono hW hH hM hf3 k1 k2 (Nat.le_refl _) hf hL h6 h5 h4 k3) v5
  · rw [if_neg (show ¬ (1 : Int32) = 0 by decide)]
    obtain ⟨m, s, g1, g2, g3, g4, g5, g6⟩ := le_half hW hH (σ0 := σ) hM hf3 hf hL h6 h5 h4 998 1 999 0 en_fu s4 (by omega) (by omega) (by omega) (by omega) (by rw [en_fu]; omega) v2 js v5 (fun q z1 z2 => by omega)
    have g1' : k_pp_leastRate_31 en_fu 0 0 (n % 8) (nI Lm) 1 999 0 s4 = some (nI m, s) := g1
    rw [g1', pu_b2]
    rcases hx with ⟨-, k⟩ | ⟨m', rfl, k1, k2, k3, k4⟩
    · exact absurd g5 (k m g3 g4)
    · have e : m' = m := by
        apply Decidable.byContradiction
        intro z
        by_cases q : m' < m
        · exact g6 m' k1 q k3
        · exact k4 m g3 (by omega) g5
      rw [e]
      exact ⟨s, rfl, g2⟩
end ple
theorem pb_least {σ τ : en_M} {t : Nat} (h : Rel σ τ t) (v w : Int32) : ∃ a x σ1 τ1, k_cc_least v w σ = some (a, σ1) ∧ k_mm_least v w τ = some (x, τ1) ∧ rl_A [(2, 1), (0, 2)] a x (τ1 24 0 0 0) ∧ Rel σ1 τ1 t := by
  obtain ⟨A, hA0⟩ := h.1
  rcases ac_known hA0.1.1.s hA0.2.1 hA0.2.2.1 v with ⟨n, rfl, hwin, -, n1, n2⟩ | ⟨n1, n2⟩
  · have n2' : ¬ k_mm_isKnown (nI n) τ = 0 := by rw [n2]; decide
    by_cases hv : k_mm_isIn w 0 9999 = 0
    · obtain ⟨s, s1, s2, s3, s4⟩ := q_bad h (v := 2) (by decide)
      refine ⟨.inl 0, 0, σ, s, ?_, ?_, ?_, s4⟩
      · rw [k_cc_least, n1, pu_b1]
        simp only []
        rw [in_eq, if_pos hv]
      · rw [k_mm_least, if_neg n2', if_pos hv, pu_let, s1, if_neg s3]
      · show (_, _) ∈ _
        rw [s2]
        simp
    · obtain ⟨Lm, rfl, -, hL⟩ := in_of (a := 0) (b := 9999) (by decide) (by decide) hv
      obtain ⟨s, s1, s2, s3, s4, -⟩ := q_set h
      have hA : ab_PR σ 0 (s 25 0 0) A t := by rw [← s1, pu_wr_j (by decide)]; exact hA0
      have hW := hA.2.2.1
      have hH := hA.2.2.2.2
      have hN := ab_N hW
      have d5 := (hA.1.1.2.1 n hwin).2.2.2.2.2.1
      have q0 := (hW.2.2.1 n hwin).1
      have q4 := (hW.2.2.1 n hwin).2.2.2.2.1
      have q10 := (hW.2.2.1 n hwin).2.2.2.2.2.2.2.2.2.1
      rw [k_cc_least, n1, pu_b1, k_mm_least, if_neg n2', if_neg hv, pu_let, s1, if_pos s3, mo_snd hA.2.1 hW (x := 4) (w := 4) rfl hwin (by decide), pu_b1, itx_eq (a := aS A n 4) (b := 1) (y := 1) rfl rfl (by omega) (by decide)]
      simp only []
      rw [in_eq, if_neg hv, d5, itx_eq (a := aS A n 4) (b := 1) (y := 1) rfl rfl (by omega) (by decide)]
      by_cases h4 : aS A n 4 = 1
      · have h6 : aH A 6 ≤ n := by
          apply Decidable.byContradiction
          intro q
          have := q10 (by omega)
          omega
        obtain ⟨f, hf⟩ : ∃ f, aS A n 0 = f := ⟨_, rfl⟩
        rw [hf] at q0
        obtain ⟨p1, b1, b2, b3⟩ := pb_timed hW hH hA.1 (fun _ => 0)
        obtain ⟨-, -, -, -, g4, g5, -⟩ := hA.1.1.2.2.1 f q0
        have hC1 : le_C p1 A f := ⟨b2.1, by rw [b3 12 (by decide) (by decide) (by decide)]; exact g4, by rw [b3 12 (by decide) (by decide) (by decide)]; exact g5, fun x hx _ => b2.2.2.2 x hx⟩
        obtain ⟨x, τ1, r2, ⟨r4, r5, r6⟩, r7⟩ := le_seek hW hH (τ0 := s) (n := n) (w := s 25 0 0 (20 + 9 * f)) hA.2.1 q0 hf hL h6 hwin.1 h4 999 1 en_fu s (by omega) (by omega) (by rw [en_fu]; omega) ⟨fun _ _ _ => rfl, fun _ _ _ _ => rfl, fun _ _ => rfl⟩ (fun q z1 z2 => by omega)
        obtain ⟨σ1, r1, r3⟩ := le_rate hW hH hA.2.1 q0 hf hL h6 hwin.1 h4 hC1 b1 b3 r7
        obtain ⟨τ2, h2⟩ : ∃ z, en_wr τ1 25 0 0 (20 + 9 * f) (s 25 0 0 (20 + 9 * f)) = z := ⟨_, rfl⟩
        have e25 : τ2 25 0 = s 25 0 := by
          funext i k
          by_cases q : i = 0 ∧ k = 20 + 9 * f
          · rw [q.1, q.2, ← h2, pu_wr_eq]
          · rw [← h2, pu_wr_ne (by omega)]
            exact r4 i k q
        have R := rl_pp (σ1 := σ1) (τ1 := τ2) s4 r3 (fun j z1 z2 => by
          by_cases e : j = 25
          · rw [e]; exact e25
          · rw [← h2, pu_wr_j e]; exact r5 j z1 z2 e) (fun k z => by rw [← h2, pu_wr_j (by decide)]; exact r6 k z)
        have hth : τ2 24 0 0 0 = 0 := by rw [← h2, pu_wr_j (by decide), r6 0 (by decide), s2]
        have r2' : k_mm_least_82 en_fu (nI n) (nI Lm) (nI (20 + 9 * f)) (s 25 0 0 (20 + 9 * f)) (-1) 1 s = some (x, τ1) := r2
        have ix : (20 + 9 * nI f) + 0 = nI (20 + 9 * f) := by
          rw [show (20 : Int32) = nI 20 from rfl, show (9 : Int32) = nI 9 from rfl, pk_mul, nI_add]
          exact Int32.add_zero _
        rw [if_pos h4, if_pos h4, mo_snd hA.2.1 hW (x := 0) (w := 0) rfl hwin (by decide), pu_b1, hf, ix, pu_rd (by omega) (by decide), pu_b1, r2', pu_b2, pu_wa (by omega) (by decide), pu_b1, h2, r1, pu_b2]
        exact ⟨_, _, _, _, rfl, rfl, ⟨hth, rfl⟩, R⟩
      · rw [if_neg h4, if_neg h4]
        exact ⟨_, _, _, _, rfl, rfl, ⟨s2, rfl⟩, s4⟩
  · obtain ⟨s, s1, s2, s3, s4⟩ := q_bad h (v := 1) (by decide)
    refine ⟨.inl 2, 0, σ, s, ?_, ?_, ?_, s4⟩
    · rw [k_cc_least, n1, pu_b1]
    · rw [k_mm_least, if_pos n2, pu_let, s1, if_neg s3]
    · show (_, _) ∈ _
      rw [s2]
      simp

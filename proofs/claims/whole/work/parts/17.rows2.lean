/-! The engine's rows: switches. -/
def en_sw : List (Int32 × Nat) → Nat → Int32 → Nat
  | [], d, _ => d
  | q :: t, d, x => if x = q.1 then q.2 else en_sw t d x
theorem en_sw_hit {c x : Int32} {t d : Nat} {r : List (Int32 × Nat)} (h : x = c) : en_sw ((c, t) :: r) d x = t := by
  simp only [en_sw, if_pos h]
theorem en_sw_miss {c x : Int32} {t d t' : Nat} {r : List (Int32 × Nat)} (h : ¬ x = c) (k : en_sw r d x = t') : en_sw ((c, t) :: r) d x = t' := by
  simp only [en_sw, if_neg h]
  exact k
theorem en_sw_nil {x : Int32} {d : Nat} : en_sw [] d x = d := rfl
theorem en_sw_in : ∀ {tg : List (Int32 × Nat)} {lo : Int} {d : Nat} {x : Int32}, (∀ (i : Nat) (q : Int32 × Nat), tg[i]? = some q → q.1.toInt = lo + i) → ∀ {i : Nat} {q : Int32 × Nat}, tg[i]? = some q → x.toInt = lo + i → en_sw tg d x = q.2
  | [], _, _, _, _, i, q, h, _ => by simp at h
  | a :: t, lo, d, x, hk, i, q, h, hx => by
    have h0 : a.1.toInt = lo + (0 : Nat) := hk 0 a rfl
    cases i with
    | zero =>
      have hq : a = q := by simpa using h
      subst hq
      have e : x = a.1 := Int32.toInt_inj.mp (by rw [hx, h0])
      simp only [en_sw, if_pos e]
    | succ i =>
      have e : ¬ x = a.1 := fun e => by rw [e, h0] at hx; omega
      simp only [en_sw, if_neg e]
      exact en_sw_in (lo := lo + 1) (fun j z hz => by rw [hk (j + 1) z (by simpa using hz)]; omega) (i := i) (by simpa using h) (by rw [hx]; omega)
theorem en_sw_out : ∀ {tg : List (Int32 × Nat)} {lo : Int} {d : Nat} {x : Int32}, (∀ (i : Nat) (q : Int32 × Nat), tg[i]? = some q → q.1.toInt = lo + i) → (x.toInt < lo ∨ lo + tg.length ≤ x.toInt) → en_sw tg d x = d
  | [], _, _, _, _, _ => rfl
  | a :: t, lo, d, x, hk, hx => by
    have h0 : a.1.toInt = lo + (0 : Nat) := hk 0 a rfl
    simp only [List.length_cons] at hx
    have e : ¬ x = a.1 := fun e => by rw [e, h0] at hx; omega
    simp only [en_sw, if_neg e]
    exact en_sw_out (lo := lo + 1) (fun j z hz => by rw [hk (j + 1) z (by simpa using hz)]; omega) (by omega)
def en_tsw (pc : Nat) (dflt lo hi : Int) (offs : Array Int) (tg : List (Int32 × Nat)) (d : Nat) : Bool :=
  decide ((pc : Int) + dflt = d) && decide (hi = lo + tg.length - 1) && ((List.range tg.length).all fun i => (match tg[i]?, offs[i]? with | some q, some o => decide (q.1.toInt = lo + i) && decide ((pc : Int) + o = (q.2 : Int)) | _, _ => false))
def en_lz (pc : Nat) : List (Int × Int) → List (Int32 × Nat) → Bool
  | [], [] => true
  | p :: ps, q :: qs => decide (q.1.toInt = p.1) && decide ((pc : Int) + p.2 = (q.2 : Int)) && en_lz pc ps qs
  | _, _ => false
theorem en_lz_at {pc d : Nat} {dflt : Int} {x : Int32} (hd : (pc : Int) + dflt = (d : Int)) : ∀ (ps : List (Int × Int)) (tg : List (Int32 × Nat)), en_lz pc ps tg = true → (pc : Int) + Op.lookupswitch.offset ps dflt x.toInt = ((en_sw tg d x : Nat) : Int)
  | [], [], _ => hd
  | [], _ :: _, h => by cases h
  | _ :: _, [], h => by cases h
  | p :: ps, q :: qs, h => by
    simp only [en_lz, Bool.and_eq_true, decide_eq_true_eq] at h
    obtain ⟨⟨h1, h2⟩, h3⟩ := h
    have ih := en_lz_at (x := x) hd ps qs h3
    obtain ⟨p1, p2⟩ := p
    rw [Op.lookupswitch.offset_cons]
    simp only [en_sw]
    by_cases e : x = q.1
    · have e' : x.toInt = p1 := by rw [e]; exact h1
      simp [e, e', h1, h2]
    · have e' : ¬ x.toInt = p1 := fun z => e (Int32.toInt_inj.mp (z.trans h1.symm))
      have e'' : ¬ p1 = x.toInt := fun z => e' z.symm
      simp [e, e', e'', ih]
def en_lsw (pc : Nat) (dflt : Int) (ps : Array (Int × Int)) (tg : List (Int32 × Nat)) (d : Nat) : Bool := decide ((pc : Int) + dflt = (d : Int)) && (ps.toList.zip (ps.toList.drop 1)).all (fun (a, next) => a.1 < next.1) && en_lz pc ps.toList tg
section en_swrows
variable {G : en_G} {d mc ms : Nat} {μ : en_D} {r : en_P} {cs cs' : List en_A} {ρ ρ' : en_R} {σ σ' σ1 : en_M} {bc bs pc len nx a b : Nat} {v : Int32} {ls ls' : List (Option en_V)} {st : List en_V}
theorem en_s_table {dflt lo hi : Int} {offs : Array Int} {x : Int32} {t : Nat} (tg : List (Int32 × Nat)) (hc : μ.2.2.2.2.2.2 pc = some (.tableswitch dflt lo hi offs, len, nx, a, b, v)) (hk : en_tsw pc dflt lo hi offs tg a = true) (ht : en_sw tg a x = t) (k : en_W G d mc ms μ r cs' ρ' σ' bc bs t ls st cs ρ σ) : en_W G d mc ms μ r cs' ρ' σ' bc bs pc ls (.inl x :: st) cs ρ σ := by
  intro p e s m args below meth c H locs cells slots la C hS hw hbc hbs hl hst
  obtain ⟨h1, h2, h3⟩ := en_dec C hc
  subst ht
  have hw' := k p e s m args below meth c H locs cells slots la C hS hw hbc hbs hl (en_oks_t hst)
  simp only [en_tsw, Bool.and_eq_true, decide_eq_true_eq, List.all_eq_true, List.mem_range] at hk
  obtain ⟨⟨k1, k2⟩, k3⟩ := hk
  have hkey : ∀ (i : Nat) (q : Int32 × Nat), tg[i]? = some q → q.1.toInt = lo + i ∧ ∃ o, offs[i]? = some o ∧ (pc : Int) + o = (q.2 : Int) := by
    intro i q hq
    have h4 := k3 i (List.getElem?_eq_some_iff.mp hq).1
    rw [hq] at h4
    cases ho : offs[i]? with
    | none => rw [ho] at h4; cases h4
    | some o =>
      rw [ho] at h4
      simp only [Bool.and_eq_true, decide_eq_true_eq] at h4
      exact ⟨h4.1, o, rfl, h4.2⟩
  by_cases hx : x.toInt < lo ∨ hi < x.toInt
  · rw [en_sw_out (fun i q hq => (hkey i q hq).1) (by omega)] at hw'
    exact lv_tableOut C.1 C.2.1 h1 hx k1 hw'
  · have hx1 : ¬ x.toInt < lo := fun h => hx (Or.inl h)
    have hx2 : ¬ hi < x.toInt := fun h => hx (Or.inr h)
    have hi' : (x.toInt - lo).toNat < tg.length := by omega
    obtain ⟨q, hq⟩ : ∃ q, tg[(x.toInt - lo).toNat]? = some q := ⟨_, List.getElem?_eq_getElem hi'⟩
    obtain ⟨g1, o, g2, g3⟩ := hkey _ _ hq
    rw [en_sw_in (fun i q hq => (hkey i q hq).1) hq (by omega)] at hw'
    exact lv_tableIn C.1 C.2.1 h1 hx1 hx2 g2 g3 hw'
theorem en_s_lookup {dflt : Int} {ps : Array (Int × Int)} {x : Int32} {t : Nat} (tg : List (Int32 × Nat)) (hc : μ.2.2.2.2.2.2 pc = some (.lookupswitch dflt ps, len, nx, a, b, v)) (hk : en_lsw pc dflt ps tg a = true) (ht : en_sw tg a x = t) (k : en_W G d mc ms μ r cs' ρ' σ' bc bs t ls st cs ρ σ) : en_W G d mc ms μ r cs' ρ' σ' bc bs pc ls (.inl x :: st) cs ρ σ := by
  intro p e s m args below meth c H locs cells slots la C hS hw hbc hbs hl hst
  obtain ⟨h1, h2, h3⟩ := en_dec C hc
  subst ht
  simp only [en_lsw, Bool.and_eq_true, decide_eq_true_eq] at hk
  exact lv_lookup C.1 C.2.1 h1 hk.1.2 rfl (en_lz_at hk.1.1 _ _ hk.2) (k p e s m args below meth c H locs cells slots la C hS hw hbc hbs hl (en_oks_t hst))
theorem en_s_ldcwI {idx : Nat} (hc : μ.2.2.2.2.2.2 pc = some (.ldc_w idx, len, nx, a, b, v)) (hw : Cond.constant (en_own μ.2.2.2.2.1) idx v ∈ en_tw) (k : en_W G d mc ms μ r cs' ρ' σ' bc bs nx ls (.inl v :: st) cs ρ σ) : en_W G d mc ms μ r cs' ρ' σ' bc bs pc ls st cs ρ σ := by
  intro p e s m args below meth c H locs cells slots la C hS hw0 hbc hbs hl hst
  obtain ⟨h1, h2, h3⟩ := en_dec C hc
  simp only [en_gd, Bool.and_eq_true, beq_iff_eq, decide_eq_true_eq] at h3
  obtain ⟨-, rfl⟩ := h3
  subst h2
  exact lv_ldcw C.1 C.2.1 C.2.2.2.1 (C.2.2.2.2.1 _ hw) h1 (k p e s m args below meth c H locs cells slots la C hS hw0 hbc hbs hl (en_oks_c en_ok_i hst))
end en_swrows

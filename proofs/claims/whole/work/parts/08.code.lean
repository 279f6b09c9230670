/-! A method's instructions as a table; the check that they are the bytes'. -/
def en_find : List (Nat × en_I) → Nat → Option en_I
  | [], _ => none
  | q :: t, pc => bif Nat.beq q.1 pc then some q.2 else en_find t pc
def en_code (T : List (List (Nat × en_I))) (pc : Nat) : Option en_I := en_find (T.getD (pc / 32) []) pc
theorem en_find_mem : ∀ {t : List (Nat × en_I)} {pc : Nat} {q : en_I}, en_find t pc = some q → (pc, q) ∈ t
  | [], _, _, h => by cases h
  | x :: t, pc, q, h => by
    simp only [en_find] at h
    cases hb : Nat.beq x.1 pc with
    | true =>
      rw [hb] at h
      have h1 : x.1 = pc := Nat.eq_of_beq_eq_true hb
      have h2 : x.2 = q := Option.some.inj h
      rw [← h1, ← h2]
      exact List.mem_cons_self
    | false =>
      rw [hb] at h
      exact List.mem_cons_of_mem _ (en_find_mem h)
def en_chk (bytes : ByteArray) (oc : Nat) (T : List (List (Nat × en_I))) : Bool := T.all (fun t => t.all (fun e => decide (decode bytes e.1 = .ok (e.2.1, e.2.2.1)) && en_gd oc e.1 e.2))
theorem en_ok_of {y : MethodName} {bytes : ByteArray} {n oc : Nat} {ret : Option FieldType} {hh : List (Nat × Nat × Nat × Nat)} {T : List (List (Nat × en_I))} (h : en_chk bytes oc T = true) : en_ok (y, bytes, n, ret, oc, hh, en_code T) := by
  intro pc q hq
  have h1 := en_find_mem (show en_find (T.getD (pc / 32) []) pc = some q from hq)
  have h2 : T.getD (pc / 32) [] ∈ T := by
    rw [List.getD_eq_getElem?_getD] at h1 ⊢
    cases hx : T[pc / 32]? with
    | none => rw [hx] at h1; cases h1
    | some t => exact List.mem_of_getElem? hx
  have h3 := List.all_eq_true.mp (List.all_eq_true.mp h _ h2) _ h1
  simp only [Bool.and_eq_true, decide_eq_true_eq] at h3
  exact h3

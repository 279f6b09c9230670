/-! Numbers cut by bits. -/
theorem bt_and {a k : Nat} {m : Int32} (hm : m = nI (2 ^ k - 1)) (hk : k ≤ 16) (ha : a < 2 ^ 31) : nI a &&& m = nI (a % 2 ^ k) := by
  have h2 : 2 ^ k ≤ 2 ^ 16 := Nat.pow_le_pow_right (by decide) hk
  have h3 : a % 2 ^ k < 2 ^ k := Nat.mod_lt _ (Nat.pow_pos (by decide))
  subst hm
  apply Int32.toBitVec_inj.mp
  apply BitVec.eq_of_toNat_eq
  rw [Int32.toBitVec_and, BitVec.toNat_and, pk_tn (by omega), pk_tn (by omega), pk_tn (by omega), Nat.and_two_pow_sub_one_eq_mod]
theorem bt_and16 {a : Nat} (ha : a < 2 ^ 31) : nI a &&& 65535 = nI (a % 65536) := bt_and (k := 16) rfl (by decide) ha
theorem bt_and8 {a : Nat} (ha : a < 2 ^ 31) : nI a &&& 255 = nI (a % 256) := bt_and (k := 8) rfl (by decide) ha
theorem bt_shr {a : Nat} (ha : a < 2 ^ 31) {s : Int32} {k : Nat} (hs : (s.toBitVec.smod 32).toNat = k) : nI a >>> s = nI (a / 2 ^ k) := by
  have hd : a / 2 ^ k ≤ a := Nat.div_le_self _ _
  apply Int32.toBitVec_inj.mp
  apply BitVec.eq_of_toNat_eq
  show ((nI a).toBitVec.sshiftRight ((s.toBitVec.smod 32).toNat)).toNat = _
  rw [hs, BitVec.sshiftRight_eq_of_msb_false, BitVec.toNat_ushiftRight, pk_tn (by omega), pk_tn (by omega), Nat.shiftRight_eq_div_pow]
  rw [BitVec.msb_eq_decide, pk_tn (by omega)]
  simp only [decide_eq_false_iff_not]
  omega
theorem bt_shr16 {a : Nat} (ha : a < 2 ^ 31) : nI a >>> (16 &&& 31) = nI (a / 65536) := bt_shr (k := 16) ha (by decide)
theorem bt_shr8 {a : Nat} (ha : a < 2 ^ 31) : nI a >>> (8 &&& 31) = nI (a / 256) := bt_shr (k := 8) ha (by decide)

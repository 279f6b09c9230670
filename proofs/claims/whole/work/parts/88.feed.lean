/-! A byte fed. -/
theorem fd_bits (x : BitVec 32) {s : Nat} (hs : s ≤ 24) : (x.sshiftRight s).setWidth 8 = ((x >>> s) &&& 255#32).setWidth 8 := by
  apply BitVec.eq_of_getLsbD_eq
  intro i hi
  have h255 : (255#32).getLsbD i = true := by
    rcases (show i = 0 ∨ i = 1 ∨ i = 2 ∨ i = 3 ∨ i = 4 ∨ i = 5 ∨ i = 6 ∨ i = 7 by omega) with rfl | rfl | rfl | rfl | rfl | rfl | rfl | rfl <;> decide
  rw [BitVec.getLsbD_setWidth, BitVec.getLsbD_setWidth, BitVec.getLsbD_sshiftRight, BitVec.getLsbD_and, BitVec.getLsbD_ushiftRight, h255, if_pos (show s + i < 32 by omega)]
  have : ¬ 32 ≤ i := by omega
  simp [hi, this]
theorem fd_and (x : BitVec 32) (s : Nat) : ∃ b, b < 256 ∧ (nI b).toBitVec = (x >>> s) &&& 255#32 := by
  refine ⟨(x >>> s).toNat % 256, Nat.mod_lt _ (by decide), ?_⟩
  apply BitVec.eq_of_toNat_eq
  have hlt : (x >>> s).toNat % 256 < 256 := Nat.mod_lt _ (by decide)
  rw [pk_tn (by omega), BitVec.toNat_and, show (255#32).toNat = 2 ^ 8 - 1 from rfl, Nat.and_two_pow_sub_one_eq_mod]
theorem fd_sx (y : Int8) : y.toInt32.toInt8 = y := by simp
theorem fd_byte (v : Int32) {s : Nat} {sc : Int32} {su : UInt32} (hs : s ≤ 24) (h1 : (sc.toBitVec.smod 32).toNat = s) (h2 : su.toBitVec.toNat % 32 = s) : ∃ b, b < 256 ∧ ((v.toUInt32 >>> su).toInt32 &&& 255) = nI b ∧ ((v >>> sc).toInt8.toInt32).toInt8.toInt32 = (nI b).toInt8.toInt32 := by
  obtain ⟨b, b1, b2⟩ := fd_and v.toBitVec s
  refine ⟨b, b1, ?_, ?_⟩
  · apply Int32.toBitVec_inj.mp
    rw [b2, Int32.toBitVec_and]
    show (v.toBitVec >>> (su.toBitVec % 32#32)) &&& 255#32 = _
    rw [BitVec.ushiftRight_eq', BitVec.toNat_umod, show (32#32).toNat = 32 from rfl, h2]
  · rw [fd_sx]
    have e : (v >>> sc).toInt8 = (nI b).toInt8 := by
      apply Int8.toBitVec_inj.mp
      show (v.toBitVec.sshiftRight ((sc.toBitVec.smod 32).toNat)).signExtend 8 = ((nI b).toBitVec).signExtend 8
      rw [BitVec.signExtend_eq_setWidth_of_le _ (by decide), BitVec.signExtend_eq_setWidth_of_le _ (by decide), h1, b2, fd_bits _ hs]
    rw [e]

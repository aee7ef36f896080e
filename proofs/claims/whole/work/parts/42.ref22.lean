/-! ===== what is drawn ===== -/
theorem gs_dv_nat (z : Int32) : ∃ c, gs_dv z = nI c ∧ c < 2 ^ 24 := by
  have h : (z.toUInt32 >>> ((nI 8).toUInt32 &&& Int32.toUInt32 31)).toNat < 2 ^ 24 := by
    have e : (nI 8).toUInt32 &&& Int32.toUInt32 31 = 8 := by decide +kernel
    rw [e, UInt32.toNat_shiftRight]
    have e8 : (8 : UInt32).toNat % 32 = 8 := by decide +kernel
    rw [e8, Nat.shiftRight_eq_div_pow]
    have := z.toUInt32.toNat_lt
    omega
  refine ⟨(z.toUInt32 >>> ((nI 8).toUInt32 &&& Int32.toUInt32 31)).toNat, ?_, h⟩
  unfold gs_dv
  apply Int32.toInt_inj.mp
  rw [nI_toInt (by omega)]
  show (z.toUInt32 >>> ((nI 8).toUInt32 &&& Int32.toUInt32 31)).toBitVec.toInt = _
  rw [BitVec.toInt_eq_toNat_of_lt]
  · rfl
  · have : (z.toUInt32 >>> ((nI 8).toUInt32 &&& Int32.toUInt32 31)).toBitVec.toNat < 2 ^ 24 := h
    omega

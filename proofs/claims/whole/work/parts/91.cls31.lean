/-! ===== a tape's bytes on both sides ===== -/
theorem gy_b8 : ∀ c, c < 256 → Int32.ofUInt32 (UInt32.ofBitVec ((BitVec.ofNat 8 c).setWidth 32)) = nI c ∧ Int32.ofUInt32 (UInt32.ofBitVec ((BitVec.ofNat 8 c).signExtend 32)) = gy_sb c := by decide +kernel
theorem gy_m255 : ∀ i, i < 32 → (255#32 : BitVec 32).getLsbD i = decide (i < 8) := by decide
theorem gy_bsh (x : BitVec 32) (s : Nat) (hs : s ≤ 24) : (x.sshiftRight s) &&& 255#32 = ((x >>> s).setWidth 8).setWidth 32 := by
  apply BitVec.eq_of_getLsbD_eq
  intro i hi
  rw [BitVec.getLsbD_and, BitVec.getLsbD_sshiftRight, BitVec.getLsbD_setWidth, BitVec.getLsbD_setWidth, BitVec.getLsbD_ushiftRight, gy_m255 i hi, decide_eq_true hi, decide_eq_false (show ¬ 32 ≤ i by omega)]
  by_cases c : i < 8
  · rw [decide_eq_true c, if_pos (show s + i < 32 by omega)]
    cases x.getLsbD (s + i) <;> rfl
  · rw [decide_eq_false c, Bool.and_false, Bool.false_and, Bool.and_false]
theorem gy_by1 (v k : Int32) (s : Nat) (hs : s ≤ 24) (hk : (k.toBitVec.smod 32).toNat = s) : (v >>> k) &&& nI 255 = Int32.ofUInt32 (UInt32.ofBitVec (((v.toBitVec >>> s).setWidth 8).setWidth 32)) := by
  subst hk
  apply Int32.toBitVec.inj
  exact gy_bsh v.toBitVec _ hs
theorem gy_by2 (v : Int32) (k : UInt32) (s : Nat) (hk : (UInt32.mod k 32).toBitVec.toNat = s) : ((v.toUInt32 >>> k).toInt32).toInt8.toInt32 = Int32.ofUInt32 (UInt32.ofBitVec (((v.toBitVec >>> s).setWidth 8).signExtend 32)) := by
  subst hk
  apply Int32.toBitVec.inj
  show ((v.toBitVec >>> (UInt32.mod k 32).toBitVec.toNat).signExtend 8).signExtend 32 = _
  rw [BitVec.signExtend_eq_setWidth_of_le (v.toBitVec >>> (UInt32.mod k 32).toBitVec.toNat) (v := 8) (by decide)]
  rfl
theorem gy_byte {a b c : Int32} {i : Nat} (hi : i < 12) : ∃ x, x < 256 ∧ gs_byte a b c i = nI x ∧ gt_cb (if i < 4 then a else if i < 8 then b else c) (i % 4) = gy_sb x := by
  have k1 : ∀ i, i < 12 → (Int32.toBitVec ((nI 24 - nI 8 * gs_rem (nI i) (nI 4)) &&& 31)).smod 32 = BitVec.ofNat 32 (24 - 8 * (i % 4)) := by decide +kernel
  have k2 : ∀ i, i < 12 → (UInt32.mod ((nI 24 - nI (8 * (i % 4))).toUInt32 &&& Int32.toUInt32 31) 32).toBitVec.toNat = 24 - 8 * (i % 4) := by decide +kernel
  have k3 : ∀ s, s ≤ 24 → (BitVec.ofNat 32 s).toNat = s := by decide +kernel
  have e1 := gy_by1 (if i < 4 then a else if i < 8 then b else c) _ (24 - 8 * (i % 4)) (by omega) (by rw [k1 i hi]; exact k3 _ (by omega))
  have e2 := gy_by2 (if i < 4 then a else if i < 8 then b else c) _ (24 - 8 * (i % 4)) (k2 i hi)
  have eB : ∀ B : BitVec 8, B = BitVec.ofNat 8 B.toNat := fun B => by rw [BitVec.ofNat_toNat, BitVec.setWidth_eq]
  refine ⟨_, (((if i < 4 then a else if i < 8 then b else c).toBitVec >>> (24 - 8 * (i % 4))).setWidth 8).isLt, ?_, ?_⟩
  · refine e1.trans ?_
    rw [← (gy_b8 _ (BitVec.isLt _)).1, ← eB]
  · refine e2.trans ?_
    rw [← (gy_b8 _ (BitVec.isLt _)).2, ← eB]
/-! ===== what a row keeps through every call ===== -/
def gs_lw (s : Nat → Int32) : Prop := gs_inv s ∧ ∃ t r, s 2 = nI t ∧ t ≤ 9999 ∧ gs_raids s = nI r ∧ r ≤ t
def gs_t2 (s s' : Nat → Int32) : Prop := s' 1 = s 1 ∧ ∀ i, 62 ≤ i → s' i = s i
theorem gs_lo.t2 {s s' : Nat → Int32} (h : gs_lo s s') : gs_t2 s s' := ⟨h.2.1, h.2.2⟩
theorem gs_lw.rf {s : Nat → Int32} (h : gs_lw s) : gs_rf s := by
  obtain ⟨-, t, r, -, h2, h3, h4⟩ := h
  exact ⟨r, h3, by omega⟩
theorem gs_lw.k {s s' : Nat → Int32} (h : gs_lw s) (hi : gs_inv s') (h2 : s' 2 = s 2) (h8 : s' 8 = s 8) (h9 : s' 9 = s 9) : gs_lw s' := by
  obtain ⟨-, t, r, q1, q2, q3, q4⟩ := h
  refine ⟨hi, t, r, h2.trans q1, q2, ?_, q4⟩
  unfold gs_raids at *
  rw [h8, h9]; exact q3
theorem gs_lw.set {s : Nat → Int32} (h : gs_lw s) {k w : Nat} {v : Int32} (hi : gs_inv (gs_set s k w v)) : gs_lw (gs_set s k w v) :=
  h.k hi (pk_un (by omega)) (pk_un (by omega)) (pk_un (by omega))
theorem gs_lw.ag {s s' : Nat → Int32} (h : gs_lw s) (ha : ∀ i, i < 62 → s' i = s i) : gs_lw s' := by
  refine h.k ⟨?_, fun k hk => ?_⟩ (ha 2 (by omega)) (ha 8 (by omega)) (ha 9 (by omega))
  · rw [ha 0 (by omega)]; exact h.1.1
  · have := h.1.2 k hk
    rw [ha _ (by omega), ha _ (by omega), ha _ (by omega), ha _ (by omega), ha _ (by omega)]
    exact this
theorem gs_lw.many {s : Nat → Int32} (h : gs_lw s) {k t : Nat} (ht : s 2 = nI t) (hk : t + k ≤ 9999) : gs_lw (gs_many k s) := by
  obtain ⟨hi, t', r, h1, h2, h3, h4⟩ := h
  have et : t' = t := (nI_eq (by omega) (by omega)).mp (h1.symm.trans ht)
  subst et
  have := gs_rc_le s k
  refine ⟨hi.many k, t' + k, r + gs_rc s k, gs_many_2 h1 k, hk, ?_, by omega⟩
  rw [gs_raids_many, h3, nI_add]

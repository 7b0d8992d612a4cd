/-! ===== feed: bytes of a word ===== -/
/-- byte j of a word, as the reference lays it -/
def byI (a : Int32) (j : Nat) : Int32 := (a >>> (nI (24 - 8 * j) &&& 31)) &&& 255
theorem nar_b (x : Int8) : vp_nar .byte x.toInt32 = x.toInt32 := by
  show x.toInt32.toInt8.toInt32 = x.toInt32
  simp
theorem by_c0 (a : Int32) : vp_nar .byte (((a.toUInt32 >>> ((24 : Int32).toUInt32 &&& Int32.toUInt32 31)).toInt32).toInt8.toInt32) = scI (byI a 0) := by
  rw [nar_b]
  unfold scI byI
  congr 1
  apply Int8.toBitVec_inj.mp
  apply BitVec.eq_of_getLsbD_eq
  intro i hi
  have e : (((nI 24).toBitVec &&& 31#32).smod 32#32).toNat = 24 := by decide
  have : i = 0 ∨ i = 1 ∨ i = 2 ∨ i = 3 ∨ i = 4 ∨ i = 5 ∨ i = 6 ∨ i = 7 := by omega
  rcases this with rfl | rfl | rfl | rfl | rfl | rfl | rfl | rfl <;> simp [e, BitVec.getElem_signExtend, BitVec.getElem_sshiftRight, BitVec.getLsbD_sshiftRight]
theorem by_c1 (a : Int32) : vp_nar .byte (((a.toUInt32 >>> ((16 : Int32).toUInt32 &&& Int32.toUInt32 31)).toInt32).toInt8.toInt32) = scI (byI a 1) := by
  rw [nar_b]
  unfold scI byI
  congr 1
  apply Int8.toBitVec_inj.mp
  apply BitVec.eq_of_getLsbD_eq
  intro i hi
  have e : (((nI 16).toBitVec &&& 31#32).smod 32#32).toNat = 16 := by decide
  have : i = 0 ∨ i = 1 ∨ i = 2 ∨ i = 3 ∨ i = 4 ∨ i = 5 ∨ i = 6 ∨ i = 7 := by omega
  rcases this with rfl | rfl | rfl | rfl | rfl | rfl | rfl | rfl <;> simp [e, BitVec.getElem_signExtend, BitVec.getElem_sshiftRight, BitVec.getLsbD_sshiftRight]
theorem by_c2 (a : Int32) : vp_nar .byte (((a.toUInt32 >>> ((8 : Int32).toUInt32 &&& Int32.toUInt32 31)).toInt32).toInt8.toInt32) = scI (byI a 2) := by
  rw [nar_b]
  unfold scI byI
  congr 1
  apply Int8.toBitVec_inj.mp
  apply BitVec.eq_of_getLsbD_eq
  intro i hi
  have e : (((nI 8).toBitVec &&& 31#32).smod 32#32).toNat = 8 := by decide
  have : i = 0 ∨ i = 1 ∨ i = 2 ∨ i = 3 ∨ i = 4 ∨ i = 5 ∨ i = 6 ∨ i = 7 := by omega
  rcases this with rfl | rfl | rfl | rfl | rfl | rfl | rfl | rfl <;> simp [e, BitVec.getElem_signExtend, BitVec.getElem_sshiftRight, BitVec.getLsbD_sshiftRight]
theorem by_c3 (a : Int32) : vp_nar .byte (((a.toUInt32 >>> ((0 : Int32).toUInt32 &&& Int32.toUInt32 31)).toInt32).toInt8.toInt32) = scI (byI a 3) := by
  rw [nar_b]
  unfold scI byI
  congr 1
  apply Int8.toBitVec_inj.mp
  apply BitVec.eq_of_getLsbD_eq
  intro i hi
  have e : (((nI 0).toBitVec &&& 31#32).smod 32#32).toNat = 0 := by decide
  have : i = 0 ∨ i = 1 ∨ i = 2 ∨ i = 3 ∨ i = 4 ∨ i = 5 ∨ i = 6 ∨ i = 7 := by omega
  rcases this with rfl | rfl | rfl | rfl | rfl | rfl | rfl | rfl <;> simp [e, BitVec.getElem_signExtend, BitVec.getElem_sshiftRight, BitVec.getLsbD_sshiftRight]

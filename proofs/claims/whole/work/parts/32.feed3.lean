/-! The two bytes are one. -/
theorem by_bits2 (x : BitVec 64) (n : Nat) (h : n ≤ 56) : (BitVec.signExtend 32 (x >>> n)) &&& 255#32 = BitVec.signExtend 32 ((x.sshiftRight n) &&& 255#64) := by
  rw [BitVec.signExtend_eq_setWidth_of_le _ (by decide), BitVec.signExtend_eq_setWidth_of_le _ (by decide)]
  exact by_bits x n h
theorem byX_byR {v : Int64} {k : Int32} (h : 0 ≤ k ∧ k < 8) : byX v k = byR v k := by
  have h3 : k = 0 ∨ k = 1 ∨ k = 2 ∨ k = 3 ∨ k = 4 ∨ k = 5 ∨ k = 6 ∨ k = 7 := by grind
  rcases h3 with rfl | rfl | rfl | rfl | rfl | rfl | rfl | rfl
  · exact Int32.toBitVec_inj.mp (by_bits2 v.toBitVec 0 (by decide))
  · exact Int32.toBitVec_inj.mp (by_bits2 v.toBitVec 8 (by decide))
  · exact Int32.toBitVec_inj.mp (by_bits2 v.toBitVec 16 (by decide))
  · exact Int32.toBitVec_inj.mp (by_bits2 v.toBitVec 24 (by decide))
  · exact Int32.toBitVec_inj.mp (by_bits2 v.toBitVec 32 (by decide))
  · exact Int32.toBitVec_inj.mp (by_bits2 v.toBitVec 40 (by decide))
  · exact Int32.toBitVec_inj.mp (by_bits2 v.toBitVec 48 (by decide))
  · exact Int32.toBitVec_inj.mp (by_bits2 v.toBitVec 56 (by decide))

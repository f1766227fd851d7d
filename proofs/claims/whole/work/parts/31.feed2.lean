/-! The byte that a call of feed puts down. -/
def byX (v : Int64) (k : Int32) : Int32 := (((v.toUInt64 >>> ((8 * k).toInt64.toUInt64 &&& Int64.toUInt64 63)).toInt64).toInt32) &&& 255
def byR (v : Int64) (k : Int32) : Int32 := ((v >>> ((8 * k).toInt64 &&& 63)) &&& 255).toInt32
theorem by_hi : ∀ i, i < 32 → 8 ≤ i → ((255#32).getLsbD i = false ∧ (255#64).getLsbD i = false) := by decide +kernel
theorem by_bits (x : BitVec 64) (n : Nat) (h : n ≤ 56) : (BitVec.setWidth 32 (x >>> n)) &&& 255#32 = BitVec.setWidth 32 ((x.sshiftRight n) &&& 255#64) := by
  apply BitVec.eq_of_getLsbD_eq
  intro i hi
  rw [BitVec.getLsbD_and, BitVec.getLsbD_setWidth, BitVec.getLsbD_setWidth, BitVec.getLsbD_and, BitVec.getLsbD_ushiftRight, BitVec.getLsbD_sshiftRight]
  by_cases h8 : i < 8
  · have h9 : n + i < 64 := by omega
    have ht : ∀ i, i < 8 → ((255#32).getLsbD i = true ∧ (255#64).getLsbD i = true) := by decide +kernel
    rw [(ht i h8).1, (ht i h8).2]
    simp [h9, show i < 64 by omega, hi]
  · rw [(by_hi i hi (by omega)).1, (by_hi i hi (by omega)).2]
    simp

/-! The reference's loop of feed. -/
theorem by_le {x : BitVec 32} : (x &&& 255#32).toNat < 256 := by
  rw [BitVec.toNat_and]
  exact Nat.lt_of_le_of_lt Nat.and_le_right (by decide)
theorem byX_rng {v : Int64} {k : Int32} : 0 ≤ byX v k ∧ byX v k ≤ 255 := by
  unfold byX
  generalize (((v.toUInt64 >>> ((8 * k).toInt64.toUInt64 &&& Int64.toUInt64 63)).toInt64).toInt32) = y
  have h := by_le (x := y.toBitVec)
  have e : (y &&& 255).toInt = (y.toBitVec &&& 255#32).toNat := by
    show (y.toBitVec &&& 255#32).toInt = _
    rw [BitVec.toInt_eq_toNat_of_lt (by omega)]
  constructor
  · rw [Int32.le_iff_toInt_le, e]; simp
  · rw [Int32.le_iff_toInt_le, e, show (255 : Int32).toInt = 255 from rfl]; omega
theorem fd1_off {s : Nat → Int32} {x : Int32} {i : Nat} (h1 : i ≠ 4) (h2 : i ≠ 396 + (s 4).toNatClampNeg) : fd1 s x i = s i := by
  unfold fd1 upd
  rw [if_neg h1, if_neg h2]
theorem fd1_at {s : Nat → Int32} {x : Int32} : fd1 s x (396 + (s 4).toNatClampNeg) = x := by
  unfold fd1 upd
  rw [if_neg (by omega), if_pos rfl]
theorem WF.fdx {s : Nat → Int32} (h : WF s) {x : Int32} (hx : 0 ≤ x ∧ x ≤ 255) (h60 : s 4 < 60) : WF (fd1 s x) := by
  have n1 : ¬ s 4 < 0 := by have := h.2.2.2.2.1; grind
  have hq := zcl_lt n1 h60 (n := 60) (by decide)
  have hz := zcl n1
  have es : (s 4 + 1).toInt = (s 4).toInt + 1 := by
    have := Int32.lt_iff_toInt_lt.mp h60
    simp at this
    simp [Int32.toInt_add, Int.bmod]
    omega
  have ea := fd1_at (s := s) (x := x)
  have eo : ∀ i, i ≠ 4 → i ≠ 396 + (s 4).toNatClampNeg → fd1 s x i = s i := fun i g1 g2 => fd1_off g1 g2
  have e4 := fd1_4 (s := s) (x := x)
  generalize fd1 s x = t at *
  generalize hqn : (s 4).toNatClampNeg = q at *
  unfold WF PW DW at h ⊢
  simp only [eo 0 (by omega) (by omega), eo 1 (by omega) (by omega), eo 2 (by omega) (by omega), eo 3 (by omega) (by omega), eo 5 (by omega) (by omega), eo 7 (by omega) (by omega), eo 8 (by omega) (by omega), eo 9 (by omega) (by omega), e4]
  obtain ⟨g1, g2, g3, g4, g5, g6, g7, g8, g9, g10⟩ := h
  have s12 : (s 0).toInt ≤ 12 := by
    have := Int32.le_iff_toInt_le.mp g1.2
    simpa using this
  have s10 : (s 1).toInt ≤ 10 := by
    have := Int32.le_iff_toInt_le.mp g2.2
    simpa using this
  refine ⟨g1, g2, g3, g4, by grind, g6, g7, fun i hi => ?_, fun i hi => ?_, fun i hi => ?_⟩
  · rw [eo _ (by omega) (by omega), eo _ (by omega) (by omega), eo _ (by omega) (by omega), eo _ (by omega) (by omega), eo _ (by omega) (by omega), eo _ (by omega) (by omega), eo _ (by omega) (by omega), eo _ (by omega) (by omega)]
    exact g8 i hi
  · rw [eo _ (by omega) (by omega), eo _ (by omega) (by omega), eo _ (by omega) (by omega), eo _ (by omega) (by omega)]
    exact g9 i hi
  · rw [es] at hi
    by_cases hiq : i = q
    · subst hiq
      rw [ea]
      exact hx
    · rw [eo _ (by omega) (by omega)]
      exact g10 i (by omega)

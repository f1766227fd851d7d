/-! A new person, in both. -/
/-- the state with one person more -/
def sPers (s : Nat → Int32) (k m pu ho : Int32) : Nat → Int32 :=
  upd (upd (upd (upd (upd (upd (upd (upd (upd s (10 + 8 * (s 0).toNatClampNeg + 0) k) (10 + 8 * (s 0).toNatClampNeg + 1) m) (10 + 8 * (s 0).toNatClampNeg + 2) (-1)) (10 + 8 * (s 0).toNatClampNeg + 3) (-1)) (10 + 8 * (s 0).toNatClampNeg + 4) 1) (10 + 8 * (s 0).toNatClampNeg + 5) pu) (10 + 8 * (s 0).toNatClampNeg + 6) ho) (10 + 8 * (s 0).toNatClampNeg + 7) 0) 0 (s 0 + 1)
theorem sPers_off {s : Nat → Int32} {a b c f : Int32} {k : Nat} (h : k ≠ 0) (h2 : k < 10 + 8 * (s 0).toNatClampNeg ∨ 17 + 8 * (s 0).toNatClampNeg < k) : sPers s a b c f k = s k := by
  unfold sPers upd
  rw [if_neg h, if_neg (by omega), if_neg (by omega), if_neg (by omega), if_neg (by omega), if_neg (by omega), if_neg (by omega), if_neg (by omega), if_neg (by omega)]
theorem sPers_0 {s : Nat → Int32} {a b c f : Int32} : sPers s a b c f 0 = s 0 + 1 := by
  unfold sPers
  exact if_pos rfl
theorem WF.pers {s : Nat → Int32} (h : WF s) {k m pu ho : Int32} (h1 : s 0 < 12) (hk : 0 ≤ k ∧ k ≤ 6) (hm : 0 ≤ m ∧ m ≤ 99) (hp : 0 ≤ pu ∧ pu ≤ 99999) (hh : 0 ≤ ho ∧ ho ≤ 99999) : WF (sPers s k m pu ho) := by
  have n1 : ¬ s 0 < 0 := by have := h.1; grind
  have hq := zcl_lt n1 h1 (n := 12) (by decide)
  have hz := zcl n1
  generalize hqn : (s 0).toNatClampNeg = q at hq hz
  have e : ∀ i, i ≠ 0 → i < 10 + 8 * q ∨ 17 + 8 * q < i → sPers s k m pu ho i = s i := fun i g1 g2 => sPers_off g1 (by rw [hqn]; exact g2)
  have d0 : sPers s k m pu ho (10 + 8 * q) = k := by unfold sPers upd; rw [hqn, if_neg (by omega), if_neg (by omega), if_neg (by omega), if_neg (by omega), if_neg (by omega), if_neg (by omega), if_neg (by omega), if_neg (by omega), if_pos (by omega)]
  have d1 : sPers s k m pu ho (11 + 8 * q) = m := by unfold sPers upd; rw [hqn, if_neg (by omega), if_neg (by omega), if_neg (by omega), if_neg (by omega), if_neg (by omega), if_neg (by omega), if_neg (by omega), if_pos (by omega)]
  have d2 : sPers s k m pu ho (12 + 8 * q) = -1 := by unfold sPers upd; rw [hqn, if_neg (by omega), if_neg (by omega), if_neg (by omega), if_neg (by omega), if_neg (by omega), if_neg (by omega), if_pos (by omega)]
  have d3 : sPers s k m pu ho (13 + 8 * q) = -1 := by unfold sPers upd; rw [hqn, if_neg (by omega), if_neg (by omega), if_neg (by omega), if_neg (by omega), if_neg (by omega), if_pos (by omega)]
  have d4 : sPers s k m pu ho (14 + 8 * q) = 1 := by unfold sPers upd; rw [hqn, if_neg (by omega), if_neg (by omega), if_neg (by omega), if_neg (by omega), if_pos (by omega)]
  have d5 : sPers s k m pu ho (15 + 8 * q) = pu := by unfold sPers upd; rw [hqn, if_neg (by omega), if_neg (by omega), if_neg (by omega), if_pos (by omega)]
  have d6 : sPers s k m pu ho (16 + 8 * q) = ho := by unfold sPers upd; rw [hqn, if_neg (by omega), if_neg (by omega), if_pos (by omega)]
  have d7 : sPers s k m pu ho (17 + 8 * q) = 0 := by unfold sPers upd; rw [hqn, if_neg (by omega), if_pos (by omega)]
  have es : (s 0 + 1).toInt = (s 0).toInt + 1 := by
    have := Int32.lt_iff_toInt_lt.mp h1
    simp at this
    simp [Int32.toInt_add, Int.bmod]
    omega
  have up : ∀ x, x < s 0 → x < s 0 + 1 := fun x hx => by grind
  unfold WF PW DW at h ⊢
  obtain ⟨g1, g2, g3, g4, g5, g6, g7, g8, g9, g10⟩ := h
  simp only [e 1 (by omega) (by omega), e 2 (by omega) (by omega), e 3 (by omega) (by omega), e 4 (by omega) (by omega), e 5 (by omega) (by omega), e 7 (by omega) (by omega), e 8 (by omega) (by omega), e 9 (by omega) (by omega), sPers_0]
  refine ⟨by grind, g2, g3, g4, g5, g6, g7, fun p hp => ?_, fun r hr => ?_, fun i hi => ?_⟩
  · rw [es] at hp
    by_cases hpq : p = q
    · subst hpq
      rw [d0, d1, d2, d3, d4, d5, d6, d7]
      exact ⟨hk, hm, by grind, by grind, fun _ => rfl, Or.inr rfl, by assumption, hh, by decide⟩
    · rw [e _ (by omega) (by omega), e _ (by omega) (by omega), e _ (by omega) (by omega), e _ (by omega) (by omega), e _ (by omega) (by omega), e _ (by omega) (by omega), e _ (by omega) (by omega), e _ (by omega) (by omega)]
      obtain ⟨f1, f2, f3, f4, f5, f6, f7, f8, f9⟩ := g8 p (by omega)
      exact ⟨f1, f2, ⟨f3.1, up _ f3.2⟩, ⟨f4.1, up _ f4.2⟩, f5, f6, f7, f8, f9⟩
  · have hr10 : r < 10 := by
      have := Int32.le_iff_toInt_le.mp g2.2
      simp at this
      omega
    rw [e _ (by omega) (by omega), e _ (by omega) (by omega), e _ (by omega) (by omega), e _ (by omega) (by omega)]
    obtain ⟨f1, f2, f3, f4⟩ := g9 r hr
    exact ⟨⟨f1.1, up _ f1.2⟩, f2, f3, f4⟩
  · rw [e _ (by omega) (by omega)]
    exact g10 i hi

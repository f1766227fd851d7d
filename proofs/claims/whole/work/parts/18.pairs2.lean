/-! Pairs of calls: bodies, numbers that wait, debts. -/
theorem zm_inb_of {x : Int32} {n : Nat} (m : Int32) (h : ¬ x < 0) (h2 : x < m) (hm : m.toInt = n) : zm_inb x n = true := by
  unfold zm_inb
  rw [Int32.lt_iff_toInt_lt] at h h2
  simp at h ⊢
  omega
theorem zcl {x : Int32} (h : ¬ x < 0) : (x.toNatClampNeg : Int) = x.toInt := by
  rw [Int32.lt_iff_toInt_lt] at h
  simp at h
  unfold Int32.toNatClampNeg
  omega
theorem zcl_lt {x m : Int32} {n : Nat} (h : ¬ x < 0) (h2 : x < m) (hm : m.toInt = n) : x.toNatClampNeg < n := by
  have := zcl h
  rw [Int32.lt_iff_toInt_lt] at h2
  omega
theorem pair_body {d : Nat} {M : zm_M} {a : Int32} (h : Inv M) : zi (d + 1) 86 [.ref 0, .int a] M (fun v M1 => zi (d + 1) 190 [.ref 82, .int a] M1 (fun w M2 => v = w ∧ Inv M2)) := by
  obtain ⟨t1, ⟨t2, t3⟩, t4⟩ := h.2.2.2.2
  have hi : Inv (zm_si (zm_si M 81 2 (M.1 81 2 + 1)) 86 2 ((zm_si M 81 2 (M.1 81 2 + 1)).1 86 2 + 1)) := h.err (by decide) rfl (by rw [zI_si_ne (by decide)])
  have he : (a < 0 ∨ ¬ a < M.1 82 16) → zi (d + 1) 190 [.ref 82, .int a] (zm_si M 81 2 (M.1 81 2 + 1)) (fun w M2 => -1000000000 - 2 = w ∧ Inv M2) := by
    intro hc
    apply zg_X11_body
    rw [zI_si_ne (show 82 ≠ 81 by decide)]
    grind
  apply zg_X10_body
  rw [t1]
  refine ⟨fun c1 => he (Or.inl c1), fun c1 => ⟨fun c2 => ⟨?_, ?_⟩, fun c2 => he (Or.inr c2)⟩⟩
  · exact zm_inb_of 30 c1 (by grind) (by decide)
  · apply zg_X11_body
    refine ⟨fun z => absurd z c1, fun _ => ⟨fun z => by grind, fun _ => ⟨zm_inb_of 30 c1 (by grind) (by decide), ?_, h⟩⟩⟩
    refine t4 _ ?_
    rw [zcl c1]
    exact Int32.lt_iff_toInt_lt.mp c2
theorem X_debt_bad {d : Nat} {M : zm_M} {a b c : Int32} {Q : Int32 → zm_M → Prop} (hb : ¬ (¬ a < 0 ∧ a < M.1 2 0 ∧ ¬ b < 1 ∧ ¬ 99999 < b ∧ ¬ c < 0 ∧ ¬ 9999 < c)) (hQ : Q ((-1000000000) - 1) (zm_si M 81 1 (M.1 81 1 + 1))) : zi (d + 2) 68 [.ref 0, .int a, .int b, .int c] M Q := by
  apply zg_X10_debt
  grind
theorem R_debt_bad {d : Nat} {M : zm_M} {a b c : Int32} {Q : Int32 → zm_M → Prop} (h0 : 0 ≤ M.1 83 0) (hb : ¬ (¬ a < 0 ∧ a < M.1 83 0 ∧ ¬ b < 1 ∧ ¬ 99999 < b ∧ ¬ c < 0 ∧ ¬ 9999 < c)) (hQ : Q ((-1000000000) - 1) (zm_si M 86 1 (M.1 86 1 + 1))) : zi (d + 3) 160 [.ref 82, .int a, .int b, .int c] M Q := by
  apply zg_X11_debt
  grind
theorem zmap_pers {p w : Nat} (hp : p < 12) (hw : w < 8) : zmap (10 + 8 * p + w) = some (4 + w, p) := by
  unfold zmap
  rw [if_neg (by omega), if_pos (by omega)]
  rw [show (10 + 8 * p + w - 10) % 8 = w by omega, show (10 + 8 * p + w - 10) / 8 = p by omega]
theorem zmap_debt {p w : Nat} (hp : p < 10) (hw : w < 4) : zmap (106 + 4 * p + w) = some (14 + w, p) := by
  unfold zmap
  rw [if_neg (by omega), if_neg (by omega), if_pos (by omega)]
  rw [show (106 + 4 * p + w - 106) % 4 = w by omega, show (106 + 4 * p + w - 106) / 4 = p by omega]
theorem zmap_tape {j : Nat} (h : j < 60) : zmap (396 + j) = some (19, j) := by
  unfold zmap
  rw [if_neg (by omega), if_neg (by omega), if_neg (by omega), if_neg (by omega), if_pos (by omega)]
  rw [show 396 + j - 396 = j by omega]
theorem zmap_wait {j : Nat} (h : j < 24) : zmap (456 + j) = some (20, j) := by
  unfold zmap
  rw [if_neg (by omega), if_neg (by omega), if_neg (by omega), if_neg (by omega), if_neg (by omega), if_pos (by omega)]
  rw [show 456 + j - 456 = j by omega]
theorem zmap_law {j : Nat} (h : j < 3) : zmap (7 + j) = some (29, j) := by
  rcases (show j = 0 ∨ j = 1 ∨ j = 2 by omega) with rfl | rfl | rfl <;> rfl
/-- the reference's places by a person's number, a debt's, and so on -/
theorem zix_p {x : Int32} (w : Int32) {k : Nat} (h : ¬ x < 0) (h2 : x < 12) (hw : w.toInt = k) (hk : k < 8) : ((10 + 8 * x) + w).toNatClampNeg = 10 + 8 * x.toNatClampNeg + k ∧ zm_inb ((10 + 8 * x) + w) 480 = true := by
  have h3 := zcl h
  rw [Int32.lt_iff_toInt_lt] at h h2
  simp at h h2
  have e : ((10 + 8 * x) + w).toInt = 10 + 8 * x.toInt + k := by
    simp [Int32.toInt_add, Int32.toInt_mul, Int.bmod, hw]
    omega
  constructor
  · show ((10 + 8 * x) + w).toInt.toNat = _
    rw [e]
    omega
  · unfold zm_inb
    rw [e]
    simp
    omega
theorem zix_d {x : Int32} (w : Int32) {k : Nat} (h : ¬ x < 0) (h2 : x < 10) (hw : w.toInt = k) (hk : k < 4) : ((106 + 4 * x) + w).toNatClampNeg = 106 + 4 * x.toNatClampNeg + k ∧ zm_inb ((106 + 4 * x) + w) 480 = true := by
  have h3 := zcl h
  rw [Int32.lt_iff_toInt_lt] at h h2
  simp at h h2
  have e : ((106 + 4 * x) + w).toInt = 106 + 4 * x.toInt + k := by
    simp [Int32.toInt_add, Int32.toInt_mul, Int.bmod, hw]
    omega
  constructor
  · show ((106 + 4 * x) + w).toInt.toNat = _
    rw [e]
    omega
  · unfold zm_inb
    rw [e]
    simp
    omega
theorem zix_1 {x : Int32} (a : Int32) {k n : Nat} (h : ¬ x < 0) (h2 : x.toInt < n) (ha : a.toInt = k) (hk : k + n ≤ 480) : (a + x).toNatClampNeg = k + x.toNatClampNeg ∧ zm_inb (a + x) 480 = true := by
  have h3 := zcl h
  rw [Int32.lt_iff_toInt_lt] at h
  simp at h
  have e : (a + x).toInt = k + x.toInt := by
    simp [Int32.toInt_add, Int.bmod, ha]
    omega
  constructor
  · show (a + x).toInt.toNat = _
    rw [e]
    omega
  · unfold zm_inb
    rw [e]
    simp
    omega

/-! Pairs of calls: the law's rules. -/
theorem Inv.err1 {M : zm_M} {k : Nat} (h : Inv M) (hk : k < 7) : Inv (zm_si (zm_si M 81 k (M.1 81 k + 1)) 86 k ((zm_si M 81 k (M.1 81 k + 1)).1 86 k + 1)) := h.err hk rfl (by rw [zI_si_ne (by decide)])
theorem WF.law {s : Nat → Int32} (h : WF s) {j : Nat} {v : Int32} (hv : (j = 0 ∧ 1 ≤ v ∧ v ≤ 9) ∨ ((j = 1 ∨ j = 2) ∧ (v = 0 ∨ v = 1))) : WF (upd s (7 + j) v) := by
  have e : ∀ k, k < 7 ∨ 9 < k → upd s (7 + j) v k = s k := fun k hk => if_neg (by omega)
  unfold WF PW DW at h ⊢
  simp only [e 0 (by decide), e 1 (by decide), e 2 (by decide), e 3 (by decide), e 4 (by decide), e 5 (by decide)]
  obtain ⟨g1, g2, g3, g4, g5, g6, g7, g8, g9, g10⟩ := h
  refine ⟨g1, g2, g3, g4, g5, g6, ?_, fun p hp => ?_, fun q hq => ?_, fun i hi => ?_⟩
  · unfold upd
    rcases hv with ⟨rfl, h1, h2⟩ | ⟨rfl | rfl, h1⟩
    · exact ⟨⟨h1, h2⟩, g7.2⟩
    · exact ⟨g7.1, h1, g7.2.2⟩
    · exact ⟨g7.1, g7.2.1, h1⟩
  · rw [e _ (by omega), e _ (by omega), e _ (by omega), e _ (by omega), e _ (by omega), e _ (by omega), e _ (by omega), e _ (by omega)]
    exact g8 p hp
  · rw [e _ (by omega), e _ (by omega), e _ (by omega), e _ (by omega)]
    exact g9 q hq
  · rw [e _ (by omega)]
    exact g10 i hi
theorem Inv.law {M : zm_M} (h : Inv M) {j : Nat} {v : Int32} (hj : j < 3) (hv : (j = 0 ∧ 1 ≤ v ∧ v ≤ 9) ∨ ((j = 1 ∨ j = 2) ∧ (v = 0 ∨ v = 1))) : Inv (zm_si (zm_si M 29 j v) 83 (7 + j) v) := by
  obtain ⟨hR, hW⟩ := h.1
  refine h.town (s2 := upd (M.1 83) (7 + j) v) ?_ (hW.law hv) ?_ (fun c hc => ?_) ?_ ?_
  · exact (hR.set (v := v) (zmap_law hj) (by decide) (by omega)).congr (fun c g1 g2 => by rw [zI_si_rne (by omega)])
  · rw [zI_si_row, zI_si_rne (by decide)]
  · rw [zI_si_rne (by omega), zI_si_rne (by omega)]
  · rw [zI_si_ne (by decide), zI_si_ne (by decide)]
  · rw [zI_si_ne (by decide), zI_si_ne (by decide)]
theorem R_rule_bad {d : Nat} {M : zm_M} {a b : Int32} {Q : Int32 → zm_M → Prop} (hb : ¬ ((a = 0 ∧ ¬ b < 1 ∧ ¬ 9 < b) ∨ ((a = 1 ∨ a = 2) ∧ ¬ b < 0 ∧ ¬ 1 < b))) (hQ : Q ((-1000000000) - 1) (zm_si M 86 1 (M.1 86 1 + 1))) : zi (d + 1) 131 [.ref 82, .int a, .int b] M Q := by
  apply zg_X11_rule
  grind
theorem R_rule_good {d : Nat} {M : zm_M} {a b : Int32} {Q : Int32 → zm_M → Prop} (hb : (a = 0 ∧ ¬ b < 1 ∧ ¬ 9 < b) ∨ ((a = 1 ∨ a = 2) ∧ ¬ b < 0 ∧ ¬ 1 < b)) (hi : zm_inb (7 + a) 480 = true) (hQ : Q (M.1 83 ((7 + a).toNatClampNeg)) (zm_si M 83 ((7 + a).toNatClampNeg) b)) : zi (d + 1) 131 [.ref 82, .int a, .int b] M Q := by
  apply zg_X11_rule
  grind
theorem X_rule_bad {d : Nat} {M : zm_M} {a b : Int32} {Q : Int32 → zm_M → Prop} (hb : ¬ ((a = 0 ∧ ¬ b < 1 ∧ ¬ 9 < b) ∨ ((a = 1 ∨ a = 2) ∧ ¬ b < 0 ∧ ¬ 1 < b))) (hQ : Q ((-1000000000) - 1) (zm_si M 81 1 (M.1 81 1 + 1))) : zi (d + 1) 67 [.ref 0, .int a, .int b] M Q := by
  apply zg_X10_rule
  refine ⟨fun _ => hQ, fun c1 => ⟨fun _ => hQ, fun c2 => ?_⟩⟩
  have h3 : a = 0 ∨ a = 1 ∨ a = 2 := by grind
  have e0 : ((0 : Int32).toNatClampNeg) = 0 := rfl
  have e1 : ((1 : Int32).toNatClampNeg) = 1 := rfl
  have e2 : ((2 : Int32).toNatClampNeg) = 2 := rfl
  have f0 : zm_sv 102 0 = 1 := rfl
  have f1 : zm_sv 102 1 = 0 := rfl
  have f2 : zm_sv 102 2 = 0 := rfl
  have g0 : zm_sv 103 0 = 9 := rfl
  have g1 : zm_sv 103 1 = 1 := rfl
  have g2 : zm_sv 103 2 = 1 := rfl
  rcases h3 with rfl | rfl | rfl
  · rw [e0, f0, g0]
    have : zm_inb 0 3 = true := by decide
    grind
  · rw [e1, f1, g1]
    have : zm_inb 1 3 = true := by decide
    grind
  · rw [e2, f2, g2]
    have : zm_inb 2 3 = true := by decide
    grind
theorem X_rule_good {d : Nat} {M : zm_M} {a b : Int32} {Q : Int32 → zm_M → Prop} (hb : (a = 0 ∧ ¬ b < 1 ∧ ¬ 9 < b) ∨ ((a = 1 ∨ a = 2) ∧ ¬ b < 0 ∧ ¬ 1 < b)) (hQ : Q (M.1 29 a.toNatClampNeg) (zm_si M 29 a.toNatClampNeg b)) : zi (d + 1) 67 [.ref 0, .int a, .int b] M Q := by
  apply zg_X10_rule
  have e0 : ((0 : Int32).toNatClampNeg) = 0 := rfl
  have e1 : ((1 : Int32).toNatClampNeg) = 1 := rfl
  have e2 : ((2 : Int32).toNatClampNeg) = 2 := rfl
  have f0 : zm_sv 102 0 = 1 := rfl
  have f1 : zm_sv 102 1 = 0 := rfl
  have f2 : zm_sv 102 2 = 0 := rfl
  have g0 : zm_sv 103 0 = 9 := rfl
  have g1 : zm_sv 103 1 = 1 := rfl
  have g2 : zm_sv 103 2 = 1 := rfl
  rcases hb with ⟨rfl, h1, h2⟩ | ⟨rfl | rfl, h1, h2⟩
  · rw [e0] at hQ ⊢
    rw [f0, g0]
    have : zm_inb 0 3 = true := by decide
    grind
  · rw [e1] at hQ ⊢
    rw [f1, g1]
    have : zm_inb 1 3 = true := by decide
    grind
  · rw [e2] at hQ ⊢
    rw [f2, g2]
    have : zm_inb 2 3 = true := by decide
    grind
theorem pair_rule {d : Nat} {M : zm_M} {a b : Int32} (h : Inv M) : zi (d + 1) 67 [.ref 0, .int a, .int b] M (fun v M1 => zi (d + 1) 131 [.ref 82, .int a, .int b] M1 (fun w M2 => v = w ∧ Inv M2)) := by
  by_cases hb : (a = 0 ∧ ¬ b < 1 ∧ ¬ 9 < b) ∨ ((a = 1 ∨ a = 2) ∧ ¬ b < 0 ∧ ¬ 1 < b)
  · have n0 : ¬ a < 0 := by grind
    have n3 : a < 3 := by grind
    have hj := zcl_lt n0 n3 (n := 3) (by decide)
    obtain ⟨x1, x2⟩ := zix_1 7 (k := 7) (n := 3) n0 (by have := Int32.lt_iff_toInt_lt.mp n3; simpa using this) (by decide) (by decide)
    refine X_rule_good hb (R_rule_good hb x2 ?_)
    rw [x1, zI_si_ne (show 83 ≠ 29 by decide)]
    refine ⟨h.1.1.1 _ _ _ (zmap_law hj), h.law hj ?_⟩
    rcases hb with ⟨rfl, h1, h2⟩ | ⟨rfl | rfl, h1, h2⟩
    · exact Or.inl ⟨rfl, by grind, by grind⟩
    · exact Or.inr ⟨Or.inl rfl, by grind⟩
    · exact Or.inr ⟨Or.inr rfl, by grind⟩
  · exact X_rule_bad hb (R_rule_bad hb ⟨rfl, h.err1 (by decide)⟩)

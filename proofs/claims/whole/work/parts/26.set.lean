/-! Pairs of calls: a person's number set. -/
theorem WF.put {s : Nat → Int32} (h : WF s) {p w : Nat} {v : Int32} (hp : (p : Int) < (s 0).toInt) (hv : 0 ≤ v ∧ ((w = 0 ∧ v ≤ 6) ∨ (w = 1 ∧ v ≤ 99) ∨ (w = 4 ∧ v ≤ 1) ∨ (w = 5 ∧ v ≤ 99999) ∨ (w = 6 ∧ v ≤ 99999) ∨ (w = 7 ∧ v ≤ 9))) : WF (upd s (10 + 8 * p + w) v) := by
  have p12 : p < 12 := by
    have := Int32.le_iff_toInt_le.mp h.1.2
    simp at this
    omega
  have w8 : w < 8 := by omega
  have e : ∀ k, k ≠ 10 + 8 * p + w → upd s (10 + 8 * p + w) v k = s k := fun k hk => if_neg hk
  have ee : upd s (10 + 8 * p + w) v (10 + 8 * p + w) = v := if_pos rfl
  unfold WF PW DW at h ⊢
  simp only [e 0 (by omega), e 1 (by omega), e 2 (by omega), e 3 (by omega), e 4 (by omega), e 5 (by omega), e 7 (by omega), e 8 (by omega), e 9 (by omega)]
  obtain ⟨g1, g2, g3, g4, g5, g6, g7, g8, g9, g10⟩ := h
  refine ⟨g1, g2, g3, g4, g5, g6, g7, fun i hi => ?_, fun q hq => ?_, fun i hi => ?_⟩
  · by_cases hpi : i = p
    · subst hpi
      obtain ⟨f1, f2, f3, f4, f5, f6, f7, f8, f9⟩ := g8 i hi
      rcases hv with ⟨hv0, ⟨rfl, hv1⟩ | ⟨rfl, hv1⟩ | ⟨rfl, hv1⟩ | ⟨rfl, hv1⟩ | ⟨rfl, hv1⟩ | ⟨rfl, hv1⟩⟩
      · rw [show upd s (10 + 8 * i + 0) v (10 + 8 * i) = v from if_pos (by omega), show upd s (10 + 8 * i + 0) v (11 + 8 * i) = s (11 + 8 * i) from if_neg (by omega), show upd s (10 + 8 * i + 0) v (12 + 8 * i) = s (12 + 8 * i) from if_neg (by omega), show upd s (10 + 8 * i + 0) v (13 + 8 * i) = s (13 + 8 * i) from if_neg (by omega), show upd s (10 + 8 * i + 0) v (14 + 8 * i) = s (14 + 8 * i) from if_neg (by omega), show upd s (10 + 8 * i + 0) v (15 + 8 * i) = s (15 + 8 * i) from if_neg (by omega), show upd s (10 + 8 * i + 0) v (16 + 8 * i) = s (16 + 8 * i) from if_neg (by omega), show upd s (10 + 8 * i + 0) v (17 + 8 * i) = s (17 + 8 * i) from if_neg (by omega)]
        exact ⟨⟨hv0, hv1⟩, f2, f3, f4, f5, f6, f7, f8, f9⟩
      · rw [show upd s (10 + 8 * i + 1) v (10 + 8 * i) = s (10 + 8 * i) from if_neg (by omega), show upd s (10 + 8 * i + 1) v (11 + 8 * i) = v from if_pos (by omega), show upd s (10 + 8 * i + 1) v (12 + 8 * i) = s (12 + 8 * i) from if_neg (by omega), show upd s (10 + 8 * i + 1) v (13 + 8 * i) = s (13 + 8 * i) from if_neg (by omega), show upd s (10 + 8 * i + 1) v (14 + 8 * i) = s (14 + 8 * i) from if_neg (by omega), show upd s (10 + 8 * i + 1) v (15 + 8 * i) = s (15 + 8 * i) from if_neg (by omega), show upd s (10 + 8 * i + 1) v (16 + 8 * i) = s (16 + 8 * i) from if_neg (by omega), show upd s (10 + 8 * i + 1) v (17 + 8 * i) = s (17 + 8 * i) from if_neg (by omega)]
        exact ⟨f1, ⟨hv0, hv1⟩, f3, f4, f5, f6, f7, f8, f9⟩
      · rw [show upd s (10 + 8 * i + 4) v (10 + 8 * i) = s (10 + 8 * i) from if_neg (by omega), show upd s (10 + 8 * i + 4) v (11 + 8 * i) = s (11 + 8 * i) from if_neg (by omega), show upd s (10 + 8 * i + 4) v (12 + 8 * i) = s (12 + 8 * i) from if_neg (by omega), show upd s (10 + 8 * i + 4) v (13 + 8 * i) = s (13 + 8 * i) from if_neg (by omega), show upd s (10 + 8 * i + 4) v (14 + 8 * i) = v from if_pos (by omega), show upd s (10 + 8 * i + 4) v (15 + 8 * i) = s (15 + 8 * i) from if_neg (by omega), show upd s (10 + 8 * i + 4) v (16 + 8 * i) = s (16 + 8 * i) from if_neg (by omega), show upd s (10 + 8 * i + 4) v (17 + 8 * i) = s (17 + 8 * i) from if_neg (by omega)]
        exact ⟨f1, f2, f3, f4, f5, by grind, f7, f8, f9⟩
      · rw [show upd s (10 + 8 * i + 5) v (10 + 8 * i) = s (10 + 8 * i) from if_neg (by omega), show upd s (10 + 8 * i + 5) v (11 + 8 * i) = s (11 + 8 * i) from if_neg (by omega), show upd s (10 + 8 * i + 5) v (12 + 8 * i) = s (12 + 8 * i) from if_neg (by omega), show upd s (10 + 8 * i + 5) v (13 + 8 * i) = s (13 + 8 * i) from if_neg (by omega), show upd s (10 + 8 * i + 5) v (14 + 8 * i) = s (14 + 8 * i) from if_neg (by omega), show upd s (10 + 8 * i + 5) v (15 + 8 * i) = v from if_pos (by omega), show upd s (10 + 8 * i + 5) v (16 + 8 * i) = s (16 + 8 * i) from if_neg (by omega), show upd s (10 + 8 * i + 5) v (17 + 8 * i) = s (17 + 8 * i) from if_neg (by omega)]
        exact ⟨f1, f2, f3, f4, f5, f6, ⟨hv0, hv1⟩, f8, f9⟩
      · rw [show upd s (10 + 8 * i + 6) v (10 + 8 * i) = s (10 + 8 * i) from if_neg (by omega), show upd s (10 + 8 * i + 6) v (11 + 8 * i) = s (11 + 8 * i) from if_neg (by omega), show upd s (10 + 8 * i + 6) v (12 + 8 * i) = s (12 + 8 * i) from if_neg (by omega), show upd s (10 + 8 * i + 6) v (13 + 8 * i) = s (13 + 8 * i) from if_neg (by omega), show upd s (10 + 8 * i + 6) v (14 + 8 * i) = s (14 + 8 * i) from if_neg (by omega), show upd s (10 + 8 * i + 6) v (15 + 8 * i) = s (15 + 8 * i) from if_neg (by omega), show upd s (10 + 8 * i + 6) v (16 + 8 * i) = v from if_pos (by omega), show upd s (10 + 8 * i + 6) v (17 + 8 * i) = s (17 + 8 * i) from if_neg (by omega)]
        exact ⟨f1, f2, f3, f4, f5, f6, f7, ⟨hv0, hv1⟩, f9⟩
      · rw [show upd s (10 + 8 * i + 7) v (10 + 8 * i) = s (10 + 8 * i) from if_neg (by omega), show upd s (10 + 8 * i + 7) v (11 + 8 * i) = s (11 + 8 * i) from if_neg (by omega), show upd s (10 + 8 * i + 7) v (12 + 8 * i) = s (12 + 8 * i) from if_neg (by omega), show upd s (10 + 8 * i + 7) v (13 + 8 * i) = s (13 + 8 * i) from if_neg (by omega), show upd s (10 + 8 * i + 7) v (14 + 8 * i) = s (14 + 8 * i) from if_neg (by omega), show upd s (10 + 8 * i + 7) v (15 + 8 * i) = s (15 + 8 * i) from if_neg (by omega), show upd s (10 + 8 * i + 7) v (16 + 8 * i) = s (16 + 8 * i) from if_neg (by omega), show upd s (10 + 8 * i + 7) v (17 + 8 * i) = v from if_pos (by omega)]
        exact ⟨f1, f2, f3, f4, f5, f6, f7, f8, ⟨hv0, hv1⟩⟩
    · rw [e _ (by omega), e _ (by omega), e _ (by omega), e _ (by omega), e _ (by omega), e _ (by omega), e _ (by omega), e _ (by omega)]
      exact g8 i hi
  · rw [e _ (by omega), e _ (by omega), e _ (by omega), e _ (by omega)]
    exact g9 q hq
  · rw [e _ (by omega)]
    exact g10 i hi
theorem Inv.put {M : zm_M} (h : Inv M) {p w : Nat} {v : Int32} (hp : (p : Int) < (M.1 83 0).toInt) (hv : 0 ≤ v ∧ ((w = 0 ∧ v ≤ 6) ∨ (w = 1 ∧ v ≤ 99) ∨ (w = 4 ∧ v ≤ 1) ∨ (w = 5 ∧ v ≤ 99999) ∨ (w = 6 ∧ v ≤ 99999) ∨ (w = 7 ∧ v ≤ 9))) : Inv (zm_si (zm_si M (4 + w) p v) 83 (10 + 8 * p + w) v) := by
  obtain ⟨hR, hW⟩ := h.1
  have p12 : p < 12 := by
    have := Int32.le_iff_toInt_le.mp hW.1.2
    simp at this
    omega
  have w8 : w < 8 := by omega
  refine h.town (s2 := upd (M.1 83) (10 + 8 * p + w) v) ?_ (hW.put hp hv) ?_ (fun c hc => ?_) ?_ ?_
  · exact (hR.set (v := v) (zmap_pers p12 w8) (by omega) (by omega)).congr (fun c g1 g2 => by rw [zI_si_rne (by omega)]; rfl)
  · rw [zI_si_row, zI_si_rne (by omega)]
  · rw [zI_si_rne (by omega), zI_si_rne (by omega)]
  · rw [zI_si_ne (by omega), zI_si_ne (by omega)]
  · rw [zI_si_ne (by omega), zI_si_ne (by omega)]
theorem R_set_bad {d : Nat} {M : zm_M} {a b c : Int32} {Q : Int32 → zm_M → Prop} (h0 : 0 ≤ M.1 83 0) (hb : ¬ (¬ a < 0 ∧ a < M.1 83 0 ∧ ¬ c < 0 ∧ ((b = 0 ∧ ¬ 6 < c) ∨ (b = 1 ∧ ¬ 99 < c) ∨ (b = 4 ∧ ¬ 1 < c) ∨ (b = 5 ∧ ¬ 99999 < c) ∨ (b = 6 ∧ ¬ 99999 < c) ∨ (b = 7 ∧ ¬ 9 < c)))) (hQ : Q ((-1000000000) - 1) (zm_si M 86 1 (M.1 86 1 + 1))) : zi (d + 2) 129 [.ref 82, .int a, .int b, .int c] M Q := by
  apply zg_X11_set
  simp only [hQ, implies_true, and_true, true_and]
  grind (splits := 40)
theorem R_set_good {d : Nat} {M : zm_M} {a b c : Int32} {Q : Int32 → zm_M → Prop} (h0 : 0 ≤ M.1 83 0) (hb : (¬ a < 0 ∧ a < M.1 83 0 ∧ ¬ c < 0 ∧ ((b = 0 ∧ ¬ 6 < c) ∨ (b = 1 ∧ ¬ 99 < c) ∨ (b = 4 ∧ ¬ 1 < c) ∨ (b = 5 ∧ ¬ 99999 < c) ∨ (b = 6 ∧ ¬ 99999 < c) ∨ (b = 7 ∧ ¬ 9 < c)))) (hi : zm_inb ((10 + (8 * a)) + b) 480 = true) (hQ : Q (M.1 83 (((10 + (8 * a)) + b).toNatClampNeg)) (zm_si M 83 (((10 + (8 * a)) + b).toNatClampNeg) c)) : zi (d + 2) 129 [.ref 82, .int a, .int b, .int c] M Q := by
  apply zg_X11_set
  obtain ⟨c1, c2, c3, hk⟩ := hb
  generalize Q ((-1000000000) - 1) (zm_si M 86 1 (M.1 86 1 + 1)) = E
  rcases hk with ⟨rfl, c4⟩ | ⟨rfl, c4⟩ | ⟨rfl, c4⟩ | ⟨rfl, c4⟩ | ⟨rfl, c4⟩ | ⟨rfl, c4⟩
  · simp only [hQ, hi, true_and, and_true, implies_true]
    grind (splits := 40)
  · simp only [hQ, hi, true_and, and_true, implies_true]
    grind (splits := 40)
  · simp only [hQ, hi, true_and, and_true, implies_true]
    grind (splits := 40)
  · simp only [hQ, hi, true_and, and_true, implies_true]
    grind (splits := 40)
  · simp only [hQ, hi, true_and, and_true, implies_true]
    grind (splits := 40)
  · simp only [hQ, hi, true_and, and_true, implies_true]
    grind (splits := 40)
theorem X_set_bad {d : Nat} {M : zm_M} {a b c : Int32} {Q : Int32 → zm_M → Prop} (hb : ¬ (¬ a < 0 ∧ a < M.1 2 0 ∧ ¬ c < 0 ∧ ((b = 0 ∧ ¬ 6 < c) ∨ (b = 1 ∧ ¬ 99 < c) ∨ (b = 4 ∧ ¬ 1 < c) ∨ (b = 5 ∧ ¬ 99999 < c) ∨ (b = 6 ∧ ¬ 99999 < c) ∨ (b = 7 ∧ ¬ 9 < c)))) (hQ : Q ((-1000000000) - 1) (zm_si M 81 1 (M.1 81 1 + 1))) : zi (d + 1) 65 [.ref 0, .int a, .int b, .int c] M Q := by
  apply zg_X10_set_q0
  refine ⟨fun _ => hQ, fun c1 => ⟨fun c2 => ⟨fun _ => hQ, fun c3 => ⟨fun _ => hQ, fun c4 => ⟨fun _ => hQ, fun c5 => ?_⟩⟩⟩, fun _ => hQ⟩⟩
  have h3 : b = 0 ∨ b = 1 ∨ b = 2 ∨ b = 3 ∨ b = 4 ∨ b = 5 ∨ b = 6 ∨ b = 7 := by grind
  rcases h3 with rfl | rfl | rfl | rfl | rfl | rfl | rfl | rfl
  · refine ⟨by decide, fun _ => hQ, fun c6 => ?_⟩
    rw [show zm_sv 101 (0 : Int32).toNatClampNeg = 6 from rfl] at c6
    exfalso
    grind
  · refine ⟨by decide, fun _ => hQ, fun c6 => ?_⟩
    rw [show zm_sv 101 (1 : Int32).toNatClampNeg = 99 from rfl] at c6
    exfalso
    grind
  · refine ⟨by decide, fun _ => hQ, fun c6 => ?_⟩
    rw [show zm_sv 101 (2 : Int32).toNatClampNeg = -1 from rfl] at c6
    exfalso
    grind
  · refine ⟨by decide, fun _ => hQ, fun c6 => ?_⟩
    rw [show zm_sv 101 (3 : Int32).toNatClampNeg = -1 from rfl] at c6
    exfalso
    grind
  · refine ⟨by decide, fun _ => hQ, fun c6 => ?_⟩
    rw [show zm_sv 101 (4 : Int32).toNatClampNeg = 1 from rfl] at c6
    exfalso
    grind
  · refine ⟨by decide, fun _ => hQ, fun c6 => ?_⟩
    rw [show zm_sv 101 (5 : Int32).toNatClampNeg = 99999 from rfl] at c6
    exfalso
    grind
  · refine ⟨by decide, fun _ => hQ, fun c6 => ?_⟩
    rw [show zm_sv 101 (6 : Int32).toNatClampNeg = 99999 from rfl] at c6
    exfalso
    grind
  · refine ⟨by decide, fun _ => hQ, fun c6 => ?_⟩
    rw [show zm_sv 101 (7 : Int32).toNatClampNeg = 9 from rfl] at c6
    exfalso
    grind
theorem X_set_good {d : Nat} {M : zm_M} {a b c : Int32} {Q : Int32 → zm_M → Prop} (hb : (¬ a < 0 ∧ a < M.1 2 0 ∧ ¬ c < 0 ∧ ((b = 0 ∧ ¬ 6 < c) ∨ (b = 1 ∧ ¬ 99 < c) ∨ (b = 4 ∧ ¬ 1 < c) ∨ (b = 5 ∧ ¬ 99999 < c) ∨ (b = 6 ∧ ¬ 99999 < c) ∨ (b = 7 ∧ ¬ 9 < c)))) (h12 : a < 12) (hQ : Q (M.1 (4 + b.toNatClampNeg) a.toNatClampNeg) (zm_si M (4 + b.toNatClampNeg) a.toNatClampNeg c)) : zi (d + 1) 65 [.ref 0, .int a, .int b, .int c] M Q := by
  obtain ⟨c1, c2, c3, hk⟩ := hb
  have hin := zm_inb_of 12 c1 h12 (n := 12) (by decide)
  rcases hk with ⟨rfl, c4⟩ | ⟨rfl, c4⟩ | ⟨rfl, c4⟩ | ⟨rfl, c4⟩ | ⟨rfl, c4⟩ | ⟨rfl, c4⟩
  · apply zg_X10_set_q0
    exact ⟨fun z => absurd z c1, fun _ => ⟨fun _ => ⟨fun z => absurd z (by decide), fun _ => ⟨fun z => absurd z (by decide), fun _ => ⟨fun z => absurd z c3, fun _ => ⟨by decide, fun z => absurd z c4, fun _ => ⟨by decide, by decide, hin, by decide, by decide, hin, hQ⟩⟩⟩⟩⟩, fun z => absurd c2 z⟩⟩
  · apply zg_X10_set_q1
    exact ⟨fun z => absurd z c1, fun _ => ⟨fun _ => ⟨fun z => absurd z (by decide), fun _ => ⟨fun z => absurd z (by decide), fun _ => ⟨fun z => absurd z c3, fun _ => ⟨by decide, fun z => absurd z c4, fun _ => ⟨by decide, by decide, hin, by decide, by decide, hin, hQ⟩⟩⟩⟩⟩, fun z => absurd c2 z⟩⟩
  · apply zg_X10_set_q4
    exact ⟨fun z => absurd z c1, fun _ => ⟨fun _ => ⟨fun z => absurd z (by decide), fun _ => ⟨fun z => absurd z (by decide), fun _ => ⟨fun z => absurd z c3, fun _ => ⟨by decide, fun z => absurd z c4, fun _ => ⟨by decide, by decide, hin, by decide, by decide, hin, hQ⟩⟩⟩⟩⟩, fun z => absurd c2 z⟩⟩
  · apply zg_X10_set_q5
    exact ⟨fun z => absurd z c1, fun _ => ⟨fun _ => ⟨fun z => absurd z (by decide), fun _ => ⟨fun z => absurd z (by decide), fun _ => ⟨fun z => absurd z c3, fun _ => ⟨by decide, fun z => absurd z c4, fun _ => ⟨by decide, by decide, hin, by decide, by decide, hin, hQ⟩⟩⟩⟩⟩, fun z => absurd c2 z⟩⟩
  · apply zg_X10_set_q6
    exact ⟨fun z => absurd z c1, fun _ => ⟨fun _ => ⟨fun z => absurd z (by decide), fun _ => ⟨fun z => absurd z (by decide), fun _ => ⟨fun z => absurd z c3, fun _ => ⟨by decide, fun z => absurd z c4, fun _ => ⟨by decide, by decide, hin, by decide, by decide, hin, hQ⟩⟩⟩⟩⟩, fun z => absurd c2 z⟩⟩
  · apply zg_X10_set_q7
    exact ⟨fun z => absurd z c1, fun _ => ⟨fun _ => ⟨fun z => absurd z (by decide), fun _ => ⟨fun z => absurd z (by decide), fun _ => ⟨fun z => absurd z c3, fun _ => ⟨by decide, fun z => absurd z c4, fun _ => ⟨by decide, by decide, hin, by decide, by decide, hin, hQ⟩⟩⟩⟩⟩, fun z => absurd c2 z⟩⟩
theorem pair_set {d : Nat} {M : zm_M} {a b c : Int32} (h : Inv M) : zi (d + 1) 65 [.ref 0, .int a, .int b, .int c] M (fun v M1 => zi (d + 2) 129 [.ref 82, .int a, .int b, .int c] M1 (fun w M2 => v = w ∧ Inv M2)) := by
  obtain ⟨hR, hW⟩ := h.1
  have b0 := hW.1
  have e0 : M.1 2 0 = M.1 83 0 := hR.1 0 2 0 rfl
  by_cases hb : (¬ a < 0 ∧ a < M.1 83 0 ∧ ¬ c < 0 ∧ ((b = 0 ∧ ¬ 6 < c) ∨ (b = 1 ∧ ¬ 99 < c) ∨ (b = 4 ∧ ¬ 1 < c) ∨ (b = 5 ∧ ¬ 99999 < c) ∨ (b = 6 ∧ ¬ 99999 < c) ∨ (b = 7 ∧ ¬ 9 < c)))
  · have h12 : a < 12 := by grind
    have n1 : ¬ a < 0 := hb.1
    have hq := zcl_lt n1 h12 (n := 12) (by decide)
    have hz := zcl n1
    have hb0 : ¬ b < 0 := by grind
    have hw := zcl_lt hb0 (show b < 8 by grind) (n := 8) (by decide)
    obtain ⟨x0, y0⟩ := zix_p b (k := b.toNatClampNeg) n1 h12 (by rw [zcl hb0]) hw
    refine X_set_good (by rw [e0]; exact hb) h12 ?_
    have r83 : (zm_si M (4 + b.toNatClampNeg) a.toNatClampNeg c).1 83 = M.1 83 := zI_si_rne (by omega)
    refine R_set_good (by rw [r83]; exact b0.1) (by rw [r83]; exact hb) y0 ?_
    rw [x0, r83]
    refine ⟨hR.1 _ _ _ (zmap_pers hq hw), h.put ?_ ?_⟩
    · have := Int32.lt_iff_toInt_lt.mp hb.2.1
      omega
    · refine ⟨by grind, ?_⟩
      rcases hb.2.2.2 with ⟨rfl, c4⟩ | ⟨rfl, c4⟩ | ⟨rfl, c4⟩ | ⟨rfl, c4⟩ | ⟨rfl, c4⟩ | ⟨rfl, c4⟩
      · exact Or.inl ⟨rfl, by grind⟩
      · exact Or.inr (Or.inl ⟨rfl, by grind⟩)
      · exact Or.inr (Or.inr (Or.inl ⟨rfl, by grind⟩))
      · exact Or.inr (Or.inr (Or.inr (Or.inl ⟨rfl, by grind⟩)))
      · exact Or.inr (Or.inr (Or.inr (Or.inr (Or.inl ⟨rfl, by grind⟩))))
      · exact Or.inr (Or.inr (Or.inr (Or.inr (Or.inr ⟨rfl, by grind⟩))))
  · refine X_set_bad (by rw [e0]; exact hb) (R_set_bad ?_ ?_ ⟨rfl, h.err1 (by decide)⟩)
    · rw [zI_si_rne (show 83 ≠ 81 by decide)]
      exact b0.1
    · rw [zI_si_rne (show 83 ≠ 81 by decide)]
      exact hb

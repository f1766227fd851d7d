/-! What a debt is, in both. -/
theorem R_debtIs_bad {d : Nat} {M : zm_M} {a b : Int32} {Q : Int32 → zm_M → Prop} (h0 : 0 ≤ M.1 83 1) (hb : ¬ (¬ a < 0 ∧ a < M.1 83 1 ∧ ¬ b < 0 ∧ ¬ 3 < b)) (hQ : Q ((-1000000000) - 1) (zm_si M 86 1 (M.1 86 1 + 1))) : zi (d + 2) 161 [.ref 82, .int a, .int b] M Q := by
  apply zg_X11_debtIs
  grind
theorem X_debtIs_bad {d : Nat} {M : zm_M} {a b : Int32} {Q : Int32 → zm_M → Prop} (hb : ¬ (¬ a < 0 ∧ a < M.1 12 0 ∧ ¬ b < 0 ∧ ¬ 3 < b)) (hQ : Q ((-1000000000) - 1) (zm_si M 81 1 (M.1 81 1 + 1))) : zi (d + 1) 69 [.ref 0, .int a, .int b] M Q := by
  apply zg_X10_debtIs_q0
  refine ⟨fun _ => hQ, fun c1 => ⟨fun c2 => ⟨fun _ => hQ, fun c3 => ⟨fun c4 => ?_, fun _ => hQ⟩⟩, fun _ => hQ⟩⟩
  exfalso
  grind
theorem X_debtIs_good {d : Nat} {M : zm_M} {a b : Int32} {Q : Int32 → zm_M → Prop} (c1 : ¬ a < 0) (c2 : a < M.1 12 0) (c3 : ¬ b < 0) (c4 : ¬ 3 < b) (h10 : a < 10) (hQ : Q (M.1 (14 + b.toNatClampNeg) a.toNatClampNeg) M) : zi (d + 1) 69 [.ref 0, .int a, .int b] M Q := by
  have hin := zm_inb_of 10 c1 h10 (n := 10) (by decide)
  have h3 : b = 0 ∨ b = 1 ∨ b = 2 ∨ b = 3 := by grind
  rcases h3 with rfl | rfl | rfl | rfl
  · apply zg_X10_debtIs_q0
    exact ⟨fun z => absurd z c1, fun _ => ⟨fun _ => ⟨fun z => absurd z c3, fun _ => ⟨fun _ => ⟨by decide, by decide, hin, hQ⟩, fun z => absurd (by decide) z⟩⟩, fun z => absurd c2 z⟩⟩
  · apply zg_X10_debtIs_q1
    exact ⟨fun z => absurd z c1, fun _ => ⟨fun _ => ⟨fun z => absurd z c3, fun _ => ⟨fun _ => ⟨by decide, by decide, hin, hQ⟩, fun z => absurd (by decide) z⟩⟩, fun z => absurd c2 z⟩⟩
  · apply zg_X10_debtIs_q2
    exact ⟨fun z => absurd z c1, fun _ => ⟨fun _ => ⟨fun z => absurd z c3, fun _ => ⟨fun _ => ⟨by decide, by decide, hin, hQ⟩, fun z => absurd (by decide) z⟩⟩, fun z => absurd c2 z⟩⟩
  · apply zg_X10_debtIs_q3
    exact ⟨fun z => absurd z c1, fun _ => ⟨fun _ => ⟨fun z => absurd z c3, fun _ => ⟨fun _ => ⟨by decide, by decide, hin, hQ⟩, fun z => absurd (by decide) z⟩⟩, fun z => absurd c2 z⟩⟩
theorem pair_debtIs {d : Nat} {M : zm_M} {a b : Int32} (h : Inv M) : zi (d + 1) 69 [.ref 0, .int a, .int b] M (fun v M1 => zi (d + 2) 161 [.ref 82, .int a, .int b] M1 (fun w M2 => v = w ∧ Inv M2)) := by
  obtain ⟨hR, hW⟩ := h.1
  have b1 := hW.2.1
  have e1 : M.1 12 0 = M.1 83 1 := hR.1 1 12 0 rfl
  by_cases hb : ¬ a < 0 ∧ a < M.1 83 1 ∧ ¬ b < 0 ∧ ¬ 3 < b
  · obtain ⟨c1, c2, c3, c4⟩ := hb
    have h10 : a < 10 := by grind
    have hq := zcl_lt c1 h10 (n := 10) (by decide)
    have hw := zcl_lt c3 (show b < 4 by grind) (n := 4) (by decide)
    refine X_debtIs_good c1 (by rw [e1]; exact c2) c3 c4 h10 ?_
    obtain ⟨x0, y0⟩ := zix_d b (k := b.toNatClampNeg) c1 h10 (by rw [zcl c3]) hw
    apply zg_X11_debtIs
    rw [x0]
    exact ⟨fun z => absurd z c1, fun _ => ⟨fun z => by grind, fun _ => ⟨fun z => absurd z c3, fun _ => ⟨fun z => absurd z c4, fun _ => ⟨y0, hR.1 _ _ _ (zmap_debt hq hw), h⟩⟩⟩⟩⟩
  · refine X_debtIs_bad (by rw [e1]; exact hb) (R_debtIs_bad ?_ ?_ ⟨rfl, h.err1 (by decide)⟩)
    · rw [zI_si_rne (show 83 ≠ 81 by decide)]
      exact b1.1
    · rw [zI_si_rne (show 83 ≠ 81 by decide)]
      exact hb

/-! Pairs of calls: as. -/
theorem R_as_bad {d : Nat} {M : zm_M} {a b : Int32} {Q : Int32 → zm_M → Prop} (h0 : 0 ≤ M.1 83 0) (hb : ¬ (¬ a < 0 ∧ a < M.1 83 0 ∧ ¬ b < 0 ∧ ¬ 6 < b)) (hQ : Q ((-1000000000) - 1) (zm_si M 86 1 (M.1 86 1 + 1))) : zi (d + 2) 128 [.ref 82, .int a, .int b] M Q := by
  apply zg_X11_as
  simp only [hQ, implies_true, and_true, true_and]
  grind (splits := 40)
theorem R_as_good {d : Nat} {M : zm_M} {a b : Int32} {Q : Int32 → zm_M → Prop} (hb : ¬ a < 0 ∧ a < M.1 83 0 ∧ ¬ b < 0 ∧ ¬ 6 < b) (h12 : a < 12) (h1 : zUnd (M.1 83 (10 + 8 * a.toNatClampNeg)) b → Q (M.1 83 (11 + 8 * a.toNatClampNeg)) M) (h0 : ¬ zUnd (M.1 83 (10 + 8 * a.toNatClampNeg)) b → Q ((-1000000000) - 5) (zm_si M 86 5 (M.1 86 5 + 1))) : zi (d + 2) 128 [.ref 82, .int a, .int b] M Q := by
  obtain ⟨c1, c2, c3, c4⟩ := hb
  obtain ⟨x0, y0⟩ := zix_p 0 (k := 0) c1 h12 (by decide) (by decide)
  obtain ⟨x1, y1⟩ := zix_p 1 (k := 1) c1 h12 (by decide) (by decide)
  apply zg_X11_as
  rw [x0, x1]
  rw [show 10 + 8 * a.toNatClampNeg + 0 = 10 + 8 * a.toNatClampNeg from rfl, show 10 + 8 * a.toNatClampNeg + 1 = 11 + 8 * a.toNatClampNeg by omega]
  simp only [y0, y1, true_and]
  unfold zUnd at h1 h0
  generalize M.1 83 (10 + 8 * a.toNatClampNeg) = k at *
  generalize Q (M.1 83 (11 + 8 * a.toNatClampNeg)) M = P1 at *
  generalize Q ((-1000000000) - 5) (zm_si M 86 5 (M.1 86 5 + 1)) = P2 at *
  refine ⟨fun z => absurd z c1, fun _ => ⟨fun z => by grind, fun _ => ⟨fun z => absurd z c3, fun _ => ⟨fun z => absurd z c4, fun _ => ?_⟩⟩⟩⟩
  grind (splits := 40)
theorem X_as_bad {d : Nat} {M : zm_M} {a b : Int32} {Q : Int32 → zm_M → Prop} (hb : ¬ (¬ a < 0 ∧ a < M.1 2 0 ∧ ¬ b < 0 ∧ ¬ 6 < b)) (hQ : Q ((-1000000000) - 1) (zm_si M 81 1 (M.1 81 1 + 1))) : zi (d + 1) 64 [.ref 0, .int a, .int b] M Q := by
  apply zg_X10_as
  refine ⟨fun _ => hQ, fun c1 => ⟨fun c2 => ⟨fun _ => hQ, fun c3 => ⟨fun _ => hQ, fun c4 => absurd ⟨c1, c2, c3, c4⟩ hb⟩⟩, fun _ => hQ⟩⟩
theorem pair_as {d : Nat} {M : zm_M} {a b : Int32} (h : Inv M) : zi (d + 1) 64 [.ref 0, .int a, .int b] M (fun v M1 => zi (d + 2) 128 [.ref 82, .int a, .int b] M1 (fun w M2 => v = w ∧ Inv M2)) := by
  obtain ⟨hR, hW⟩ := h.1
  have b0 := hW.1
  have e0 : M.1 2 0 = M.1 83 0 := hR.1 0 2 0 rfl
  by_cases hb : ¬ a < 0 ∧ a < M.1 83 0 ∧ ¬ b < 0 ∧ ¬ 6 < b
  · have h12 : a < 12 := by grind
    obtain ⟨c1, c2, c3, c4⟩ := id hb
    have hin := zm_inb_of 12 c1 h12 (n := 12) (by decide)
    have hq := zcl_lt c1 h12 (n := 12) (by decide)
    have hz := zcl c1
    have k0 : M.1 4 a.toNatClampNeg = M.1 83 (10 + 8 * a.toNatClampNeg) := hR.1 _ _ _ (zmap_pers hq (w := 0) (by decide))
    have k1 : M.1 5 a.toNatClampNeg = M.1 83 (11 + 8 * a.toNatClampNeg) := by
      rw [show 11 + 8 * a.toNatClampNeg = 10 + 8 * a.toNatClampNeg + 1 by omega]
      exact hR.1 _ _ _ (zmap_pers hq (w := 1) (by decide))
    have hp := hW.2.2.2.2.2.2.2.1 a.toNatClampNeg (by have := Int32.lt_iff_toInt_lt.mp c2; omega)
    apply zg_X10_as
    rw [e0, k0]
    refine ⟨fun z => absurd z c1, fun _ => ⟨fun _ => ⟨fun z => absurd z c3, fun _ => ⟨fun z => absurd z c4, fun _ => ⟨hin, ?_⟩⟩⟩, fun z => absurd c2 z⟩⟩
    refine X_under hp.1 (fun u1 => ⟨fun z => absurd z (by decide), fun _ => ⟨hin, ?_⟩⟩) (fun u0 => ⟨fun _ => ?_, fun z => absurd rfl z⟩)
    · exact R_as_good hb h12 (fun _ => ⟨k1, h⟩) (fun z => absurd u1 z)
    · have r83 : ∀ j v, (zm_si M 81 j v).1 83 = M.1 83 := fun j v => zI_si_rne (by decide)
      refine R_as_good (by rw [r83]; exact hb) h12 (fun z => ?_) (fun z => ⟨rfl, h.err1 (by decide)⟩)
      rw [r83] at z
      exact absurd z u0
  · refine X_as_bad (by rw [e0]; exact hb) (R_as_bad ?_ ?_ ⟨rfl, h.err1 (by decide)⟩)
    · rw [zI_si_rne (show 83 ≠ 81 by decide)]
      exact b0.1
    · rw [zI_si_rne (show 83 ≠ 81 by decide)]
      exact hb

/-! Pairs: personIs, parent. -/
theorem zu_personIs {d k : Nat} {M : zm_M} {Q : Int32 → zm_M → Prop} {a0 : Int32} {b0 : Int32} (hk : k < 8) (h : (a0 < (0 : Int32) → Q ((-1000000000) - 1) (zm_si M 81 1 ((M.1 81 1) + 1))) ∧ (¬ a0 < (0 : Int32) → (a0 < (M.1 2 0) → (b0 < (0 : Int32) → Q ((-1000000000) - 1) (zm_si M 81 1 ((M.1 81 1) + 1))) ∧ (¬ b0 < (0 : Int32) → ((9 : Int32) < b0 → Q ((-1000000000) - 1) (zm_si M 81 1 ((M.1 81 1) + 1))) ∧ (¬ (9 : Int32) < b0 → (b0 = (8 : Int32) → zi d 18 [.ref 2, .int a0] M (fun x13 M12 => Q x13 M12)) ∧ (¬ b0 = (8 : Int32) → (b0 = (9 : Int32) → zi d 19 [.ref 2, .int a0] M (fun x7 M6 => Q x7 M6)) ∧ (¬ b0 = (9 : Int32) → zm_inb b0 8 = true ∧ zm_rf 3 b0.toNatClampNeg = some (4 + k) ∧ (zm_inb a0 12 = true ∧ (Q (M.1 (4 + k) a0.toNatClampNeg) M))))))) ∧ (¬ a0 < (M.1 2 0) → Q ((-1000000000) - 1) (zm_si M 81 1 ((M.1 81 1) + 1))))) : zi (d + 1) 63 [.ref 0, .int a0, .int b0] M Q := by
  rcases (show k = 0 ∨ k = 1 ∨ k = 2 ∨ k = 3 ∨ k = 4 ∨ k = 5 ∨ k = 6 ∨ k = 7 by omega) with rfl | rfl | rfl | rfl | rfl | rfl | rfl | rfl
  · exact zg_X10_personIs_q0 h
  · exact zg_X10_personIs_q1 h
  · exact zg_X10_personIs_q2 h
  · exact zg_X10_personIs_q3 h
  · exact zg_X10_personIs_q4 h
  · exact zg_X10_personIs_q5 h
  · exact zg_X10_personIs_q6 h
  · exact zg_X10_personIs_q7 h
theorem zrf_folk {k : Nat} (hk : k < 8) : zm_rf 3 k = some (4 + k) := by
  rcases (show k = 0 ∨ k = 1 ∨ k = 2 ∨ k = 3 ∨ k = 4 ∨ k = 5 ∨ k = 6 ∨ k = 7 by omega) with rfl | rfl | rfl | rfl | rfl | rfl | rfl | rfl <;> rfl
theorem TE.pf {N : Nat} {E : Nat → Int32} (h : TE N E) : PF N E := fun p hp => ⟨(h.2.2.1 p hp).2.2.1, (h.2.2.1 p hp).2.2.2.1⟩
theorem RT.fx {M : zm_M} {N : Nat} {s : Nat → Int32} (h : RT M 0 s) (h0 : s 0 = zon N) : FX M N s := ⟨(h.1 0 2 0 rfl).trans h0, fun p hp => ⟨h.pers (w := 2) hp (by decide) (by omega), h.pers (w := 3) hp (by decide) (by omega)⟩⟩
theorem FR.of {M : zm_M} {N : Nat} {s : Nat → Int32} (h : M.1 83 = s) (h0 : s 0 = zon N) : FR M N s := ⟨by rw [h]; exact h0, fun p _ => by rw [h]; exact ⟨rfl, rfl⟩⟩
theorem zPw {p w : Nat} : ((10 + (8 * zon p)) + zon w : Int32) = zon (10 + 8 * p + w) := by
  show (zon 10 + zon 8 * zon p) + zon w = _
  rw [zon_mul, zon_add, zon_add]
theorem pair_personIs {d : Nat} {M : zm_M} {a b : Int32} (h : Inv M) : zi (d + 3) 63 [.ref 0, .int a, .int b] M (fun v M1 => zi (d + 3) 126 [.ref 82, .int a, .int b] M1 (fun w M2 => v = w ∧ Inv M2)) := by
  have hR := h.1.1
  have e20 : M.1 2 0 = M.1 83 0 := hR.1 0 2 0 rfl
  have r83 : ∀ j v, (zm_si M 81 j v).1 83 = M.1 83 := fun j v => zI_si_rne (by decide)
  obtain ⟨N, D, hE, -, -, -⟩ := h.te
  have hN := hE.1.1
  rcases h.pcase a with (g1 | ⟨g1, g2, g3⟩) | ⟨p, rfl, hp, hpN, ⟨g1, g2, g3⟩, pin⟩
  · apply zu_personIs (k := 0) (d := d + 2) (by decide)
    refine ⟨fun _ => ?_, fun z => absurd g1 z⟩
    apply zg_X11_personIs (d := d + 1)
    exact ⟨fun _ => ⟨rfl, h.err1 (by decide)⟩, fun z => absurd g1 z⟩
  · apply zu_personIs (k := 0) (d := d + 2) (by decide)
    rw [e20]
    refine ⟨fun z => absurd z g1, fun _ => ⟨fun z => absurd z g2, fun _ => ?_⟩⟩
    apply zg_X11_personIs (d := d + 1)
    rw [r83]
    exact ⟨fun z => absurd z g1, fun _ => ⟨fun _ => ⟨rfl, h.err1 (by decide)⟩, fun z => absurd g3 z⟩⟩
  · have hpN2 : p < N := by
      rw [hE.1.2, zon_i (by omega)] at hpN
      omega
    by_cases b0 : b < 0
    · apply zu_personIs (k := 0) (d := d + 2) (by decide)
      rw [e20]
      refine ⟨fun z => absurd z g1, fun _ => ⟨fun _ => ⟨fun _ => ?_, fun z => absurd b0 z⟩, fun z => absurd g2 z⟩⟩
      apply zg_X11_personIs (d := d + 1)
      rw [r83]
      exact ⟨fun z => absurd z g1, fun _ => ⟨fun z => absurd z g3, fun _ => ⟨fun _ => ⟨rfl, h.err1 (by decide)⟩, fun z => absurd b0 z⟩⟩⟩
    · by_cases b9 : 9 < b
      · apply zu_personIs (k := 0) (d := d + 2) (by decide)
        rw [e20]
        refine ⟨fun z => absurd z g1, fun _ => ⟨fun _ => ⟨fun z => absurd z b0, fun _ => ⟨fun _ => ?_, fun z => absurd b9 z⟩⟩, fun z => absurd g2 z⟩⟩
        apply zg_X11_personIs (d := d + 1)
        rw [r83]
        exact ⟨fun z => absurd z g1, fun _ => ⟨fun z => absurd z g3, fun _ => ⟨fun z => absurd z b0, fun _ => ⟨fun _ => ⟨rfl, h.err1 (by decide)⟩, fun z => absurd b9 z⟩⟩⟩⟩
      · obtain ⟨w, rfl, hw⟩ := zof2 (x := b) (m := 9) (n := 9) (by grind) (by grind) rfl
        have rest : ∀ Q, (zon w = (8 : Int32) → zi (d + 2) 124 [.ref 82, .int (zon p)] M (fun x10 M9 => Q x10 M9)) ∧ (¬ zon w = (8 : Int32) → (zon w = (9 : Int32) → zi (d + 2) 125 [.ref 82, .int (zon p)] M (fun x4 M3 => Q x4 M3)) ∧ (¬ zon w = (9 : Int32) → zm_inb ((10 + (8 * zon p)) + zon w) 480 = true ∧ (Q (M.1 83 (((10 + (8 * zon p)) + zon w).toNatClampNeg)) M))) → zi (d + 3) 126 [.ref 82, .int (zon p), .int (zon w)] M Q := fun Q hq => by
          apply zg_X11_personIs (d := d + 1)
          exact ⟨fun z => absurd z g1, fun _ => ⟨fun z => absurd z g3, fun _ => ⟨fun z => absurd z b0, fun _ => ⟨fun z => absurd z b9, fun _ => hq⟩⟩⟩⟩
        by_cases w8 : w < 8
        · have n8 : ¬ zon w = (8 : Int32) := by rw [show (8 : Int32) = zon 8 from rfl, zon_inj (by omega) (by omega)]; omega
          have n9 : ¬ zon w = (9 : Int32) := by rw [show (9 : Int32) = zon 9 from rfl, zon_inj (by omega) (by omega)]; omega
          have i8 : zm_inb (zon w) 8 = true := by rw [zon_inb (by omega)]; omega
          apply zu_personIs (d := d + 2) w8
          rw [e20, zon_n (show w < 2000 by omega), zon_n (show p < 2000 by omega)]
          refine ⟨fun z => absurd z g1, fun _ => ⟨fun _ => ⟨fun z => absurd z b0, fun _ => ⟨fun z => absurd z b9, fun _ => ⟨fun z => absurd z n8, fun _ => ⟨fun z => absurd z n9, fun _ => ⟨i8, zrf_folk w8, pin, ?_⟩⟩⟩⟩⟩, fun z => absurd g2 z⟩⟩
          refine rest _ ⟨fun z => absurd z n8, fun _ => ⟨fun z => absurd z n9, fun _ => ?_⟩⟩
          rw [zPw, zon_n (by omega)]
          exact ⟨by rw [zon_inb (by omega)]; omega, hR.pers hp w8 rfl, h⟩
        · by_cases w9 : w = 8
          · subst w9
            apply zu_personIs (k := 0) (d := d + 2) (by decide)
            rw [e20]
            refine ⟨fun z => absurd z g1, fun _ => ⟨fun _ => ⟨fun z => absurd z b0, fun _ => ⟨fun z => absurd z b9, fun _ => ⟨fun _ => ?_, fun z => absurd rfl z⟩⟩⟩, fun z => absurd g2 z⟩⟩
            refine X_line (d := d) hE.pf hN hpN2 (hR.fx hE.1.2) (fun x hx => rest _ ⟨fun _ => ?_, fun z => absurd rfl z⟩)
            exact R_line (d := d + 1) hE.pf hN hpN2 (FR.of rfl hE.1.2) (fun y hy => ⟨hx.uniq hy, h⟩)
          · have w9 : w = 9 := by omega
            subst w9
            apply zu_personIs (k := 0) (d := d + 2) (by decide)
            rw [e20]
            refine ⟨fun z => absurd z g1, fun _ => ⟨fun _ => ⟨fun z => absurd z b0, fun _ => ⟨fun z => absurd z b9, fun _ => ⟨fun z => absurd z (by decide), fun _ => ⟨fun _ => ?_, fun z => absurd rfl z⟩⟩⟩⟩, fun z => absurd g2 z⟩⟩
            refine X_heirs (d := d) hE.pf hN (hR.fx hE.1.2) (fun x hx => rest _ ⟨fun z => absurd z (by decide), fun _ => ⟨fun _ => ?_, fun z => absurd rfl z⟩⟩)
            exact R_heirs (d := d) hE.pf hN hpN2 (FR.of rfl hE.1.2) (fun y hy => ⟨hx.uniq hy, h⟩)
theorem WF.par {s : Nat → Int32} (h : WF s) {p w : Nat} {v : Int32} (hp : p < 12) (hw : w = 2 ∨ w = 3) (hv : -1 ≤ v ∧ v < s 0) (hd : v = -1 ∨ ¬ s (if w = 2 then 13 + 8 * p else 12 + 8 * p) = v) : WF (upd s (10 + 8 * p + w) v) := by
  have e : ∀ k, k ≠ 10 + 8 * p + w → upd s (10 + 8 * p + w) v k = s k := fun k hk => if_neg hk
  have ea : upd s (10 + 8 * p + w) v (10 + 8 * p + w) = v := if_pos rfl
  obtain ⟨h1, h2, h3, h4, h5, h6, h7, h8, h9, h10⟩ := h
  unfold WF
  rw [e 0 (by omega), e 1 (by omega), e 2 (by omega), e 3 (by omega), e 4 (by omega), e 5 (by omega), e 7 (by omega), e 8 (by omega), e 9 (by omega)]
  have a2 := le_i h2.2 rfl rfl
  rw [show (10 : Int32).toInt = 10 from rfl] at a2
  refine ⟨h1, h2, h3, h4, h5, h6, h7, fun q hq => ?_, fun q hq => ?_, fun j hj => ?_⟩
  · have := h8 q hq
    unfold PW at this ⊢
    rw [e 0 (by omega)]
    by_cases hqp : q = p
    · subst hqp
      obtain ⟨b1, b2, b3, b4, b5, b6, b7, b8, b9⟩ := this
      rw [e (10 + 8 * q) (by omega), e (11 + 8 * q) (by omega), e (14 + 8 * q) (by omega), e (15 + 8 * q) (by omega), e (16 + 8 * q) (by omega), e (17 + 8 * q) (by omega)]
      rcases hw with hw | hw
      · subst hw
        rw [e (13 + 8 * q) (by omega), show 12 + 8 * q = 10 + 8 * q + 2 by omega, ea]
        rw [if_pos rfl] at hd
        refine ⟨b1, b2, hv, b4, fun z => ?_, b6, b7, b8, b9⟩
        rcases hd with hd | hd
        · exact hd
        · exact absurd z.symm hd
      · subst hw
        rw [e (12 + 8 * q) (by omega), show 13 + 8 * q = 10 + 8 * q + 3 by omega, ea]
        rw [if_neg (by decide)] at hd
        refine ⟨b1, b2, b3, hv, fun z => ?_, b6, b7, b8, b9⟩
        rcases hd with hd | hd
        · rw [z]
          exact hd
        · exact absurd z hd
    · rw [e (10 + 8 * q) (by omega), e (11 + 8 * q) (by omega), e (12 + 8 * q) (by omega), e (13 + 8 * q) (by omega), e (14 + 8 * q) (by omega), e (15 + 8 * q) (by omega), e (16 + 8 * q) (by omega), e (17 + 8 * q) (by omega)]
      exact this
  · have := h9 q hq
    unfold DW at this ⊢
    rw [e 0 (by omega), e (106 + 4 * q) (by omega), e (107 + 4 * q) (by omega), e (108 + 4 * q) (by omega), e (109 + 4 * q) (by omega)]
    exact this
  · rw [e (396 + j) (by omega)]
    exact h10 j hj

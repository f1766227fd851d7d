/-! Pair: parent. -/
theorem pcase2 {M : zm_M} (h : Inv M) (c : Int32) : c = -1 ∨ (¬ c = -1 ∧ ((c < 0 ∨ (¬ c < 0 ∧ ¬ c < M.1 83 0 ∧ M.1 83 0 - 1 < c)) ∨ ∃ q, c = zon q ∧ q < 12 ∧ (q : Int) < (M.1 83 0).toInt ∧ (¬ c < 0 ∧ c < M.1 83 0 ∧ ¬ M.1 83 0 - 1 < c) ∧ zm_inb c 12 = true)) := by
  by_cases hc : c = -1
  · exact Or.inl hc
  · exact Or.inr ⟨hc, h.pcase c⟩
theorem Inv.par {M M4 M1 : zm_M} {s2 : Nat → Int32} (h : Inv M) (hR : RT M4 0 s2) (hW : WF s2) (f4 : ∀ k, k = 0 ∨ 30 ≤ k → M4.1 k = M.1 k) (e83 : M1.1 83 = s2) (f1 : ∀ k, k ≠ 83 → M1.1 k = M4.1 k) : Inv M1 := by
  refine h.town (s2 := s2) (hR.congr (fun k k1 k2 => f1 k (by omega))) hW e83 (fun k hk => ?_) ?_ ?_
  · rw [f1 k (by omega), f4 k (by omega)]
  · rw [f1 82 (by decide), f4 82 (by omega)]
  · rw [f1 82 (by decide), f4 82 (by omega)]
theorem pair_parent {d : Nat} {M : zm_M} {a b c : Int32} (h : Inv M) : zi (d + 4) 66 [.ref 0, .int a, .int b, .int c] M (fun v M1 => zi (d + 3) 130 [.ref 82, .int a, .int b, .int c] M1 (fun w M2 => v = w ∧ Inv M2)) := by
  have hR := h.1.1
  have hW := h.1.2
  have e20 : M.1 2 0 = M.1 83 0 := hR.1 0 2 0 rfl
  have r83 : ∀ j v, (zm_si M 81 j v).1 83 = M.1 83 := fun j v => zI_si_rne (by decide)
  obtain ⟨N, D, hE, -, -, -⟩ := h.te
  have hN := hE.1.1
  have q1 : (-1000000000 - 1 : Int32) = -1000000000 - 1 ∧ Inv (zm_si (zm_si M 81 1 (M.1 81 1 + 1)) 86 1 ((zm_si M 81 1 (M.1 81 1 + 1)).1 86 1 + 1)) := ⟨rfl, h.err1 (by decide)⟩
  have q3 : (-1000000000 - 3 : Int32) = -1000000000 - 3 ∧ Inv (zm_si (zm_si M 81 3 (M.1 81 3 + 1)) 86 3 ((zm_si M 81 3 (M.1 81 3 + 1)).1 86 3 + 1)) := ⟨rfl, h.err1 (by decide)⟩
  apply zg_X10_parent (d := d + 2)
  rw [e20]
  rcases h.pcase a with (g1 | ⟨g1, g2, g3⟩) | ⟨p, rfl, hp, hpN, ⟨g1, g2, g3⟩, pin⟩
  · refine ⟨fun _ => ?_, fun z => absurd g1 z⟩
    apply zg_X11_parent (d := d + 1)
    exact ⟨fun _ => q1, fun z => absurd g1 z⟩
  · refine ⟨fun z => absurd z g1, fun _ => ⟨fun z => absurd z g2, fun _ => ?_⟩⟩
    apply zg_X11_parent (d := d + 1)
    rw [r83]
    exact ⟨fun z => absurd z g1, fun _ => ⟨fun _ => q1, fun z => absurd g3 z⟩⟩
  · have hpN2 : p < N := by
      rw [hE.1.2, zon_i (by omega)] at hpN
      omega
    refine ⟨fun z => absurd z g1, fun _ => ⟨fun _ => ⟨fun b0 => ?_, fun b0 => ⟨fun b1 => ?_, fun b1 => ?_⟩⟩, fun z => absurd g2 z⟩⟩
    · apply zg_X11_parent (d := d + 1)
      rw [r83]
      exact ⟨fun z => absurd z g1, fun _ => ⟨fun z => absurd z g3, fun _ => ⟨fun _ => q1, fun z => absurd b0 z⟩⟩⟩
    · apply zg_X11_parent (d := d + 1)
      rw [r83]
      exact ⟨fun z => absurd z g1, fun _ => ⟨fun z => absurd z g3, fun _ => ⟨fun z => absurd z b0, fun _ => ⟨fun _ => q1, fun z => absurd b1 z⟩⟩⟩⟩
    · have hX : ∀ k, k < 8 → M.1 (4 + k) p = M.1 83 (10 + 8 * p + k) := fun k hk => hR.pers hp hk rfl
      have x6 : M.1 6 p = M.1 83 (12 + 8 * p) := hR.pers (w := 2) hp (by decide) (by omega)
      have x7 : M.1 7 p = M.1 83 (13 + 8 * p) := hR.pers (w := 3) hp (by decide) (by omega)
      have i2 : zm_inb (zon (12 + 8 * p)) 480 = true := by rw [zon_inb (by omega)]; omega
      have i3 : zm_inb (zon (13 + 8 * p)) 480 = true := by rw [zon_inb (by omega)]; omega
      have hb01 : b = 0 ∨ b = 1 := by grind
      have T1 : ∀ {P : Prop}, P → (P = True) := fun h => eq_true h
      -- the class and the reference set the place
      have fin : ∀ (w : Nat) (v : Int32), (w = 2 ∨ w = 3) → (-1 ≤ v ∧ v < M.1 83 0) → (v = -1 ∨ ¬ M.1 83 (if w = 2 then 13 + 8 * p else 12 + 8 * p) = v) → Inv (zm_si (zm_si M (4 + w) p v) 83 (10 + 8 * p + w) v) := fun w v hw hv hd => by
        have w8 : w < 8 := by omega
        have hc4 : 4 + w ≠ 21 ∧ 4 + w ≠ 22 ∧ 4 + w ≠ 25 ∧ 4 + w ≠ 26 := by omega
        have hk4 : 10 + 8 * p + w < 146 ∨ 396 ≤ 10 + 8 * p + w := by omega
        have r4 : RT (zm_si M (4 + w) p v) 0 (upd (M.1 83) (10 + 8 * p + w) v) := hR.set (zmap_pers (p := p) (w := w) hp w8) hc4 hk4
        refine h.par (M4 := zm_si M (4 + w) p v) (s2 := upd (M.1 83) (10 + 8 * p + w) v) r4 (hW.par hp hw hv hd) (fun k hk => by rw [zI_si_rne (by omega)]) ?_ (fun k hk => by rw [zI_si_rne hk])
        rw [zI_si_row, zI_si_rne (by omega)]
      rcases pcase2 h c with rfl | ⟨hc, (c1 | ⟨c1, c2, c3⟩) | ⟨q, rfl, hq, hqN, ⟨c1, c2, c3⟩, qin⟩⟩
      · have cp : ¬ (-1 : Int32) = zon p := fun z => by
          have := g1
          rw [← z] at this
          exact this (by decide)
        have cb : (-1 : Int32) ≤ -1 ∧ (-1 : Int32) < M.1 83 0 := ⟨by decide, by have := hW.1; grind⟩
        rcases hb01 with rfl | rfl
        · simp only [eq_self, true_implies, not_true_eq_false, false_implies, and_true, zon_n (show p < 2000 by omega)]
          refine ⟨pin, pin, ?_⟩
          apply zg_X11_parent (d := d + 1)
          have m83 : (zm_si M 6 p (-1)).1 83 = M.1 83 := zI_si_rne (by decide)
          rw [m83, show (2 : Int32) + 0 = 2 from rfl, zP2, zon_n (by omega)]
          refine ⟨fun z => absurd z g1, fun _ => ⟨fun z => absurd z g3, fun _ => ⟨fun z => absurd z (by decide), fun _ => ⟨fun z => absurd z (by decide), fun _ => ⟨fun _ => ⟨i2, fun z => absurd z cp, fun _ => ⟨fun _ => ⟨fun _ => ⟨i2, x6, ?_⟩, fun z => absurd rfl z⟩, fun z => absurd rfl z⟩⟩, fun z => absurd rfl z⟩⟩⟩⟩⟩
          have := fin 2 (-1) (Or.inl rfl) cb (Or.inl rfl)
          rw [show 10 + 8 * p + 2 = 12 + 8 * p by omega] at this
          exact this
        · have n10 : ((1 : Int32) = 0) = False := eq_false (by decide)
          simp only [eq_self, true_implies, not_true_eq_false, false_implies, and_true, true_and, n10, not_false_eq_true, zon_n (show p < 2000 by omega)]
          refine ⟨pin, pin, ?_⟩
          apply zg_X11_parent (d := d + 1)
          have m83 : (zm_si M 7 p (-1)).1 83 = M.1 83 := zI_si_rne (by decide)
          rw [m83, show (2 : Int32) + 1 = 3 from rfl, zP3, zon_n (show 13 + 8 * p < 2000 by omega)]
          refine ⟨fun z => absurd z g1, fun _ => ⟨fun z => absurd z g3, fun _ => ⟨fun z => absurd z (by decide), fun _ => ⟨fun z => absurd z (by decide), fun _ => ⟨fun _ => ⟨i3, fun z => absurd z cp, fun _ => ⟨fun _ => ⟨fun _ => ⟨i3, x7, ?_⟩, fun z => absurd rfl z⟩, fun z => absurd rfl z⟩⟩, fun z => absurd rfl z⟩⟩⟩⟩⟩
          have := fin 3 (-1) (Or.inr rfl) cb (Or.inl rfl)
          rw [show 10 + 8 * p + 3 = 13 + 8 * p by omega] at this
          exact this
      · refine ⟨fun z => absurd z hc, fun _ => ⟨fun _ => ?_, fun z => absurd c1 z⟩⟩
        apply zg_X11_parent (d := d + 1)
        rw [r83]
        exact ⟨fun z => absurd z g1, fun _ => ⟨fun z => absurd z g3, fun _ => ⟨fun z => absurd z b0, fun _ => ⟨fun z => absurd z b1, fun _ => ⟨fun z => absurd z hc, fun _ => ⟨fun _ => q1, fun z => absurd c1 z⟩⟩⟩⟩⟩⟩
      · refine ⟨fun z => absurd z hc, fun _ => ⟨fun z => absurd z c1, fun _ => ⟨fun z => absurd z c2, fun _ => ?_⟩⟩⟩
        apply zg_X11_parent (d := d + 1)
        rw [r83]
        exact ⟨fun z => absurd z g1, fun _ => ⟨fun z => absurd z g3, fun _ => ⟨fun z => absurd z b0, fun _ => ⟨fun z => absurd z b1, fun _ => ⟨fun z => absurd z hc, fun _ => ⟨fun z => absurd z c1, fun _ => ⟨fun _ => q1, fun z => absurd c3 z⟩⟩⟩⟩⟩⟩⟩
      · have hqN2 : q < N := by
          rw [hE.1.2, zon_i (by omega)] at hqN
          omega
        have cb : (-1 : Int32) ≤ zon q ∧ zon q < M.1 83 0 := ⟨by grind, c2⟩
        have hL := LN_of hE.pf hN hqN2
        have hH := HN_of (p := p) hE.pf hN
        have hHL := heirs_line hE.pf hN (fun a ha => ⟨_, LN_of hE.pf hN ha⟩) hH hqN2 hpN2 hL
        refine ⟨fun z => absurd z hc, fun _ => ⟨fun z => absurd z c1, fun _ => ⟨fun _ => ?_, fun z => absurd c2 z⟩⟩⟩
        rcases hb01 with rfl | rfl
        · -- b = 0
          have n10 : ((1 : Int32) = 0) = False := eq_false (by decide)
          have hc' : (zon q = -1) = False := eq_false hc
          have c1' : (zon q < 0) = False := eq_false c1
          simp only [eq_self, true_implies, not_true_eq_false, false_implies, and_true, true_and, n10, hc', c1', not_false_eq_true, zon_n (show p < 2000 by omega)]
          have rerr : (zon q = zon p ∨ M.1 83 (13 + 8 * p) = zon q ∨ bt (itG (hrI (M.1 83) p N 0) N 0) q = true) → zi (d + 3) 130 [.ref 82, .int (zon p), .int 0, .int (zon q)] (zm_si M 81 3 (M.1 81 3 + 1)) (fun w M2 => -1000000000 - 3 = w ∧ Inv M2) := fun hbad => by
            apply zg_X11_parent (d := d + 1)
            rw [r83, (show (2 : Int32) + 0 = 2 from rfl), zP2, zon_n (show 12 + 8 * p < 2000 by omega)]
            refine ⟨fun z => absurd z g1, fun _ => ⟨fun z => absurd z g3, fun _ => ⟨fun z => absurd z (by decide), fun _ => ⟨fun z => absurd z (by decide), fun _ => ⟨fun z => absurd z hc, fun _ => ⟨fun z => absurd z c1, fun _ => ⟨fun z => absurd z c3, fun _ => ⟨i2, ?_, ?_⟩⟩⟩⟩⟩⟩⟩⟩
            · exact fun _ => q3
            · intro nqp
              refine ⟨fun z => absurd z hc, fun _ => R_line (d := d + 1) hE.pf hN hqN2 (FR.of (r83 3 _) hE.1.2) (fun y hy => ?_)⟩
              have hyb : y = itG (lnI (M.1 83) N 0) N (pbs (M.1 83) q) := hy.uniq hL
              refine ⟨fun _ => q3, fun nb => ⟨fun z => absurd z hc, fun _ => ?_⟩⟩
              rw [bt_tst1 (by omega), hyb, ← hHL] at nb
              rw [r83, zP3, zon_n (show 13 + 8 * p < 2000 by omega)]
              refine ⟨fun _ => ⟨i3, fun z => ?_, fun z => ⟨i2, ?_, ?_⟩⟩, fun z => absurd rfl z⟩
              · exact q3
              · rcases hbad with y | y | y
                · exact absurd y nqp
                · exact absurd y z
                · exact absurd y nb
              · rcases hbad with y | y | y
                · exact absurd y nqp
                · exact absurd y z
                · exact absurd y nb
          refine ⟨fun qp => rerr (Or.inl qp), fun nqp => ⟨pin, fun z => rerr (Or.inr (Or.inl ?_)), fun nz => X_heirs (d := d + 1) hE.pf hN (hR.fx hE.1.2) (fun x hx => ⟨fun hb => ⟨pin, pin, ?_⟩, fun hb => rerr (Or.inr (Or.inr ?_))⟩)⟩⟩
          · rw [← x7]
            exact z
          · have hxe : x = itG (hrI (M.1 83) p N 0) N 0 := hx.uniq hH
            rw [bt_tst (by omega), hxe] at hb
            have hyn : ¬ bt (itG (lnI (M.1 83) N 0) N (pbs (M.1 83) q)) p = true := fun z => by
              rw [hHL.mpr z] at hb
              exact absurd hb (by decide)
            have m83 : (zm_si M 6 p (zon q)).1 83 = M.1 83 := zI_si_rne (by decide)
            apply zg_X11_parent (d := d + 1)
            rw [m83, (show (2 : Int32) + 0 = 2 from rfl), zP2, zon_n (show 12 + 8 * p < 2000 by omega)]
            refine ⟨fun z => absurd z g1, fun _ => ⟨fun z => absurd z g3, fun _ => ⟨fun z => absurd z (by decide), fun _ => ⟨fun z => absurd z (by decide), fun _ => ⟨fun z => absurd z hc, fun _ => ⟨fun z => absurd z c1, fun _ => ⟨fun z => absurd z c3, fun _ => ⟨i2, ?_, ?_⟩⟩⟩⟩⟩⟩⟩⟩
            · exact fun z => absurd z nqp
            · intro _
              refine ⟨fun z => absurd z hc, fun _ => R_line (d := d + 1) hE.pf hN hqN2 (FR.of m83 hE.1.2) (fun y hy => ?_)⟩
              have hyb : y = itG (lnI (M.1 83) N 0) N (pbs (M.1 83) q) := hy.uniq hL
              refine ⟨fun z => ?_, fun nb => ⟨fun z => absurd z hc, fun _ => ?_⟩⟩
              · rw [bt_tst1 (by omega), hyb] at z
                exact absurd z hyn
              · rw [m83, zP3, zon_n (show 13 + 8 * p < 2000 by omega)]
                refine ⟨fun _ => ⟨i3, fun z => ?_, fun z => ⟨i2, ?_, ?_⟩⟩, fun z => absurd rfl z⟩
                · rw [x7] at nz
                  exact absurd z nz
                · exact x6
                · have hf := fin 2 (zon q) (Or.inl rfl) cb (Or.inr (by rw [if_pos rfl]; rw [x7] at nz; exact nz))
                  rw [show 10 + 8 * p + 2 = 12 + 8 * p by omega] at hf
                  exact hf
          · have hxe : x = itG (hrI (M.1 83) p N 0) N 0 := hx.uniq hH
            rw [bt_tst (by omega), hxe] at hb
            simpa using hb
        · -- b = 1
          have n10 : ((1 : Int32) = 0) = False := eq_false (by decide)
          have hc' : (zon q = -1) = False := eq_false hc
          have c1' : (zon q < 0) = False := eq_false c1
          simp only [eq_self, true_implies, not_true_eq_false, false_implies, and_true, true_and, n10, hc', c1', not_false_eq_true, zon_n (show p < 2000 by omega)]
          have rerr : (zon q = zon p ∨ M.1 83 (12 + 8 * p) = zon q ∨ bt (itG (hrI (M.1 83) p N 0) N 0) q = true) → zi (d + 3) 130 [.ref 82, .int (zon p), .int 1, .int (zon q)] (zm_si M 81 3 (M.1 81 3 + 1)) (fun w M2 => -1000000000 - 3 = w ∧ Inv M2) := fun hbad => by
            apply zg_X11_parent (d := d + 1)
            rw [r83, (show (2 : Int32) + 1 = 3 from rfl), zP3, zon_n (show 13 + 8 * p < 2000 by omega)]
            refine ⟨fun z => absurd z g1, fun _ => ⟨fun z => absurd z g3, fun _ => ⟨fun z => absurd z (by decide), fun _ => ⟨fun z => absurd z (by decide), fun _ => ⟨fun z => absurd z hc, fun _ => ⟨fun z => absurd z c1, fun _ => ⟨fun z => absurd z c3, fun _ => ⟨i3, ?_, ?_⟩⟩⟩⟩⟩⟩⟩⟩
            · exact fun _ => q3
            · intro nqp
              refine ⟨fun z => absurd z hc, fun _ => R_line (d := d + 1) hE.pf hN hqN2 (FR.of (r83 3 _) hE.1.2) (fun y hy => ?_)⟩
              have hyb : y = itG (lnI (M.1 83) N 0) N (pbs (M.1 83) q) := hy.uniq hL
              refine ⟨fun _ => q3, fun nb => ⟨fun z => absurd z hc, fun _ => ?_⟩⟩
              rw [bt_tst1 (by omega), hyb, ← hHL] at nb
              rw [r83, zP2, zon_n (show 12 + 8 * p < 2000 by omega)]
              refine ⟨fun z => absurd z (by decide), fun _ => ⟨i2, fun z => ?_, fun z => ⟨i3, ?_, ?_⟩⟩⟩
              · exact q3
              · rcases hbad with y | y | y
                · exact absurd y nqp
                · exact absurd y z
                · exact absurd y nb
              · rcases hbad with y | y | y
                · exact absurd y nqp
                · exact absurd y z
                · exact absurd y nb
          refine ⟨fun qp => rerr (Or.inl qp), fun nqp => ⟨pin, fun z => rerr (Or.inr (Or.inl ?_)), fun nz => X_heirs (d := d + 1) hE.pf hN (hR.fx hE.1.2) (fun x hx => ⟨fun hb => ⟨pin, pin, ?_⟩, fun hb => rerr (Or.inr (Or.inr ?_))⟩)⟩⟩
          · rw [← x6]
            exact z
          · have hxe : x = itG (hrI (M.1 83) p N 0) N 0 := hx.uniq hH
            rw [bt_tst (by omega), hxe] at hb
            have hyn : ¬ bt (itG (lnI (M.1 83) N 0) N (pbs (M.1 83) q)) p = true := fun z => by
              rw [hHL.mpr z] at hb
              exact absurd hb (by decide)
            have m83 : (zm_si M 7 p (zon q)).1 83 = M.1 83 := zI_si_rne (by decide)
            apply zg_X11_parent (d := d + 1)
            rw [m83, (show (2 : Int32) + 1 = 3 from rfl), zP3, zon_n (show 13 + 8 * p < 2000 by omega)]
            refine ⟨fun z => absurd z g1, fun _ => ⟨fun z => absurd z g3, fun _ => ⟨fun z => absurd z (by decide), fun _ => ⟨fun z => absurd z (by decide), fun _ => ⟨fun z => absurd z hc, fun _ => ⟨fun z => absurd z c1, fun _ => ⟨fun z => absurd z c3, fun _ => ⟨i3, ?_, ?_⟩⟩⟩⟩⟩⟩⟩⟩
            · exact fun z => absurd z nqp
            · intro _
              refine ⟨fun z => absurd z hc, fun _ => R_line (d := d + 1) hE.pf hN hqN2 (FR.of m83 hE.1.2) (fun y hy => ?_)⟩
              have hyb : y = itG (lnI (M.1 83) N 0) N (pbs (M.1 83) q) := hy.uniq hL
              refine ⟨fun z => ?_, fun nb => ⟨fun z => absurd z hc, fun _ => ?_⟩⟩
              · rw [bt_tst1 (by omega), hyb] at z
                exact absurd z hyn
              · rw [m83, zP2, zon_n (show 12 + 8 * p < 2000 by omega)]
                refine ⟨fun z => absurd z (by decide), fun _ => ⟨i2, fun z => ?_, fun z => ⟨i3, ?_, ?_⟩⟩⟩
                · rw [x6] at nz
                  exact absurd z nz
                · exact x7
                · have hf := fin 3 (zon q) (Or.inr rfl) cb (Or.inr (by rw [if_neg (by decide)]; rw [x6] at nz; exact nz))
                  rw [show 10 + 8 * p + 3 = 13 + 8 * p by omega] at hf
                  exact hf
          · have hxe : x = itG (hrI (M.1 83) p N 0) N 0 := hx.uniq hH
            rw [bt_tst (by omega), hxe] at hb
            simpa using hb

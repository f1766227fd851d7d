/-! Pairs of calls: what would be. -/
theorem zmap_cell_chk : ∀ k, k < 480 → (match zmap k with | some q => decide (q.1 ≤ 20) || decide (q.1 = 29) | none => true) = true := by decide +kernel
theorem zmap_cell {k c j : Nat} (h : zmap k = some (c, j)) : c ≤ 20 ∨ c = 29 := by
  by_cases hk : k < 480
  · have h1 := zmap_cell_chk k hk
    rw [h] at h1
    simp only [Bool.or_eq_true, decide_eq_true_eq] at h1
    exact h1
  · exfalso
    unfold zmap at h
    rw [if_neg (by omega), if_neg (by omega), if_neg (by omega), if_neg (by omega), if_neg (by omega), if_neg (by omega)] at h
    cases h
theorem RT.cg {M M2 : zm_M} {s : Nat → Int32} (h : RT M 0 s) (e : ∀ k, k ≤ 29 → k ≠ 23 → k ≠ 24 → k ≠ 27 → k ≠ 28 → M2.1 k = M.1 k) : RT M2 0 s := by
  refine ⟨fun k c j hk => ?_, h.2.1.offr (e _ (by omega) (by omega) (by omega) (by omega) (by omega)) (e _ (by omega) (by omega) (by omega) (by omega) (by omega)) (fun _ _ _ => rfl), h.2.2.offr (e _ (by omega) (by omega) (by omega) (by omega) (by omega)) (e _ (by omega) (by omega) (by omega) (by omega) (by omega)) (fun _ _ _ => rfl)⟩
  have h1 := zmap_inv hk
  have h2 := zmap_cell hk
  rw [e (c + 0) (by omega) (by omega) (by omega) (by omega) (by omega)]
  exact h.1 k c j hk
theorem Inv.fr {M M1 : zm_M} (h : Inv M) (e : ∀ k, k ∉ [23, 24, 27, 28, 59, 60, 61, 62, 63, 64, 65, 66, 67, 68, 69, 70, 82, 85, 87, 88, 89, 90, 91, 96] → M1.1 k = M.1 k) (e3 : M1.1 82 3 = M.1 82 3) (e16 : M1.1 82 16 = M.1 82 16) : Inv M1 := by
  obtain ⟨⟨hR, hW⟩, hK, hS, hE, hT⟩ := h
  have e83 := e 83 (by decide)
  refine ⟨?_, hK.off (fun k h1 h2 => e k ?_) (e 84 (by decide)) (by rw [e 0 (by decide)]) e3, hS.off (fun k hk => e k ?_), hE.off (e 81 (by decide)) (e 86 (by decide)), hT.off (fun k hk => e k ?_) e16⟩
  · rw [e83]
    refine ⟨hR.cg (fun k h1 h2 h3 h4 h5 => e k ?_), hW⟩
    simp only [List.mem_cons, List.not_mem_nil, or_false]
    omega
  · simp only [List.mem_cons, List.not_mem_nil, or_false]
    omega
  · simp only [List.mem_cons, List.not_mem_nil, or_false]
    omega
  · simp only [List.mem_cons, List.not_mem_nil, or_false]
    omega
theorem Inv.te {M : zm_M} (h : Inv M) : ∃ N D, TE N (M.1 83) ∧ DE N D (M.1 83) ∧ TB N (tIni (M.1 83)) 0 ∧ (-999999 ≤ M.1 83 3 ∧ M.1 83 3 ≤ 999999) := by
  obtain ⟨N, D, h1, h2, h3⟩ := h.1.2.te h.1.1.2.1.sx
  exact ⟨N, D, h1, h2, h3, h.1.2.2.2.2.1⟩
theorem X_try {A N dd who : Nat} {E : Nat → Int32} {M : zm_M} {c : Int32} {Q : zm_M → Prop} (hR : RT M 0 E) (hE : TE N E) (hw : who < N) (hdd : dd < 10) (ew : E (106 + 4 * dd) = zon who) (ec : E (107 + 4 * dd) = c) (hb : TB N (tIni E) 0) (hc : 0 ≤ c ∧ c ≤ 99999) (hQ : ∀ M4, XD M4 (tDef E N (tIni E) who c) → zfr [23, 24, 59, 60, 61, 62, 63, 64, 65] M M4 → Q M4) : zv (A + 25) 48 [.ref 59] M (fun M1 => zv (A + 25) 51 [.ref 59, .int (zon dd)] M1 Q) := by
  refine X_begin (d := A + 24) hR (fun M1 x1 d1 f1 => ?_)
  have hy := hR.ye.fr f1 (by decide)
  refine X_failOne (D := A) hE hdd hw ((hy.1 dd hdd).1.trans ew) ((hy.1 dd hdd).2.1.trans ec) x1 d1 hb hc (b32j hc) (fun M4 d4 f4 => hQ M4 d4 (zfr_trans (zfr_sub f1 (by decide)) (zfr_sub f4 (by decide))))
theorem X_tryAll {A N D : Nat} {E : Nat → Int32} {M : zm_M} {Q : zm_M → Prop} (hR : RT M 0 E) (hE : TE N E) (hD : DE N D E) (hb : TB N (tIni E) 0) (hQ : ∀ M4, XD M4 (tAll E N D 0 (tIni E)) → zfr [23, 24, 59, 60, 61, 62, 63, 64, 65] M M4 → Q M4) : zv (A + 26) 48 [.ref 59] M (fun M1 => zv (A + 26) 52 [.ref 59] M1 Q) := by
  refine X_begin (d := A + 25) hR (fun M1 x1 d1 f1 => ?_)
  exact X_all (A := A) hE hD x1 d1 (hR.ye.fr f1 (by decide)) hb (fun M4 d4 f4 => hQ M4 d4 (zfr_trans (zfr_sub f1 (by decide)) (zfr_sub f4 (by decide))))
theorem Inv.tryEnd {M M4 M1 : zm_M} {T : zT} (h : Inv M) (f4 : zfr [23, 24, 59, 60, 61, 62, 63, 64, 65] M M4) (f1 : zfT M4 M1 T) : Inv M1 := by
  refine h.fr (fun k hk => ?_) ?_ ?_
  · have h1 : k ∉ [82, 85, 88, 89, 90] := by
      simp only [List.mem_cons, List.not_mem_nil, or_false] at hk ⊢
      omega
    have h2 : k ∉ [23, 24, 59, 60, 61, 62, 63, 64, 65] := by
      simp only [List.mem_cons, List.not_mem_nil, or_false] at hk ⊢
      omega
    rw [f1.1.1 k h1, f4.1 k h2]
  · rw [f1.2.1 3 (by decide), f4.1 82 (by decide)]
  · rw [f1.2.1 16 (by decide), f4.1 82 (by decide)]
/-- a debt's number: none such, settled, owed -/
theorem Inv.dcase {M : zm_M} (h : Inv M) (a : Int32) : (a < 0 ∨ (¬ a < 0 ∧ ¬ a < M.1 83 1 ∧ M.1 83 1 - 1 < a)) ∨ ∃ N D dd who, a = zon dd ∧ dd < 10 ∧ (¬ a < 0 ∧ a < M.1 83 1 ∧ ¬ M.1 83 1 - 1 < a) ∧ zm_inb a 10 = true ∧ TE N (M.1 83) ∧ DE N D (M.1 83) ∧ TB N (tIni (M.1 83)) 0 ∧ (-999999 ≤ M.1 83 3 ∧ M.1 83 3 ≤ 999999) ∧ who < N ∧ M.1 83 (106 + 4 * dd) = zon who ∧ (0 ≤ M.1 83 (107 + 4 * dd) ∧ M.1 83 (107 + 4 * dd) ≤ 99999) ∧ M.1 17 dd = M.1 83 (109 + 4 * dd) ∧ (M.1 83 (109 + 4 * dd) = 0 ∨ M.1 83 (109 + 4 * dd) = 1) := by
  have b1 := h.1.2.2.1
  by_cases c1 : a < 0
  · exact Or.inl (Or.inl c1)
  · by_cases c2 : a < M.1 83 1
    · right
      obtain ⟨N, D, hE, hD, hb, h3⟩ := h.te
      have hD0 := hD.1.1
      obtain ⟨dd, rfl, hdd⟩ := zof c1 (hD.1.2 ▸ c2) (zon_i (a := D) (by omega))
      obtain ⟨⟨w, hw, ew⟩, hs, ho⟩ := hD.2 dd hdd
      refine ⟨N, D, dd, w, rfl, by omega, ⟨c1, c2, by grind⟩, by rw [zon_inb (by omega)]; omega, hE, hD, hb, h3, hw, ew, hs, (h.1.1.ye.1 dd (by omega)).2.2, ho⟩
    · exact Or.inl (Or.inr ⟨c1, c2, by grind⟩)
theorem pair_lost {d : Nat} {M : zm_M} {a : Int32} (h : Inv M) : zi (d + 26) 79 [.ref 0, .int a] M (fun v M1 => zi (d + 29) 174 [.ref 82, .int a] M1 (fun w M2 => v = w ∧ Inv M2)) := by
  have hR := h.1.1
  have e12 : M.1 12 0 = M.1 83 1 := hR.1 1 12 0 rfl
  have r83 : ∀ j v, (zm_si M 81 j v).1 83 = M.1 83 := fun j v => zI_si_rne (by decide)
  apply zg_X10_lost (d := d + 24)
  rw [e12]
  rcases h.dcase a with (c1 | ⟨c1, c2, c3⟩) | ⟨N, D, dd, who, rfl, hdd, ⟨c1, c2, c3⟩, hin, hE, hD, hb, h3, hw, ew, hs, e17, ho⟩
  · refine ⟨fun _ => ?_, fun z => absurd c1 z⟩
    apply zg_X11_lost (d := d + 26)
    exact ⟨fun _ => ⟨rfl, h.err1 (by decide)⟩, fun z => absurd c1 z⟩
  · refine ⟨fun z => absurd z c1, fun _ => ⟨fun z => absurd z c2, fun _ => ?_⟩⟩
    apply zg_X11_lost (d := d + 26)
    rw [r83]
    exact ⟨fun z => absurd z c1, fun _ => ⟨fun _ => ⟨rfl, h.err1 (by decide)⟩, fun z => absurd c3 z⟩⟩
  · have i9 : zm_inb (zon (109 + 4 * dd)) 480 = true := by rw [zon_inb (by omega)]; omega
    refine ⟨fun z => absurd z c1, fun _ => ⟨fun _ => ⟨hin, ?_⟩, fun z => absurd c2 z⟩⟩
    rw [zon_n (by omega), e17]
    refine ⟨fun o1 => ?_, fun o1 => ?_⟩
    · refine X_try (A := d) hR hE hw hdd ew rfl hb hs (fun M4 d4 f4 => ?_)
      have e83 : M4.1 83 = M.1 83 := f4.1 83 (by decide)
      apply zg_X11_lost (d := d + 26)
      rw [zD3, zon_n (show 109 + 4 * dd < 2000 by omega), e83]
      refine ⟨fun z => absurd z c1, fun _ => ⟨fun z => absurd z c3, fun _ => ⟨i9, fun z => absurd (z.symm.trans o1) (by decide), fun _ => ?_⟩⟩⟩
      refine R_tries (A := d) hE e83 h3 hw hdd ew rfl hb hs (fun M1 f1 => ⟨?_, h.tryEnd f4 f1⟩)
      rw [d4.2, f1.2.2.1]
    · have o0 : M.1 83 (109 + 4 * dd) = 0 := by rcases ho with z | z; exact z; exact absurd z o1
      apply zg_X11_lost (d := d + 26)
      rw [zD3, zon_n (show 109 + 4 * dd < 2000 by omega), r83]
      exact ⟨fun z => absurd z c1, fun _ => ⟨fun z => absurd z c3, fun _ => ⟨i9, fun _ => ⟨rfl, h.err1 (by decide)⟩, fun z => absurd o0 z⟩⟩⟩
theorem Inv.pcase {M : zm_M} (h : Inv M) (b : Int32) : (b < 0 ∨ (¬ b < 0 ∧ ¬ b < M.1 83 0 ∧ M.1 83 0 - 1 < b)) ∨ ∃ p, b = zon p ∧ p < 12 ∧ (p : Int) < (M.1 83 0).toInt ∧ (¬ b < 0 ∧ b < M.1 83 0 ∧ ¬ M.1 83 0 - 1 < b) ∧ zm_inb b 12 = true := by
  have b0 := h.1.2.1
  by_cases c1 : b < 0
  · exact Or.inl (Or.inl c1)
  · by_cases c2 : b < M.1 83 0
    · right
      obtain ⟨p, rfl, hp⟩ := zof c1 (show b < 12 by grind) (n := 12) rfl
      refine ⟨p, rfl, hp, ?_, ⟨c1, c2, by grind⟩, by rw [zon_inb (by omega)]; omega⟩
      have := Int32.lt_iff_toInt_lt.mp c2
      rw [zon_i (by omega)] at this
      exact this
    · exact Or.inl (Or.inr ⟨c1, c2, by grind⟩)
theorem pair_called {d : Nat} {M : zm_M} {a b : Int32} (h : Inv M) : zi (d + 26) 78 [.ref 0, .int a, .int b] M (fun v M1 => zi (d + 29) 173 [.ref 82, .int a, .int b] M1 (fun w M2 => v = w ∧ Inv M2)) := by
  have hR := h.1.1
  have e12 : M.1 12 0 = M.1 83 1 := hR.1 1 12 0 rfl
  have e20 : M.1 2 0 = M.1 83 0 := hR.1 0 2 0 rfl
  have r83 : ∀ j v, (zm_si M 81 j v).1 83 = M.1 83 := fun j v => zI_si_rne (by decide)
  have er : ∀ k, k < 7 → Inv (zm_si (zm_si M 81 k (M.1 81 k + 1)) 86 k ((zm_si M 81 k (M.1 81 k + 1)).1 86 k + 1)) := fun k hk => h.err1 hk
  apply zg_X10_called (d := d + 25)
  rw [e12, e20]
  rcases h.dcase a with (c1 | ⟨c1, c2, c3⟩) | ⟨N, D, dd, who, rfl, hdd, ⟨c1, c2, c3⟩, hin, hE, hD, hb, h3, hw, ew, hs, e17, ho⟩
  · refine ⟨fun _ => ?_, fun z => absurd c1 z⟩
    apply zg_X11_called (d := d + 27)
    exact ⟨fun _ => ⟨rfl, er 1 (by decide)⟩, fun z => absurd c1 z⟩
  · refine ⟨fun z => absurd z c1, fun _ => ⟨fun z => absurd z c2, fun _ => ?_⟩⟩
    apply zg_X11_called (d := d + 27)
    rw [r83]
    exact ⟨fun z => absurd z c1, fun _ => ⟨fun _ => ⟨rfl, er 1 (by decide)⟩, fun z => absurd c3 z⟩⟩
  · rcases h.pcase b with (g1 | ⟨g1, g2, g3⟩) | ⟨p, rfl, hp, -, ⟨g1, g2, g3⟩, pin⟩
    · refine ⟨fun z => absurd z c1, fun _ => ⟨fun _ => ⟨fun _ => ?_, fun z => absurd g1 z⟩, fun z => absurd c2 z⟩⟩
      apply zg_X11_called (d := d + 27)
      rw [r83]
      exact ⟨fun z => absurd z c1, fun _ => ⟨fun z => absurd z c3, fun _ => ⟨fun _ => ⟨rfl, er 1 (by decide)⟩, fun z => absurd g1 z⟩⟩⟩
    · refine ⟨fun z => absurd z c1, fun _ => ⟨fun _ => ⟨fun z => absurd z g1, fun _ => ⟨fun z => absurd z g2, fun _ => ?_⟩⟩, fun z => absurd c2 z⟩⟩
      apply zg_X11_called (d := d + 27)
      rw [r83]
      exact ⟨fun z => absurd z c1, fun _ => ⟨fun z => absurd z c3, fun _ => ⟨fun z => absurd z g1, fun _ => ⟨fun _ => ⟨rfl, er 1 (by decide)⟩, fun z => absurd g3 z⟩⟩⟩⟩
    · have i9 : zm_inb (zon (109 + 4 * dd)) 480 = true := by rw [zon_inb (by omega)]; omega
      refine ⟨fun z => absurd z c1, fun _ => ⟨fun _ => ⟨fun z => absurd z g1, fun _ => ⟨fun _ => ⟨hin, ?_⟩, fun z => absurd g2 z⟩⟩, fun z => absurd c2 z⟩⟩
      rw [zon_n (show dd < 2000 by omega), zon_n (show p < 2000 by omega), e17]
      refine ⟨fun o1 => ?_, fun o1 => ?_⟩
      · refine X_try (A := d) hR hE hw hdd ew rfl hb hs (fun M4 d4 f4 => ⟨pin, ?_⟩)
        have e83 : M4.1 83 = M.1 83 := f4.1 83 (by decide)
        apply zg_X11_called (d := d + 27)
        rw [zD3, zon_n (show 109 + 4 * dd < 2000 by omega), zon_n (show p < 2000 by omega), e83]
        refine ⟨fun z => absurd z c1, fun _ => ⟨fun z => absurd z c3, fun _ => ⟨fun z => absurd z g1, fun _ => ⟨fun z => absurd z g3, fun _ => ⟨i9, fun z => absurd (z.symm.trans o1) (by decide), fun _ => ?_⟩⟩⟩⟩⟩
        refine R_tries (A := d) hE e83 h3 hw hdd ew rfl hb hs (fun M1 f1 => ⟨pin, ?_, h.tryEnd f4 f1⟩)
        rw [(d4.1 p hp).2.2, f1.2.2.2 p hp]
      · have o0 : M.1 83 (109 + 4 * dd) = 0 := by rcases ho with z | z; exact z; exact absurd z o1
        apply zg_X11_called (d := d + 27)
        rw [zD3, zon_n (show 109 + 4 * dd < 2000 by omega), r83]
        exact ⟨fun z => absurd z c1, fun _ => ⟨fun z => absurd z c3, fun _ => ⟨fun z => absurd z g1, fun _ => ⟨fun z => absurd z g3, fun _ => ⟨i9, fun _ => ⟨rfl, er 3 (by decide)⟩, fun z => absurd o0 z⟩⟩⟩⟩⟩
theorem pair_bespoke {d : Nat} {M : zm_M} {b : Int32} (h : Inv M) : zi (d + 27) 80 [.ref 0, .int b] M (fun v M1 => zi (d + 30) 176 [.ref 82, .int b] M1 (fun w M2 => v = w ∧ Inv M2)) := by
  have hR := h.1.1
  have e20 : M.1 2 0 = M.1 83 0 := hR.1 0 2 0 rfl
  have r83 : ∀ j v, (zm_si M 81 j v).1 83 = M.1 83 := fun j v => zI_si_rne (by decide)
  obtain ⟨N, D, hE, hD, hb, h3⟩ := h.te
  apply zg_X10_bespoke (d := d + 26)
  rw [e20]
  rcases h.pcase b with (g1 | ⟨g1, g2, g3⟩) | ⟨p, rfl, hp, -, ⟨g1, g2, g3⟩, pin⟩
  · refine ⟨fun _ => ?_, fun z => absurd g1 z⟩
    apply zg_X11_bespoke (d := d + 28)
    exact ⟨fun _ => ⟨rfl, h.err1 (by decide)⟩, fun z => absurd g1 z⟩
  · refine ⟨fun z => absurd z g1, fun _ => ⟨fun z => absurd z g2, fun _ => ?_⟩⟩
    apply zg_X11_bespoke (d := d + 28)
    rw [r83]
    exact ⟨fun z => absurd z g1, fun _ => ⟨fun _ => ⟨rfl, h.err1 (by decide)⟩, fun z => absurd g3 z⟩⟩
  · refine ⟨fun z => absurd z g1, fun _ => ⟨fun _ => ?_, fun z => absurd g2 z⟩⟩
    rw [zon_n (by omega)]
    refine X_tryAll (A := d) hR hE hD hb (fun M4 d4 f4 => ⟨pin, ?_⟩)
    have e83 : M4.1 83 = M.1 83 := f4.1 83 (by decide)
    apply zg_X11_bespoke (d := d + 28)
    rw [e83, zon_n (by omega)]
    refine ⟨fun z => absurd z g1, fun _ => ⟨fun z => absurd z g3, fun _ => ?_⟩⟩
    refine R_triesAll (A := d) hE hD e83 h3 hb (fun M1 f1 => ⟨pin, ?_, h.tryEnd f4 f1⟩)
    rw [(d4.1 p hp).2.2, f1.2.2.2 p hp]
theorem pair_needs {d : Nat} {M : zm_M} (h : Inv M) : zi (d + 27) 84 [.ref 0] M (fun v M1 => zi (d + 30) 180 [.ref 82] M1 (fun w M2 => v = w ∧ Inv M2)) := by
  have hR := h.1.1
  obtain ⟨N, D, hE, hD, hb, h3⟩ := h.te
  apply zg_X10_needs (d := d + 26)
  refine X_tryAll (A := d) hR hE hD hb (fun M4 d4 f4 => ?_)
  have e83 : M4.1 83 = M.1 83 := f4.1 83 (by decide)
  apply zg_X11_needs (d := d + 29)
  refine R_triesAll (A := d) hE hD e83 h3 hb (fun M1 f1 => ⟨?_, h.tryEnd f4 f1⟩)
  rw [d4.2, f1.2.2.1]

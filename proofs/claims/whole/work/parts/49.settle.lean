/-! Pairs: settle, check, judge. -/
theorem zsi_comm {M : zm_M} {k j k2 j2 : Nat} {v v2 : Int32} (h : k ≠ k2) : zm_si (zm_si M k j v) k2 j2 v2 = zm_si (zm_si M k2 j2 v2) k j v := by
  refine Prod.ext ?_ rfl
  funext a b
  show (zm_si (zm_si M k j v) k2 j2 v2).1 a b = (zm_si (zm_si M k2 j2 v2) k j v).1 a b
  simp only [zI_si]
  by_cases h1 : a = k
  · by_cases h2 : a = k2
    · exact absurd (h1.symm.trans h2) h
    · simp [h1, h]
  · simp [h1, Ne.symm h]
theorem settle_eq {s : Nat → Int32} {w dd : Nat} (hw : w < 12) (hdd : dd < 10) (h3 : -999999 ≤ s 3 ∧ s 3 ≤ 999999) {a b x : Int32} (ha : a = s (15 + 8 * w) - tMin (s (15 + 8 * w)) (tPaid (tIni s) w x)) (hb : b = s (16 + 8 * w) - (tPaid (tIni s) w x - tMin (s (15 + 8 * w)) (tPaid (tIni s) w x))) : upd (upd (upd s (15 + 8 * w) a) (16 + 8 * w) b) (109 + 4 * dd) 0 = sMade s (tPay (tIni s) w x) dd := by
  funext i
  have u : ∀ (f : Nat → Int32) (k j : Nat) (v : Int32), upd f k v j = if j = k then v else f j := fun _ _ _ _ => rfl
  rw [u, u, u]
  by_cases io : i = 109 + 4 * dd
  · rw [if_pos io, io, sMade_o]
  · rw [if_neg io]
    by_cases i3 : i = 3
    · subst i3
      rw [if_neg (by omega), if_neg (by omega), sMade_3]
      show s 3 = cl3 (s 3 - 0)
      unfold cl3
      grind
    · by_cases i5 : 10 ≤ i ∧ i < 106 ∧ (i - 10) % 8 = 5
      · have e : i = 15 + 8 * ((i - 10) / 8) := by omega
        rw [if_neg (by omega)]
        generalize (i - 10) / 8 = q at e
        subst e
        rw [sMade_5 (by omega)]
        show _ = upd (fun p => s (15 + 8 * p)) w _ q
        rw [u]
        by_cases hq : q = w
        · subst hq
          rw [if_pos rfl, if_pos rfl, ha]
          rfl
        · rw [if_neg (by omega), if_neg hq]
      · by_cases i6 : 10 ≤ i ∧ i < 106 ∧ (i - 10) % 8 = 6
        · have e : i = 16 + 8 * ((i - 10) / 8) := by omega
          rw [if_neg (c := i = 15 + 8 * w) (by omega)]
          generalize (i - 10) / 8 = q at e
          subst e
          rw [sMade_6 (by omega)]
          show _ = upd (fun p => s (16 + 8 * p)) w _ q
          rw [u]
          by_cases hq : q = w
          · subst hq
            rw [if_pos rfl, if_pos rfl, hb]
            rfl
          · rw [if_neg (by omega), if_neg hq]
        · rw [if_neg (by omega), if_neg (by omega), sMade_e i3 io (by omega)]
theorem pair_settle {d : Nat} {M : zm_M} {a : Int32} (h : Inv M) : zi (d + 1) 71 [.ref 0, .int a] M (fun v M1 => zi (d + 2) 163 [.ref 82, .int a] M1 (fun w M2 => v = w ∧ Inv M2)) := by
  have hR := h.1.1
  have e12 : M.1 12 0 = M.1 83 1 := hR.1 1 12 0 rfl
  have r83 : ∀ j v, (zm_si M 81 j v).1 83 = M.1 83 := fun j v => zI_si_rne (by decide)
  apply zg_X10_settle
  rw [e12]
  rcases h.dcase a with (c1 | ⟨c1, c2, c3⟩) | ⟨N, D, dd, w, rfl, hdd, ⟨c1, c2, c3⟩, hin, hE, hD, hb, h3, hw, ew, hs, e17, ho⟩
  · refine ⟨fun _ => ?_, fun z => absurd c1 z⟩
    apply zg_X11_settle
    exact ⟨fun _ => ⟨rfl, h.err1 (by decide)⟩, fun z => absurd c1 z⟩
  · refine ⟨fun z => absurd z c1, fun _ => ⟨fun z => absurd z c2, fun _ => ?_⟩⟩
    apply zg_X11_settle
    rw [r83]
    exact ⟨fun z => absurd z c1, fun _ => ⟨fun _ => ⟨rfl, h.err1 (by decide)⟩, fun z => absurd c3 z⟩⟩
  · have hN := hE.1.1
    have hy := hR.ye.1 dd hdd
    have i0 : zm_inb (zon (106 + 4 * dd)) 480 = true := by rw [zon_inb (by omega)]; omega
    have i1 : zm_inb (zon (107 + 4 * dd)) 480 = true := by rw [zon_inb (by omega)]; omega
    have i9 : zm_inb (zon (109 + 4 * dd)) 480 = true := by rw [zon_inb (by omega)]; omega
    have i4 : zm_inb (zon (14 + 8 * w)) 480 = true := by rw [zon_inb (by omega)]; omega
    have i5 : zm_inb (zon (15 + 8 * w)) 480 = true := by rw [zon_inb (by omega)]; omega
    have i6 : zm_inb (zon (16 + 8 * w)) 480 = true := by rw [zon_inb (by omega)]; omega
    have iw : zm_inb (zon w) 12 = true := by rw [zon_inb (by omega)]; omega
    have x8 : M.1 8 w = M.1 83 (14 + 8 * w) := hR.pers (w := 4) (by omega) (by decide) (by omega)
    have x9 : M.1 9 w = M.1 83 (15 + 8 * w) := hR.pers (w := 5) (by omega) (by decide) (by omega)
    have x10 : M.1 10 w = M.1 83 (16 + 8 * w) := hR.pers (w := 6) (by omega) (by decide) (by omega)
    have err : (M.1 83 (109 + 4 * dd) = 0 ∨ M.1 83 (14 + 8 * w) = 0 ∨ M.1 83 (15 + 8 * w) + M.1 83 (16 + 8 * w) < M.1 83 (107 + 4 * dd)) → zi (d + 2) 163 [.ref 82, .int (zon dd)] (zm_si M 81 3 (M.1 81 3 + 1)) (fun w M2 => -1000000000 - 3 = w ∧ Inv M2) := fun hc => by
      have q : ∀ {x : Int32}, x = -1000000000 - 3 → (-1000000000 - 3 : Int32) = x ∧ Inv (zm_si (zm_si M 81 3 (M.1 81 3 + 1)) 86 3 ((zm_si M 81 3 (M.1 81 3 + 1)).1 86 3 + 1)) := fun hx => ⟨hx.symm, h.err1 (by decide)⟩
      apply zg_X11_settle
      rw [r83, zD0, zD1, zD3, zon_n (show 106 + 4 * dd < 2000 by omega), zon_n (show 107 + 4 * dd < 2000 by omega), zon_n (show 109 + 4 * dd < 2000 by omega), ew, zP4, zP5, zP6, zon_n (show 14 + 8 * w < 2000 by omega), zon_n (show 15 + 8 * w < 2000 by omega), zon_n (show 16 + 8 * w < 2000 by omega)]
      refine ⟨fun z => absurd z c1, fun _ => ⟨fun z => absurd z c3, fun _ => ⟨i0, i5, i6, i1, i9, fun _ => q rfl, fun z1 => ⟨i4, fun _ => q rfl, fun z2 => ⟨fun _ => q rfl, fun z3 => ?_⟩⟩⟩⟩⟩
      rcases hc with y | y | y
      · exact absurd y z1
      · exact absurd y z2
      · exact absurd y z3
    refine ⟨fun z => absurd z c1, fun _ => ⟨fun _ => ⟨hin, hin, hin, ?_⟩, fun z => absurd c2 z⟩⟩
    rw [zon_n (show dd < 2000 by omega), hy.1, hy.2.1, hy.2.2, ew, zon_n (show w < 2000 by omega), x8, x9, x10]
    refine ⟨fun o1 => ⟨iw, fun al => err (Or.inr (Or.inl al)), fun al => ⟨iw, iw, fun lt => err (Or.inr (Or.inr lt)), fun lt => ⟨iw, iw, iw, iw, iw, hin, iw, iw, ?_⟩⟩⟩, fun o1 => err (Or.inl (by rcases ho with z | z; exact z; exact absurd z o1))⟩
    have hpd : tPaid (tIni (M.1 83)) w (M.1 83 (107 + 4 * dd)) = M.1 83 (107 + 4 * dd) := by
      unfold tPaid tMin
      exact if_neg lt
    have hst := fun a b => settle_eq (s := M.1 83) (w := w) (dd := dd) (a := a) (b := b) (x := M.1 83 (107 + 4 * dd)) (by omega) hdd h3
    rw [hpd] at hst
    have hW2 : WF (sMade (M.1 83) (tPay (tIni (M.1 83)) w (M.1 83 (107 + 4 * dd))) dd) := h.1.2.made hE.1.2 hN (hb.pay hw hs.1) hdd
    have hfin := hst (M.1 83 (15 + 8 * w) - tMin (M.1 83 (15 + 8 * w)) (M.1 83 (107 + 4 * dd))) (M.1 83 (16 + 8 * w) - (M.1 83 (107 + 4 * dd) - tMin (M.1 83 (15 + 8 * w)) (M.1 83 (107 + 4 * dd)))) rfl rfl
    rw [← hfin] at hW2
    have r1 := ((hR.set (v := M.1 83 (15 + 8 * w) - tMin (M.1 83 (15 + 8 * w)) (M.1 83 (107 + 4 * dd))) (zmap_pers (p := w) (w := 5) (by omega) (by decide)) (by decide) (by omega)).set (v := M.1 83 (16 + 8 * w) - (M.1 83 (107 + 4 * dd) - tMin (M.1 83 (15 + 8 * w)) (M.1 83 (107 + 4 * dd)))) (zmap_pers (p := w) (w := 6) (by omega) (by decide)) (by decide) (by omega)).set (v := 0) (zmap_debt (p := dd) (w := 3) hdd (by decide)) (by decide) (by omega)
    rw [show 10 + 8 * w + 5 = 15 + 8 * w by omega, show 10 + 8 * w + 6 = 16 + 8 * w by omega, show 106 + 4 * dd + 3 = 109 + 4 * dd by omega] at r1
    have tm : (if M.1 83 (15 + 8 * w) < M.1 83 (107 + 4 * dd) then M.1 83 (15 + 8 * w) else M.1 83 (107 + 4 * dd)) = tMin (M.1 83 (15 + 8 * w)) (M.1 83 (107 + 4 * dd)) := rfl
    rw [tm, zI_si_eq, zI_si_eq]
    generalize hM4 : zm_si (zm_si (zm_si M 9 w (M.1 83 (15 + 8 * w) - tMin (M.1 83 (15 + 8 * w)) (M.1 83 (107 + 4 * dd)))) 10 w (M.1 83 (16 + 8 * w) - (M.1 83 (107 + 4 * dd) - tMin (M.1 83 (15 + 8 * w)) (M.1 83 (107 + 4 * dd))))) 17 dd 0 = M4
    have r2 : RT M4 0 (upd (upd (upd (M.1 83) (15 + 8 * w) (M.1 83 (15 + 8 * w) - tMin (M.1 83 (15 + 8 * w)) (M.1 83 (107 + 4 * dd)))) (16 + 8 * w) (M.1 83 (16 + 8 * w) - (M.1 83 (107 + 4 * dd) - tMin (M.1 83 (15 + 8 * w)) (M.1 83 (107 + 4 * dd))))) (109 + 4 * dd) 0) := by rw [← hM4]; exact r1
    have f4 : zfr [1, 9, 10, 17, 23, 24, 59, 60, 61, 62, 63, 64, 65] M M4 := by
      rw [← hM4]
      exact zfr_trans (zfr_trans (zfr_si (by decide)) (zfr_si (by decide))) (zfr_si (by decide))
    have e83 : M4.1 83 = M.1 83 := f4.1 83 (by decide)
    apply zg_X11_settle
    rw [e83, zD0, zD1, zD3, zon_n (show 106 + 4 * dd < 2000 by omega), zon_n (show 107 + 4 * dd < 2000 by omega), zon_n (show 109 + 4 * dd < 2000 by omega), ew, zP4, zP5, zP6, zon_n (show 14 + 8 * w < 2000 by omega), zon_n (show 15 + 8 * w < 2000 by omega), zon_n (show 16 + 8 * w < 2000 by omega)]
    have n6 : ∀ v, (zm_si M4 83 (15 + 8 * w) v).1 83 (16 + 8 * w) = M.1 83 (16 + 8 * w) := fun v => by rw [zI_si, if_pos rfl, if_neg (by omega), e83]
    rw [n6, n6]
    have fin : ∀ a b r, a = M.1 83 (15 + 8 * w) - tMin (M.1 83 (15 + 8 * w)) (M.1 83 (107 + 4 * dd)) → b = M.1 83 (16 + 8 * w) - (M.1 83 (107 + 4 * dd) - tMin (M.1 83 (15 + 8 * w)) (M.1 83 (107 + 4 * dd))) → r = a + b → r = M.1 83 (15 + 8 * w) + M.1 83 (16 + 8 * w) - M.1 83 (107 + 4 * dd) ∧ Inv (zm_si (zm_si (zm_si M4 83 (15 + 8 * w) a) 83 (16 + 8 * w) b) 83 (109 + 4 * dd) 0) := fun a b r ha hb hr => by
      subst ha
      subst hb
      refine ⟨?_, h.made (s2 := _) r2 hW2 f4 ?_ (fun k hk => ?_) (fun j hj => ?_)⟩
      · rw [hr]
        generalize tMin (M.1 83 (15 + 8 * w)) (M.1 83 (107 + 4 * dd)) = y
        grind
      · rw [zI_si_row, zI_si_row, zI_si_row, e83]
      · simp only [List.mem_cons, List.not_mem_nil, or_false, not_or] at hk
        rw [zI_si_rne hk.2.1, zI_si_rne hk.2.1, zI_si_rne hk.2.1]
      · rw [zI_si_rne (by decide), zI_si_rne (by decide), zI_si_rne (by decide)]
    refine ⟨fun z => absurd z c1, fun _ => ⟨fun z => absurd z c3, fun _ => ⟨i0, i5, i6, i1, i9, fun z => absurd (z.symm.trans o1) (by decide), fun _ => ⟨i4, fun z => absurd z al, fun _ => ⟨fun z => absurd z lt, fun _ => ⟨i5, fun y => ⟨i5, i5, i5, i6, i6, i9, ?_⟩, fun y => ⟨i5, i5, i6, i6, i9, ?_⟩⟩⟩⟩⟩⟩⟩
    · refine fin _ _ _ ?_ ?_ ?_
      · unfold tMin; rw [if_pos y]
      · unfold tMin; rw [if_pos y]
      · unfold tMin; rw [if_pos y]
    · refine fin _ _ _ ?_ ?_ ?_
      · unfold tMin; rw [if_neg y]
      · unfold tMin; rw [if_neg y]
      · unfold tMin; rw [if_neg y]

/-! Pair: safe. -/
theorem R_safe {A N dd w : Nat} {s : sSt} {c b : Int32} {M : zm_M} {Q : Int64 → zm_M → Prop} (h83 : M.1 83 = s) (hW : WF s) (hE : TE N s) (hb : TB N (tIni s) 0) (hw : w < N) (hdd : dd < 10) (ew : s (106 + 4 * dd) = zon w) (ec : s (107 + 4 * dd) = c) (hc : 0 ≤ c ∧ c ≤ 99999) (hEr : 9 < sCt (sP s w) N → ∀ M1, zfr [91] M M1 → Q (((-1000000000) - 3 : Int32).toInt64) (zm_si M1 86 3 ((M1.1 86 3) + 1))) (hOk : sCt (sP s w) N ≤ 9 → ∀ M1, zfV M M1 → M1.1 83 = s → (b = 0 → Q (zol (sEp (sFr s) (sP s w) N (sPh N w c s) s / Nat.gcd (sEp (sFr s) (sP s w) N (sPh N w c s) s) (10 ^ sCt (sP s w) N))) M1) ∧ (¬ b = 0 → Q (zol (10 ^ sCt (sP s w) N / Nat.gcd (sEp (sFr s) (sP s w) N (sPh N w c s) s) (10 ^ sCt (sP s w) N))) M1)) : zt (A + 29) 177 45 [some (.ref 82), some (.int (zon dd)), some (.int b), some (.int 0), some (.int 0), none, none, none, none, none, none, none, none, none] [] M (zPl Q) := by
  have hN := hE.1.1
  refine R_gatherL (d := A + 28) (M0 := M) hN hE.1.2 hdd (by omega) ew h83 (fun h9 M1 f1 hl => ?_) hEr N 0 M (by omega) (Nat.zero_le _) zfr_rfl (fun j hj => absurd hj (Nat.not_lt_zero _))
  obtain ⟨F, F1, F2, F3⟩ := sLs_of (r := M1.1 91) hN hl
  have hL : sLF s F (sCt (sP s w) N) := by
    refine ⟨fun i hi => ?_, F3⟩
    obtain ⟨a1, a2, a3⟩ := F2 i hi
    have a4 := sP_iff.mp a3
    refine ⟨by omega, a4.2.1, sFr_e ?_⟩
    have pw := hW.2.2.2.2.2.2.2.1 (F i) (by rw [hE.1.2, zon_i (by omega)]; omega)
    exact pw.2.2.2.2.2.2.2.2
  have hA := sEp_all (fr := sFr s) F1 (E := s) N (Nat.le_refl N) (sPh N w c s)
  have hA2 := sEp_le (fr := sFr s) (P := sP s w) (E := s) (fun p => by have := sFr_le (s := s) (p := p); omega) N (sPh N w c s) 99999 (fun E => sPh_le)
  have p10 := pow10_le _ (Nat.lt_succ_of_le h9)
  have q10 : 0 < 10 ^ sCt (sP s w) N := Nat.pow_pos (by decide)
  have hA3 : sEp (sFr s) (sP s w) N (sPh N w c s) s < 9223372036854775808 := by omega
  have g1 := Nat.le_of_dvd q10 (Nat.gcd_dvd_right (sEp (sFr s) (sP s w) N (sPh N w c s) s) (10 ^ sCt (sP s w) N))
  have e91 : ∀ j, j < sCt (sP s w) N → M1.1 91 j = zon (F j) := fun j hj => (F2 j hj).1
  have e83 : M1.1 83 = s := (f1.1 83 (by decide)).trans h83
  have o1 : sOff s F (sCt (sP s w) N) (M1.1 83) := fun k _ => by rw [e83]
  refine R_tensL h9 ?_ (sCt (sP s w) N) 0 (by omega)
  refine R_sumL (A := A) (M0 := M1) hE hW.2.2.2.1 hb hw hdd ew ec hc h9 hL (fun M2 f2 o2 g2 => ?_) (2 ^ sCt (sP s w) N) 0 M1 (by omega) zfV_rfl o1 e91
  rw [hA]
  refine R_backL (d := A + 28) (M0 := M1) h9 hL (fun M3 f3 e3 => ?_) (sCt (sP s w) N) 0 M2 (by omega) f2 o2 g2 (fun j hj => absurd hj (Nat.not_lt_zero _))
  have q := hOk h9 M3 (zfV_trans ⟨zfr_sub f1 (by decide), fun j _ => by rw [f1.1 82 (by decide)]⟩ f3) e3
  refine R_gcd (10 ^ sCt (sP s w) N) _ _ (Nat.le_refl _) hA3 (by omega) (Or.inr (by omega)) ⟨fun z => ?_, fun z => ?_⟩
  · rw [zol_div hA3 (by omega)]
    exact q.1 z
  · rw [zol_div (by omega) (by omega)]
    exact q.2 z
/-- what no coin reaches drops out -/
theorem safe_eq {N w : Nat} {s : sSt} {c x : Int32} (hE : TE N s) (hw : w < N) (hx : LN s N w x) : sEp (sFr s) (sP s w) N (sPh N w c s) s / Nat.gcd (sEp (sFr s) (sP s w) N (sPh N w c s) s) (10 ^ sCt (sP s w) N) = sEp (sFr s) (sG s w x) N (sPh N w c s) s / Nat.gcd (sEp (sFr s) (sG s w x) N (sPh N w c s) s) (10 ^ sCt (sG s w x) N) ∧ 10 ^ sCt (sP s w) N / Nat.gcd (sEp (sFr s) (sP s w) N (sPh N w c s) s) (10 ^ sCt (sP s w) N) = 10 ^ sCt (sG s w x) N / Nat.gcd (sEp (sFr s) (sG s w x) N (sPh N w c s) s) (10 ^ sCt (sG s w x) N) := by
  have hN := hE.1.1
  have hP := hE.pf
  have hC : rch (fun p => p = w ∨ bt x p = true ∨ tAsk s p w) N s := by
    intro p r hp hr hc hpar
    rcases hc with rfl | hc | hc
    · exact Or.inr (Or.inl (hx.1.1 r (by omega) hpar))
    · exact Or.inr (Or.inl (hx.1.2 p r hp (by omega) hc hpar))
    · refine Or.inr (Or.inl (hx.1.1 r (by omega) ?_))
      obtain ⟨-, -, -, -, t1, t2⟩ := hc
      unfold par
      rw [← t1, ← t2]
      exact hpar
  obtain ⟨j, h1, h2⟩ := sEp_sub (fr := sFr s) (P := sP s w) (G := sG s w x) (E := s) (fun p => by have := sFr_le (s := s) (p := p); omega) N (sPh N w c s) (fun q hq h => (sG_iff.mp h).1) (fun q hq a1 a2 => sPh_in hP hN hC (fun i hi ha => Or.inr (Or.inr ha)) hw (Or.inl rfl) (by omega) (fun z => by
    rcases z with z | z | z
    · exact (sP_iff.mp a1).1 z
    · exact a2 (sG_iff.mpr ⟨a1, Or.inl z⟩)
    · exact a2 (sG_iff.mpr ⟨a1, Or.inr z⟩)))
  have q10 : 0 < 10 ^ j := Nat.pow_pos (by decide)
  rw [h1, h2, Nat.pow_add, Nat.mul_comm (10 ^ sCt (sG s w x) N) (10 ^ j), Nat.gcd_mul_left, Nat.mul_div_mul_left _ _ q10, Nat.mul_div_mul_left _ _ q10]
  exact ⟨rfl, rfl⟩
theorem pair_safe {d : Nat} {M : zm_M} {a b : Int32} (h : Inv M) : zl (d + 40) 81 [.ref 0, .int a, .int b] M (fun v M1 => zl (d + 40) 177 [.ref 82, .int a, .int b] M1 (fun w M2 => v = w ∧ Inv M2)) := by
  have hR := h.1.1
  have hW := h.1.2
  have e12 : M.1 12 0 = M.1 83 1 := hR.1 1 12 0 rfl
  have r83 : ∀ (M' : zm_M) j v, (zm_si M' 81 j v).1 83 = M'.1 83 := fun M' j v => zI_si_rne (by decide)
  apply zg_X10_safe (d := d + 39)
  rw [e12]
  rcases h.dcase a with (c1 | ⟨c1, c2, c3⟩) | ⟨N, D, dd, who, rfl, hdd, ⟨c1, c2, c3⟩, hin, hE, hD, hb, h3, hw, ew, hs, e17, ho⟩
  · refine ⟨fun _ => ?_, fun z => absurd c1 z⟩
    apply zg_X11_safe (d := d + 38)
    exact ⟨fun _ => ⟨rfl, h.err1 (by decide)⟩, fun z => absurd c1 z⟩
  · refine ⟨fun z => absurd z c1, fun _ => ⟨fun z => absurd z c2, fun _ => ?_⟩⟩
    apply zg_X11_safe (d := d + 38)
    rw [r83]
    exact ⟨fun z => absurd z c1, fun _ => ⟨fun _ => ⟨rfl, h.err1 (by decide)⟩, fun z => absurd c3 z⟩⟩
  · have hN := hE.1.1
    have i9 : zm_inb (zon (109 + 4 * dd)) 480 = true := by rw [zon_inb (by omega)]; omega
    have er1 : (b < 0 ∨ 1 < b) → zl (d + 40) 177 [.ref 82, .int (zon dd), .int b] (zm_si M 81 1 (M.1 81 1 + 1)) (fun w M2 => ((-1000000000) - 1 : Int32).toInt64 = w ∧ Inv M2) := fun hb1 => by
      apply zg_X11_safe (d := d + 38)
      rw [r83]
      refine ⟨fun z => absurd z c1, fun _ => ⟨fun z => absurd z c3, fun _ => ⟨fun _ => ⟨rfl, h.err1 (by decide)⟩, fun z => ⟨fun _ => ⟨rfl, h.err1 (by decide)⟩, fun z2 => ?_⟩⟩⟩⟩
      exact absurd hb1 (fun y => y.elim z z2)
    refine ⟨fun z => absurd z c1, fun _ => ⟨fun _ => ⟨fun z => er1 (Or.inl z), fun b1 => ⟨fun z => er1 (Or.inr z), fun b2 => ⟨hin, ?_⟩⟩⟩, fun z => absurd c2 z⟩⟩
    rw [zon_n (show dd < 2000 by omega), e17, (hR.ye.1 dd hdd).1, ew]
    have er3 : M.1 83 (109 + 4 * dd) = 0 → zl (d + 40) 177 [.ref 82, .int (zon dd), .int b] (zm_si M 81 3 (M.1 81 3 + 1)) (fun w M2 => ((-1000000000) - 3 : Int32).toInt64 = w ∧ Inv M2) := fun o0 => by
      apply zg_X11_safe (d := d + 38)
      rw [r83, zD3, zon_n (show 109 + 4 * dd < 2000 by omega)]
      exact ⟨fun z => absurd z c1, fun _ => ⟨fun z => absurd z c3, fun _ => ⟨fun z => absurd z b1, fun _ => ⟨fun z => absurd z b2, fun _ => ⟨i9, fun _ => ⟨rfl, h.err1 (by decide)⟩, fun z => absurd o0 z⟩⟩⟩⟩⟩
    refine ⟨fun o1 => ⟨hin, ?_⟩, fun o1 => er3 (by rcases ho with z | z; exact z; exact absurd z o1)⟩
    have pre : ∀ (M5 : zm_M) (Q : Int64 → zm_M → Prop), M5.1 83 = M.1 83 → zt (d + 40) 177 45 [some (.ref 82), some (.int (zon dd)), some (.int b), some (.int 0), some (.int 0), none, none, none, none, none, none, none, none, none] [] M5 (zPl Q) → zl (d + 40) 177 [.ref 82, .int (zon dd), .int b] M5 Q := fun M5 Q h83 hq => by
      apply zg_X11_safe (d := d + 38)
      rw [h83, zD3, zon_n (show 109 + 4 * dd < 2000 by omega)]
      exact ⟨fun z => absurd z c1, fun _ => ⟨fun z => absurd z c3, fun _ => ⟨fun z => absurd z b1, fun _ => ⟨fun z => absurd z b2, fun _ => ⟨i9, fun z => absurd (z.symm.trans o1) (by decide), fun _ => hq⟩⟩⟩⟩⟩
    refine X_countFrail (d := d + 38) hR hE.1.2 hN (by omega) ?_
    have n9 : ((9 : Int32) < zon (sCt (sP (M.1 83) who) N)) = (9 < sCt (sP (M.1 83) who) N) := by
      have := sCt_le (P := sP (M.1 83) who) N
      show (zon 9 < zon _) = _
      rw [zon_lt (by omega) (by omega)]
    rw [n9]
    refine ⟨fun g9 => ?_, fun g9 => ?_⟩
    · refine pre _ _ (r83 M 3 _) ?_
      refine R_safe (A := d + 11) (r83 M 3 _) hW hE hb hw hdd ew rfl hs (fun _ M1 f1 => ⟨rfl, ?_⟩) (fun z => absurd g9 (by omega))
      have hI := h.err1 (k := 3) (by decide)
      refine hI.fr (fun k hk => ?_) ?_ ?_
      · have k91 : k ≠ 91 := fun z => hk (by rw [z]; decide)
        by_cases e : k = 86
        · rw [e, zI_si_row, zI_si_row, f1.1 86 (by decide)]
        · rw [zI_si_rne e, zI_si_rne e]
          exact f1.1 k (by simp only [List.mem_cons, List.not_mem_nil, or_false]; exact k91)
      · rw [zI_si_ne (by decide), zI_si_ne (by decide), f1.1 82 (by decide)]
      · rw [zI_si_ne (by decide), zI_si_ne (by decide), f1.1 82 (by decide)]
    · refine X_average (D := d + 13) hR hW hE hb hw hdd ew rfl hs (by omega) (fun x M4 hx f4 l4 l5 => ?_)
      have e83 : M4.1 83 = M.1 83 := f4 83 (by decide)
      have sq := safe_eq (c := M.1 83 (107 + 4 * dd)) hE hw hx
      rw [l4, l5, ← sq.1, ← sq.2]
      have fin : ∀ M1, zfV M4 M1 → M1.1 83 = M.1 83 → Inv M1 := fun M1 f1 e1 => by
        refine h.fr (fun k hk => ?_) ?_ ?_
        · by_cases k83 : k = 83
          · rw [k83, e1]
          · refine (f1.1.1 k ?_).trans (f4 k ?_)
            · simp only [List.mem_cons, List.not_mem_nil, or_false] at hk ⊢
              omega
            · simp only [List.mem_cons, List.not_mem_nil, or_false] at hk ⊢
              omega
        · rw [f1.2 3 (by decide), f4 82 (by decide)]
        · rw [f1.2 16 (by decide), f4 82 (by decide)]
      refine ⟨fun b0 => ?_, fun b0 => ?_⟩
      · refine pre _ _ e83 ?_
        exact R_safe (A := d + 11) e83 hW hE hb hw hdd ew rfl hs (fun z => absurd z g9) (fun _ M1 f1 e1 => ⟨fun _ => ⟨rfl, fin M1 f1 e1⟩, fun z => absurd b0 z⟩)
      · refine pre _ _ e83 ?_
        exact R_safe (A := d + 11) e83 hW hE hb hw hdd ew rfl hs (fun z => absurd z g9) (fun _ M1 f1 e1 => ⟨fun z => absurd z b0, fun _ => ⟨rfl, fin M1 f1 e1⟩⟩)

/-! Pair: adopt. -/
def adV (s : Nat → Int32) (N who : Nat) (c : Int32) (k : Nat) : Int32 := (tDef (upd s (10 + 8 * who + 2) (zon k)) N (tIni s) who c).2.2.2
abbrev adC (s : Nat → Int32) (who : Nat) (hv : Int32) (k : Nat) : Prop := ¬ k = who ∧ ¬ zon k = s (13 + 8 * who) ∧ bt hv k = false
def adL (s : Nat → Int32) (N who : Nat) (c hv : Int32) : Nat → Nat → Int32 → Int32 → Int32
  | 0, _, best, _ => best
  | n + 1, k, best, least => if adC s who hv k then (if best = -1 ∨ adV s N who c k < least then adL s N who c hv n (k + 1) (zon k) (adV s N who c k) else adL s N who c hv n (k + 1) best least) else adL s N who c hv n (k + 1) best least
theorem X_adL {A N D dd who : Nat} {s : Nat → Int32} {c hv : Int32} {M0 : zm_M} {Q : Int32 → zm_M → Prop} (hR : RT M0 0 s) (hE : TE N s) (hD : DE N D s) (hb : TB N (tIni s) 0) (hdd : dd < 10) (hw : who < N) (ew : s (106 + 4 * dd) = zon who) (ec : s (107 + 4 * dd) = c) (hc : 0 ≤ c ∧ c ≤ 99999) : ∀ (n k : Nat) (best least : Int32) (M : zm_M), k + n = N → zfr [23, 24, 59, 60, 61, 62, 63, 64, 65] M0 M → (best = -1 ∨ ∃ q, q < 12 ∧ best = zon q) → (∀ M1, zfr [23, 24, 59, 60, 61, 62, 63, 64, 65] M0 M1 → (adL s N who c hv n k best least = -1 → Q (-1000000000 - 2) (zm_si M1 81 2 (M1.1 81 2 + 1))) ∧ (¬ adL s N who c hv n k best least = -1 → Q (adL s N who c hv n k best least) M1)) → zt (A + 26) 83 87 [some (.ref 0), some (.int (zon dd)), some (.ref 2), some (.int (zon who)), some (.int hv), some (.int best), some (.int least), some (.int (zon k))] [] M (zPi Q) := by
  intro n
  have hN := hE.1.1
  have win : zm_inb (zon who) 12 = true := by rw [zon_inb (by omega)]; omega
  induction n with
  | zero =>
    intro k best least M hk f0 hbst hQ
    apply zg_X10_adopt_p87_s2 (d := A + 24)
    have e2 : M.1 2 0 = zon N := by rw [f0.1 2 (by decide)]; exact (hR.1 0 2 0 rfl).trans hE.1.2
    rw [e2, zon_lt (by omega) (by omega)]
    obtain ⟨q1, q2⟩ := hQ M f0
    exact ⟨fun z => absurd z (by omega), fun _ => ⟨fun z => q1 ((neg1_lt hbst).mp z), fun z => q2 (fun y => z ((neg1_lt hbst).mpr y))⟩⟩
  | succ n ih =>
    intro k best least M hk f0 hbst hQ
    have hRM : RT M 0 s := hR.cg (fun c h1 h2 h3 h4 h5 => f0.1 c (by simp only [List.mem_cons, List.not_mem_nil, or_false]; omega))
    have hFX : FX M N s := hRM.fx hE.1.2
    have nb : best < 0 ↔ best = -1 := neg1_lt hbst
    have hkb : (zon k = -1 ∨ ∃ q, q < 12 ∧ zon k = zon q) := Or.inr ⟨k, by omega, rfl⟩
    have nk : ¬ zon k < 0 := zon_nn (by omega)
    rw [adL] at hQ
    have skip : ¬ adC s who hv k → zt (A + 26) 83 87 [some (.ref 0), some (.int (zon dd)), some (.ref 2), some (.int (zon who)), some (.int hv), some (.int best), some (.int least), some (.int (zon (k + 1)))] [] M (zPi Q) := fun hn => by
      rw [if_neg hn] at hQ
      exact ih (k + 1) _ _ M (by omega) f0 hbst hQ
    apply zg_X10_adopt_p87_s2 (d := A + 24)
    rw [hFX.1, zon_lt (by omega) (by omega), zon_n (show who < 2000 by omega), (hFX.2 who (by omega)).2, zon_inj (by omega) (by omega), zon_s]
    refine ⟨fun _ => ⟨fun z => skip (fun y => y.1 z), fun z1 => ⟨win, fun z => skip (fun y => y.2.1 z), fun z2 => ⟨fun z => absurd z nk, fun _ => ⟨fun z3 => ?_, fun z => skip (fun y => z ((bt_tst (by omega)).mpr y.2.2))⟩⟩⟩⟩, fun z => absurd (by omega) z⟩
    have hC : adC s who hv k := ⟨z1, z2, (bt_tst (by omega)).mp z3⟩
    rw [if_pos hC] at hQ
    refine X_begin (d := A + 24) hRM (fun M7 x7 d7 f7 => ⟨win, ?_⟩)
    have f07 : zfr [23, 24, 59, 60, 61, 62, 63, 64, 65] M0 M7 := zfr_trans f0 (zfr_sub f7 (by decide))
    have y7 : YE M7 s := hRM.ye.fr f7 (by decide)
    have d7' : XD (zm_si M7 (58 + 2) who (zon k)) (tIni (upd s (10 + 8 * who + 2) (zon k))) := by
      rw [tIni_par (Or.inl rfl)]
      exact d7.par (Or.inl rfl)
    have hb' : TB N (tIni (upd s (10 + 8 * who + 2) (zon k))) 0 := by
      rw [tIni_par (Or.inl rfl)]
      exact hb
    have h14 : (zm_si M7 (58 + 2) who (zon k)).1 14 dd = zon who := by rw [zI_si_ne (by decide), (y7.1 dd hdd).1, ew]
    have h15 : (zm_si M7 (58 + 2) who (zon k)).1 15 dd = c := by rw [zI_si_ne (by decide), (y7.1 dd hdd).2.1, ec]
    refine X_failOne (D := A) (hE.par (by omega) (Or.inl rfl) (Or.inr ⟨k, by omega, rfl⟩)) hdd hw h14 h15 (x7.par (by omega) (Or.inl rfl)) d7' hb' hc (b32j hc) (fun M6 d6 f6 => ?_)
    have e59 : M6.1 59 8 = adV s N who c k := by
      rw [d6.2, tIni_par (Or.inl rfl)]
      rfl
    have f60 : zfr [23, 24, 59, 60, 61, 62, 63, 64, 65] M0 M6 := zfr_trans (zfr_trans f07 (zfr_si (by decide))) (zfr_sub f6 (by decide))
    rw [e59]
    refine ⟨fun z => ?_, fun z => ⟨fun y => ?_, fun y => ?_⟩⟩
    · rw [if_pos (Or.inl (nb.mp z))] at hQ
      exact ih (k + 1) _ _ M6 (by omega) f60 hkb hQ
    · rw [if_pos (Or.inr y)] at hQ
      exact ih (k + 1) _ _ M6 (by omega) f60 hkb hQ
    · rw [if_neg (fun u => u.elim (fun u1 => z (nb.mpr u1)) y)] at hQ
      exact ih (k + 1) _ _ M6 (by omega) f60 hbst hQ
theorem tst0 {x : Int32} {q : Nat} (hq : q < 12) : ((x >>> (zon q &&& 31)) &&& 1) = 0 ↔ bt x q = false := by
  rw [and_1, bt_sar hq]
  by_cases h : bt x q = true
  · rw [if_pos h, h]
    exact ⟨fun z => absurd z (by decide), fun z => absurd z (by decide)⟩
  · rw [if_neg h]
    exact ⟨fun _ => by simpa using h, fun _ => rfl⟩
theorem R_adL {A N D dd who : Nat} {s : Nat → Int32} {c hv : Int32} {M0 : zm_M} {Q : Int32 → zm_M → Prop} (hE : TE N s) (hD : DE N D s) (h3 : -999999 ≤ s 3 ∧ s 3 ≤ 999999) (hb : TB N (tIni s) 0) (hdd : dd < 10) (hw : who < N) (ew : s (106 + 4 * dd) = zon who) (ec : s (107 + 4 * dd) = c) (hc : 0 ≤ c ∧ c ≤ 99999) (hf : s (12 + 8 * who) = -1) : ∀ (n k : Nat) (best least : Int32) (M : zm_M), k + n = N → zfU s M0 M → (∀ M1, zfU s M0 M1 → (adL s N who c hv n k best least = -1 → Q (-1000000000 - 2) (zm_si M1 86 2 (M1.1 86 2 + 1))) ∧ (¬ adL s N who c hv n k best least = -1 → Q (adL s N who c hv n k best least) M1)) → zt (A + 29) 179 55 [some (.ref 82), some (.int (zon dd)), none, some (.int (zon who)), some (.int hv), some (.int best), some (.int least), some (.int (zon k))] [] M (zPi Q) := by
  intro n
  have hN := hE.1.1
  induction n with
  | zero =>
    intro k best least M hk f0 hQ
    apply zg_X11_adopt_p55 (d := A + 28)
    rw [f0.2.1, hE.1.2, zon_lt (by omega) (by omega)]
    exact ⟨fun z => absurd z (by omega), fun _ => hQ M f0⟩
  | succ n ih =>
    intro k best least M hk f0 hQ
    have i2 : zm_inb (zon (12 + 8 * who)) 480 = true := by rw [zon_inb (by omega)]; omega
    have i3 : zm_inb (zon (13 + 8 * who)) 480 = true := by rw [zon_inb (by omega)]; omega
    rw [adL] at hQ
    have skip : ¬ adC s who hv k → zt (A + 29) 179 55 [some (.ref 82), some (.int (zon dd)), none, some (.int (zon who)), some (.int hv), some (.int best), some (.int least), some (.int (zon (k + 1)))] [] M (zPi Q) := fun hn => by
      rw [if_neg hn] at hQ
      exact ih (k + 1) _ _ M (by omega) f0 hQ
    apply zg_X11_adopt_p55 (d := A + 28)
    rw [f0.2.1, hE.1.2, zon_lt (by omega) (by omega), zP2, zP3, zon_n (show 12 + 8 * who < 2000 by omega), zon_n (show 13 + 8 * who < 2000 by omega), zon_inj (by omega) (by omega), zon_s]
    refine ⟨fun _ => ⟨fun z => skip (fun y => y.1 z), fun z1 => ⟨fun z3 => ⟨i3, fun z => skip (fun y => y.2.1 z.symm), fun z2 => ⟨i2, ?_⟩⟩, fun z => skip (fun y => z ((tst0 (by omega)).mpr y.2.2))⟩⟩, fun z => absurd (by omega) z⟩
    have hC : adC s who hv k := ⟨z1, fun z => z2 z.symm, (tst0 (by omega)).mp z3⟩
    rw [if_pos hC] at hQ
    have ea : 12 + 8 * who = 10 + 8 * who + 2 := by omega
    rw [ea] at hf i2 ⊢
    refine R_tries (A := A) (E := upd s (10 + 8 * who + 2) (zon k)) (hE.par (by omega) (Or.inl rfl) (Or.inr ⟨k, by omega, rfl⟩)) (by rw [zI_si_row, f0.2.1]) (by rw [upd_ne (by omega)]; exact h3) hw hdd ((upd_ne (by omega)).trans ew) ((upd_ne (by omega)).trans ec) (by rw [tIni_par (Or.inl rfl)]; exact hb) hc (fun M6 f6 => ⟨i2, ?_⟩)
    have e13 : M6.1 82 13 = adV s N who c k := by
      rw [f6.2.2.1, tIni_par (Or.inl rfl)]
      rfl
    have fU : zfU s M0 (zm_si M6 83 (10 + 8 * who + 2) (-1)) := by
      refine ⟨zfr_trans (zfr_trans f0.1 (zfr_si (by decide))) (zfr_trans (zfr_sub f6.1 (by decide)) (zfr_si (by decide))), ?_, fun j hj => ?_⟩
      · rw [zI_si_row, f6.1.1 83 (by decide), zI_si_row, f0.2.1]
        funext i
        by_cases hi : i = 10 + 8 * who + 2
        · rw [hi, upd_at, hf]
        · rw [upd_ne hi, upd_ne hi]
      · rw [zI_si_ne (by decide), f6.2.1 j hj, zI_si_ne (by decide), f0.2.2 j hj]
    rw [e13]
    refine ⟨fun z => ?_, fun z => ⟨fun y => ?_, fun y => ?_⟩⟩
    · rw [if_pos (Or.inl z)] at hQ
      exact ih (k + 1) _ _ _ (by omega) fU hQ
    · rw [if_pos (Or.inr y)] at hQ
      exact ih (k + 1) _ _ _ (by omega) fU hQ
    · rw [if_neg (fun u => u.elim z y)] at hQ
      exact ih (k + 1) _ _ _ (by omega) fU hQ
/-- an error told after tries, the class's first -/
theorem Inv.errU {M M4 M1 : zm_M} {s : Nat → Int32} (h : Inv M) (hs : M.1 83 = s) (f4 : zfr [23, 24, 59, 60, 61, 62, 63, 64, 65] M M4) (f1 : zfU s (zm_si M4 81 2 (M4.1 81 2 + 1)) M1) : Inv (zm_si M1 86 2 (M1.1 86 2 + 1)) := by
  have hI : Inv (zm_si M1 81 2 (M.1 81 2)) := by
    refine h.fr (fun k hk => ?_) ?_ ?_
    · have h2 : k ∉ [23, 24, 59, 60, 61, 62, 63, 64, 65] := by
        simp only [List.mem_cons, List.not_mem_nil, or_false] at hk ⊢
        omega
      by_cases h83 : k = 83
      · rw [h83, zI_si_rne (by decide), f1.2.1, hs]
      · have h1 : k ∉ [82, 83, 85, 88, 89, 90] := by
          simp only [List.mem_cons, List.not_mem_nil, or_false] at hk ⊢
          omega
        by_cases h81 : k = 81
        · subst h81
          rw [zI_si_row, f1.1.1 81 h1, zI_si_row, f4.1 81 h2]
          funext i
          by_cases hi : i = 2
          · rw [hi, upd_at]
          · rw [upd_ne hi, upd_ne hi]
        · rw [zI_si_rne h81, f1.1.1 k h1, zI_si_rne h81, f4.1 k h2]
    · rw [zI_si_ne (by decide), f1.2.2 3 (by decide), zI_si_ne (by decide), f4.1 82 (by decide)]
    · rw [zI_si_ne (by decide), f1.2.2 16 (by decide), zI_si_ne (by decide), f4.1 82 (by decide)]
  have h9 := hI.err1 (k := 2) (by decide)
  have e1 : zm_si (zm_si M1 81 2 (M.1 81 2)) 81 2 ((zm_si M1 81 2 (M.1 81 2)).1 81 2 + 1) = M1 := by
    refine Prod.ext ?_ rfl
    funext c i
    show (zm_si (zm_si M1 81 2 (M.1 81 2)) 81 2 ((zm_si M1 81 2 (M.1 81 2)).1 81 2 + 1)).1 c i = M1.1 c i
    rw [zI_si_eq]
    by_cases hc : c = 81
    · subst hc
      rw [zI_si, if_pos rfl]
      by_cases hi : i = 2
      · rw [if_pos hi, hi, f1.1.1 81 (by decide), zI_si_eq, f4.1 81 (by decide)]
      · rw [if_neg hi, zI_si, if_pos rfl, if_neg hi]
    · rw [zI_si_ne hc, zI_si_ne hc]
  rw [e1] at h9
  exact h9
theorem pair_adopt {d : Nat} {M : zm_M} {a : Int32} (h : Inv M) : zi (d + 26) 83 [.ref 0, .int a] M (fun v M1 => zi (d + 29) 179 [.ref 82, .int a] M1 (fun w M2 => v = w ∧ Inv M2)) := by
  have hR := h.1.1
  have e12 : M.1 12 0 = M.1 83 1 := hR.1 1 12 0 rfl
  have r83 : ∀ (M' : zm_M) j v, (zm_si M' 81 j v).1 83 = M'.1 83 := fun M' j v => zI_si_rne (by decide)
  apply zg_X10_adopt (d := d + 25)
  rw [e12]
  rcases h.dcase a with (c1 | ⟨c1, c2, c3⟩) | ⟨N, D, dd, who, rfl, hdd, ⟨c1, c2, c3⟩, hin, hE, hD, hb, h3, hw, ew, hs, e17, ho⟩
  · refine ⟨fun _ => ?_, fun z => absurd c1 z⟩
    apply zg_X11_adopt (d := d + 26)
    exact ⟨fun _ => ⟨rfl, h.err1 (by decide)⟩, fun z => absurd c1 z⟩
  · refine ⟨fun z => absurd z c1, fun _ => ⟨fun z => absurd z c2, fun _ => ?_⟩⟩
    apply zg_X11_adopt (d := d + 26)
    rw [r83]
    exact ⟨fun z => absurd z c1, fun _ => ⟨fun _ => ⟨rfl, h.err1 (by decide)⟩, fun z => absurd c3 z⟩⟩
  · have hN := hE.1.1
    have i9 : zm_inb (zon (109 + 4 * dd)) 480 = true := by rw [zon_inb (by omega)]; omega
    have i0 : zm_inb (zon (106 + 4 * dd)) 480 = true := by rw [zon_inb (by omega)]; omega
    have i2 : zm_inb (zon (12 + 8 * who)) 480 = true := by rw [zon_inb (by omega)]; omega
    have iw : zm_inb (zon who) 12 = true := by rw [zon_inb (by omega)]; omega
    have x6 : M.1 6 who = M.1 83 (12 + 8 * who) := hR.pers (w := 2) (by omega) (by decide) (by omega)
    have err3 : (M.1 83 (109 + 4 * dd) = 0 ∨ ¬ M.1 83 (12 + 8 * who) = -1) → zi (d + 29) 179 [.ref 82, .int (zon dd)] (zm_si M 81 3 (M.1 81 3 + 1)) (fun w M2 => -1000000000 - 3 = w ∧ Inv M2) := fun hc => by
      have q : (-1000000000 - 3 : Int32) = -1000000000 - 3 ∧ Inv (zm_si (zm_si M 81 3 (M.1 81 3 + 1)) 86 3 ((zm_si M 81 3 (M.1 81 3 + 1)).1 86 3 + 1)) := ⟨rfl, h.err1 (by decide)⟩
      apply zg_X11_adopt (d := d + 26)
      rw [r83, zD3, zD0, zon_n (show 109 + 4 * dd < 2000 by omega), zon_n (show 106 + 4 * dd < 2000 by omega), ew, zP2, zon_n (show 12 + 8 * who < 2000 by omega)]
      refine ⟨fun z => absurd z c1, fun _ => ⟨fun z => absurd z c3, fun _ => ⟨i9, fun _ => q, fun z1 => ⟨i0, i2, fun z2 => ?_, fun _ => q⟩⟩⟩⟩
      exact absurd hc (fun y => y.elim z1 (fun y => y z2))
    refine ⟨fun z => absurd z c1, fun _ => ⟨fun _ => ⟨hin, hin, ?_⟩, fun z => absurd c2 z⟩⟩
    rw [zon_n (show dd < 2000 by omega), e17, (hR.ye.1 dd hdd).1, ew, zon_n (show who < 2000 by omega), x6]
    refine ⟨fun o1 => ⟨iw, fun hf => ?_, fun hf => err3 (Or.inr hf)⟩, fun o1 => err3 (Or.inl (by rcases ho with z | z; exact z; exact absurd z o1))⟩
    refine X_heirs (d := d + 23) hE.pf hN (hR.fx hE.1.2) (fun x hx => ?_)
    have hxe : x = itG (hrI (M.1 83) who N 0) N 0 := hx.uniq (HN_of hE.pf hN)
    refine X_adL (A := d) (M0 := M) hR hE hD hb hdd hw ew rfl hs N 0 (-1) 0 M (by omega) zfr_rfl (Or.inl rfl) (fun M4 f4 => ?_)
    have e83 : M4.1 83 = M.1 83 := f4.1 83 (by decide)
    have pre : ∀ (M5 : zm_M) (Q : Int32 → zm_M → Prop), M5.1 83 = M.1 83 → zt (d + 29) 179 55 [some (.ref 82), some (.int (zon dd)), none, some (.int (zon who)), some (.int x), some (.int (-1)), some (.int 0), some (.int (zon 0))] [] M5 (zPi Q) → zi (d + 29) 179 [.ref 82, .int (zon dd)] M5 Q := fun M5 Q h83 hq => by
      apply zg_X11_adopt (d := d + 26)
      rw [h83, zD3, zD0, zon_n (show 109 + 4 * dd < 2000 by omega), zon_n (show 106 + 4 * dd < 2000 by omega), ew, zP2, zon_n (show 12 + 8 * who < 2000 by omega)]
      refine ⟨fun z => absurd z c1, fun _ => ⟨fun z => absurd z c3, fun _ => ⟨i9, fun z => absurd (z.symm.trans o1) (by decide), fun _ => ⟨i0, i2, fun _ => ?_, fun z => absurd hf z⟩⟩⟩⟩
      refine R_heirs (d := d + 26) hE.pf hN hw (FR.of h83 hE.1.2) (fun y hy => ?_)
      rw [hy.uniq hx]
      exact hq
    refine ⟨fun z => ?_, fun z => ?_⟩
    · refine pre _ _ ((r83 M4 2 _).trans e83) ?_
      exact R_adL (A := d) (s := M.1 83) (M0 := zm_si M4 81 2 (M4.1 81 2 + 1)) hE hD h3 hb hdd hw ew rfl hs hf N 0 (-1) 0 _ (by omega) ⟨zfr_rfl, (r83 M4 2 _).trans e83, fun _ _ => rfl⟩ (fun M1 f1 => ⟨fun _ => ⟨rfl, h.errU rfl f4 f1⟩, fun y => absurd z y⟩)
    · refine pre _ _ e83 ?_
      exact R_adL (A := d) (s := M.1 83) (M0 := M4) hE hD h3 hb hdd hw ew rfl hs hf N 0 (-1) 0 M4 (by omega) ⟨zfr_rfl, e83, fun _ _ => rfl⟩ (fun M1 f1 => ⟨fun y => absurd y z, fun _ => ⟨rfl, h.tryU rfl f4 f1⟩⟩)

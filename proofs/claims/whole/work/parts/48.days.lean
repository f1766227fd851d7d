/-! Days. -/
def sDay : Nat → Nat → (Nat → Int32) → (Nat → Int32)
  | 0, _, s => s
  | n + 1, i, s => if s (109 + 4 * i) = 1 ∧ ¬ s 2 < s (108 + 4 * i) then sDay n (i + 1) (sMd s i) else sDay n (i + 1) s
def sDays (D : Nat) : Nat → (Nat → Int32) → (Nat → Int32)
  | 0, s => s
  | n + 1, s => sDays D n (upd (sDay D 0 s) 2 (sDay D 0 s 2 + 1))
theorem sMd_sx {u dd : Nat} {s : Nat → Int32} (h : SX u s) (hu : u ≤ 1) (hd : dd < 10) : SX u (sMd s dd) := by
  unfold SX sMd at *
  rw [sMade_e (by omega) (by omega) (by omega), show (fun k => sMade s (tDef s (s 0).toNatClampNeg (tIni s) (s (106 + 4 * dd)).toNatClampNeg (s (107 + 4 * dd))) dd (147 + 125 * u + k)) = (fun k => s (147 + 125 * u + k)) from funext (fun k => sMade_e (by omega) (by omega) (by omega))]
  exact h
theorem WF.dcount {N D : Nat} {s : Nat → Int32} {D2 : Nat} (hD : DE N D s) (h1 : s 1 = zon D2) (h2 : D2 ≤ 10) : D = D2 := by
  have := hD.1.2.symm.trans h1
  rw [zon_inj (by have := hD.1.1; omega) (by omega)] at this
  exact this
theorem WF.upd2 {s : Nat → Int32} (h : WF s) {v : Int32} (hv : 0 ≤ v ∧ v ≤ 9999) : WF (upd s 2 v) := by
  have e : ∀ k, k ≠ 2 → upd s 2 v k = s k := fun k hk => if_neg hk
  have e2 : upd s 2 v 2 = v := if_pos rfl
  unfold WF PW DW at h ⊢
  simp only [e 0 (by decide), e 1 (by decide), e2, e 3 (by decide), e 4 (by decide), e 5 (by decide), e 7 (by decide), e 8 (by decide), e 9 (by decide)]
  obtain ⟨h1, h2, h3, h4, h5, h6, h7, h8, h9, h10⟩ := h
  refine ⟨h1, h2, hv, h4, h5, h6, h7, fun p hp => ?_, fun q hq => ?_, fun j hj => ?_⟩
  · rw [e _ (by omega), e _ (by omega), e _ (by omega), e _ (by omega), e _ (by omega), e _ (by omega), e _ (by omega), e _ (by omega)]
    exact h8 p hp
  · rw [e _ (by omega), e _ (by omega), e _ (by omega), e _ (by omega)]
    exact h9 q hq
  · rw [e _ (by omega)]
    exact h10 j hj
theorem SX.upd2 {u : Nat} {s : Nat → Int32} {v : Int32} (h : SX u s) : SX u (upd s 2 v) := by
  unfold SX at *
  rw [show upd s 2 v (146 + 125 * u) = s (146 + 125 * u) from if_neg (by omega), show (fun k => upd s 2 v (147 + 125 * u + k)) = (fun k => s (147 + 125 * u + k)) from funext (fun k => if_neg (by omega))]
  exact h
theorem sDay_ok {D : Nat} (hD10 : D ≤ 10) : ∀ (n i : Nat) (s : Nat → Int32), i + n = D → WF s → SX 0 s → s 1 = zon D → WF (sDay n i s) ∧ SX 0 (sDay n i s) ∧ sDay n i s 1 = zon D ∧ sDay n i s 2 = s 2
  | 0, i, s, hi, hW, hX, h1 => ⟨hW, hX, h1, rfl⟩
  | n + 1, i, s, hi, hW, hX, h1 => by
    obtain ⟨N, D2, hE, hD, hb⟩ := hW.te hX
    have := WF.dcount hD h1 hD10
    subst this
    rw [sDay]
    split
    · have r := sDay_ok hD10 n (i + 1) (sMd s i) (by omega) (sMd_ok hW hE hD hb (by omega)) (sMd_sx hX (by decide) (by omega)) (by unfold sMd; rw [sMade_e (by omega) (by omega) (by omega)]; exact h1)
      refine ⟨r.1, r.2.1, r.2.2.1, r.2.2.2.trans ?_⟩
      unfold sMd
      exact sMade_e (by omega) (by omega) (by omega)
    · exact sDay_ok hD10 n (i + 1) s (by omega) hW hX h1
theorem X_dayL {A D : Nat} {a b : Int32} {Q : Int32 → zm_M → Prop} (hD10 : D ≤ 10) : ∀ (n i : Nat) (M : zm_M) (s : Nat → Int32), i + n = D → RT M 0 s → WF s → SX 0 s → s 1 = zon D → (∀ M1, RT M1 0 (sDay n i s) → zfr [1, 9, 10, 17, 23, 24, 59, 60, 61, 62, 63, 64, 65] M M1 → zt (A + 27) 72 40 [some (.ref 0), some (.int a), some (.int (b + 1)), none] [] (zm_si M1 1 6 (sDay n i s 2 + 1)) (zPi Q)) → zt (A + 27) 72 47 [some (.ref 0), some (.int a), some (.int b), some (.int (zon i))] [] M (zPi Q) := by
  intro n
  induction n with
  | zero =>
    intro i M s hi hR hW hX h1 hK
    apply zg_X10_days_p47 (d := A + 26)
    rw [show M.1 12 0 = zon D from (hR.1 1 12 0 rfl).trans h1, zon_lt (by omega) (by omega)]
    refine ⟨fun z => absurd z (by omega), fun _ => ?_⟩
    rw [show M.1 1 6 = s 2 from hR.1 2 1 6 rfl]
    exact hK M hR zfr_rfl
  | succ n ih =>
    intro i M s hi hR hW hX h1 hK
    obtain ⟨N, D2, hE, hD, hb⟩ := hW.te hX
    have := WF.dcount hD h1 hD10
    subst this
    have hin : zm_inb (zon i) 10 = true := by rw [zon_inb (by omega)]; omega
    rw [sDay] at hK
    apply zg_X10_days_p47 (d := A + 26)
    rw [show M.1 12 0 = zon D2 from (hR.1 1 12 0 rfl).trans h1, zon_lt (by omega) (by omega), zon_n (by omega), (hR.ye.1 i (by omega)).2.2, show M.1 1 6 = s 2 from hR.1 2 1 6 rfl, show M.1 16 i = s (108 + 4 * i) from hR.debt (w := 2) (by omega) (by decide) (by omega), zon_s]
    refine ⟨fun _ => ⟨hin, fun o1 => ⟨hin, fun y => ?_, fun y => ?_⟩, fun o1 => ?_⟩, fun z => absurd (by omega) z⟩
    · rw [if_neg (fun z => z.2 y)] at hK
      exact ih (i + 1) M s (by omega) hR hW hX h1 hK
    · rw [if_pos ⟨o1, y⟩] at hK
      refine X_made (A := A) hR hE hD hb (by omega) (fun M4 r4 f4 => ?_)
      exact ih (i + 1) M4 (sMd s i) (by omega) r4 (sMd_ok hW hE hD hb (by omega)) (sMd_sx hX (by decide) (by omega)) (by unfold sMd; rw [sMade_e (by omega) (by omega) (by omega)]; exact h1) (fun M5 r5 f5 => hK M5 r5 (zfr_trans f4 f5))
    · rw [if_neg (fun z => o1 z.1)] at hK
      exact ih (i + 1) M s (by omega) hR hW hX h1 hK
theorem day2 {s : Nat → Int32} {n : Nat} (h : 0 ≤ s 2 ∧ s 2 ≤ 9999) (hn : (s 2).toInt + (n + 1 : Nat) ≤ 9999) : (0 ≤ s 2 + 1 ∧ s 2 + 1 ≤ 9999) ∧ (s 2 + 1).toInt = (s 2).toInt + 1 := by
  have h0 := le_i h.1 rfl rfl
  rw [show (0 : Int32).toInt = 0 from rfl] at h0
  have e : (s 2 + 1).toInt = (s 2).toInt + 1 := add_i (by rw [show (1 : Int32).toInt = 1 from rfl]; omega)
  refine ⟨⟨?_, ?_⟩, e⟩
  · rw [Int32.le_iff_toInt_le, e, show (0 : Int32).toInt = 0 from rfl]
    omega
  · rw [Int32.le_iff_toInt_le, e, show (9999 : Int32).toInt = 9999 from rfl]
    omega
theorem X_daysL {A D m : Nat} {Q : Int32 → zm_M → Prop} (hD10 : D ≤ 10) (hm : m ≤ 60) : ∀ (n k : Nat) (M : zm_M) (s : Nat → Int32), k + n = m → RT M 0 s → WF s → SX 0 s → s 1 = zon D → (s 2).toInt + n ≤ 9999 → (∀ M1, RT M1 0 (sDays D n s) → zfr [1, 9, 10, 17, 23, 24, 59, 60, 61, 62, 63, 64, 65] M M1 → Q (sDays D n s 2) M1) → zt (A + 27) 72 40 [some (.ref 0), some (.int (zon m)), some (.int (zon k)), none] [] M (zPi Q) := by
  intro n
  induction n with
  | zero =>
    intro k M s hk hR hW hX h1 h2 hQ
    apply zg_X10_days_p40
    rw [zon_lt (by omega) (by omega), show M.1 1 6 = s 2 from hR.1 2 1 6 rfl]
    exact ⟨fun z => absurd z (by omega), fun _ => hQ M hR zfr_rfl⟩
  | succ n ih =>
    intro k M s hk hR hW hX h1 h2 hQ
    have ok := sDay_ok hD10 D 0 s (by omega) hW hX h1
    have hd := day2 hW.2.2.1 h2
    apply zg_X10_days_p40
    rw [zon_lt (by omega) (by omega)]
    refine ⟨fun _ => X_dayL (A := A) hD10 D 0 M s (by omega) hR hW hX h1 (fun M1 r1 f1 => ?_), fun z => absurd (by omega) z⟩
    rw [zon_s]
    have e2 : upd (sDay D 0 s) 2 (sDay D 0 s 2 + 1) 2 = s 2 + 1 := (if_pos rfl).trans (by rw [ok.2.2.2])
    refine ih (k + 1) _ (upd (sDay D 0 s) 2 (sDay D 0 s 2 + 1)) (by omega) (r1.set (k := 2) (c := 1) (j := 6) rfl (by decide) (by decide)) (ok.1.upd2 (by rw [ok.2.2.2]; exact hd.1)) ok.2.1.upd2 ((if_neg (by decide)).trans ok.2.2.1) (by rw [e2, hd.2]; omega) (fun M2 r2 f2 => hQ M2 r2 (zfr_trans (zfr_trans f1 (zfr_si (by decide))) f2))
theorem R_dayL {A D : Nat} {a b : Int32} {Q : Int32 → zm_M → Prop} (hD10 : D ≤ 10) : ∀ (n i : Nat) (M : zm_M) (s : Nat → Int32), i + n = D → M.1 83 = s → WF s → SX 0 s → s 1 = zon D → (∀ M1, M1.1 83 = sDay n i s → zf9 M M1 → zt (A + 28) 164 38 [some (.ref 82), some (.int a), some (.int (b + 1)), none] [] (zm_si M1 83 2 (sDay n i s 2 + 1)) (zPi Q)) → zt (A + 28) 164 45 [some (.ref 82), some (.int a), some (.int b), some (.int (zon i))] [] M (zPi Q) := by
  intro n
  induction n with
  | zero =>
    intro i M s hi hs hW hX h1 hK
    apply zg_X11_days_p45 (d := A + 27)
    rw [hs, h1, zon_lt (by omega) (by omega)]
    exact ⟨fun z => absurd z (by omega), fun _ => hK M hs ⟨zfr_rfl, fun _ _ => rfl⟩⟩
  | succ n ih =>
    intro i M s hi hs hW hX h1 hK
    obtain ⟨N, D2, hE, hD, hb⟩ := hW.te hX
    have := WF.dcount hD h1 hD10
    subst this
    have i9 : zm_inb (zon (109 + 4 * i)) 480 = true := by rw [zon_inb (by omega)]; omega
    have i8 : zm_inb (zon (108 + 4 * i)) 480 = true := by rw [zon_inb (by omega)]; omega
    rw [sDay] at hK
    apply zg_X11_days_p45 (d := A + 27)
    rw [hs, h1, zon_lt (by omega) (by omega), zD3, zD2, zon_n (show 109 + 4 * i < 2000 by omega), zon_n (show 108 + 4 * i < 2000 by omega), zon_s]
    refine ⟨fun _ => ⟨i9, fun o1 => ⟨i8, fun y => ?_, fun y => ?_⟩, fun o1 => ?_⟩, fun z => absurd (by omega) z⟩
    · rw [if_neg (fun z => z.2 y)] at hK
      exact ih (i + 1) M s (by omega) hs hW hX h1 hK
    · rw [if_pos ⟨o1, y⟩] at hK
      refine R_made (A := A) hs hE hD hW.2.2.2.1 hb (by omega) (fun M4 e4 _ f4 => ?_)
      exact ih (i + 1) M4 (sMd s i) (by omega) e4 (sMd_ok hW hE hD hb (by omega)) (sMd_sx hX (by decide) (by omega)) (by unfold sMd; rw [sMade_e (by omega) (by omega) (by omega)]; exact h1) (fun M5 r5 f5 => hK M5 r5 (zf9_trans f4 f5))
    · rw [if_neg (fun z => o1 z.1)] at hK
      exact ih (i + 1) M s (by omega) hs hW hX h1 hK
theorem R_daysL {A D m : Nat} {Q : Int32 → zm_M → Prop} (hD10 : D ≤ 10) (hm : m ≤ 60) : ∀ (n k : Nat) (M : zm_M) (s : Nat → Int32), k + n = m → M.1 83 = s → WF s → SX 0 s → s 1 = zon D → (s 2).toInt + n ≤ 9999 → (∀ M1, M1.1 83 = sDays D n s → WF (sDays D n s) → zf9 M M1 → Q (sDays D n s 2) M1) → zt (A + 28) 164 38 [some (.ref 82), some (.int (zon m)), some (.int (zon k)), none] [] M (zPi Q) := by
  intro n
  induction n with
  | zero =>
    intro k M s hk hs hW hX h1 h2 hQ
    apply zg_X11_days_p38
    rw [zon_lt (by omega) (by omega), hs]
    exact ⟨fun z => absurd z (by omega), fun _ => hQ M hs hW ⟨zfr_rfl, fun _ _ => rfl⟩⟩
  | succ n ih =>
    intro k M s hk hs hW hX h1 h2 hQ
    have ok := sDay_ok hD10 D 0 s (by omega) hW hX h1
    have hd := day2 hW.2.2.1 h2
    apply zg_X11_days_p38
    rw [zon_lt (by omega) (by omega)]
    refine ⟨fun _ => R_dayL (A := A) hD10 D 0 M s (by omega) hs hW hX h1 (fun M1 r1 f1 => ?_), fun z => absurd (by omega) z⟩
    rw [zon_s]
    have e2 : upd (sDay D 0 s) 2 (sDay D 0 s 2 + 1) 2 = s 2 + 1 := (if_pos rfl).trans (by rw [ok.2.2.2])
    refine ih (k + 1) _ (upd (sDay D 0 s) 2 (sDay D 0 s 2 + 1)) (by omega) (by rw [zI_si_row, r1]) (ok.1.upd2 (by rw [ok.2.2.2]; exact hd.1)) ok.2.1.upd2 ((if_neg (by decide)).trans ok.2.2.1) (by rw [e2, hd.2]; omega) (fun M2 r2 w2 f2 => hQ M2 r2 w2 (zf9_trans (zf9_trans f1 ⟨zfr_si (by decide), fun j _ => by rw [zI_si_rne (by decide)]⟩) f2))
theorem pair_days {d : Nat} {M : zm_M} {a : Int32} (h : Inv M) : zi (d + 27) 72 [.ref 0, .int a] M (fun v M1 => zi (d + 28) 164 [.ref 82, .int a] M1 (fun w M2 => v = w ∧ Inv M2)) := by
  have hR := h.1.1
  have hW := h.1.2
  have hX : SX 0 (M.1 83) := h.1.1.2.1.sx
  have r83 : ∀ j v, (zm_si M 81 j v).1 83 = M.1 83 := fun j v => zI_si_rne (by decide)
  have e2 : M.1 1 6 = M.1 83 2 := hR.1 2 1 6 rfl
  apply zg_X10_days (d := d + 26)
  rw [e2]
  refine ⟨fun c1 => ?_, fun c1 => ⟨fun c2 => ?_, fun c2 => ⟨fun c3 => ?_, fun c3 => ?_⟩⟩⟩
  · apply zg_X11_days (d := d + 27)
    exact ⟨fun _ => ⟨rfl, h.err1 (by decide)⟩, fun z => absurd c1 z⟩
  · apply zg_X11_days (d := d + 27)
    exact ⟨fun z => absurd z c1, fun _ => ⟨fun _ => ⟨rfl, h.err1 (by decide)⟩, fun z => absurd c2 z⟩⟩
  · apply zg_X11_days (d := d + 27)
    rw [r83]
    exact ⟨fun z => absurd z c1, fun _ => ⟨fun z => absurd z c2, fun _ => ⟨fun _ => ⟨rfl, h.err1 (by decide)⟩, fun z => absurd c3 z⟩⟩⟩
  · obtain ⟨m, rfl, hm⟩ := zof2 (x := a) (m := 60) (n := 60) (by grind) (by grind) rfl
    obtain ⟨N, D, hE, hD, hb⟩ := hW.te hX
    have hD0 := hD.1.1
    have g3 := hW.2.2.1
    have h2 : (M.1 83 2).toInt + m ≤ 9999 := by
      have a1 := le_i g3.1 rfl rfl
      have a2 := le_i g3.2 rfl rfl
      rw [show (0 : Int32).toInt = 0 from rfl] at a1
      rw [show (9999 : Int32).toInt = 9999 from rfl] at a2
      have e : (M.1 83 2 + zon m).toInt = (M.1 83 2).toInt + m := by rw [add_i (by rw [zon_i (by omega)]; omega), zon_i (by omega)]
      have : ¬ (9999 : Int32).toInt < (M.1 83 2 + zon m).toInt := fun z => c3 (Int32.lt_iff_toInt_lt.mpr z)
      rw [e, show (9999 : Int32).toInt = 9999 from rfl] at this
      omega
    refine X_daysL (A := d) hD0 hm m 0 M (M.1 83) (by omega) hR hW hX hD.1.2 h2 (fun M4 r4 f4 => ?_)
    have e83 : M4.1 83 = M.1 83 := f4.1 83 (by decide)
    apply zg_X11_days (d := d + 27)
    rw [e83]
    refine ⟨fun z => absurd z c1, fun _ => ⟨fun z => absurd z c2, fun _ => ⟨fun z => absurd z c3, fun _ => ?_⟩⟩⟩
    refine R_daysL (A := d) hD0 hm m 0 M4 (M.1 83) (by omega) e83 hW hX hD.1.2 h2 (fun M1 e1 w1 f1 => ⟨rfl, ?_⟩)
    exact h.made r4 w1 f4 e1 (fun k hk => f1.1.1 k (by simp only [List.mem_cons, List.not_mem_nil, or_false] at hk ⊢; omega)) f1.2

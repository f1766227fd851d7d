/-! A default that is made true. -/
theorem RN_of {M : zm_M} {s : Nat → Int32} (h0 : M.1 2 0 = s 0) (h1 : M.1 12 0 = s 1) (h2 : M.1 1 6 = s 2) (h3 : M.1 1 7 = s 3) (h4 : M.1 18 2 = s 4) (h5 : M.1 18 3 = s 5) (h6 : M.1 1 8 = s 6) (hl : ∀ j, j < 3 → M.1 29 j = s (7 + j)) (hp : ∀ p w, p < 12 → w < 8 → M.1 (4 + w) p = s (10 + 8 * p + w)) (hq : ∀ q w, q < 10 → w < 4 → M.1 (14 + w) q = s (106 + 4 * q + w)) (ht : ∀ j, j < 60 → M.1 19 j = s (396 + j)) (hw : ∀ j, j < 24 → M.1 20 j = s (456 + j)) : RN M 0 s := by
  intro k c j hk
  unfold zmap at hk
  by_cases k10 : k < 10
  · rw [if_pos k10] at hk
    rcases (show k = 0 ∨ k = 1 ∨ k = 2 ∨ k = 3 ∨ k = 4 ∨ k = 5 ∨ k = 6 ∨ k = 7 ∨ k = 8 ∨ k = 9 by omega) with rfl | rfl | rfl | rfl | rfl | rfl | rfl | rfl | rfl | rfl <;> cases hk
    · exact h0
    · exact h1
    · exact h2
    · exact h3
    · exact h4
    · exact h5
    · exact h6
    · exact hl 0 (by decide)
    · exact hl 1 (by decide)
    · exact hl 2 (by decide)
  · rw [if_neg k10] at hk
    by_cases k106 : k < 106
    · rw [if_pos k106] at hk
      cases hk
      have := hp ((k - 10) / 8) ((k - 10) % 8) (by omega) (by omega)
      rw [show 10 + 8 * ((k - 10) / 8) + (k - 10) % 8 = k by omega] at this
      exact this
    · rw [if_neg k106] at hk
      by_cases k146 : k < 146
      · rw [if_pos k146] at hk
        cases hk
        have := hq ((k - 106) / 4) ((k - 106) % 4) (by omega) (by omega)
        rw [show 106 + 4 * ((k - 106) / 4) + (k - 106) % 4 = k by omega] at this
        exact this
      · rw [if_neg k146] at hk
        by_cases k396 : k < 396
        · rw [if_pos k396] at hk
          cases hk
        · rw [if_neg k396] at hk
          by_cases k456 : k < 456
          · rw [if_pos k456] at hk
            cases hk
            have := ht (k - 396) (by omega)
            rw [show 396 + (k - 396) = k by omega] at this
            exact this
          · rw [if_neg k456] at hk
            by_cases k480 : k < 480
            · rw [if_pos k480] at hk
              cases hk
              have := hw (k - 456) (by omega)
              rw [show 456 + (k - 456) = k by omega] at this
              exact this
            · rw [if_neg k480] at hk
              cases hk
def sMade (s : Nat → Int32) (T : zT) (dd : Nat) : Nat → Int32 := fun i =>
  if i = 3 then cl3 (s 3 - T.2.2.2) else if i = 109 + 4 * dd then 0 else if 10 ≤ i ∧ i < 106 ∧ (i - 10) % 8 = 5 then T.1 ((i - 10) / 8) else if 10 ≤ i ∧ i < 106 ∧ (i - 10) % 8 = 6 then T.2.1 ((i - 10) / 8) else s i
theorem sMade_3 {s : Nat → Int32} {T : zT} {dd : Nat} : sMade s T dd 3 = cl3 (s 3 - T.2.2.2) := by unfold sMade; rw [if_pos rfl]
theorem sMade_o {s : Nat → Int32} {T : zT} {dd : Nat} : sMade s T dd (109 + 4 * dd) = 0 := by unfold sMade; rw [if_neg (by omega), if_pos rfl]
theorem sMade_5 {s : Nat → Int32} {T : zT} {dd p : Nat} (hp : p < 12) : sMade s T dd (15 + 8 * p) = T.1 p := by
  unfold sMade
  rw [if_neg (by omega), if_neg (by omega), if_pos (by omega), show (15 + 8 * p - 10) / 8 = p by omega]
theorem sMade_6 {s : Nat → Int32} {T : zT} {dd p : Nat} (hp : p < 12) : sMade s T dd (16 + 8 * p) = T.2.1 p := by
  unfold sMade
  rw [if_neg (by omega), if_neg (by omega), if_neg (by omega), if_pos (by omega), show (16 + 8 * p - 10) / 8 = p by omega]
theorem sMade_e {s : Nat → Int32} {T : zT} {dd i : Nat} (h3 : i ≠ 3) (ho : i ≠ 109 + 4 * dd) (h : i < 10 ∨ 106 ≤ i ∨ ((i - 10) % 8 ≠ 5 ∧ (i - 10) % 8 ≠ 6)) : sMade s T dd i = s i := by
  unfold sMade
  rw [if_neg h3, if_neg ho, if_neg (by omega), if_neg (by omega)]
theorem cl3_rng {x : Int32} : -999999 ≤ cl3 x ∧ cl3 x ≤ 999999 := by
  have h := cl3_i (x := x)
  rw [Int32.le_iff_toInt_le, Int32.le_iff_toInt_le, h, show (-999999 : Int32).toInt = -999999 from rfl, show (999999 : Int32).toInt = 999999 from rfl]
  split <;> (try split) <;> omega
theorem WF.made {s : Nat → Int32} {T : zT} {dd N : Nat} {B : Int32} (h : WF s) (hN : s 0 = zon N) (hN2 : N ≤ 12) (hb : TB N T B) (hdd : dd < 10) : WF (sMade s T dd) := by
  have e : ∀ i, i ≠ 3 → i ≠ 109 + 4 * dd → (i < 10 ∨ 106 ≤ i ∨ ((i - 10) % 8 ≠ 5 ∧ (i - 10) % 8 ≠ 6)) → sMade s T dd i = s i := fun i h1 h2 h3 => sMade_e h1 h2 h3
  obtain ⟨g1, g2, g3, g4, g5, g6, g7, g8, g9, g10⟩ := h
  unfold WF
  rw [e 0 (by omega) (by omega) (by omega), e 1 (by omega) (by omega) (by omega), e 2 (by omega) (by omega) (by omega), sMade_3, e 4 (by omega) (by omega) (by omega), e 5 (by omega) (by omega) (by omega), e 7 (by omega) (by omega) (by omega), e 8 (by omega) (by omega) (by omega), e 9 (by omega) (by omega) (by omega)]
  refine ⟨g1, g2, g3, cl3_rng, g5, g6, g7, fun p hp => ?_, fun q hq => ?_, fun j hj => ?_⟩
  · have h12 : p < N := by rw [hN, zon_i (by omega)] at hp; omega
    have := g8 p hp
    unfold PW at this ⊢
    rw [e (10 + 8 * p) (by omega) (by omega) (by omega), e (11 + 8 * p) (by omega) (by omega) (by omega), e (12 + 8 * p) (by omega) (by omega) (by omega), e 0 (by omega) (by omega) (by omega), e (13 + 8 * p) (by omega) (by omega) (by omega), e (14 + 8 * p) (by omega) (by omega) (by omega), sMade_5 (by omega), sMade_6 (by omega), e _ (by omega) (by omega) (by omega)]
    obtain ⟨a1, a2, a3, a4, a5, a6, a7, a8, a9⟩ := this
    exact ⟨a1, a2, a3, a4, a5, a6, (hb.1 p h12).1, (hb.1 p h12).2, a9⟩
  · have h10 : q < 10 := by
      have := Int32.le_iff_toInt_le.mp g2.2
      rw [show (10 : Int32).toInt = 10 from rfl] at this
      omega
    have := g9 q hq
    unfold DW at this ⊢
    rw [e _ (by omega) (by omega) (by omega), e 0 (by omega) (by omega) (by omega), e _ (by omega) (by omega) (by omega), e _ (by omega) (by omega) (by omega)]
    refine ⟨this.1, this.2.1, this.2.2.1, ?_⟩
    by_cases hqd : q = dd
    · left
      rw [hqd]
      exact sMade_o
    · rw [e _ (by omega) (by omega) (by omega)]
      exact this.2.2.2
  · rw [e _ (by omega) (by omega) (by omega)]
    exact g10 j hj
theorem RX.made {M M2 : zm_M} {u : Nat} {s : Nat → Int32} {T : zT} {dd : Nat} (h : RX M 0 u s) (hu : u ≤ 1) (hdd : dd < 10) (h1 : M2.1 (21 + 4 * u + 0) = M.1 (21 + 4 * u + 0)) (h2 : M2.1 (22 + 4 * u + 0) = M.1 (22 + 4 * u + 0)) : RX M2 0 u (sMade s T dd) := h.offr h1 h2 (fun k k1 k2 => sMade_e (by omega) (by omega) (by omega))
def sMd (s : Nat → Int32) (dd : Nat) : Nat → Int32 := sMade s (tDef s (s 0).toNatClampNeg (tIni s) (s (106 + 4 * dd)).toNatClampNeg (s (107 + 4 * dd))) dd
theorem X_made {A N D dd : Nat} {s : Nat → Int32} {M : zm_M} {Q : Int32 → zm_M → Prop} (hR : RT M 0 s) (hE : TE N s) (hD : DE N D s) (hb : TB N (tIni s) 0) (hdd : dd < D) (hQ : ∀ M1, RT M1 0 (sMd s dd) → zfr [1, 9, 10, 17, 23, 24, 59, 60, 61, 62, 63, 64, 65] M M1 → Q (tDef s N (tIni s) (s (106 + 4 * dd)).toNatClampNeg (s (107 + 4 * dd))).2.2.2 M1) : zi (A + 26) 101 [.ref 0, .int (zon dd)] M Q := by
  have hD0 := hD.1.1
  have hN0 := hE.1.1
  obtain ⟨⟨w, hw, ew⟩, hs, -⟩ := hD.2 dd hdd
  unfold sMd at hQ
  rw [hE.1.2, zon_n (by omega), ew, zon_n (by omega)] at hQ
  apply zg_X10_defaultNow (d := A + 23)
  refine X_try (A := A) hR hE hw (by omega) ew rfl hb hs (fun M4 d4 f4 => ?_)
  apply zg_X8_makeTrue (d := A + 24)
  rw [zon_n (by omega)]
  refine ⟨by rw [zon_inb (by omega)]; omega, ?_⟩
  generalize tDef s N (tIni s) w (s (107 + 4 * dd)) = T at *
  have cp : ∀ (f g : Nat → Int32) (p : Nat), p < 12 → va_cpy f g 0 0 12 p = f p := fun f g p hp => by
    unfold va_cpy
    rw [if_pos (by omega)]
    congr 1
    omega
  rw [zI_sr_rne (k := 10) (k2 := 59) (by decide), zI_sr_rne (k := 9) (k2 := 59) (by decide), zI_sr_rne (k := 10) (k2 := 1) (by decide), zI_sr_rne (k := 9) (k2 := 1) (by decide), d4.2, show M4.1 1 7 = s 3 from (congrFun (f4.1 1 (by decide)) 7).trans (hR.1 3 1 7 rfl)]
  have e3 : ∀ x : Int32, (if (-999999 : Int32) < (if x < (999999 : Int32) then x else (999999 : Int32)) then (if x < (999999 : Int32) then x else (999999 : Int32)) else (-999999 : Int32)) = cl3 x := fun x => by
    unfold cl3
    split <;> split <;> grind
  rw [e3, show s 3 + -T.2.2.2 = s 3 - T.2.2.2 by grind]
  have ft : ∀ k, k ∉ [1, 9, 10, 17, 23, 24, 59, 60, 61, 62, 63, 64, 65] → (zm_si (zm_si (zm_sr (zm_sr M4 9 (va_cpy (M4.1 63) (M4.1 9) 0 0 12)) 10 (va_cpy (M4.1 64) (M4.1 10) 0 0 12)) 17 dd 0) 1 7 (cl3 (s 3 - T.2.2.2))).1 k = M.1 k := fun k hk => by
    simp only [List.mem_cons, List.not_mem_nil, or_false, not_or] at hk
    rw [zI_si_rne hk.1, zI_si_rne hk.2.2.2.1, zI_sr_rne hk.2.2.1, zI_sr_rne hk.2.1, f4.1 k (by simp only [List.mem_cons, List.not_mem_nil, or_false, not_or]; exact hk.2.2.2.2)]
  have e1 : ∀ j, j ≠ 7 → (zm_si (zm_si (zm_sr (zm_sr M4 9 (va_cpy (M4.1 63) (M4.1 9) 0 0 12)) 10 (va_cpy (M4.1 64) (M4.1 10) 0 0 12)) 17 dd 0) 1 7 (cl3 (s 3 - T.2.2.2))).1 1 j = M.1 1 j := fun j hj => by
    rw [zI_si, if_pos rfl, if_neg hj, zI_si_ne (by decide), zI_sr_rne (by decide), zI_sr_rne (by decide), f4.1 1 (by decide)]
  have e17 : ∀ q, q < 10 → (zm_si (zm_si (zm_sr (zm_sr M4 9 (va_cpy (M4.1 63) (M4.1 9) 0 0 12)) 10 (va_cpy (M4.1 64) (M4.1 10) 0 0 12)) 17 dd 0) 1 7 (cl3 (s 3 - T.2.2.2))).1 17 q = sMade s T dd (109 + 4 * q) := fun q hq => by
    rw [zI_si_ne (by decide), zI_si, if_pos rfl]
    by_cases hqd : q = dd
    · rw [if_pos hqd, hqd, sMade_o]
    · rw [if_neg hqd, zI_sr_rne (by decide), zI_sr_rne (by decide), f4.1 17 (by decide), sMade_e (by omega) (by omega) (by omega)]
      exact hR.debt (w := 3) hq (by decide) (by omega)
  have e9 : ∀ p, p < 12 → (zm_si (zm_si (zm_sr (zm_sr M4 9 (va_cpy (M4.1 63) (M4.1 9) 0 0 12)) 10 (va_cpy (M4.1 64) (M4.1 10) 0 0 12)) 17 dd 0) 1 7 (cl3 (s 3 - T.2.2.2))).1 9 p = sMade s T dd (15 + 8 * p) := fun p hp => by
    rw [zI_si_ne (by decide), zI_si_ne (by decide), zI_sr_rne (by decide), zI_sr_row, cp _ _ p hp, sMade_5 hp, (d4.1 p hp).1]
  have e10 : ∀ p, p < 12 → (zm_si (zm_si (zm_sr (zm_sr M4 9 (va_cpy (M4.1 63) (M4.1 9) 0 0 12)) 10 (va_cpy (M4.1 64) (M4.1 10) 0 0 12)) 17 dd 0) 1 7 (cl3 (s 3 - T.2.2.2))).1 10 p = sMade s T dd (16 + 8 * p) := fun p hp => by
    rw [zI_si_ne (by decide), zI_si_ne (by decide), zI_sr_row, cp _ _ p hp, sMade_6 hp, (d4.1 p hp).2.1]
  have e7 : (zm_si (zm_si (zm_sr (zm_sr M4 9 (va_cpy (M4.1 63) (M4.1 9) 0 0 12)) 10 (va_cpy (M4.1 64) (M4.1 10) 0 0 12)) 17 dd 0) 1 7 (cl3 (s 3 - T.2.2.2))).1 1 7 = sMade s T dd 3 := by rw [zI_si_eq, sMade_3]
  have e2 : (zm_si (zm_si (zm_sr (zm_sr M4 9 (va_cpy (M4.1 63) (M4.1 9) 0 0 12)) 10 (va_cpy (M4.1 64) (M4.1 10) 0 0 12)) 17 dd 0) 1 7 (cl3 (s 3 - T.2.2.2))).2 = M.2 := f4.2
  generalize (zm_si (zm_si (zm_sr (zm_sr M4 9 (va_cpy (M4.1 63) (M4.1 9) 0 0 12)) 10 (va_cpy (M4.1 64) (M4.1 10) 0 0 12)) 17 dd 0) 1 7 (cl3 (s 3 - T.2.2.2))) = M2 at *
  refine hQ M2 ⟨RN_of ?_ ?_ ?_ e7 ?_ ?_ ?_ (fun j hj => ?_) (fun p w hp hw => ?_) (fun q w hq hw => ?_) (fun j hj => ?_) (fun j hj => ?_), hR.2.1.made (by decide) (by omega) (ft _ (by decide)) (ft _ (by decide)), hR.2.2.made (by decide) (by omega) (ft _ (by decide)) (ft _ (by decide))⟩ ⟨ft, e2⟩
  · rw [ft 2 (by decide), sMade_e (by omega) (by omega) (by omega)]
    exact hR.1 0 2 0 rfl
  · rw [ft 12 (by decide), sMade_e (by omega) (by omega) (by omega)]
    exact hR.1 1 12 0 rfl
  · rw [e1 6 (by decide), sMade_e (by omega) (by omega) (by omega)]
    exact hR.1 2 1 6 rfl
  · rw [ft 18 (by decide), sMade_e (by omega) (by omega) (by omega)]
    exact hR.1 4 18 2 rfl
  · rw [ft 18 (by decide), sMade_e (by omega) (by omega) (by omega)]
    exact hR.1 5 18 3 rfl
  · rw [e1 8 (by decide), sMade_e (by omega) (by omega) (by omega)]
    exact hR.1 6 1 8 rfl
  · rw [ft 29 (by decide), sMade_e (by omega) (by omega) (by omega)]
    exact hR.1 _ _ _ (zmap_law hj)
  · by_cases w5 : w = 5
    · subst w5
      rw [show 10 + 8 * p + 5 = 15 + 8 * p by omega]
      exact e9 p hp
    · by_cases w6 : w = 6
      · subst w6
        rw [show 10 + 8 * p + 6 = 16 + 8 * p by omega]
        exact e10 p hp
      · rw [ft (4 + w) (by simp only [List.mem_cons, List.not_mem_nil, or_false]; omega), sMade_e (by omega) (by omega) (by omega)]
        exact hR.pers hp hw rfl
  · by_cases w3 : w = 3
    · subst w3
      rw [show 106 + 4 * q + 3 = 109 + 4 * q by omega]
      exact e17 q hq
    · rw [ft (14 + w) (by simp only [List.mem_cons, List.not_mem_nil, or_false]; omega), sMade_e (by omega) (by omega) (by omega)]
      exact hR.debt hq hw rfl
  · rw [ft 19 (by decide), sMade_e (by omega) (by omega) (by omega)]
    exact hR.1 _ _ _ (zmap_tape hj)
  · rw [ft 20 (by decide), sMade_e (by omega) (by omega) (by omega)]
    exact hR.1 _ _ _ (zmap_wait hj)
theorem RD.made {M : zm_M} {E : Nat → Int32} {T : zT} {t0 : Int32} {q0 : Nat → Int32} {dd : Nat} (h : RD M E T t0 (E 3) q0) (ho : ∀ q, q < 10 → M.1 83 (109 + 4 * q) = if q = dd then 0 else E (109 + 4 * q)) (hdd : dd < 10) : M.1 83 = sMade E T dd := by
  obtain ⟨h1, h2, h3, -⟩ := h
  funext i
  by_cases i3 : i = 3
  · subst i3
    rw [sMade_3, h3]
  · by_cases io : 106 ≤ i ∧ i < 146 ∧ (i - 106) % 4 = 3
    · have hq := ho ((i - 109) / 4) (by omega)
      rw [show 109 + 4 * ((i - 109) / 4) = i by omega] at hq
      rw [hq]
      by_cases hd : (i - 109) / 4 = dd
      · rw [if_pos hd, show i = 109 + 4 * dd by omega, sMade_o]
      · rw [if_neg hd, sMade_e i3 (by omega) (by omega)]
    · by_cases i5 : 10 ≤ i ∧ i < 106 ∧ (i - 10) % 8 = 5
      · have := (h2 ((i - 10) / 8) (by omega)).1
        rw [← sMade_5 (s := E) (dd := dd) (by omega), show 15 + 8 * ((i - 10) / 8) = i by omega] at this
        exact this
      · by_cases i6 : 10 ≤ i ∧ i < 106 ∧ (i - 10) % 8 = 6
        · have := (h2 ((i - 10) / 8) (by omega)).2.1
          rw [← sMade_6 (s := E) (dd := dd) (by omega), show 16 + 8 * ((i - 10) / 8) = i by omega] at this
          exact this
        · rw [sMade_e i3 (by omega) (by omega)]
          exact h1 i i3 (by omega)
theorem R_made {A N D dd : Nat} {s : Nat → Int32} {M : zm_M} {Q : zm_M → Prop} (h83 : M.1 83 = s) (hE : TE N s) (hD : DE N D s) (h3 : -999999 ≤ s 3 ∧ s 3 ≤ 999999) (hb : TB N (tIni s) 0) (hdd : dd < D) (hQ : ∀ M1, M1.1 83 = sMd s dd → M1.1 82 13 = M.1 82 13 + (tDef s N (tIni s) (s (106 + 4 * dd)).toNatClampNeg (s (107 + 4 * dd))).2.2.2 → zf9 M M1 → Q M1) : zv (A + 27) 156 [.ref 82, .int (zon dd)] M Q := by
  have hD0 := hD.1.1
  have hN0 := hE.1.1
  obtain ⟨⟨w, hw, ew⟩, hs, -⟩ := hD.2 dd hdd
  unfold sMd at hQ
  rw [hE.1.2, zon_n (by omega), ew, zon_n (by omega)] at hQ
  have hr := RD.ini (M := M) (E := s) (fun i _ => by rw [h83]) h3
  refine R_default (A := A) hE h3 hw (by omega) ew rfl hr hb hs (b32j hs) (fun M1 r1 f1 g1 => hQ M1 (r1.made (fun q hq => ?_) (by omega)) r1.2.2.2 f1)
  rw [g1 q hq, h83]
theorem sMd_ok {N D dd : Nat} {s : Nat → Int32} (h : WF s) (hE : TE N s) (hD : DE N D s) (hb : TB N (tIni s) 0) (hdd : dd < D) : WF (sMd s dd) := by
  have hD0 := hD.1.1
  have hN0 := hE.1.1
  obtain ⟨⟨w, hw, ew⟩, hs, -⟩ := hD.2 dd hdd
  unfold sMd
  rw [hE.1.2, zon_n (by omega), ew, zon_n (by omega)]
  exact h.made hE.1.2 (by omega) (TB.dflt hE hb hw hs (b32j hs)) (by omega)
/-- a default made true, in both: what holds between calls holds on -/
theorem Inv.made {M M4 M1 : zm_M} {s2 : Nat → Int32} (h : Inv M) (hR : RT M4 0 s2) (hW : WF s2) (f4 : zfr [1, 9, 10, 17, 23, 24, 59, 60, 61, 62, 63, 64, 65] M M4) (e83 : M1.1 83 = s2) (f1 : ∀ k, k ∉ [82, 83, 85, 88, 89, 90] → M1.1 k = M4.1 k) (g1 : ∀ j, j ≠ 13 → M1.1 82 j = M4.1 82 j) : Inv M1 := by
  refine h.town (s2 := s2) (hR.congr (fun k k1 k2 => f1 k ?_)) hW e83 (fun k hk => ?_) ?_ ?_
  · simp only [List.mem_cons, List.not_mem_nil, or_false]
    omega
  · rw [f1 k (by simp only [List.mem_cons, List.not_mem_nil, or_false]; omega), f4.1 k (by simp only [List.mem_cons, List.not_mem_nil, or_false]; omega)]
  · rw [g1 3 (by decide), f4.1 82 (by decide)]
  · rw [g1 16 (by decide), f4.1 82 (by decide)]
theorem pair_fails {d : Nat} {M : zm_M} {a : Int32} (h : Inv M) : zi (d + 27) 70 [.ref 0, .int a] M (fun v M1 => zi (d + 28) 162 [.ref 82, .int a] M1 (fun w M2 => v = w ∧ Inv M2)) := by
  have hR := h.1.1
  have e12 : M.1 12 0 = M.1 83 1 := hR.1 1 12 0 rfl
  have r83 : ∀ j v, (zm_si M 81 j v).1 83 = M.1 83 := fun j v => zI_si_rne (by decide)
  apply zg_X10_fails (d := d + 25)
  rw [e12]
  rcases h.dcase a with (c1 | ⟨c1, c2, c3⟩) | ⟨N, D, dd, who, rfl, hdd, ⟨c1, c2, c3⟩, hin, hE, hD, hb, h3, hw, ew, hs, e17, ho⟩
  · refine ⟨fun _ => ?_, fun z => absurd c1 z⟩
    apply zg_X11_fails (d := d + 26)
    exact ⟨fun _ => ⟨rfl, h.err1 (by decide)⟩, fun z => absurd c1 z⟩
  · refine ⟨fun z => absurd z c1, fun _ => ⟨fun z => absurd z c2, fun _ => ?_⟩⟩
    apply zg_X11_fails (d := d + 26)
    rw [r83]
    exact ⟨fun z => absurd z c1, fun _ => ⟨fun _ => ⟨rfl, h.err1 (by decide)⟩, fun z => absurd c3 z⟩⟩
  · have i9 : zm_inb (zon (109 + 4 * dd)) 480 = true := by rw [zon_inb (by omega)]; omega
    have hdD : dd < D := by
      have := c2
      rw [hD.1.2, zon_lt (by omega) (by have := hD.1.1; omega)] at this
      exact this
    refine ⟨fun z => absurd z c1, fun _ => ⟨fun _ => ⟨hin, ?_⟩, fun z => absurd c2 z⟩⟩
    rw [zon_n (by omega), e17]
    refine ⟨fun o1 => ?_, fun o1 => ?_⟩
    · refine X_made (A := d) hR hE hD hb hdD (fun M4 r4 f4 => ?_)
      have e83 : M4.1 83 = M.1 83 := f4.1 83 (by decide)
      apply zg_X11_fails (d := d + 26)
      rw [zD3, zon_n (show 109 + 4 * dd < 2000 by omega), e83]
      refine ⟨fun z => absurd z c1, fun _ => ⟨fun z => absurd z c3, fun _ => ⟨i9, fun z => absurd (z.symm.trans o1) (by decide), fun _ => ?_⟩⟩⟩
      refine R_clears (fun M5 f5 g5 c5 p5 => R_made (A := d) ((f5.1 83 (by decide)).trans e83) hE hD h3 hb hdD (fun M1 e1 t1 f1 => ⟨?_, ?_⟩))
      · rw [t1, c5, Int32.zero_add]
      · refine h.made r4 (sMd_ok h.1.2 hE hD hb hdD) f4 e1 (fun k hk => ?_) (fun j hj => ?_)
        · rw [f1.1.1 k (by simp only [List.mem_cons, List.not_mem_nil, or_false] at hk ⊢; omega), f5.1 k (by simp only [List.mem_cons, List.not_mem_nil, or_false] at hk ⊢; omega)]
        · rw [f1.2 j hj, g5 j hj]
    · have o0 : M.1 83 (109 + 4 * dd) = 0 := by rcases ho with z | z; exact z; exact absurd z o1
      apply zg_X11_fails (d := d + 26)
      rw [zD3, zon_n (show 109 + 4 * dd < 2000 by omega), r83]
      exact ⟨fun z => absurd z c1, fun _ => ⟨fun z => absurd z c3, fun _ => ⟨i9, fun _ => ⟨rfl, h.err1 (by decide)⟩, fun z => absurd o0 z⟩⟩⟩

/-! The reference's tries: rows carried, what is paid cleared, a debt in default, all of them. -/
theorem R_cL85 {d : Nat} {Q : zm_M → Prop} : ∀ (n i : Nat) (M : zm_M), i + n = 480 → (∀ j, j < i → M.1 85 j = M.1 83 j) → (∀ M1, zfr [85] M M1 → (∀ j, j < 480 → M1.1 85 j = M.1 83 j) → Q M1) → zt d 115 2 [some (.ref 83), some (.ref 85), some (.int (zon i))] [] M (zPv Q)
  | 0, i, M, hi, h0, hQ => by
    apply zg_X11_carry_r83_85_p2
    refine ⟨fun z => ?_, fun _ => hQ M zfr_rfl (fun j hj => h0 j (by omega))⟩
    rw [zon_ltl (b := 480) (by omega) rfl] at z
    omega
  | n + 1, i, M, hi, h0, hQ => by
    apply zg_X11_carry_r83_85_p2
    have hin : zm_inb (zon i) 480 = true := by rw [zon_inb (by omega)]; omega
    rw [zon_ltl (b := 480) (by omega) rfl, zon_n (by omega), zon_s]
    refine ⟨fun _ => ⟨hin, hin, ?_⟩, fun z => absurd (by omega) z⟩
    refine R_cL85 n (i + 1) _ (by omega) (fun j hj => ?_) (fun M1 f1 g1 => hQ M1 (zfr_trans (zfr_si (by decide)) f1) (fun j hj => ?_))
    · rw [zI_si, if_pos rfl, zI_si_ne (by decide)]
      by_cases hji : j = i
      · rw [if_pos hji, hji]
      · rw [if_neg hji]
        exact h0 j (by omega)
    · rw [g1 j hj, zI_si_ne (by decide)]
theorem R_carry85 {d : Nat} {M : zm_M} {Q : zm_M → Prop} (hQ : ∀ M1, zfr [85] M M1 → (∀ j, j < 480 → M1.1 85 j = M.1 83 j) → Q M1) : zv d 115 [.ref 83, .ref 85] M Q := by
  apply zg_X11_carry_r83_85
  exact R_cL85 480 0 M rfl (fun j hj => absurd hj (Nat.not_lt_zero _)) hQ
theorem R_cL58 {d : Nat} {Q : zm_M → Prop} : ∀ (n i : Nat) (M : zm_M), i + n = 480 → (∀ M1, zfr [83] M M1 → (∀ j, i ≤ j → j < 480 → M1.1 83 j = M.1 85 j) → (∀ j, j < i ∨ 480 ≤ j → M1.1 83 j = M.1 83 j) → Q M1) → zt d 115 2 [some (.ref 85), some (.ref 83), some (.int (zon i))] [] M (zPv Q)
  | 0, i, M, hi, hQ => by
    apply zg_X11_carry_r85_83_p2
    refine ⟨fun z => ?_, fun _ => hQ M zfr_rfl (fun j h1 h2 => by omega) (fun _ _ => rfl)⟩
    rw [zon_ltl (b := 480) (by omega) rfl] at z
    omega
  | n + 1, i, M, hi, hQ => by
    apply zg_X11_carry_r85_83_p2
    have hin : zm_inb (zon i) 480 = true := by rw [zon_inb (by omega)]; omega
    rw [zon_ltl (b := 480) (by omega) rfl, zon_n (by omega), zon_s]
    refine ⟨fun _ => ⟨hin, hin, ?_⟩, fun z => absurd (by omega) z⟩
    refine R_cL58 n (i + 1) _ (by omega) (fun M1 f1 g1 g2 => hQ M1 (zfr_trans (zfr_si (by decide)) f1) (fun j h1 h2 => ?_) (fun j h1 => ?_))
    · by_cases hji : j = i
      · rw [hji, g2 i (by omega), zI_si_eq]
      · rw [g1 j (by omega) h2, zI_si_ne (by decide)]
    · rw [g2 j (by omega), zI_si, if_pos rfl, if_neg (by omega)]
theorem R_carry58 {d : Nat} {M : zm_M} {Q : zm_M → Prop} (hQ : ∀ M1, zfr [83] M M1 → (∀ j, j < 480 → M1.1 83 j = M.1 85 j) → (∀ j, 480 ≤ j → M1.1 83 j = M.1 83 j) → Q M1) : zv d 115 [.ref 85, .ref 83] M Q := by
  apply zg_X11_carry_r85_83
  exact R_cL58 480 0 M rfl (fun M1 f1 g1 g2 => hQ M1 f1 (fun j hj => g1 j (by omega) hj) (fun j hj => g2 j (by omega)))
theorem R_clL {d : Nat} {Q : zm_M → Prop} : ∀ (n i : Nat) (M : zm_M), i + n = 12 → (∀ j, j < i → M.1 90 j = 0) → (∀ M1, zfr [90] M M1 → (∀ j, j < 12 → M1.1 90 j = 0) → Q M1) → zt d 148 7 [some (.ref 82), some (.int (zon i))] [] M (zPv Q)
  | 0, i, M, hi, h0, hQ => by
    apply zg_X11_clears_p7
    refine ⟨fun z => ?_, fun _ => hQ M zfr_rfl (fun j hj => h0 j (by omega))⟩
    rw [zon_ltl (b := 12) (by omega) rfl] at z
    omega
  | n + 1, i, M, hi, h0, hQ => by
    apply zg_X11_clears_p7
    rw [zon_ltl (b := 12) (by omega) rfl, zon_n (by omega), zon_s]
    refine ⟨fun _ => ⟨by rw [zon_inb (by omega)]; omega, ?_⟩, fun z => absurd (by omega) z⟩
    refine R_clL n (i + 1) _ (by omega) (fun j hj => ?_) (fun M1 f1 g1 => hQ M1 (zfr_trans (zfr_si (by decide)) f1) g1)
    rw [zI_si, if_pos rfl]
    by_cases hji : j = i
    · rw [if_pos hji]
    · rw [if_neg hji]
      exact h0 j (by omega)
theorem R_clears {d : Nat} {M : zm_M} {Q : zm_M → Prop} (hQ : ∀ M1, zfr [82, 90] M M1 → (∀ j, j ≠ 13 → M1.1 82 j = M.1 82 j) → M1.1 82 13 = 0 → (∀ j, j < 12 → M1.1 90 j = 0) → Q M1) : zv d 148 [.ref 82] M Q := by
  apply zg_X11_clears
  refine R_clL 12 0 _ rfl (fun j hj => absurd hj (Nat.not_lt_zero _)) (fun M1 f1 g1 => ?_)
  refine hQ M1 (zfr_trans (zfr_si (by decide)) (zfr_sub f1 (by decide))) (fun j hj => ?_) ?_ g1
  · rw [f1.1 82 (by decide), zI_si, if_pos rfl, if_neg hj]
  · rw [f1.1 82 (by decide), zI_si_eq]
/-- where a default begins -/
theorem RD.ini {M : zm_M} {E : Nat → Int32} (h83 : ∀ i, i < 10 ∨ 146 ≤ i ∨ (10 ≤ i ∧ i < 106) ∨ (106 ≤ i ∧ i < 146 ∧ (i - 106) % 4 ≠ 3) → M.1 83 i = E i) (h3 : -999999 ≤ E 3 ∧ E 3 ≤ 999999) : RD M E (tIni E) (M.1 82 13) (E 3) (M.1 90) := by
  refine ⟨fun i i3 hi => h83 i (by omega), fun p hp => ⟨h83 _ (by omega), h83 _ (by omega), ?_⟩, ?_, ?_⟩
  · show M.1 90 p = M.1 90 p + 0
    grind
  · rw [h83 3 (by omega)]
    show E 3 = cl3 (E 3 - 0)
    unfold cl3
    grind
  · show M.1 82 13 = M.1 82 13 + 0
    grind
theorem RD.owed {M : zm_M} {E : Nat → Int32} {T : zT} {t0 o3 v : Int32} {q0 : Nat → Int32} {dd : Nat} (h : RD M E T t0 o3 q0) (hd : dd < 10) : RD (zm_si M 83 (109 + 4 * dd) v) E T t0 o3 q0 := by
  obtain ⟨h1, h2, h3, h4⟩ := h
  refine ⟨fun i i3 hi => ?_, fun p hp => ?_, ?_, ?_⟩
  · rw [zI_si, if_pos rfl, if_neg (by omega)]
    exact h1 i i3 hi
  · rw [zI_si, if_pos rfl, if_neg (by omega), zI_si, if_pos rfl, if_neg (by omega), zI_si_ne (by decide)]
    exact h2 p hp
  · rw [zI_si, if_pos rfl, if_neg (by omega)]
    exact h3
  · rw [zI_si_ne (by decide)]
    exact h4
/-- all is as it was but the default's cells; of the town's row nothing is said -/
def zf9 (M M1 : zm_M) : Prop := zfr [82, 83, 88, 89, 90] M M1 ∧ (∀ j, j ≠ 13 → M1.1 82 j = M.1 82 j)
theorem R_default {A N dd who : Nat} {E : Nat → Int32} {t0 o3 : Int32} {q0 : Nat → Int32} {M : zm_M} {T : zT} {c B : Int32} {Q : zm_M → Prop} (hE : TE N E) (ho : -999999 ≤ o3 ∧ o3 ≤ 999999) (hw : who < N) (hdd : dd < 10) (ew : E (106 + 4 * dd) = zon who) (ec : E (107 + 4 * dd) = c) (hr : RD M E T t0 o3 q0) (hb : TB N T B) (hc : 0 ≤ c ∧ c ≤ 99999) (hB : 0 ≤ B ∧ B ≤ 100000000 - c) (hQ : ∀ M1, RD M1 E (tDef E N T who c) t0 o3 q0 → zf9 M M1 → (∀ q, q < 10 → M1.1 83 (109 + 4 * q) = if q = dd then 0 else M.1 83 (109 + 4 * q)) → Q M1) : zv (A + 27) 156 [.ref 82, .int (zon dd)] M Q := by
  apply zg_X11_defaults (d := A + 26)
  rw [zD3, zD0, zD1, zon_n (show 109 + 4 * dd < 2000 by omega), zon_n (show 106 + 4 * dd < 2000 by omega), zon_n (show 107 + 4 * dd < 2000 by omega)]
  refine ⟨by rw [zon_inb (by omega)]; omega, by rw [zon_inb (by omega)]; omega, by rw [zon_inb (by omega)]; omega, ?_⟩
  have r0 := hr.owed (v := 0) hdd
  rw [r0.1 (106 + 4 * dd) (by omega) (by omega), r0.1 (107 + 4 * dd) (by omega) (by omega), ew, ec]
  refine R_defC hE ho hw r0 hb hc hB (fun M1 r1 f1 => hQ M1 r1 ⟨zfr_trans (zfr_si (by decide)) f1.1, fun j hj => ?_⟩ (fun q hq => ?_))
  · rw [f1.2.1 j hj, zI_si_ne (by decide)]
  · rw [f1.2.2 q hq, zI_si, if_pos rfl]
    by_cases hqd : q = dd
    · rw [if_pos hqd, if_pos (by omega)]
    · rw [if_neg hqd, if_neg (by omega)]
theorem zf9_trans {A B C : zm_M} (h : zf9 A B) (h2 : zf9 B C) : zf9 A C := ⟨zfr_trans h.1 h2.1, fun j hj => (h2.2 j hj).trans (h.2 j hj)⟩
theorem R_allL {A N D : Nat} {E : Nat → Int32} {t0 o3 : Int32} {q0 : Nat → Int32} {Q : zm_M → Prop} (hE : TE N E) (hD : DE N D E) (ho : -999999 ≤ o3 ∧ o3 ≤ 999999) : ∀ (n i : Nat) (M : zm_M) (T : zT), i + n = D → RD M E T t0 o3 q0 → TB N T (zK i) → (∀ q, i ≤ q → q < 10 → M.1 83 (109 + 4 * q) = E (109 + 4 * q)) → (∀ M1, RD M1 E (tAll E N n i T) t0 o3 q0 → zf9 M M1 → Q M1) → zt (A + 28) 157 2 [some (.ref 82), some (.int (zon i))] [] M (zPv Q)
  | 0, i, M, T, hi, hr, hb, hO, hQ => by
    have hD0 := hD.1.1
    apply zg_X11_allDefault_p2 (d := A + 27)
    rw [show M.1 83 1 = zon D from (hr.1 1 (by omega) (by omega)).trans hD.1.2, zon_lt (by omega) (by omega)]
    exact ⟨fun z => absurd z (by omega), fun _ => hQ M hr ⟨zfr_rfl, fun _ _ => rfl⟩⟩
  | n + 1, i, M, T, hi, hr, hb, hO, hQ => by
    have hD0 := hD.1.1
    have hN := hE.1.1
    obtain ⟨⟨w, hw, ew⟩, hs, -⟩ := hD.2 i (by omega)
    have k1 := zK_rng (k := i) (by omega)
    have ks := zK_s (k := i)
    rw [tAll] at hQ
    apply zg_X11_allDefault_p2 (d := A + 27)
    rw [show M.1 83 1 = zon D from (hr.1 1 (by omega) (by omega)).trans hD.1.2, zon_lt (by omega) (by omega), zD3, zon_n (show 109 + 4 * i < 2000 by omega), hO i (by omega) (by omega), zon_s]
    refine ⟨fun _ => ⟨by rw [zon_inb (by omega)]; omega, fun z => ?_, fun z => ?_⟩, fun z => absurd (by omega) z⟩
    · rw [if_pos z, ew, zon_n (by omega)] at hQ
      refine R_default (A := A) hE ho hw (by omega) ew rfl hr hb hs (b32e k1 hs) (fun M1 r1 f1 g1 => ?_)
      refine R_allL hE hD ho n (i + 1) M1 _ (by omega) r1 ((TB.dflt hE hb hw hs (b32e k1 hs)).mono (b32f k1 ks hs)) (fun q h1 h2 => ?_) (fun M2 r2 f2 => hQ M2 r2 (zf9_trans f1 f2))
      rw [g1 q h2, if_neg (by omega)]
      exact hO q (by omega) h2
    · rw [if_neg z] at hQ
      exact R_allL hE hD ho n (i + 1) M T (by omega) hr (hb.mono (b32f0 k1 ks)) (fun q h1 h2 => hO q (by omega) h2) hQ
theorem R_all {A N D : Nat} {E : Nat → Int32} {t0 o3 : Int32} {q0 : Nat → Int32} {M : zm_M} {T : zT} {Q : zm_M → Prop} (hE : TE N E) (hD : DE N D E) (ho : -999999 ≤ o3 ∧ o3 ≤ 999999) (hr : RD M E T t0 o3 q0) (hb : TB N T 0) (hO : ∀ q, q < 10 → M.1 83 (109 + 4 * q) = E (109 + 4 * q)) (hQ : ∀ M1, RD M1 E (tAll E N D 0 T) t0 o3 q0 → zf9 M M1 → Q M1) : zv (A + 28) 157 [.ref 82] M Q := by
  apply zg_X11_allDefault
  exact R_allL hE hD ho D 0 M T (by omega) hr hb (fun q _ h => hO q h) hQ
/-- after a try: all is as it was, but what is told of it -/
def zfT (M M1 : zm_M) (T : zT) : Prop := zfr [82, 85, 88, 89, 90] M M1 ∧ (∀ j, j ≠ 13 → M1.1 82 j = M.1 82 j) ∧ M1.1 82 13 = T.2.2.2 ∧ (∀ p, p < 12 → M1.1 90 p = T.2.2.1 p)
theorem R_tryEnd {d : Nat} {E : Nat → Int32} {T : zT} {o3 : Int32} {q0 : Nat → Int32} {M M7 : zm_M} {Q : zm_M → Prop} (h83 : M.1 83 = E) (h85 : ∀ j, j < 480 → M7.1 85 j = E j) (f : zfr [82, 83, 85, 88, 89, 90] M M7) (f82 : ∀ j, j ≠ 13 → M7.1 82 j = M.1 82 j) (hr : RD M7 E T 0 o3 q0) (hq : ∀ p, p < 12 → q0 p = 0) (hQ : ∀ M1, zfT M M1 T → Q M1) : zv d 115 [.ref 85, .ref 83] M7 Q := by
  refine R_carry58 (fun M1 f1 g1 g2 => hQ M1 ⟨⟨fun k hk => ?_, f1.2.trans f.2⟩, fun j hj => ?_, ?_, fun p hp => ?_⟩)
  · by_cases h : k = 83
    · subst h
      funext j
      rw [h83]
      by_cases hj : j < 480
      · rw [g1 j hj, h85 j hj]
      · rw [g2 j (by omega)]
        exact hr.1 j (by omega) (by omega)
    · have h1 : k ∉ [83] := by simp [h]
      have h2 : k ∉ [82, 83, 85, 88, 89, 90] := by
        simp only [List.mem_cons, List.not_mem_nil, or_false, not_or] at hk ⊢
        exact ⟨hk.1, h, hk.2⟩
      rw [f1.1 k h1, f.1 k h2]
  · rw [f1.1 82 (by decide)]
    exact f82 j hj
  · rw [f1.1 82 (by decide), hr.2.2.2]
    grind
  · rw [f1.1 90 (by decide), (hr.2.1 p hp).2.2, hq p hp]
    grind
theorem R_tryBeg {d : Nat} {E : Nat → Int32} {M : zm_M} {Q : zm_M → Prop} (h83 : M.1 83 = E) (h3 : -999999 ≤ E 3 ∧ E 3 ≤ 999999) (hQ : ∀ M4, RD M4 E (tIni E) 0 (E 3) (M4.1 90) → (∀ p, p < 12 → M4.1 90 p = 0) → (∀ j, j < 480 → M4.1 85 j = E j) → M4.1 83 = E → zfr [82, 85, 90] M M4 → (∀ j, j ≠ 13 → M4.1 82 j = M.1 82 j) → Q M4) : zv d 115 [.ref 83, .ref 85] M (fun M1 => zv d 148 [.ref 82] M1 Q) := by
  refine R_carry85 (fun M1 f1 g1 => R_clears (fun M4 f4 g4 c4 p4 => ?_))
  have e83 : M4.1 83 = E := by rw [f4.1 83 (by decide), f1.1 83 (by decide), h83]
  have hr := RD.ini (M := M4) (E := E) (fun i _ => by rw [e83]) h3
  rw [c4] at hr
  refine hQ M4 hr p4 (fun j hj => ?_) e83 (zfr_trans (zfr_sub f1 (by decide)) (zfr_sub f4 (by decide))) (fun j hj => ?_)
  · rw [f4.1 85 (by decide), g1 j hj, h83]
  · rw [g4 j hj, f1.1 82 (by decide)]
theorem R_tries {A N dd who : Nat} {E : Nat → Int32} {M : zm_M} {c : Int32} {Q : zm_M → Prop} (hE : TE N E) (h83 : M.1 83 = E) (h3 : -999999 ≤ E 3 ∧ E 3 ≤ 999999) (hw : who < N) (hdd : dd < 10) (ew : E (106 + 4 * dd) = zon who) (ec : E (107 + 4 * dd) = c) (hb : TB N (tIni E) 0) (hc : 0 ≤ c ∧ c ≤ 99999) (hQ : ∀ M1, zfT M M1 (tDef E N (tIni E) who c) → Q M1) : zv (A + 28) 171 [.ref 82, .int (zon dd)] M Q := by
  apply zg_X11_tries (d := A + 27)
  refine R_tryBeg h83 h3 (fun M4 r4 p4 h85 _ f4 g4 => ?_)
  refine R_default (A := A) hE h3 hw hdd ew ec r4 hb hc (b32j hc) (fun M7 r7 f7 _ => ?_)
  refine R_tryEnd h83 (fun j hj => ?_) (zfr_trans (zfr_sub f4 (by decide)) (zfr_sub f7.1 (by decide))) (fun j hj => ?_) r7 p4 hQ
  · rw [f7.1.1 85 (by decide)]
    exact h85 j hj
  · rw [f7.2 j hj, g4 j hj]
theorem R_triesAll {A N D : Nat} {E : Nat → Int32} {M : zm_M} {Q : zm_M → Prop} (hE : TE N E) (hD : DE N D E) (h83 : M.1 83 = E) (h3 : -999999 ≤ E 3 ∧ E 3 ≤ 999999) (hb : TB N (tIni E) 0) (hQ : ∀ M1, zfT M M1 (tAll E N D 0 (tIni E)) → Q M1) : zv (A + 29) 175 [.ref 82] M Q := by
  apply zg_X11_triesAll (d := A + 28)
  refine R_tryBeg h83 h3 (fun M4 r4 p4 h85 e83 f4 g4 => ?_)
  refine R_all (A := A) hE hD h3 r4 hb (fun q _ => by rw [e83]) (fun M7 r7 f7 => ?_)
  refine R_tryEnd h83 (fun j hj => ?_) (zfr_trans (zfr_sub f4 (by decide)) (zfr_sub f7.1 (by decide))) (fun j hj => ?_) r7 p4 hQ
  · rw [f7.1.1 85 (by decide)]
    exact h85 j hj
  · rw [f7.2 j hj, g4 j hj]

/-! A new debt, in both. -/
theorem zsr_sr {M : zm_M} {k : Nat} {f g : Nat → Int32} : zm_sr (zm_sr M k f) k g = zm_sr M k g := by
  unfold zm_sr
  congr 1
  funext a
  by_cases h : a = k
  · simp [h]
  · simp [h]
theorem zsi_sr {M : zm_M} {k j : Nat} {f : Nat → Int32} {v : Int32} : zm_si (zm_sr M k f) k j v = zm_sr M k (upd f j v) := by
  show zm_sr (zm_sr M k f) k (upd ((zm_sr M k f).1 k) j v) = _
  rw [zsr_sr, zI_sr_row]
theorem zsi_eq {M : zm_M} {k j : Nat} {v : Int32} : zm_si M k j v = zm_sr M k (upd (M.1 k) j v) := rfl
/-- the state with one debt more -/
def sDebt (s : Nat → Int32) (a b c : Int32) : Nat → Int32 :=
  upd (upd (upd (upd (upd s (106 + 4 * (s 1).toNatClampNeg + 0) a) (106 + 4 * (s 1).toNatClampNeg + 1) b) (106 + 4 * (s 1).toNatClampNeg + 2) c) (106 + 4 * (s 1).toNatClampNeg + 3) 1) 1 (s 1 + 1)
theorem sDebt_off {s : Nat → Int32} {a b c : Int32} {k : Nat} (h : k ≠ 1) (h2 : k < 106 + 4 * (s 1).toNatClampNeg ∨ 109 + 4 * (s 1).toNatClampNeg < k) : sDebt s a b c k = s k := by
  unfold sDebt upd
  rw [if_neg h, if_neg (by omega), if_neg (by omega), if_neg (by omega), if_neg (by omega)]
theorem sDebt_1 {s : Nat → Int32} {a b c : Int32} : sDebt s a b c 1 = s 1 + 1 := by
  unfold sDebt
  exact if_pos rfl
theorem WF.debt {s : Nat → Int32} (h : WF s) {a b c : Int32} (h1 : s 1 < 10) (ha : 0 ≤ a ∧ a < s 0) (hb : 1 ≤ b ∧ b ≤ 99999) (hc : 0 ≤ c ∧ c ≤ 9999) : WF (sDebt s a b c) := by
  have n1 : ¬ s 1 < 0 := by have := h.2.1; grind
  have hq := zcl_lt n1 h1 (n := 10) (by decide)
  have hz := zcl n1
  generalize hqn : (s 1).toNatClampNeg = q at hq hz
  have e : ∀ k, k ≠ 1 → k < 106 + 4 * q ∨ 109 + 4 * q < k → sDebt s a b c k = s k := fun k g1 g2 => sDebt_off g1 (by rw [hqn]; exact g2)
  have d0 : sDebt s a b c (106 + 4 * q) = a := by unfold sDebt upd; rw [hqn, if_neg (by omega), if_neg (by omega), if_neg (by omega), if_neg (by omega), if_pos (by omega)]
  have d1 : sDebt s a b c (107 + 4 * q) = b := by unfold sDebt upd; rw [hqn, if_neg (by omega), if_neg (by omega), if_neg (by omega), if_pos (by omega)]
  have d2 : sDebt s a b c (108 + 4 * q) = c := by unfold sDebt upd; rw [hqn, if_neg (by omega), if_neg (by omega), if_pos (by omega)]
  have d3 : sDebt s a b c (109 + 4 * q) = 1 := by unfold sDebt upd; rw [hqn, if_neg (by omega), if_pos (by omega)]
  have es : (s 1 + 1).toInt = (s 1).toInt + 1 := by
    have := Int32.lt_iff_toInt_lt.mp h1
    simp at this
    simp [Int32.toInt_add, Int.bmod]
    omega
  unfold WF PW DW at h ⊢
  obtain ⟨g1, g2, g3, g4, g5, g6, g7, g8, g9, g10⟩ := h
  simp only [e 0 (by omega) (by omega), e 2 (by omega) (by omega), e 3 (by omega) (by omega), e 4 (by omega) (by omega), e 5 (by omega) (by omega), e 7 (by omega) (by omega), e 8 (by omega) (by omega), e 9 (by omega) (by omega), sDebt_1]
  refine ⟨g1, by grind, g3, g4, g5, g6, g7, fun p hp => ?_, fun r hr => ?_, fun i hi => ?_⟩
  · have hp12 : p < 12 := by
      have := Int32.le_iff_toInt_le.mp g1.2
      simp at this
      omega
    rw [e _ (by omega) (by omega), e _ (by omega) (by omega), e _ (by omega) (by omega), e _ (by omega) (by omega), e _ (by omega) (by omega), e _ (by omega) (by omega), e _ (by omega) (by omega), e _ (by omega) (by omega)]
    exact g8 p hp
  · rw [es] at hr
    by_cases hrq : r = q
    · subst hrq
      rw [d0, d1, d2, d3]
      exact ⟨ha, hb, hc, Or.inr rfl⟩
    · rw [e _ (by omega) (by omega), e _ (by omega) (by omega), e _ (by omega) (by omega), e _ (by omega) (by omega)]
      exact g9 r (by omega)
  · rw [e _ (by omega) (by omega)]
    exact g10 i hi
theorem X_addDebt {d : Nat} {M : zm_M} {s : Nat → Int32} {a b c : Int32} {Q : Int32 → zm_M → Prop} (hR : RT M 0 s) (n1 : ¬ s 1 < 0) (h1 : s 1 < 10) (hQ : ∀ M1 : zm_M, RT M1 0 (sDebt s a b c) → (∀ k, k = 0 ∨ 29 < k → M1.1 k = M.1 k) → M1.2 = M.2 → Q (s 1) M1) : zi d 3 [.ref 12, .int a, .int b, .int c] M Q := by
  have hq := zcl_lt n1 h1 (n := 10) (by decide)
  have hin := zm_inb_of 10 n1 h1 (n := 10) (by decide)
  have e1 : M.1 12 0 = s 1 := hR.1 1 12 0 rfl
  apply zg_X0_add
  rw [e1]
  refine ⟨hin, hin, hin, hin, hQ _ ?_ ?_ rfl⟩
  · have r0 := hR.set (v := a) (zmap_debt hq (w := 0) (by decide)) (by decide) (by omega)
    have r1 := r0.set (v := b) (zmap_debt hq (w := 1) (by decide)) (by decide) (by omega)
    have r2 := r1.set (v := c) (zmap_debt hq (w := 2) (by decide)) (by decide) (by omega)
    have r3 := r2.set (v := 1) (zmap_debt hq (w := 3) (by decide)) (by decide) (by omega)
    exact r3.set (v := s 1 + 1) (k := 1) (c := 12) (j := 0) rfl (by decide) (by decide)
  · intro k hk
    rw [zI_si_rne (by omega), zI_si_rne (by omega), zI_si_rne (by omega), zI_si_rne (by omega), zI_si_rne (by omega)]
theorem R_addDebt {d : Nat} {M : zm_M} {a b c : Int32} {Q : zm_M → Prop} (n1 : ¬ M.1 83 1 < 0) (h1 : M.1 83 1 < 10) (hQ : Q (zm_sr M 83 (sDebt (M.1 83) a b c))) : zv d 159 [.ref 82, .int a, .int b, .int c] M Q := by
  have hq := zcl_lt n1 h1 (n := 10) (by decide)
  obtain ⟨x0, y0⟩ := zix_d 0 (k := 0) n1 h1 (by decide) (by decide)
  obtain ⟨x1, y1⟩ := zix_d 1 (k := 1) n1 h1 (by decide) (by decide)
  obtain ⟨x2, y2⟩ := zix_d 2 (k := 2) n1 h1 (by decide) (by decide)
  obtain ⟨x3, y3⟩ := zix_d 3 (k := 3) n1 h1 (by decide) (by decide)
  apply zg_X11_addDebt
  refine ⟨y0, y1, y2, y3, ?_⟩
  rw [x0, x1, x2, x3]
  generalize hqn : (M.1 83 1).toNatClampNeg = q at hq
  have e : (zm_si (zm_si (zm_si (zm_si M 83 (106 + 4 * q + 0) a) 83 (106 + 4 * q + 1) b) 83 (106 + 4 * q + 2) c) 83 (106 + 4 * q + 3) 1).1 83 1 = M.1 83 1 := by
    rw [zI_si, if_pos rfl, if_neg (by omega), zI_si, if_pos rfl, if_neg (by omega), zI_si, if_pos rfl, if_neg (by omega), zI_si, if_pos rfl, if_neg (by omega)]
  rw [e]
  rw [zsi_eq (M := M), zsi_sr, zsi_sr, zsi_sr, zsi_sr]
  unfold sDebt at hQ
  rw [hqn] at hQ
  exact hQ
theorem pair_debt {d : Nat} {M : zm_M} {a b c : Int32} (h : Inv M) : zi (d + 2) 68 [.ref 0, .int a, .int b, .int c] M (fun v M1 => zi (d + 3) 160 [.ref 82, .int a, .int b, .int c] M1 (fun w M2 => v = w ∧ Inv M2)) := by
  obtain ⟨hR, hW⟩ := h.1
  have b0 := hW.1
  have b1 := hW.2.1
  have e0 : M.1 2 0 = M.1 83 0 := hR.1 0 2 0 rfl
  have e1 : M.1 12 0 = M.1 83 1 := hR.1 1 12 0 rfl
  by_cases hb : ¬ a < 0 ∧ a < M.1 83 0 ∧ ¬ b < 1 ∧ ¬ 99999 < b ∧ ¬ c < 0 ∧ ¬ 9999 < c
  · obtain ⟨c1, c2, c3, c4, c5, c6⟩ := hb
    apply zg_X10_debt
    rw [e0, e1]
    refine ⟨fun z => absurd z c1, fun _ => ⟨fun _ => ⟨fun z => absurd z c3, fun _ => ⟨fun z => absurd z c4, fun _ => ⟨fun z => absurd z c5, fun _ => ⟨fun z => absurd z c6, fun _ => ⟨fun h10 => ?_, fun h10 => ?_⟩⟩⟩⟩⟩, fun z => absurd c2 z⟩⟩
    · have n1 : ¬ M.1 83 1 < 0 := by grind
      refine X_addDebt hR n1 h10 (fun M1 r1 k1 _ => ?_)
      have k83 := k1 83 (by omega)
      apply zg_X11_debt
      rw [k83]
      refine ⟨fun z => absurd z c1, fun _ => ⟨fun z => by grind, fun _ => ⟨fun z => absurd z c3, fun _ => ⟨fun z => absurd z c4, fun _ => ⟨fun z => absurd z c5, fun _ => ⟨fun z => absurd z c6, fun _ => ⟨fun z => by grind, fun _ => ?_⟩⟩⟩⟩⟩⟩⟩
      refine R_addDebt (by rw [k83]; exact n1) (by rw [k83]; exact h10) ?_
      rw [k83, zI_sr_row, sDebt_1]
      refine ⟨by grind, h.town (s2 := sDebt (M.1 83) a b c) ?_ (hW.debt h10 (by grind) (by grind) (by grind)) zI_sr_row (fun k hk => ?_) ?_ ?_⟩
      · exact r1.congr (fun k g1 g2 => by rw [zI_sr_rne (by omega)])
      · rw [zI_sr_rne (by omega), k1 k (by omega)]
      · rw [zI_sr_rne (by decide), k1 82 (by omega)]
      · rw [zI_sr_rne (by decide), k1 82 (by omega)]
    · apply zg_X11_debt
      rw [zI_si_rne (show 83 ≠ 81 by decide)]
      have hi := h.err1 (k := 4) (by decide)
      refine ⟨fun z => absurd z c1, fun _ => ⟨fun z => by grind, fun _ => ⟨fun z => absurd z c3, fun _ => ⟨fun z => absurd z c4, fun _ => ⟨fun z => absurd z c5, fun _ => ⟨fun z => absurd z c6, fun _ => ⟨fun _ => ⟨rfl, hi⟩, fun z => by grind⟩⟩⟩⟩⟩⟩⟩
  · refine X_debt_bad (by rw [e0]; exact hb) (R_debt_bad ?_ ?_ ⟨rfl, h.err1 (by decide)⟩)
    · rw [zI_si_rne (show 83 ≠ 81 by decide)]
      exact b0.1
    · rw [zI_si_rne (show 83 ≠ 81 by decide)]
      exact hb

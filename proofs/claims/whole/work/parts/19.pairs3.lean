/-! Pairs of calls: tell; the law's rules. -/
theorem WF.congr5 {s s2 : Nat → Int32} (h : WF s) (e : ∀ k, k ≠ 5 → k ≠ 6 → k < 146 ∨ (396 ≤ k ∧ k < 456) → s2 k = s k) (h5 : 0 ≤ s2 5 ∧ s2 5 ≤ 24) : WF s2 := by
  unfold WF PW DW at h ⊢
  simp only [e 0 (by decide) (by decide) (by decide), e 1 (by decide) (by decide) (by decide), e 2 (by decide) (by decide) (by decide), e 3 (by decide) (by decide) (by decide), e 4 (by decide) (by decide) (by decide), e 7 (by decide) (by decide) (by decide), e 8 (by decide) (by decide) (by decide), e 9 (by decide) (by decide) (by decide)]
  obtain ⟨g1, g2, g3, g4, g5, g6, g7, g8, g9, g10⟩ := h
  refine ⟨g1, g2, g3, g4, g5, h5, g7, fun p hp => ?_, fun q hq => ?_, fun j hj => ?_⟩
  · have hp12 : p < 12 := by
      have := Int32.le_iff_toInt_le.mp g1.2
      simp at this
      omega
    rw [e _ (by omega) (by omega) (by omega), e _ (by omega) (by omega) (by omega), e _ (by omega) (by omega) (by omega), e _ (by omega) (by omega) (by omega), e _ (by omega) (by omega) (by omega), e _ (by omega) (by omega) (by omega), e _ (by omega) (by omega) (by omega), e _ (by omega) (by omega) (by omega)]
    exact g8 p hp
  · have hq10 : q < 10 := by
      have := Int32.le_iff_toInt_le.mp g2.2
      simp at this
      omega
    rw [e _ (by omega) (by omega) (by omega), e _ (by omega) (by omega) (by omega), e _ (by omega) (by omega) (by omega), e _ (by omega) (by omega) (by omega)]
    exact g9 q hq
  · have hj60 : j < 60 := by
      have := Int32.le_iff_toInt_le.mp g5.2
      simp at this
      omega
    rw [e _ (by omega) (by omega) (by omega)]
    exact g10 j hj
theorem pair_tell {d : Nat} {M : zm_M} {a : Int32} (h : Inv M) : zi (d + 1) 94 [.ref 0, .int a] M (fun v M1 => zi (d + 1) 200 [.ref 82, .int a] M1 (fun w M2 => v = w ∧ Inv M2)) := by
  obtain ⟨hR, hW⟩ := h.1
  have h5 : M.1 18 3 = M.1 83 5 := hR.1 5 18 3 rfl
  have b5 := hW.2.2.2.2.2.1
  apply zg_X10_tell
  rw [h5]
  constructor
  · intro c1
    have n0 : ¬ M.1 83 5 < 0 := by grind
    have hj := zcl_lt n0 c1 (n := 24) (by decide)
    obtain ⟨x1, x2⟩ := zix_1 456 (k := 456) (n := 24) n0 (by have := Int32.lt_iff_toInt_lt.mp c1; simpa using this) (by decide) (by decide)
    refine ⟨zm_inb_of 24 n0 c1 (by decide), ?_⟩
    apply zg_X11_tell
    rw [zI_si_ne (show 83 ≠ 18 by decide), zI_si_ne (show 83 ≠ 20 by decide)]
    refine ⟨fun z => by grind, fun _ => ⟨x2, ?_⟩⟩
    rw [x1]
    generalize hjn : (M.1 83 5).toNatClampNeg = j at hj
    rw [zI_si (k := 83) (k2 := 83) (j2 := 5), if_pos rfl, if_neg (by omega), zI_si_ne (show 83 ≠ 18 by decide), zI_si_ne (show 83 ≠ 20 by decide)]
    refine ⟨rfl, h.town (s2 := upd (upd (M.1 83) (456 + j) a) 5 (M.1 83 5 + 1)) ?_ ?_ ?_ ?_ ?_ ?_⟩
    · have r1 := hR.set (v := a) (zmap_wait hj) (by decide) (by omega)
      have r2 := r1.set (v := M.1 83 5 + 1) (k := 5) (c := 18) (j := 3) rfl (by decide) (by decide)
      exact r2.congr (fun c g1 g2 => by rw [zI_si_rne (by omega), zI_si_rne (by omega)])
    · refine hW.congr5 (fun k k1 k2 k3 => ?_) ?_
      · unfold upd
        rw [if_neg k1, if_neg (by omega)]
      · unfold upd
        rw [if_pos rfl]
        grind
    · rw [zI_si_row, zI_si_row, zI_si_rne (by decide), zI_si_rne (by decide)]
    · intro c hc
      rw [zI_si_rne (by omega), zI_si_rne (by omega), zI_si_rne (by omega), zI_si_rne (by omega)]
    · rw [zI_si_ne (by decide), zI_si_ne (by decide), zI_si_ne (by decide), zI_si_ne (by decide)]
    · rw [zI_si_ne (by decide), zI_si_ne (by decide), zI_si_ne (by decide), zI_si_ne (by decide)]
  · intro c1
    have hi : Inv (zm_si (zm_si M 81 4 (M.1 81 4 + 1)) 86 4 ((zm_si M 81 4 (M.1 81 4 + 1)).1 86 4 + 1)) := h.err (by decide) rfl (by rw [zI_si_ne (by decide)])
    apply zg_X11_tell
    rw [zI_si_ne (show 83 ≠ 81 by decide)]
    exact ⟨fun _ => ⟨rfl, hi⟩, fun z => by grind⟩

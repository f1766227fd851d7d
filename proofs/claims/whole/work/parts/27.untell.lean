/-! Pairs of calls: a text taken back. -/
theorem ztxt_chk : ∀ k, k < 480 → (match zmap k with | some q => (decide (q.1 ≠ 21) && decide (q.1 ≠ 22)) && (decide (q.1 ≠ 25) && decide (q.1 ≠ 26)) && (decide (k < 146) || decide (396 ≤ k)) | none => true) = true := by decide +kernel
theorem ztxt_out {k c j : Nat} (h : zmap k = some (c, j)) : (c ≠ 21 ∧ c ≠ 22 ∧ c ≠ 25 ∧ c ≠ 26) ∧ (k < 146 ∨ 396 ≤ k) := by
  by_cases hk : k < 480
  · have h1 := ztxt_chk k hk
    rw [h] at h1
    simp only [Bool.and_eq_true, Bool.or_eq_true, decide_eq_true_eq] at h1
    exact ⟨⟨h1.1.1.1, h1.1.1.2, h1.1.2.1, h1.1.2.2⟩, h1.2⟩
  · exfalso
    unfold zmap at h
    rw [if_neg (by omega), if_neg (by omega), if_neg (by omega), if_neg (by omega), if_neg (by omega), if_neg (by omega)] at h
    cases h
theorem WF.txt {s s2 : Nat → Int32} (h : WF s) (e : ∀ k, k < 146 ∨ 396 ≤ k → s2 k = s k) : WF s2 := by
  unfold WF PW DW at h ⊢
  simp only [e 0 (by omega), e 1 (by omega), e 2 (by omega), e 3 (by omega), e 4 (by omega), e 5 (by omega), e 7 (by omega), e 8 (by omega), e 9 (by omega)]
  obtain ⟨g1, g2, g3, g4, g5, g6, g7, g8, g9, g10⟩ := h
  have s12 : (s 0).toInt ≤ 12 := by
    have := Int32.le_iff_toInt_le.mp g1.2
    simpa using this
  have s10 : (s 1).toInt ≤ 10 := by
    have := Int32.le_iff_toInt_le.mp g2.2
    simpa using this
  refine ⟨g1, g2, g3, g4, g5, g6, g7, fun i hi => ?_, fun q hq => ?_, fun i hi => ?_⟩
  · rw [e _ (by omega), e _ (by omega), e _ (by omega), e _ (by omega), e _ (by omega), e _ (by omega), e _ (by omega), e _ (by omega)]
    exact g8 i hi
  · rw [e _ (by omega), e _ (by omega), e _ (by omega), e _ (by omega)]
    exact g9 q hq
  · rw [e _ (by omega)]
    exact g10 i hi
theorem RT.txt {M M2 : zm_M} {b u : Nat} {s s2 : Nat → Int32} (hu : u < 2) (h : RT M b s) (e : ∀ k, k ≠ 21 + 4 * u + b → k ≠ 22 + 4 * u + b → 1 + b ≤ k → k ≤ 29 + b → M2.1 k = M.1 k) (es : ∀ k, k < 146 + 125 * u ∨ 271 + 125 * u ≤ k → s2 k = s k) (hx : RX M2 b u s2) : RT M2 b s2 := by
  have hu2 : u = 0 ∨ u = 1 := by omega
  refine ⟨fun k c j hk => ?_, ?_⟩
  · have h1 := ztxt_out hk
    have h2 := zmap_inv hk
    rw [e _ (by omega) (by omega) (by omega) (by omega), es _ (by omega)]
    exact h.1 k c j hk
  · rcases hu2 with rfl | rfl
    · exact ⟨hx, h.2.2.offr (e _ (by omega) (by omega) (by omega) (by omega)) (e _ (by omega) (by omega) (by omega) (by omega)) (fun k h1 h2 => es k (by omega))⟩
    · exact ⟨h.2.1.offr (e _ (by omega) (by omega) (by omega) (by omega)) (e _ (by omega) (by omega) (by omega) (by omega)) (fun k h1 h2 => es k (by omega)), hx⟩
theorem Inv.untell {M : zm_M} (h : Inv M) {u : Nat} (hu : u < 2) : Inv (zm_si (zm_si M (21 + 4 * u) 0 0) 83 (146 + 125 * u) 0) := by
  obtain ⟨hR, hW⟩ := h.1
  refine h.town (s2 := upd (M.1 83) (146 + 125 * u) 0) ?_ (hW.txt (fun k hk => if_neg (by omega))) ?_ (fun c hc => ?_) ?_ ?_
  · refine hR.txt hu (fun k h1 h2 h3 h4 => ?_) (fun k hk => if_neg (by omega)) (Or.inl ⟨?_, if_pos rfl⟩)
    · rw [zI_si_rne (by omega), zI_si_rne (by omega)]
    · rw [zI_si_ne (by omega)]
      exact zI_si_eq
  · rw [zI_si_row, zI_si_rne (by omega)]
  · rw [zI_si_rne (by omega), zI_si_rne (by omega)]
  · rw [zI_si_ne (by omega), zI_si_ne (by omega)]
  · rw [zI_si_ne (by omega), zI_si_ne (by omega)]
theorem RX.pos {M : zm_M} {u : Nat} {s : Nat → Int32} (h : RX M 0 u s) : (M.1 (21 + 4 * u) 0 = 0 ∧ ¬ 0 < s (146 + 125 * u)) ∨ (¬ M.1 (21 + 4 * u) 0 = 0 ∧ 0 < s (146 + 125 * u)) := by
  rcases h with ⟨h1, h2⟩ | ⟨h1, n, h3, h4, h5, h6⟩
  · exact Or.inl ⟨h1, by rw [h2]; decide⟩
  · refine Or.inr ⟨by rw [show M.1 (21 + 4 * u) 0 = 1 from h1]; decide, ?_⟩
    rw [h5, Int32.lt_iff_toInt_lt]
    have := h6.2.1
    simp [Int32.toInt_ofNat, Int.bmod]
    omega
theorem R_untell_good {d : Nat} {M : zm_M} {a : Int32} {u : Nat} {Q : Int32 → zm_M → Prop} (hu : (a = 0 ∧ u = 0) ∨ (a = 1 ∧ u = 1)) (h1 : 0 < M.1 83 (146 + 125 * u) → Q 1 (zm_si M 83 (146 + 125 * u) 0)) (h2 : ¬ 0 < M.1 83 (146 + 125 * u) → Q 0 (zm_si M 83 (146 + 125 * u) 0)) : zi (d + 1) 145 [.ref 82, .int a] M Q := by
  apply zg_X11_untell
  rcases hu with ⟨rfl, rfl⟩ | ⟨rfl, rfl⟩
  · exact ⟨fun z => absurd z (by decide), fun _ => ⟨fun z => absurd z (by decide), fun _ => ⟨by decide, fun z => ⟨by decide, h1 z⟩, fun z => ⟨by decide, h2 z⟩⟩⟩⟩
  · exact ⟨fun z => absurd z (by decide), fun _ => ⟨fun z => absurd z (by decide), fun _ => ⟨by decide, fun z => ⟨by decide, h1 z⟩, fun z => ⟨by decide, h2 z⟩⟩⟩⟩
theorem pair_untell {d : Nat} {M : zm_M} {a : Int32} (h : Inv M) : zi (d + 1) 77 [.ref 0, .int a] M (fun v M1 => zi (d + 1) 145 [.ref 82, .int a] M1 (fun w M2 => v = w ∧ Inv M2)) := by
  obtain ⟨hR, hW⟩ := h.1
  apply zg_X10_untell
  by_cases a0 : a = 0
  · subst a0
    have hx := hR.2.1.pos
    have r83 : ∀ j v, (zm_si M 21 j v).1 83 = M.1 83 := fun j v => zI_si_rne (by decide)
    refine ⟨fun _ => ⟨fun _ => ⟨fun z => ?_, fun z => ?_⟩, fun z => absurd rfl z⟩, fun z => absurd rfl z⟩
    · refine R_untell_good (u := 0) (Or.inl ⟨rfl, rfl⟩) (fun y => ?_) (fun y => ⟨rfl, h.untell (u := 0) (by decide)⟩)
      rw [r83] at y
      exact absurd y (hx.elim (fun q => q.2) (fun q => absurd z q.1))
    · refine R_untell_good (u := 0) (Or.inl ⟨rfl, rfl⟩) (fun y => ⟨rfl, h.untell (u := 0) (by decide)⟩) (fun y => ?_)
      rw [r83] at y
      exact absurd (hx.elim (fun q => absurd q.1 z) (fun q => q.2)) y
  · by_cases a1 : a = 1
    · subst a1
      have hx := hR.2.2.pos
      have r83 : ∀ j v, (zm_si M 25 j v).1 83 = M.1 83 := fun j v => zI_si_rne (by decide)
      refine ⟨fun z => absurd z a0, fun _ => ⟨fun _ => ⟨fun z => absurd z a0, fun _ => ⟨fun z => ?_, fun z => ?_⟩⟩, fun z => absurd rfl z⟩⟩
      · refine R_untell_good (u := 1) (Or.inr ⟨rfl, rfl⟩) (fun y => ?_) (fun y => ⟨rfl, h.untell (u := 1) (by decide)⟩)
        rw [r83] at y
        exact absurd y (hx.elim (fun q => q.2) (fun q => absurd z q.1))
      · refine R_untell_good (u := 1) (Or.inr ⟨rfl, rfl⟩) (fun y => ⟨rfl, h.untell (u := 1) (by decide)⟩) (fun y => ?_)
        rw [r83] at y
        exact absurd (hx.elim (fun q => absurd q.1 z) (fun q => q.2)) y
    · refine ⟨fun z => absurd z a0, fun _ => ⟨fun z => absurd z a1, fun _ => ?_⟩⟩
      apply zg_X11_untell
      have hE : (fun w M2 => ((-1000000000 : Int32) - 1) = w ∧ Inv M2) ((-1000000000) - 1) (zm_si (zm_si M 81 1 (M.1 81 1 + 1)) 86 1 ((zm_si M 81 1 (M.1 81 1 + 1)).1 86 1 + 1)) := ⟨rfl, h.err1 (by decide)⟩
      refine ⟨fun _ => hE, fun c1 => ⟨fun _ => hE, fun c2 => ?_⟩⟩
      exfalso
      grind

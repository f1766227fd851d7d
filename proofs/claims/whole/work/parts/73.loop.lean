/-! The law's loop, over what is left of the script; text and safe are taken as they come. -/
theorem zpairD {d1 d2 D yX yR : Nat} {as1 as2 : List Value} {M : zm_M} {S : Nat × (Nat → Int32)} {Q : Int32 → zm_M → Prop} (h : zi d1 yX as1 M (fun v M1 => zi d2 yR as2 M1 (fun w M2 => v = w ∧ Inv M2))) (h1 : d1 ≤ D) (h2 : d2 ≤ D) (hM : M.2.2.2 = S) (hQ : ∀ (v : Int32) (M1 : zm_M), M1.2.2.2 = S → zi D yR as2 M1 (fun w M2 => v = w ∧ Inv M2 ∧ M2.2.2.2 = S) → Q v M1) : zi D yX as1 M Q :=
  zi.dep (h.keep.mono (fun v M1 g => hQ v M1 (g.2.trans hM) (zi.dep (g.1.keep.mono (fun w M2 z => ⟨z.1.1, z.1.2, z.2.trans (g.2.trans hM)⟩)) h2))) h1
theorem zl.keep {d y : Nat} {as : List Value} {M : zm_M} {Q : Int64 → zm_M → Prop} (h : zl d y as M Q) : zl d y as M (fun x M2 => Q x M2 ∧ M2.2.2.2 = M.2.2.2) := by
  obtain ⟨n, v, M2, h1, h2⟩ := h
  refine ⟨n, v, M2, h1, ?_⟩
  have k := zm_run_keep _ _ _ _ _ _ _ _ _ h1
  cases v with
  | none => exact h2
  | some v =>
    cases v <;> first | exact ⟨h2, k⟩ | exact h2
theorem zl.mon2 {d y : Nat} {as : List Value} {M : zm_M} {Q Q2 : Int64 → zm_M → Prop} (h : zl d y as M Q) (hq : ∀ x M2, Q x M2 → Q2 x M2) : zl d y as M Q2 := by
  obtain ⟨n, v, M2, h1, h2⟩ := h
  refine ⟨n, v, M2, h1, ?_⟩
  cases v with
  | none => exact h2
  | some v =>
    cases v <;> first | exact hq _ _ h2 | exact h2
theorem zpairS {D yX yR : Nat} {as1 as2 : List Value} {M : zm_M} {S : Nat × (Nat → Int32)} {Q : Int64 → zm_M → Prop} (h : zl D yX as1 M (fun v M1 => zl D yR as2 M1 (fun w M2 => v = w ∧ Inv M2))) (hM : M.2.2.2 = S) (hQ : ∀ (v : Int64) (M1 : zm_M), M1.2.2.2 = S → zl D yR as2 M1 (fun w M2 => v = w ∧ Inv M2 ∧ M2.2.2.2 = S) → Q v M1) : zl D yX as1 M Q :=
  h.keep.mon2 (fun v M1 g => hQ v M1 (g.2.trans hM) (g.1.keep.mon2 (fun w M2 z => ⟨z.1.1, z.1.2, z.2.trans (g.2.trans hM)⟩)))
theorem lg_cmp_self {x : Int64} : lg_cmp x x = 0 := by
  unfold lg_cmp
  simp
theorem law_i {i : Nat} (h : i < 2147483648) : (Int32.ofNat i).toInt = i := Int32.toInt_ofNat_of_lt (by omega)
theorem law_j {i j : Nat} {c : Int32} (hc : c = Int32.ofNat j) : Int32.ofNat i + c = Int32.ofNat (i + j) := by
  rw [hc]
  exact (Int32.ofNat_add i j).symm
theorem law_b {i j n : Nat} {c : Int32} (hc : c = Int32.ofNat j) (h : i + j < n) (hn : n < 2147483648) : zm_inb (Int32.ofNat i + c) n = true := by
  unfold zm_inb
  rw [law_j hc, law_i (by omega)]
  simp only [Bool.and_eq_true, decide_eq_true_eq]
  omega
theorem law_b0 {i n : Nat} (h : i < n) (hn : n < 2147483648) : zm_inb (Int32.ofNat i) n = true := by
  unfold zm_inb
  rw [law_i (by omega)]
  simp only [Bool.and_eq_true, decide_eq_true_eq]
  omega
theorem law_s {n : Nat} (hn : n < 2147483648) : (Int32.ofNat n - 6).toInt = (n : Int) - 6 := by
  rw [Int32.toInt_sub, law_i hn, show (6 : Int32).toInt = 6 from rfl, Int.bmod]
  omega
theorem law_g {i n : Nat} (hi : i < 2147483648) (hn : n < 2147483648) : (Int32.ofNat n - 6 < Int32.ofNat i) ↔ n < i + 6 := by
  rw [Int32.lt_iff_toInt_lt, law_i hi, law_s hn]
  omega
theorem law_loop {D : Nat} {S : Nat × (Nat → Int32)} (hT : ∀ (M : zm_M) (a : Int32), Inv M → zi (D + 40) 76 [.ref 0, .int a] M (fun v M1 => zi (D + 40) 144 [.ref 82, .int a] M1 (fun w M2 => v = w ∧ Inv M2))) (hS : ∀ (M : zm_M) (a b : Int32), Inv M → zl (D + 40) 81 [.ref 0, .int a, .int b] M (fun v M1 => zl (D + 40) 177 [.ref 82, .int a, .int b] M1 (fun w M2 => v = w ∧ Inv M2))) (hl : S.1 < 2147483642) : ∀ (n i : Nat) (M : zm_M), S.1 ≤ i + 6 * n + 5 → i ≤ S.1 → Inv M → M.2.2.2 = S → zt (D + 41) 0 18 [some (.ref 120), some (.ref 0), some (.ref 82), some (.int (Int32.ofNat i))] [] M (zPi (fun v _ => v = 1)) := by
  intro n
  induction n with
  | zero =>
    intro i M hn hi hI hM
    apply zg_L_law_r120_p18 (d := D + 40)
    rw [hM]
    exact ⟨fun _ => rfl, fun z => absurd ((law_g (by omega) (by omega)).mpr (by omega)) z⟩
  | succ n ih =>
    intro i M hn hi hI hM
    by_cases hg : S.1 < i + 6
    · apply zg_L_law_r120_p18 (d := D + 40)
      rw [hM]
      exact ⟨fun _ => rfl, fun z => absurd ((law_g (by omega) (by omega)).mpr hg) z⟩
    have nx : ∀ M2, Inv M2 → M2.2.2.2 = S → zt (D + 41) 0 18 [some (.ref 120), some (.ref 0), some (.ref 82), some (.int (Int32.ofNat i + 6))] [] M2 (zPi (fun v _ => v = 1)) := fun M2 h1 h2 => by
      rw [law_j (j := 6) (c := 6) rfl]
      exact ih (i + 6) M2 (by omega) (by omega) h1 h2
    have b0 : zm_inb (Int32.ofNat i) S.1 = true := law_b0 (by omega) (by omega)
    have b1 : zm_inb (Int32.ofNat i + 1) S.1 = true := law_b (j := 1) rfl (by omega) (by omega)
    have b2 : zm_inb (Int32.ofNat i + 2) S.1 = true := law_b (j := 2) rfl (by omega) (by omega)
    have b3 : zm_inb (Int32.ofNat i + 3) S.1 = true := law_b (j := 3) rfl (by omega) (by omega)
    have b4 : zm_inb (Int32.ofNat i + 4) S.1 = true := law_b (j := 4) rfl (by omega) (by omega)
    have b5 : zm_inb (Int32.ofNat i + 5) S.1 = true := law_b (j := 5) rfl (by omega) (by omega)
    clear ih hn
    apply zg_L_law_r120_p18 (d := D + 40)
    rw [hM]
    refine ⟨fun z => absurd ((law_g (by omega) (by omega)).mp z) hg, fun _ => ⟨b0, ?_⟩⟩
    refine ⟨fun _ => ⟨b1, b2, b3, zpairD (pair_person (d := D) hI) (by omega) (by omega) hM (fun v M1 k1 g1 => by rw [k1]; exact ⟨b1, b2, b3, g1.mono (fun w M2 z => ⟨fun _ => nx M2 z.2.1 z.2.2, fun y => absurd z.1 y⟩)⟩)⟩, fun _ => ?_⟩
    refine ⟨fun _ => ⟨b1, b2, zpairD (pair_personIs (d := D) hI) (by omega) (by omega) hM (fun v M1 k1 g1 => by rw [k1]; exact ⟨b1, b2, g1.mono (fun w M2 z => ⟨fun _ => nx M2 z.2.1 z.2.2, fun y => absurd z.1 y⟩)⟩)⟩, fun _ => ?_⟩
    refine ⟨fun _ => ⟨b1, b2, zpairD (pair_as (d := D) hI) (by omega) (by omega) hM (fun v M1 k1 g1 => by rw [k1]; exact ⟨b1, b2, g1.mono (fun w M2 z => ⟨fun _ => nx M2 z.2.1 z.2.2, fun y => absurd z.1 y⟩)⟩)⟩, fun _ => ?_⟩
    refine ⟨fun _ => ⟨b1, b2, b3, zpairD (pair_set (d := D) hI) (by omega) (by omega) hM (fun v M1 k1 g1 => by rw [k1]; exact ⟨b1, b2, b3, g1.mono (fun w M2 z => ⟨fun _ => nx M2 z.2.1 z.2.2, fun y => absurd z.1 y⟩)⟩)⟩, fun _ => ?_⟩
    refine ⟨fun _ => ⟨b1, b2, b3, zpairD (pair_parent (d := D) hI) (by omega) (by omega) hM (fun v M1 k1 g1 => by rw [k1]; exact ⟨b1, b2, b3, g1.mono (fun w M2 z => ⟨fun _ => nx M2 z.2.1 z.2.2, fun y => absurd z.1 y⟩)⟩)⟩, fun _ => ?_⟩
    refine ⟨fun _ => ⟨b1, b2, zpairD (pair_rule (d := D) hI) (by omega) (by omega) hM (fun v M1 k1 g1 => by rw [k1]; exact ⟨b1, b2, g1.mono (fun w M2 z => ⟨fun _ => nx M2 z.2.1 z.2.2, fun y => absurd z.1 y⟩)⟩)⟩, fun _ => ?_⟩
    refine ⟨fun _ => ⟨b1, b2, b3, zpairD (pair_debt (d := D) hI) (by omega) (by omega) hM (fun v M1 k1 g1 => by rw [k1]; exact ⟨b1, b2, b3, g1.mono (fun w M2 z => ⟨fun _ => nx M2 z.2.1 z.2.2, fun y => absurd z.1 y⟩)⟩)⟩, fun _ => ?_⟩
    refine ⟨fun _ => ⟨b1, b2, zpairD (pair_debtIs (d := D) hI) (by omega) (by omega) hM (fun v M1 k1 g1 => by rw [k1]; exact ⟨b1, b2, g1.mono (fun w M2 z => ⟨fun _ => nx M2 z.2.1 z.2.2, fun y => absurd z.1 y⟩)⟩)⟩, fun _ => ?_⟩
    refine ⟨fun _ => ⟨b1, zpairD (pair_fails (d := D) hI) (by omega) (by omega) hM (fun v M1 k1 g1 => by rw [k1]; exact ⟨b1, g1.mono (fun w M2 z => ⟨fun _ => nx M2 z.2.1 z.2.2, fun y => absurd z.1 y⟩)⟩)⟩, fun _ => ?_⟩
    refine ⟨fun _ => ⟨b1, zpairD (pair_settle (d := D) hI) (by omega) (by omega) hM (fun v M1 k1 g1 => by rw [k1]; exact ⟨b1, g1.mono (fun w M2 z => ⟨fun _ => nx M2 z.2.1 z.2.2, fun y => absurd z.1 y⟩)⟩)⟩, fun _ => ?_⟩
    refine ⟨fun _ => ⟨b1, zpairD (pair_days (d := D) hI) (by omega) (by omega) hM (fun v M1 k1 g1 => by rw [k1]; exact ⟨b1, g1.mono (fun w M2 z => ⟨fun _ => nx M2 z.2.1 z.2.2, fun y => absurd z.1 y⟩)⟩)⟩, fun _ => ?_⟩
    refine ⟨fun _ => ⟨b1, zpairD (pair_years (d := D) hI) (by omega) (by omega) hM (fun v M1 k1 g1 => by rw [k1]; exact ⟨b1, g1.mono (fun w M2 z => ⟨fun _ => nx M2 z.2.1 z.2.2, fun y => absurd z.1 y⟩)⟩)⟩, fun _ => ?_⟩
    refine ⟨fun _ => ⟨b1, zpairD (pair_seed (d := D) hI) (by omega) (by omega) hM (fun v M1 k1 g1 => by rw [k1]; exact ⟨b1, g1.mono (fun w M2 z => ⟨fun _ => nx M2 z.2.1 z.2.2, fun y => absurd z.1 y⟩)⟩)⟩, fun _ => ?_⟩
    refine ⟨fun _ => ⟨b1, b2, b3, zpairD (pair_feed (d := D) hI) (by omega) (by omega) hM (fun v M1 k1 g1 => by rw [k1]; exact ⟨b1, b2, b3, g1.mono (fun w M2 z => ⟨fun _ => nx M2 z.2.1 z.2.2, fun y => absurd z.1 y⟩)⟩)⟩, fun _ => ?_⟩
    refine ⟨fun _ => ⟨b1, zpairD (hT M _ hI) (Nat.le_refl _) (Nat.le_refl _) hM (fun v M1 k1 g1 => by rw [k1]; exact ⟨b1, g1.mono (fun w M2 z => ⟨fun _ => nx M2 z.2.1 z.2.2, fun y => absurd z.1 y⟩)⟩)⟩, fun _ => ?_⟩
    refine ⟨fun _ => ⟨b1, zpairD (pair_untell (d := D) hI) (by omega) (by omega) hM (fun v M1 k1 g1 => by rw [k1]; exact ⟨b1, g1.mono (fun w M2 z => ⟨fun _ => nx M2 z.2.1 z.2.2, fun y => absurd z.1 y⟩)⟩)⟩, fun _ => ?_⟩
    refine ⟨fun _ => ⟨b1, b2, zpairD (pair_called (d := D) hI) (by omega) (by omega) hM (fun v M1 k1 g1 => by rw [k1]; exact ⟨b1, b2, g1.mono (fun w M2 z => ⟨fun _ => nx M2 z.2.1 z.2.2, fun y => absurd z.1 y⟩)⟩)⟩, fun _ => ?_⟩
    refine ⟨fun _ => ⟨b1, zpairD (pair_lost (d := D) hI) (by omega) (by omega) hM (fun v M1 k1 g1 => by rw [k1]; exact ⟨b1, g1.mono (fun w M2 z => ⟨fun _ => nx M2 z.2.1 z.2.2, fun y => absurd z.1 y⟩)⟩)⟩, fun _ => ?_⟩
    refine ⟨fun _ => ⟨b1, zpairD (pair_bespoke (d := D) hI) (by omega) (by omega) hM (fun v M1 k1 g1 => by rw [k1]; exact ⟨b1, g1.mono (fun w M2 z => ⟨fun _ => nx M2 z.2.1 z.2.2, fun y => absurd z.1 y⟩)⟩)⟩, fun _ => ?_⟩
    refine ⟨fun _ => ⟨b1, b2, zpairS (hS M _ _ hI) hM (fun v M1 k1 g1 => by rw [k1]; exact ⟨b1, b2, g1.mon2 (fun w M2 z => ⟨fun _ => nx M2 z.2.1 z.2.2, fun y => absurd (by rw [z.1]; exact lg_cmp_self) y⟩)⟩)⟩, fun _ => ?_⟩
    refine ⟨fun _ => ⟨b1, zpairD (pair_disown (d := D) hI) (by omega) (by omega) hM (fun v M1 k1 g1 => by rw [k1]; exact ⟨b1, g1.mono (fun w M2 z => ⟨fun _ => nx M2 z.2.1 z.2.2, fun y => absurd z.1 y⟩)⟩)⟩, fun _ => ?_⟩
    refine ⟨fun _ => ⟨b1, zpairD (pair_adopt (d := D) hI) (by omega) (by omega) hM (fun v M1 k1 g1 => by rw [k1]; exact ⟨b1, g1.mono (fun w M2 z => ⟨fun _ => nx M2 z.2.1 z.2.2, fun y => absurd z.1 y⟩)⟩)⟩, fun _ => ?_⟩
    refine ⟨fun _ => zpairD (pair_needs (d := D) hI) (by omega) (by omega) hM (fun v M1 k1 g1 => g1.mono (fun w M2 z => ⟨fun _ => nx M2 z.2.1 z.2.2, fun y => absurd z.1 y⟩)), fun _ => ?_⟩
    refine ⟨fun _ => ⟨b1, b2, b3, zpairD (pair_voice (d := D) hI) (by omega) (by omega) hM (fun v M1 k1 g1 => by rw [k1]; exact ⟨b1, b2, b3, g1.mono (fun w M2 z => ⟨fun _ => nx M2 z.2.1 z.2.2, fun y => absurd z.1 y⟩)⟩)⟩, fun _ => ?_⟩
    refine ⟨fun _ => ⟨b1, zpairD (pair_body (d := D) hI) (by omega) (by omega) hM (fun v M1 k1 g1 => by rw [k1]; exact ⟨b1, g1.mono (fun w M2 z => ⟨fun _ => nx M2 z.2.1 z.2.2, fun y => absurd z.1 y⟩)⟩)⟩, fun _ => ?_⟩
    refine ⟨fun _ => ⟨b1, b2, b3, zpairD (pair_sheet (d := D) hI) (by omega) (by omega) hM (fun v M1 k1 g1 => by rw [k1]; exact ⟨b1, b2, b3, g1.mono (fun w M2 z => ⟨fun _ => nx M2 z.2.1 z.2.2, fun y => absurd z.1 y⟩)⟩)⟩, fun _ => ?_⟩
    refine ⟨fun _ => ⟨b1, b2, b3, zpairD (pair_put (d := D) hI) (by omega) (by omega) hM (fun v M1 k1 g1 => by rw [k1]; exact ⟨b1, b2, b3, g1.mono (fun w M2 z => ⟨fun _ => nx M2 z.2.1 z.2.2, fun y => absurd z.1 y⟩)⟩)⟩, fun _ => ?_⟩
    refine ⟨fun _ => ⟨b1, b2, b3, b4, b5, zpairD (pair_move (d := D) hI) (by omega) (by omega) hM (fun v M1 k1 g1 => by rw [k1]; exact ⟨b1, b2, b3, b4, b5, g1.mono (fun w M2 z => ⟨fun _ => nx M2 z.2.1 z.2.2, fun y => absurd z.1 y⟩)⟩)⟩, fun _ => ?_⟩
    refine ⟨fun _ => ⟨b1, zpairD (pair_debts (d := D) hI) (by omega) (by omega) hM (fun v M1 k1 g1 => by rw [k1]; exact ⟨b1, g1.mono (fun w M2 z => ⟨fun _ => nx M2 z.2.1 z.2.2, fun y => absurd z.1 y⟩)⟩)⟩, fun _ => ?_⟩
    refine ⟨fun _ => ⟨b1, b2, zpairD (pair_judge (d := D) hI) (by omega) (by omega) hM (fun v M1 k1 g1 => by rw [k1]; exact ⟨b1, b2, g1.mono (fun w M2 z => ⟨fun _ => nx M2 z.2.1 z.2.2, fun y => absurd z.1 y⟩)⟩)⟩, fun _ => ?_⟩
    refine ⟨fun _ => zpairD (pair_image (d := D) hI) (by omega) (by omega) hM (fun v M1 k1 g1 => g1.mono (fun w M2 z => ⟨fun _ => nx M2 z.2.1 z.2.2, fun y => absurd z.1 y⟩)), fun _ => ?_⟩
    refine ⟨fun _ => zpairD (pair_restore (d := D) hI) (by omega) (by omega) hM (fun v M1 k1 g1 => g1.mono (fun w M2 z => ⟨fun _ => nx M2 z.2.1 z.2.2, fun y => absurd z.1 y⟩)), fun _ => ?_⟩
    refine ⟨fun _ => ⟨b1, zpairD (pair_tell (d := D) hI) (by omega) (by omega) hM (fun v M1 k1 g1 => by rw [k1]; exact ⟨b1, g1.mono (fun w M2 z => ⟨fun _ => nx M2 z.2.1 z.2.2, fun y => absurd z.1 y⟩)⟩)⟩, fun _ => ?_⟩
    refine ⟨fun _ => ⟨b1, zpairD (pair_check (d := D) hI) (by omega) (by omega) hM (fun v M1 k1 g1 => by rw [k1]; exact ⟨b1, g1.mono (fun w M2 z => ⟨fun _ => nx M2 z.2.1 z.2.2, fun y => absurd z.1 y⟩)⟩)⟩, fun _ => ?_⟩
    refine ⟨fun _ => ⟨b1, zpairD (pair_count (d := D) hI) (by omega) (by omega) hM (fun v M1 k1 g1 => by rw [k1]; exact ⟨b1, g1.mono (fun w M2 z => ⟨fun _ => nx M2 z.2.1 z.2.2, fun y => absurd z.1 y⟩)⟩)⟩, fun _ => ?_⟩
    refine ⟨fun _ => ⟨b1, zpairD (pair_told (d := D) hI) (by omega) (by omega) hM (fun v M1 k1 g1 => by rw [k1]; exact ⟨b1, g1.mono (fun w M2 z => ⟨fun _ => nx M2 z.2.1 z.2.2, fun y => absurd z.1 y⟩)⟩)⟩, fun _ => ?_⟩
    exact nx M hI hM

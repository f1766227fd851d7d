/-! Pairs: check, judge. -/
def ckL (pd wt : Nat → Int32) (W : Nat) : Nat → Nat → Nat → Nat
  | 0, _, i => if i < W then 1 + i else 0
  | n + 1, p, i => if 0 < pd p then (if i < W ∧ wt i = zon p then ckL pd wt W n (p + 1) (i + 1) else 1 + i) else ckL pd wt W n (p + 1) i
theorem X_ckL {d N W : Nat} {pd wt : Nat → Int32} {Q : Int32 → zm_M → Prop} {M : zm_M} (hN : N ≤ 12) (hW : W ≤ 24) (h2 : M.1 2 0 = zon N) (h65 : ∀ p, p < 12 → M.1 65 p = pd p) (h20 : ∀ j, j < 24 → M.1 20 j = wt j) : ∀ (n p i : Nat), p + n = N → i ≤ W → Q (zon (ckL pd wt W n p i)) M → zt d 95 59 [some (.ref 0), none, some (.int (zon W)), none, some (.int (zon i)), some (.int (zon p))] [] M (zPi Q) := by
  intro n
  have e1 : ∀ i, 1 + zon i = zon (1 + i) := fun i => zon_add (a := 1)
  induction n with
  | zero =>
    intro p i hp hi hQ
    apply zg_X10_check_p59
    rw [h2, zon_lt (by omega) (by omega), zon_lt (by omega) (by omega), e1]
    rw [ckL] at hQ
    refine ⟨fun z => absurd z (by omega), fun _ => ⟨fun z => ?_, fun z => ?_⟩⟩
    · rw [if_pos z] at hQ
      exact hQ
    · rw [if_neg z] at hQ
      exact hQ
  | succ n ih =>
    intro p i hp hi hQ
    apply zg_X10_check_p59
    rw [h2, zon_lt (by omega) (by omega), zon_lt (by omega) (by omega), e1, zon_n (show p < 2000 by omega), zon_n (show i < 2000 by omega), h65 p (by omega), zon_s (a := p), zon_s (a := i)]
    rw [ckL] at hQ
    refine ⟨fun _ => ⟨by rw [zon_inb (by omega)]; omega, fun y => ⟨fun z => ⟨by rw [zon_inb (by omega)]; omega, ?_⟩, fun z => ?_⟩, fun y => ?_⟩, fun z => absurd (by omega) z⟩
    · rw [if_pos y] at hQ
      rw [h20 i (by omega)]
      refine ⟨fun x => ?_, fun x => ?_⟩
      · rw [if_pos ⟨z, x⟩] at hQ
        exact ih (p + 1) (i + 1) (by omega) (by omega) hQ
      · rw [if_neg (fun u => x u.2)] at hQ
        exact hQ
    · rw [if_pos y, if_neg (fun u => z u.1)] at hQ
      exact hQ
    · rw [if_neg y] at hQ
      exact ih (p + 1) i (by omega) hi hQ
theorem R_ckL {d N W : Nat} {pd wt : Nat → Int32} {Q : Int32 → zm_M → Prop} {M : zm_M} (hN : N ≤ 12) (hW : W ≤ 24) (h2 : M.1 83 0 = zon N) (h65 : ∀ p, p < 12 → M.1 90 p = pd p) (h20 : ∀ j, j < 24 → M.1 83 (456 + j) = wt j) : ∀ (n p i : Nat), p + n = N → i ≤ W → Q (zon (ckL pd wt W n p i)) M → zt d 201 44 [some (.ref 82), none, some (.int (zon W)), none, some (.int (zon i)), some (.int 1), some (.int (zon p))] [] M (zPi Q) := by
  intro n
  have e1 : ∀ i, 1 + zon i = zon (1 + i) := fun i => zon_add (a := 1)
  have e4 : ∀ i, 456 + zon i = zon (456 + i) := fun i => zon_add (a := 456)
  have bad : ∀ (p i : Nat), p ≤ N → i ≤ W → Q (zon (1 + i)) M → zt d 201 44 [some (.ref 82), none, some (.int (zon W)), none, some (.int (zon i)), some (.int 0), some (.int (zon p))] [] M (zPi Q) := fun p i hp hi hQ => by
    apply zg_X11_check_p44
    rw [e1]
    exact ⟨fun _ => ⟨fun _ => ⟨fun _ => hQ, fun z => absurd rfl z⟩, fun z => absurd rfl z⟩, fun _ => ⟨fun _ => hQ, fun z => absurd rfl z⟩⟩
  have n10 : ¬ (1 : Int32) = 0 := by decide
  induction n with
  | zero =>
    intro p i hp hi hQ
    apply zg_X11_check_p44
    rw [h2, zon_lt (by omega) (by omega), zon_inj (by omega) (by omega), e1]
    rw [ckL] at hQ
    refine ⟨fun z => absurd z (by omega), fun _ => ⟨fun z => absurd z n10, fun _ => ⟨fun z => ?_, fun z => ?_⟩⟩⟩
    · rw [if_neg (by omega)] at hQ
      exact hQ
    · rw [if_pos (by omega)] at hQ
      exact hQ
  | succ n ih =>
    intro p i hp hi hQ
    apply zg_X11_check_p44
    rw [h2, zon_lt (by omega) (by omega), zon_lt (by omega) (by omega), e4, zon_n (show p < 2000 by omega), zon_n (show 456 + i < 2000 by omega), h65 p (by omega), zon_s (a := p), zon_s (a := i), Int32.add_zero]
    rw [ckL] at hQ
    refine ⟨fun _ => ⟨fun z => absurd z n10, fun _ => ⟨by rw [zon_inb (by omega)]; omega, fun y => ⟨fun z => ⟨by rw [zon_inb (by omega)]; omega, ?_⟩, fun z => ?_⟩, fun y => ?_⟩⟩, fun z => absurd (by omega) z⟩
    · rw [if_pos y] at hQ
      rw [h20 i (by omega)]
      refine ⟨fun x => ?_, fun x => ?_⟩
      · rw [if_pos ⟨z, x⟩] at hQ
        exact ih (p + 1) (i + 1) (by omega) (by omega) hQ
      · rw [if_neg (fun u => x u.2)] at hQ
        exact bad (p + 1) i (by omega) hi hQ
    · rw [if_pos y, if_neg (fun u => z u.1)] at hQ
      exact bad (p + 1) i (by omega) hi hQ
    · rw [if_neg y] at hQ
      exact ih (p + 1) i (by omega) hi hQ
/-- no number waits any more, in both -/
theorem Inv.w0 {M : zm_M} (h : Inv M) : Inv (zm_si (zm_si M 18 3 0) 83 5 0) := by
  obtain ⟨hR, hW⟩ := h.1
  refine h.town (s2 := upd (M.1 83) 5 0) ?_ ?_ ?_ (fun k hk => ?_) ?_ ?_
  · exact (hR.set (v := 0) (k := 5) (c := 18) (j := 3) rfl (by decide) (by decide)).congr (fun c g1 g2 => by rw [zI_si_rne (by omega)])
  · refine hW.congr5 (fun k k1 k2 k3 => if_neg k1) ?_
    rw [show upd (M.1 83) 5 0 5 = 0 from if_pos rfl]
    decide
  · rw [zI_si_row, zI_si_rne (by decide)]
  · rw [zI_si_rne (by omega), zI_si_rne (by omega)]
  · rw [zI_si_ne (by decide), zI_si_ne (by decide)]
  · rw [zI_si_ne (by decide), zI_si_ne (by decide)]
theorem pair_check {d : Nat} {M : zm_M} {a : Int32} (h : Inv M) : zi (d + 26) 95 [.ref 0, .int a] M (fun v M1 => zi (d + 29) 201 [.ref 82, .int a] M1 (fun w M2 => v = w ∧ Inv M2)) := by
  have hR := h.1.1
  have e12 : M.1 12 0 = M.1 83 1 := hR.1 1 12 0 rfl
  have err : ∀ k, k < 7 → Inv (zm_si (zm_si (zm_si (zm_si M 18 3 0) 81 k (M.1 81 k + 1)) 83 5 0) 86 k ((zm_si (zm_si M 18 3 0) 81 k (M.1 81 k + 1)).1 86 k + 1)) := fun k hk => by
    have h0 := h.w0.err1 hk
    rw [zsi_comm (k := 83) (k2 := 81) (by decide)] at h0
    rw [show (zm_si (zm_si M 18 3 0) 83 5 0).1 81 k = M.1 81 k by rw [zI_si_ne (by decide), zI_si_ne (by decide)]] at h0
    rw [show (zm_si (zm_si (zm_si M 18 3 0) 81 k (M.1 81 k + 1)) 83 5 0).1 86 k = (zm_si (zm_si M 18 3 0) 81 k (M.1 81 k + 1)).1 86 k by rw [zI_si_ne (by decide)]] at h0
    exact h0
  have r83 : ∀ j v, (zm_si (zm_si M 18 3 0) 81 j v).1 83 = M.1 83 := fun j v => by rw [zI_si_rne (by decide), zI_si_rne (by decide)]
  have r9 : ∀ (M' : zm_M) q, (zm_si M' 83 5 0).1 83 (109 + 4 * q) = M'.1 83 (109 + 4 * q) := fun M' q => by rw [zI_si, if_pos rfl, if_neg (by omega)]
  apply zg_X10_check (d := d + 24)
  rw [e12]
  rcases h.dcase a with (c1 | ⟨c1, c2, c3⟩) | ⟨N, D, dd, who, rfl, hdd, ⟨c1, c2, c3⟩, hin, hE0, -, -, h3, hw, ew, hs, e17, ho⟩
  · refine ⟨fun _ => ?_, fun z => absurd c1 z⟩
    apply zg_X11_check (d := d + 26)
    exact ⟨fun _ => ⟨rfl, err 1 (by decide)⟩, fun z => absurd c1 z⟩
  · refine ⟨fun z => absurd z c1, fun _ => ⟨fun z => absurd z c2, fun _ => ?_⟩⟩
    apply zg_X11_check (d := d + 26)
    rw [r83]
    exact ⟨fun z => absurd z c1, fun _ => ⟨fun _ => ⟨rfl, err 1 (by decide)⟩, fun z => absurd c3 z⟩⟩
  · have i9 : zm_inb (zon (109 + 4 * dd)) 480 = true := by rw [zon_inb (by omega)]; omega
    refine ⟨fun z => absurd z c1, fun _ => ⟨fun _ => ⟨hin, ?_⟩, fun z => absurd c2 z⟩⟩
    rw [zon_n (by omega), e17]
    refine ⟨fun o1 => ?_, fun o1 => ?_⟩
    · have hR0 : RT (zm_si M 18 3 0) 0 (upd (M.1 83) 5 0) := hR.set (v := 0) (k := 5) (c := 18) (j := 3) rfl (by decide) (by decide)
      have hW0 : WF (upd (M.1 83) 5 0) := h.1.2.congr5 (fun k k1 k2 k3 => if_neg k1) (by rw [show upd (M.1 83) 5 0 5 = 0 from if_pos rfl]; decide)
      obtain ⟨N, D, hE, hD, hb⟩ := hW0.te hR0.2.1.sx
      have u5 : ∀ i, i ≠ 5 → upd (M.1 83) 5 0 i = M.1 83 i := fun i hi => if_neg hi
      have hwN : who < N := by
        have := c2
        have hdD : dd < D := by
          rw [← u5 1 (by decide), hD.1.2, zon_lt (by omega) (by have := hD.1.1; omega)] at this
          exact this
        obtain ⟨w2, hw2, ew2⟩ := (hD.2 dd hdD).1
        rw [u5 _ (by omega), ew, zon_inj (by have := hE0.1.1; omega) (by have := hE.1.1; omega)] at ew2
        omega
      have ew0 : upd (M.1 83) 5 0 (106 + 4 * dd) = zon who := (u5 _ (by omega)).trans ew
      have ec0 : upd (M.1 83) 5 0 (107 + 4 * dd) = M.1 83 (107 + 4 * dd) := u5 _ (by omega)
      have hN := hE.1.1
      obtain ⟨W, eW, hW24⟩ := zof2 (x := M.1 83 5) (m := 24) (n := 24) h.1.2.2.2.2.2.2.1.1 h.1.2.2.2.2.2.2.1.2 rfl
      rw [show M.1 18 3 = zon W from (hR.1 5 18 3 rfl).trans eW]
      refine X_try (A := d) hR0 hE hwN hdd ew0 ec0 hb hs (fun M4 d4 f4 => ?_)
      refine X_ckL (N := N) (pd := (tDef (upd (M.1 83) 5 0) N (tIni (upd (M.1 83) 5 0)) who (M.1 83 (107 + 4 * dd))).2.2.1) (wt := fun j => M.1 83 (456 + j)) hN hW24 ?_ (fun p hp => (d4.1 p hp).2.2) (fun j hj => ?_) N 0 0 (by omega) (by omega) ?_
      · rw [f4.1 2 (by decide), zI_si_rne (by decide), show M.1 2 0 = M.1 83 0 from hR.1 0 2 0 rfl, ← u5 0 (by decide)]
        exact hE.1.2
      · rw [f4.1 20 (by decide), zI_si_rne (by decide)]
        exact hR.1 _ _ _ (zmap_wait hj)
      · have e83 : M4.1 83 = M.1 83 := by rw [f4.1 83 (by decide), zI_si_rne (by decide)]
        apply zg_X11_check (d := d + 26)
        rw [zD3, zon_n (show 109 + 4 * dd < 2000 by omega), r9, e83, eW]
        refine ⟨fun z => absurd z c1, fun _ => ⟨fun z => absurd z c3, fun _ => ⟨i9, fun z => absurd (z.symm.trans o1) (by decide), fun _ => ?_⟩⟩⟩
        refine R_tries (A := d) (E := upd (M.1 83) 5 0) hE (by rw [zI_si_row, e83]) (by rw [u5 3 (by decide)]; exact h3) hwN hdd ew0 ec0 hb hs (fun M1 f1 => ?_)
        have g83 : M1.1 83 = upd (M.1 83) 5 0 := by rw [f1.1.1 83 (by decide), zI_si_row, e83]
        refine R_ckL (N := N) (pd := (tDef (upd (M.1 83) 5 0) N (tIni (upd (M.1 83) 5 0)) who (M.1 83 (107 + 4 * dd))).2.2.1) (wt := fun j => M.1 83 (456 + j)) hN hW24 ?_ f1.2.2.2 (fun j hj => ?_) N 0 0 (by omega) (by omega) ⟨rfl, ?_⟩
        · rw [g83]
          exact hE.1.2
        · rw [g83]
          exact u5 _ (by omega)
        · refine h.w0.fr (fun k hk => ?_) ?_ ?_
          · have h1 : k ∉ [82, 85, 88, 89, 90] := by
              simp only [List.mem_cons, List.not_mem_nil, or_false] at hk ⊢
              omega
            have h2 : k ∉ [23, 24, 59, 60, 61, 62, 63, 64, 65] := by
              simp only [List.mem_cons, List.not_mem_nil, or_false] at hk ⊢
              omega
            rw [f1.1.1 k h1]
            by_cases k83 : k = 83
            · subst k83
              rw [zI_si_row, zI_si_row, e83, zI_si_rne (by decide)]
            · rw [zI_si_rne k83, zI_si_rne k83, f4.1 k h2]
          · rw [f1.2.1 3 (by decide), zI_si_rne (by decide), f4.1 82 (by decide), zI_si_rne (by decide), zI_si_rne (by decide), zI_si_rne (by decide)]
          · rw [f1.2.1 16 (by decide), zI_si_rne (by decide), f4.1 82 (by decide), zI_si_rne (by decide), zI_si_rne (by decide), zI_si_rne (by decide)]
    · have o0 : M.1 83 (109 + 4 * dd) = 0 := by rcases ho with z | z; exact z; exact absurd z o1
      apply zg_X11_check (d := d + 26)
      rw [zD3, zon_n (show 109 + 4 * dd < 2000 by omega), r9, r83]
      exact ⟨fun z => absurd z c1, fun _ => ⟨fun z => absurd z c3, fun _ => ⟨i9, fun _ => ⟨rfl, err 3 (by decide)⟩, fun z => absurd o0 z⟩⟩⟩

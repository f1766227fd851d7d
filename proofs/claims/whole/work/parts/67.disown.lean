/-! Pair: disown. -/
theorem upd_at {s : Nat → Int32} {a : Nat} {v : Int32} : upd s a v a = v := if_pos rfl
theorem upd_ne {s : Nat → Int32} {a b : Nat} {v : Int32} (h : b ≠ a) : upd s a v b = s b := if_neg h
theorem SX.par {s : Nat → Int32} {a : Nat} {v : Int32} (h : SX 0 s) (ha : a < 146) : SX 0 (upd s a v) := by
  unfold SX at *
  rw [upd_ne (by omega), show (fun k => upd s a v (147 + 125 * 0 + k)) = (fun k => s (147 + 125 * 0 + k)) from funext (fun k => upd_ne (by omega))]
  exact h
theorem TE.par {N k w : Nat} {s : Nat → Int32} {v : Int32} (h : TE N s) (hk : k < 12) (hw : w = 2 ∨ w = 3) (hv : v = -1 ∨ ∃ q, q < N ∧ v = zon q) : TE N (upd s (10 + 8 * k + w) v) := by
  obtain ⟨⟨h1, h2⟩, h3, h4, h5⟩ := h
  refine ⟨⟨h1, by rw [upd_ne (by omega)]; exact h2⟩, by rw [upd_ne (by omega)]; exact h3, fun p hp => ?_, h5.par (by omega)⟩
  obtain ⟨a1, a2, a3, a4, a5⟩ := h4 p hp
  refine ⟨by rw [upd_ne (by omega)]; exact a1, by rw [upd_ne (by omega)]; exact a2, ?_, ?_, by rw [upd_ne (by omega)]; exact a5⟩
  · by_cases e : 12 + 8 * p = 10 + 8 * k + w
    · rw [e, upd_at]
      exact hv
    · rw [upd_ne e]
      exact a3
  · by_cases e : 13 + 8 * p = 10 + 8 * k + w
    · rw [e, upd_at]
      exact hv
    · rw [upd_ne e]
      exact a4
theorem DE.par {N D a : Nat} {s : Nat → Int32} {v : Int32} (h : DE N D s) (h10 : 10 ≤ a) (ha : a < 106) : DE N D (upd s a v) := by
  obtain ⟨⟨h1, h2⟩, h3⟩ := h
  refine ⟨⟨h1, by rw [upd_ne (by omega)]; exact h2⟩, fun q hq => ?_⟩
  rw [upd_ne (by omega), upd_ne (by omega), upd_ne (by omega)]
  exact h3 q hq
theorem tIni_par {k w : Nat} {s : Nat → Int32} {v : Int32} (hw : w = 2 ∨ w = 3) : tIni (upd s (10 + 8 * k + w) v) = tIni s := by
  unfold tIni
  rw [show (fun p => upd s (10 + 8 * k + w) v (15 + 8 * p)) = (fun p => s (15 + 8 * p)) from funext (fun p => upd_ne (by omega)), show (fun p => upd s (10 + 8 * k + w) v (16 + 8 * p)) = (fun p => s (16 + 8 * p)) from funext (fun p => upd_ne (by omega))]
theorem XE.par {k w : Nat} {M : zm_M} {s : Nat → Int32} {v : Int32} (h : XE M s) (hk : k < 12) (hw : w = 2 ∨ w = 3) : XE (zm_si M (58 + w) k v) (upd s (10 + 8 * k + w) v) := by
  obtain ⟨h1, h2, h3, h4⟩ := h
  refine ⟨fun p hp => ?_, ?_, fun j hj => ?_, ?_⟩
  · obtain ⟨a1, a2, a3, a4, a5⟩ := h1 p hp
    refine ⟨?_, ?_, by rw [zI_si_ne (by omega), upd_ne (by omega)]; exact a3, by rw [zI_si_ne (by omega), upd_ne (by omega)]; exact a4, by rw [zI_si_ne (by omega), upd_ne (by omega)]; exact a5⟩
    · by_cases e : 12 + 8 * p = 10 + 8 * k + w
      · have e2 : w = 2 := by omega
        have e3 : p = k := by omega
        subst e2
        subst e3
        rw [e, upd_at, zI_si_eq]
      · rw [upd_ne e, zI_si]
        by_cases e2 : 60 = 58 + w
        · rw [if_pos e2, if_neg (by omega), ← e2]
          exact a1
        · rw [if_neg e2]
          exact a1
    · by_cases e : 13 + 8 * p = 10 + 8 * k + w
      · have e2 : w = 3 := by omega
        have e3 : p = k := by omega
        subst e2
        subst e3
        rw [e, upd_at, zI_si_eq]
      · rw [upd_ne e, zI_si]
        by_cases e2 : 61 = 58 + w
        · rw [if_pos e2, if_neg (by omega), ← e2]
          exact a2
        · rw [if_neg e2]
          exact a2
  · rw [zI_si_ne (by omega), upd_ne (by omega)]
    exact h2
  · rw [zI_si_ne (by omega), upd_ne (by omega)]
    exact h3 j hj
  · exact h4.offr (zI_si_rne (by omega)) (zI_si_rne (by omega)) (fun i h1 h2 => upd_ne (by omega))
theorem XD.par {k w : Nat} {M : zm_M} {T : zT} {v : Int32} (h : XD M T) (hw : w = 2 ∨ w = 3) : XD (zm_si M (58 + w) k v) T := by
  obtain ⟨h1, h2⟩ := h
  refine ⟨fun p hp => ?_, ?_⟩
  · rw [zI_si_ne (by omega), zI_si_ne (by omega), zI_si_ne (by omega)]
    exact h1 p hp
  · rw [zI_si_ne (by omega)]
    exact h2
theorem YE.par {k w : Nat} {M : zm_M} {s : Nat → Int32} {v : Int32} (h : YE M s) (hk : k < 12) (hw : w = 2 ∨ w = 3) : YE (zm_si M (58 + w) k v) (upd s (10 + 8 * k + w) v) := by
  obtain ⟨h1, h2⟩ := h
  refine ⟨fun q hq => ?_, ?_⟩
  · rw [zI_si_ne (by omega), zI_si_ne (by omega), zI_si_ne (by omega), upd_ne (by omega), upd_ne (by omega), upd_ne (by omega)]
    exact h1 q hq
  · rw [zI_si_ne (by omega), upd_ne (by omega)]
    exact h2
/-- which tie is cut -/
def cutW (s : Nat → Int32) (k p : Nat) : Nat := if s (12 + 8 * k) = zon p then 2 else 3
theorem cutW_23 {s : Nat → Int32} {k p : Nat} : cutW s k p = 2 ∨ cutW s k p = 3 := by
  unfold cutW
  split
  · exact Or.inl rfl
  · exact Or.inr rfl
def dsV (s : Nat → Int32) (N D p k : Nat) : Int32 := (tAll (upd s (10 + 8 * k + cutW s k p) (-1)) N D 0 (tIni s)).2.2.1 p
def dsL (s : Nat → Int32) (N D p : Nat) : Nat → Nat → Int32 → Int32 → Int32
  | 0, _, best, _ => best
  | n + 1, k, best, least => if s (12 + 8 * k) = zon p ∨ s (13 + 8 * k) = zon p then (if best = -1 ∨ dsV s N D p k < least then dsL s N D p n (k + 1) (zon k) (dsV s N D p k) else dsL s N D p n (k + 1) best least) else dsL s N D p n (k + 1) best least
theorem neg1_lt {b : Int32} (h : b = -1 ∨ ∃ q, q < 12 ∧ b = zon q) : b < 0 ↔ b = -1 := by
  rcases h with h | ⟨q, hq, h⟩
  · rw [h]
    exact ⟨fun _ => rfl, fun _ => by decide⟩
  · rw [h]
    refine ⟨fun z => absurd z (zon_nn (by omega)), fun z => ?_⟩
    have := zon_nn (a := q) (by omega)
    rw [z] at this
    exact absurd (by decide) this
theorem X_dsL {A N D p : Nat} {s : Nat → Int32} {M0 : zm_M} {Q : Int32 → zm_M → Prop} (hR : RT M0 0 s) (hE : TE N s) (hD : DE N D s) (hW : WF s) (hb : TB N (tIni s) 0) (hp : p < 12) : ∀ (n k : Nat) (best least : Int32) (M : zm_M), k + n = N → zfr [23, 24, 59, 60, 61, 62, 63, 64, 65] M0 M → (best = -1 ∨ ∃ q, q < 12 ∧ best = zon q) → (∀ M1, zfr [23, 24, 59, 60, 61, 62, 63, 64, 65] M0 M1 → (dsL s N D p n k best least = -1 → Q (-1000000000 - 2) (zm_si M1 81 2 (M1.1 81 2 + 1))) ∧ (¬ dsL s N D p n k best least = -1 → Q (dsL s N D p n k best least) M1)) → zt (A + 27) 82 30 [some (.ref 0), some (.int (zon p)), some (.ref 2), some (.int best), some (.int least), some (.int (zon k))] [] M (zPi Q) := by
  intro n
  have hN := hE.1.1
  have pin : zm_inb (zon p) 12 = true := by rw [zon_inb (by omega)]; omega
  induction n with
  | zero =>
    intro k best least M hk f0 hbst hQ
    apply zg_X10_disown_p30_s2 (d := A + 26)
    have e2 : M.1 2 0 = zon N := by rw [f0.1 2 (by decide)]; exact (hR.1 0 2 0 rfl).trans hE.1.2
    rw [e2, zon_lt (by omega) (by omega)]
    obtain ⟨q1, q2⟩ := hQ M f0
    exact ⟨fun z => absurd z (by omega), fun _ => ⟨fun z => q1 ((neg1_lt hbst).mp z), fun z => q2 (fun y => z ((neg1_lt hbst).mpr y))⟩⟩
  | succ n ih =>
    intro k best least M hk f0 hbst hQ
    have hRM : RT M 0 s := hR.cg (fun c h1 h2 h3 h4 h5 => f0.1 c (by simp only [List.mem_cons, List.not_mem_nil, or_false]; omega))
    have kin : zm_inb (zon k) 12 = true := by rw [zon_inb (by omega)]; omega
    have hFX : FX M N s := hRM.fx hE.1.2
    have nb : best < 0 ↔ best = -1 := neg1_lt hbst
    have hkb : (zon k = -1 ∨ ∃ q, q < 12 ∧ zon k = zon q) := Or.inr ⟨k, by omega, rfl⟩
    -- what follows when a tie is cut
    have go : ∀ (w : Nat), w = cutW s k p → (s (12 + 8 * k) = zon p ∨ s (13 + 8 * k) = zon p) → ∀ M7, XE M7 s → XD M7 (tIni s) → YE M7 s → zfr [23, 24, 59, 60, 61, 62, 63, 64, 65] M0 M7 → zv (A + 26) 52 [.ref 59] (zm_si M7 (58 + w) k (-1)) (fun M6 => (best < (0 : Int32) → zm_inb (zon p) 12 = true ∧ (zt (A + 27) 82 30 [some (.ref 0), some (.int (zon p)), some (.ref 2), some (.int (zon k)), some (.int (M6.1 65 p)), some (.int (zon (k + 1)))] [] M6 (zPi Q))) ∧ (¬ best < (0 : Int32) → zm_inb (zon p) 12 = true ∧ (((M6.1 65 p) < least → zm_inb (zon p) 12 = true ∧ (zt (A + 27) 82 30 [some (.ref 0), some (.int (zon p)), some (.ref 2), some (.int (zon k)), some (.int (M6.1 65 p)), some (.int (zon (k + 1)))] [] M6 (zPi Q))) ∧ (¬ (M6.1 65 p) < least → zt (A + 27) 82 30 [some (.ref 0), some (.int (zon p)), some (.ref 2), some (.int best), some (.int least), some (.int (zon (k + 1)))] [] M6 (zPi Q))))) := fun w hw hpar M7 x7 d7 y7 f7 => by
      have hw23 : w = 2 ∨ w = 3 := hw ▸ cutW_23
      rw [dsL, if_pos hpar] at hQ
      have d7' : XD (zm_si M7 (58 + w) k (-1)) (tIni (upd s (10 + 8 * k + w) (-1))) := by
        rw [tIni_par hw23]
        exact d7.par hw23
      have hb' : TB N (tIni (upd s (10 + 8 * k + w) (-1))) 0 := by
        rw [tIni_par hw23]
        exact hb
      refine X_all (A := A) (hE.par (by omega) hw23 (Or.inl rfl)) (hD.par (by omega) (by omega)) (x7.par (by omega) hw23) d7' (y7.par (by omega) hw23) hb' (fun M6 d6 f6 => ?_)
      have e65 : M6.1 65 p = dsV s N D p k := by
        rw [(d6.1 p hp).2.2, tIni_par hw23, hw]
        rfl
      have f60 : zfr [23, 24, 59, 60, 61, 62, 63, 64, 65] M0 M6 := zfr_trans (zfr_trans f7 (zfr_si (by rcases hw23 with h | h <;> subst h <;> decide))) (zfr_sub f6 (by decide))
      rw [e65]
      refine ⟨fun z => ⟨pin, ?_⟩, fun z => ⟨pin, fun y => ⟨pin, ?_⟩, fun y => ?_⟩⟩
      · rw [if_pos (Or.inl (nb.mp z))] at hQ
        exact ih (k + 1) _ _ M6 (by omega) f60 hkb hQ
      · rw [if_pos (Or.inr y)] at hQ
        exact ih (k + 1) _ _ M6 (by omega) f60 hkb hQ
      · rw [if_neg (fun u => u.elim (fun u1 => z (nb.mpr u1)) y)] at hQ
        exact ih (k + 1) _ _ M6 (by omega) f60 hbst hQ
    apply zg_X10_disown_p30_s2 (d := A + 26)
    rw [hFX.1, zon_lt (by omega) (by omega), zon_n (show k < 2000 by omega), zon_n (show p < 2000 by omega), zon_s]
    refine ⟨fun _ => X_child (by omega) hFX (fun hpar => ⟨fun z => absurd z (by decide), fun _ => ?_⟩) (fun hpar => ⟨fun _ => ?_, fun z => absurd rfl z⟩), fun z => absurd (by omega) z⟩
    · refine X_begin (d := A + 25) hRM (fun M7 x7 d7 f7 => ⟨kin, ?_⟩)
      obtain ⟨a1, a2, -, -, -⟩ := x7.1 k (by omega)
      have f07 : zfr [23, 24, 59, 60, 61, 62, 63, 64, 65] M0 M7 := zfr_trans f0 (zfr_sub f7 (by decide))
      have y7 : YE M7 s := hRM.ye.fr f7 (by decide)
      rw [a1, a2]
      refine ⟨fun z1 => ⟨kin, kin, fun z2 => ?_, fun z2 => ?_⟩, fun z1 => ⟨kin, fun z2 => ⟨kin, ?_⟩, fun z2 => ?_⟩⟩
      · exfalso
        have hk12 : (k : Int) < (s 0).toInt := by
          rw [hE.1.2, zon_i (by omega)]
          omega
        have := (hW.2.2.2.2.2.2.2.1 k hk12).2.2.2.2.1 (z1.trans z2.symm)
        rw [z1] at this
        have h9 := zon_nn (a := p) (by omega)
        rw [this] at h9
        exact h9 (by decide)
      · exact go 2 (by unfold cutW; rw [if_pos z1]) hpar M7 x7 d7 y7 f07
      · exact go 3 (by unfold cutW; rw [if_neg z1]) hpar M7 x7 d7 y7 f07
      · exact absurd hpar (fun z => z.elim z1 z2)
    · rw [dsL, if_neg hpar] at hQ
      exact ih (k + 1) _ _ M (by omega) f0 hbst hQ
/-- what the reference's tries leave of all else -/
def zfU (s : Nat → Int32) (M0 M : zm_M) : Prop := zfr [82, 83, 85, 88, 89, 90] M0 M ∧ M.1 83 = s ∧ (∀ j, j ≠ 13 → M.1 82 j = M0.1 82 j)
theorem R_dsL {A N D p : Nat} {s : Nat → Int32} {M0 : zm_M} {Q : Int32 → zm_M → Prop} (hE : TE N s) (hD : DE N D s) (h3 : -999999 ≤ s 3 ∧ s 3 ≤ 999999) (hb : TB N (tIni s) 0) (hp : p < 12) : ∀ (n k : Nat) (best least : Int32) (M : zm_M), k + n = N → zfU s M0 M → (∀ M1, zfU s M0 M1 → (dsL s N D p n k best least = -1 → Q (-1000000000 - 2) (zm_si M1 86 2 (M1.1 86 2 + 1))) ∧ (¬ dsL s N D p n k best least = -1 → Q (dsL s N D p n k best least) M1)) → zt (A + 30) 178 21 [some (.ref 82), some (.int (zon p)), some (.int best), some (.int least), some (.int (zon k)), none] [] M (zPi Q) := by
  intro n
  have hN := hE.1.1
  have pin : zm_inb (zon p) 12 = true := by rw [zon_inb (by omega)]; omega
  induction n with
  | zero =>
    intro k best least M hk f0 hQ
    apply zg_X11_disown_p21 (d := A + 28)
    rw [f0.2.1, hE.1.2, zon_lt (by omega) (by omega)]
    exact ⟨fun z => absurd z (by omega), fun _ => hQ M f0⟩
  | succ n ih =>
    intro k best least M hk f0 hQ
    have i2 : zm_inb (zon (12 + 8 * k)) 480 = true := by rw [zon_inb (by omega)]; omega
    have i3 : zm_inb (zon (13 + 8 * k)) 480 = true := by rw [zon_inb (by omega)]; omega
    have go : ∀ (w a : Nat), w = cutW s k p → a = 10 + 8 * k + w → s a = zon p → zm_inb (zon a) 480 = true → (s (12 + 8 * k) = zon p ∨ s (13 + 8 * k) = zon p) → zv (A + 29) 175 [.ref 82] (zm_si M 83 a (-1)) (fun M6 => zm_inb (zon a) 480 = true ∧ ((best = ((-1) : Int32) → zm_inb (zon p) 12 = true ∧ (zt (A + 30) 178 21 [some (.ref 82), some (.int (zon p)), some (.int (zon k)), some (.int (M6.1 90 p)), some (.int (zon (k + 1))), none] [] (zm_si M6 83 a (zon p)) (zPi Q))) ∧ (¬ best = ((-1) : Int32) → zm_inb (zon p) 12 = true ∧ (((M6.1 90 p) < least → zm_inb (zon p) 12 = true ∧ (zt (A + 30) 178 21 [some (.ref 82), some (.int (zon p)), some (.int (zon k)), some (.int (M6.1 90 p)), some (.int (zon (k + 1))), none] [] (zm_si M6 83 a (zon p)) (zPi Q))) ∧ (¬ (M6.1 90 p) < least → zt (A + 30) 178 21 [some (.ref 82), some (.int (zon p)), some (.int best), some (.int least), some (.int (zon (k + 1))), none] [] (zm_si M6 83 a (zon p)) (zPi Q)))))) := fun w a hw ha hsa ina hpar => by
      have hw23 : w = 2 ∨ w = 3 := hw ▸ cutW_23
      rw [dsL, if_pos hpar] at hQ
      subst ha
      refine R_triesAll (A := A) (E := upd s (10 + 8 * k + w) (-1)) (hE.par (by omega) hw23 (Or.inl rfl)) (hD.par (by omega) (by omega)) (by rw [zI_si_row, f0.2.1]) (by rw [upd_ne (by omega)]; exact h3) (by rw [tIni_par hw23]; exact hb) (fun M6 f6 => ⟨ina, ?_⟩)
      have e90 : M6.1 90 p = dsV s N D p k := by
        rw [f6.2.2.2 p hp, tIni_par hw23, hw]
        rfl
      have fU : zfU s M0 (zm_si M6 83 (10 + 8 * k + w) (zon p)) := by
        refine ⟨zfr_trans (zfr_trans f0.1 (zfr_si (by decide))) (zfr_trans (zfr_sub f6.1 (by decide)) (zfr_si (by decide))), ?_, fun j hj => ?_⟩
        · rw [zI_si_row, f6.1.1 83 (by decide), zI_si_row, f0.2.1]
          funext i
          by_cases hi : i = 10 + 8 * k + w
          · rw [hi, upd_at, hsa]
          · rw [upd_ne hi, upd_ne hi]
        · rw [zI_si_ne (by decide), f6.2.1 j hj, zI_si_ne (by decide), f0.2.2 j hj]
      rw [e90]
      refine ⟨fun z => ⟨pin, ?_⟩, fun z => ⟨pin, fun y => ⟨pin, ?_⟩, fun y => ?_⟩⟩
      · rw [if_pos (Or.inl z)] at hQ
        exact ih (k + 1) _ _ _ (by omega) fU hQ
      · rw [if_pos (Or.inr y)] at hQ
        exact ih (k + 1) _ _ _ (by omega) fU hQ
      · rw [if_neg (fun u => u.elim z y)] at hQ
        exact ih (k + 1) _ _ _ (by omega) fU hQ
    apply zg_X11_disown_p21 (d := A + 28)
    rw [f0.2.1, hE.1.2, zon_lt (by omega) (by omega), zP2, zP3, zon_n (show 12 + 8 * k < 2000 by omega), zon_n (show 13 + 8 * k < 2000 by omega), zon_n (show p < 2000 by omega), zon_s]
    refine ⟨fun _ => ⟨i2, fun z1 => ⟨i2, fun _ => ⟨i2, ?_⟩, fun z => absurd z1 z⟩, fun z1 => ⟨i3, fun z2 => ⟨i2, fun z => absurd z z1, fun _ => ⟨i3, ?_⟩⟩, fun z2 => ?_⟩⟩, fun z => absurd (by omega) z⟩
    · exact go 2 (12 + 8 * k) (by unfold cutW; rw [if_pos z1]) (by omega) z1 i2 (Or.inl z1)
    · exact go 3 (13 + 8 * k) (by unfold cutW; rw [if_neg z1]) (by omega) z2 i3 (Or.inr z2)
    · rw [dsL, if_neg (fun z => z.elim z1 z2)] at hQ
      exact ih (k + 1) _ _ M (by omega) f0 hQ
theorem Inv.tryU {M M4 M1 : zm_M} {s : Nat → Int32} (h : Inv M) (hs : M.1 83 = s) (f4 : zfr [23, 24, 59, 60, 61, 62, 63, 64, 65] M M4) (f1 : zfU s M4 M1) : Inv M1 := by
  refine h.fr (fun k hk => ?_) ?_ ?_
  · have h2 : k ∉ [23, 24, 59, 60, 61, 62, 63, 64, 65] := by
      simp only [List.mem_cons, List.not_mem_nil, or_false] at hk ⊢
      omega
    by_cases h83 : k = 83
    · rw [h83, f1.2.1, hs]
    · have h1 : k ∉ [82, 83, 85, 88, 89, 90] := by
        simp only [List.mem_cons, List.not_mem_nil, or_false] at hk ⊢
        omega
      rw [f1.1.1 k h1, f4.1 k h2]
  · rw [f1.2.2 3 (by decide), f4.1 82 (by decide)]
  · rw [f1.2.2 16 (by decide), f4.1 82 (by decide)]
theorem pair_disown {d : Nat} {M : zm_M} {a : Int32} (h : Inv M) : zi (d + 27) 82 [.ref 0, .int a] M (fun v M1 => zi (d + 30) 178 [.ref 82, .int a] M1 (fun w M2 => v = w ∧ Inv M2)) := by
  have hR := h.1.1
  have e20 : M.1 2 0 = M.1 83 0 := hR.1 0 2 0 rfl
  have r83 : ∀ (M' : zm_M) j v, (zm_si M' 81 j v).1 83 = M'.1 83 := fun M' j v => zI_si_rne (by decide)
  obtain ⟨N, D, hE, hD, hb, h3⟩ := h.te
  have hN := hE.1.1
  apply zg_X10_disown (d := d + 26)
  rw [e20]
  rcases h.pcase a with (g1 | ⟨g1, g2, g3⟩) | ⟨p, rfl, hp, hpN, ⟨g1, g2, g3⟩, pin⟩
  · refine ⟨fun _ => ?_, fun z => absurd g1 z⟩
    apply zg_X11_disown (d := d + 28)
    exact ⟨fun _ => ⟨rfl, h.err1 (by decide)⟩, fun z => absurd g1 z⟩
  · refine ⟨fun z => absurd z g1, fun _ => ⟨fun z => absurd z g2, fun _ => ?_⟩⟩
    apply zg_X11_disown (d := d + 28)
    rw [r83]
    exact ⟨fun z => absurd z g1, fun _ => ⟨fun _ => ⟨rfl, h.err1 (by decide)⟩, fun z => absurd g3 z⟩⟩
  · refine ⟨fun z => absurd z g1, fun _ => ⟨fun _ => ?_, fun z => absurd g2 z⟩⟩
    refine X_dsL (A := d) (M0 := M) hR hE hD h.1.2 hb hp N 0 (-1) 0 M (by omega) zfr_rfl (Or.inl rfl) (fun M4 f4 => ?_)
    have e83 : M4.1 83 = M.1 83 := f4.1 83 (by decide)
    refine ⟨fun z => ?_, fun z => ?_⟩
    · apply zg_X11_disown (d := d + 28)
      rw [r83, e83]
      refine ⟨fun z => absurd z g1, fun _ => ⟨fun z => absurd z g3, fun _ => ?_⟩⟩
      refine R_dsL (A := d) (s := M.1 83) (M0 := zm_si M4 81 2 (M4.1 81 2 + 1)) hE hD h3 hb hp N 0 (-1) 0 _ (by omega) ⟨zfr_rfl, (r83 M4 2 _).trans e83, fun _ _ => rfl⟩ (fun M1 f1 => ⟨fun _ => ⟨rfl, ?_⟩, fun y => absurd z y⟩)
      -- the same as an error told after the tries
      have hI : Inv (zm_si M1 81 2 (M.1 81 2)) := by
        refine h.fr (fun k hk => ?_) ?_ ?_
        · have h2 : k ∉ [23, 24, 59, 60, 61, 62, 63, 64, 65] := by
            simp only [List.mem_cons, List.not_mem_nil, or_false] at hk ⊢
            omega
          by_cases h83 : k = 83
          · rw [h83, zI_si_rne (by decide), f1.2.1]
          · have h1 : k ∉ [82, 83, 85, 88, 89, 90] := by
              simp only [List.mem_cons, List.not_mem_nil, or_false] at hk ⊢
              omega
            by_cases h81 : k = 81
            · subst h81
              rw [zI_si_row, f1.1.1 81 h1, zI_si_row, f4.1 81 h2]
              funext i
              by_cases hi : i = 2
              · rw [hi, upd_at]
              · rw [upd_ne hi, upd_ne hi]
            · rw [zI_si_rne h81, f1.1.1 k h1, zI_si_rne h81, f4.1 k h2]
        · rw [zI_si_ne (by decide), f1.2.2 3 (by decide), zI_si_ne (by decide), f4.1 82 (by decide)]
        · rw [zI_si_ne (by decide), f1.2.2 16 (by decide), zI_si_ne (by decide), f4.1 82 (by decide)]
      have h9 := hI.err1 (k := 2) (by decide)
      have e1 : zm_si (zm_si M1 81 2 (M.1 81 2)) 81 2 ((zm_si M1 81 2 (M.1 81 2)).1 81 2 + 1) = M1 := by
        refine Prod.ext ?_ rfl
        funext c i
        show (zm_si (zm_si M1 81 2 (M.1 81 2)) 81 2 ((zm_si M1 81 2 (M.1 81 2)).1 81 2 + 1)).1 c i = M1.1 c i
        rw [zI_si_eq]
        by_cases hc : c = 81
        · subst hc
          rw [zI_si, if_pos rfl]
          by_cases hi : i = 2
          · rw [if_pos hi, hi, f1.1.1 81 (by decide), zI_si_eq, f4.1 81 (by decide)]
          · rw [if_neg hi, zI_si, if_pos rfl, if_neg hi]
        · rw [zI_si_ne hc, zI_si_ne hc]
      rw [e1] at h9
      exact h9
    · apply zg_X11_disown (d := d + 28)
      rw [e83]
      refine ⟨fun z => absurd z g1, fun _ => ⟨fun z => absurd z g3, fun _ => ?_⟩⟩
      exact R_dsL (A := d) (s := M.1 83) (M0 := M4) hE hD h3 hb hp N 0 (-1) 0 M4 (by omega) ⟨zfr_rfl, e83, fun _ _ => rfl⟩ (fun M1 f1 => ⟨fun y => absurd y z, fun _ => ⟨rfl, h.tryU rfl f4 f1⟩⟩)

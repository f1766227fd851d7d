/-! The class's trials: begin, all debts. -/
def tIni (s : Nat → Int32) : zT := (fun p => s (15 + 8 * p), fun p => s (16 + 8 * p), fun _ => 0, 0)
theorem X_fill65 {d : Nat} {Q : zm_M → Prop} : ∀ (n i : Nat) (M : zm_M), i + n = 12 → (∀ j, j < i → M.1 65 j = 0) → (∀ M1, zfr [65] M M1 → (∀ j, j < 12 → M1.1 65 j = 0) → Q M1) → zt d 213 5 [some (.ref 65), some (.int 0), some (.int (zon i)), some (.int 12)] [] M (zPv Q)
  | 0, i, M, hi, h0, hQ => by
    apply zg_J7_fill_r65_p5
    refine ⟨fun z => ?_, fun _ => hQ M zfr_rfl (fun j hj => h0 j (by omega))⟩
    rw [zon_ltl (b := 12) (by omega) rfl] at z
    omega
  | n + 1, i, M, hi, h0, hQ => by
    apply zg_J7_fill_r65_p5
    rw [zon_ltl (b := 12) (by omega) rfl, zon_n (by omega), zon_s]
    refine ⟨fun _ => ⟨by rw [zon_inb (by omega)]; omega, ?_⟩, fun z => absurd (by omega) z⟩
    refine X_fill65 n (i + 1) _ (by omega) (fun j hj => ?_) (fun M1 f1 g1 => hQ M1 (zfr_trans (zfr_si (by decide)) f1) g1)
    rw [zI_si, if_pos rfl]
    by_cases hji : j = i
    · rw [if_pos hji]
    · rw [if_neg hji]
      exact h0 j (by omega)
theorem RT.pers {M : zm_M} {s : Nat → Int32} (h : RT M 0 s) {p w k : Nat} (hp : p < 12) (hw : w < 8) (hk : 10 + 8 * p + w = k) : M.1 (4 + w) p = s k := by
  subst hk
  exact h.1 _ _ _ (zmap_pers hp hw)
theorem RT.debt {M : zm_M} {s : Nat → Int32} (h : RT M 0 s) {p w k : Nat} (hp : p < 10) (hw : w < 4) (hk : 106 + 4 * p + w = k) : M.1 (14 + w) p = s k := by
  subst hk
  exact h.1 _ _ _ (zmap_debt hp hw)
theorem X_begin {d : Nat} {M : zm_M} {s : Nat → Int32} {Q : zm_M → Prop} (hR : RT M 0 s) (hQ : ∀ M1, XE M1 s → XD M1 (tIni s) → zfr [59, 60, 61, 62, 63, 64, 65] M M1 → Q M1) : zv (d + 1) 48 [.ref 59] M Q := by
  have cp : ∀ (f g : Nat → Int32) (p : Nat), p < 12 → va_cpy f g 0 0 12 p = f p := fun f g p hp => by
    unfold va_cpy
    rw [if_pos (by omega)]
    congr 1
    omega
  apply zg_X8_begin
  apply zg_J7_fill_r65
  refine X_fill65 12 0 _ rfl (fun j hj => absurd hj (Nat.not_lt_zero _)) (fun M1 f1 g1 => ?_)
  have f0 : zfr [59, 60, 61, 62, 63, 64, 65] M (zm_sr (zm_sr (zm_sr (zm_sr (zm_sr M 60 (va_cpy (M.1 6) (M.1 60) 0 0 12)) 61 (va_cpy (M.1 7) (M.1 61) 0 0 12)) 62 (va_cpy (M.1 8) (M.1 62) 0 0 12)) 63 (va_cpy (M.1 9) (M.1 63) 0 0 12)) 64 (va_cpy (M.1 10) (M.1 64) 0 0 12)) := zfr_trans (zfr_trans (zfr_trans (zfr_trans (zfr_sr (by decide)) (zfr_sr (by decide))) (zfr_sr (by decide))) (zfr_sr (by decide))) (zfr_sr (by decide))
  have f2 : zfr [59, 60, 61, 62, 63, 64, 65] M (zm_si M1 59 8 0) := zfr_trans (zfr_trans f0 (zfr_sub f1 (by decide))) (zfr_si (by decide))
  have k60 : ∀ p, p < 12 → M1.1 60 p = M.1 6 p := fun p hp => by
    rw [f1.1 60 (by decide), zI_sr_rne (by decide), zI_sr_rne (by decide), zI_sr_rne (by decide), zI_sr_rne (by decide), zI_sr_row]
    exact cp _ _ p hp
  have k61 : ∀ p, p < 12 → M1.1 61 p = M.1 7 p := fun p hp => by
    rw [f1.1 61 (by decide), zI_sr_rne (by decide), zI_sr_rne (by decide), zI_sr_rne (by decide), zI_sr_row]
    exact cp _ _ p hp
  have k62 : ∀ p, p < 12 → M1.1 62 p = M.1 8 p := fun p hp => by
    rw [f1.1 62 (by decide), zI_sr_rne (by decide), zI_sr_rne (by decide), zI_sr_row]
    exact cp _ _ p hp
  have k63 : ∀ p, p < 12 → M1.1 63 p = M.1 9 p := fun p hp => by
    rw [f1.1 63 (by decide), zI_sr_rne (by decide), zI_sr_row]
    exact cp _ _ p hp
  have k64 : ∀ p, p < 12 → M1.1 64 p = M.1 10 p := fun p hp => by
    rw [f1.1 64 (by decide), zI_sr_row]
    exact cp _ _ p hp
  refine hQ (zm_si M1 59 8 0) ⟨fun p hp => ?_, ?_, fun j hj => ?_, ?_⟩ ⟨fun p hp => ?_, zI_si_eq⟩ f2
  · rw [zI_si_ne (by decide), zI_si_ne (by decide), zI_si_ne (by decide), k60 p hp, k61 p hp, k62 p hp, f2.1 4 (by decide), f2.1 5 (by decide)]
    exact ⟨hR.pers (w := 2) hp (by decide) (by omega), hR.pers (w := 3) hp (by decide) (by omega), hR.pers (w := 4) hp (by decide) (by omega), hR.pers (w := 0) hp (by decide) (by omega), hR.pers (w := 1) hp (by decide) (by omega)⟩
  · rw [f2.1 2 (by decide)]
    exact hR.1 0 2 0 rfl
  · rw [f2.1 29 (by decide)]
    exact hR.1 _ _ _ (zmap_law hj)
  · exact hR.2.1.offr (f2.1 21 (by decide)) (f2.1 22 (by decide)) (fun _ _ _ => rfl)
  · rw [zI_si_ne (by decide), zI_si_ne (by decide), zI_si_ne (by decide), k63 p hp, k64 p hp]
    exact ⟨hR.pers (w := 5) hp (by decide) (by omega), hR.pers (w := 6) hp (by decide) (by omega), g1 p hp⟩
/-- hundreds of thousands -/
def zK (k : Nat) : Int32 := Int32.ofNat (100000 * k)
theorem zK_i {k : Nat} (h : k < 20000) : (zK k).toInt = 100000 * k := by
  unfold zK
  rw [Int32.toInt_ofNat_of_lt (by omega)]
  omega
theorem zK_s {k : Nat} : zK (k + 1) = zK k + 100000 := by
  unfold zK
  rw [show 100000 * (k + 1) = 100000 * k + 100000 by omega, Int32.ofNat_add]
  rfl
theorem zK_rng {k : Nat} (h : k ≤ 11) : 0 ≤ zK k ∧ zK k ≤ 1100000 := by
  rw [Int32.le_iff_toInt_le, Int32.le_iff_toInt_le, zK_i (by omega)]
  rw [show (1100000 : Int32).toInt = 1100000 from rfl]
  simp
  omega
/-- what must hold of the debts -/
def DE (N D : Nat) (E : Nat → Int32) : Prop := (D ≤ 10 ∧ E 1 = zon D) ∧ ∀ q, q < D → (∃ w, w < N ∧ E (106 + 4 * q) = zon w) ∧ (0 ≤ E (107 + 4 * q) ∧ E (107 + 4 * q) ≤ 99999) ∧ (E (109 + 4 * q) = 0 ∨ E (109 + 4 * q) = 1)
def YE (M : zm_M) (E : Nat → Int32) : Prop := (∀ q, q < 10 → M.1 14 q = E (106 + 4 * q) ∧ M.1 15 q = E (107 + 4 * q) ∧ M.1 17 q = E (109 + 4 * q)) ∧ M.1 12 0 = E 1
def tAll (E : Nat → Int32) (N : Nat) : Nat → Nat → zT → zT
  | 0, _, T => T
  | n + 1, i, T => if E (109 + 4 * i) = 1 then tAll E N n (i + 1) (tDef E N T (E (106 + 4 * i)).toNatClampNeg (E (107 + 4 * i))) else tAll E N n (i + 1) T
theorem RT.ye {M : zm_M} {s : Nat → Int32} (h : RT M 0 s) : YE M s := ⟨fun q hq => ⟨h.debt (w := 0) hq (by decide) (by omega), h.debt (w := 1) hq (by decide) (by omega), h.debt (w := 3) hq (by decide) (by omega)⟩, h.1 1 12 0 rfl⟩
theorem YE.fr {M M1 : zm_M} {E : Nat → Int32} {L : List Nat} (h : YE M E) (f : zfr L M M1) (h1 : 14 ∉ L ∧ 15 ∉ L ∧ 17 ∉ L ∧ 12 ∉ L) : YE M1 E := by
  unfold YE at h ⊢
  rw [f.1 14 h1.1, f.1 15 h1.2.1, f.1 17 h1.2.2.1, f.1 12 h1.2.2.2]
  exact h
theorem TB.all {N D : Nat} {E : Nat → Int32} (hE : TE N E) (hD : DE N D E) : ∀ (n i : Nat) (T : zT), i + n = D → TB N T (zK i) → TB N (tAll E N n i T) (zK D)
  | 0, i, T, hi, hb => by
    have e : i = D := by omega
    subst e
    exact hb
  | n + 1, i, T, hi, hb => by
    have hD0 := hD.1.1
    obtain ⟨⟨w, hw, ew⟩, hs, -⟩ := hD.2 i (by omega)
    have k1 := zK_rng (k := i) (by omega)
    have ks := zK_s (k := i)
    rw [tAll]
    split
    · have hN := hE.1.1
      rw [ew, zon_n (by omega)]
      exact TB.all hE hD n (i + 1) _ (by omega) ((TB.dflt hE hb hw hs (b32e k1 hs)).mono (b32f k1 ks hs))
    · exact TB.all hE hD n (i + 1) T (by omega) (hb.mono (b32f0 k1 ks))
theorem X_allL {A N D : Nat} {E : Nat → Int32} {Q : zm_M → Prop} (hE : TE N E) (hD : DE N D E) : ∀ (n i : Nat) (M : zm_M) (T : zT), i + n = D → XE M E → XD M T → YE M E → TB N T (zK i) → (∀ M1, XD M1 (tAll E N n i T) → zfr [23, 24, 59, 63, 64, 65] M M1 → Q M1) → zt (A + 26) 52 2 [some (.ref 59), some (.int (zon i))] [] M (zPv Q)
  | 0, i, M, T, hi, hx, hd, hy, hb, hQ => by
    have hD0 := hD.1.1
    apply zg_X8_failAllOwed_p2 (d := A + 25)
    rw [hy.2, hD.1.2, zon_lt (by omega) (by omega)]
    exact ⟨fun z => absurd z (by omega), fun _ => hQ M hd zfr_rfl⟩
  | n + 1, i, M, T, hi, hx, hd, hy, hb, hQ => by
    have hD0 := hD.1.1
    have hN := hE.1.1
    obtain ⟨⟨w, hw, ew⟩, hs, -⟩ := hD.2 i (by omega)
    obtain ⟨y1, y2, y3⟩ := hy.1 i (by omega)
    have k1 := zK_rng (k := i) (by omega)
    have ks := zK_s (k := i)
    rw [tAll] at hQ
    apply zg_X8_failAllOwed_p2 (d := A + 25)
    rw [hy.2, hD.1.2, zon_lt (by omega) (by omega), zon_n (by omega), y3, zon_s]
    refine ⟨fun _ => ⟨by rw [zon_inb (by omega)]; omega, fun z => ?_, fun z => ?_⟩, fun z => absurd (by omega) z⟩
    · rw [if_pos z, ew, zon_n (by omega)] at hQ
      refine X_failOne (D := A) hE (by omega) hw (y1.trans ew) y2 hx hd hb hs (b32e k1 hs) (fun M1 d1 f1 => ?_)
      exact X_allL hE hD n (i + 1) M1 _ (by omega) (hx.fr f1) d1 (hy.fr f1 (by decide)) ((TB.dflt hE hb hw hs (b32e k1 hs)).mono (b32f k1 ks hs)) (fun M2 d2 f2 => hQ M2 d2 (zfr_trans f1 f2))
    · rw [if_neg z] at hQ
      exact X_allL hE hD n (i + 1) M T (by omega) hx hd hy (hb.mono (b32f0 k1 ks)) hQ
theorem X_all {A N D : Nat} {E : Nat → Int32} {M : zm_M} {T : zT} {Q : zm_M → Prop} (hE : TE N E) (hD : DE N D E) (hx : XE M E) (hd : XD M T) (hy : YE M E) (hb : TB N T 0) (hQ : ∀ M1, XD M1 (tAll E N D 0 T) → zfr [23, 24, 59, 63, 64, 65] M M1 → Q M1) : zv (A + 26) 52 [.ref 59] M Q := by
  apply zg_X8_failAllOwed
  exact X_allL hE hD D 0 M T (by omega) hx hd hy hb hQ
theorem zs12 {x : Int32} (h : 0 ≤ x ∧ x ≤ 12) : ∃ k, x = zon k ∧ k ≤ 12 := zof2 h.1 h.2 rfl
theorem zs10 {x : Int32} (h : 0 ≤ x ∧ x ≤ 10) : ∃ k, x = zon k ∧ k ≤ 10 := zof2 h.1 h.2 rfl
theorem zpar {x : Int32} {N : Nat} (hN : N ≤ 12) (h : -1 ≤ x ∧ x < zon N) : x = -1 ∨ ∃ q, q < N ∧ x = zon q := by
  by_cases hx : x < 0
  · left
    grind
  · right
    obtain ⟨k, hk, hk2⟩ := zof hx h.2 (zon_i (a := N) (by omega))
    exact ⟨k, hk2, hk⟩
theorem WF.te {s : Nat → Int32} (h : WF s) (hx : SX 0 s) : ∃ N D, TE N s ∧ DE N D s ∧ TB N (tIni s) 0 := by
  obtain ⟨g1, g2, g3, g4, g5, g6, g7, g8, g9, g10⟩ := h
  obtain ⟨N, hN, hN2⟩ := zs12 g1
  obtain ⟨D, hD, hD2⟩ := zs10 g2
  rw [hN] at g8
  rw [hD] at g9
  rw [zon_i (by omega)] at g8 g9
  unfold PW at g8
  unfold DW at g9
  rw [hN] at g8 g9
  refine ⟨N, D, ⟨⟨hN2, hN⟩, g7.1, fun p hp => ?_, hx⟩, ⟨⟨hD2, hD⟩, fun q hq => ?_⟩, fun p hp => ?_, Int32.le_refl 0, Int32.le_refl 0⟩
  · obtain ⟨a1, a2, a3, a4, a5, a6, a7, a8, a9⟩ := g8 p (by omega)
    exact ⟨a1, a2, zpar hN2 a3, zpar hN2 a4, a6⟩
  · obtain ⟨a1, a2, a3, a4⟩ := g9 q (by omega)
    obtain ⟨w, hw, hw2⟩ := zof (show ¬ s (106 + 4 * q) < 0 by grind) a1.2 (zon_i (a := N) (by omega))
    exact ⟨⟨w, hw2, hw⟩, ⟨by grind, a2.2⟩, a4⟩
  · obtain ⟨a1, a2, a3, a4, a5, a6, a7, a8, a9⟩ := g8 p (by omega)
    exact ⟨a7, a8⟩

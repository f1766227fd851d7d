/-! SAFE: the reference. -/
abbrev rNo : Option Value := none
def zfV (M0 M : zm_M) : Prop := zfr [82, 83, 85, 88, 89, 90, 91] M0 M ∧ ∀ j, j ≠ 13 → M.1 82 j = M0.1 82 j
theorem zfV_rfl {M : zm_M} : zfV M M := ⟨zfr_rfl, fun _ _ => rfl⟩
theorem zfV_trans {A B C : zm_M} (h : zfV A B) (h2 : zfV B C) : zfV A C := ⟨zfr_trans h.1 h2.1, fun j hj => (h2.2 j hj).trans (h.2 j hj)⟩
theorem zfV_83 {A : zm_M} {j : Nat} {v : Int32} : zfV A (zm_si A 83 j v) := ⟨zfr_si (by decide), fun i _ => by rw [zI_si_ne (by decide)]⟩
theorem zfV_91 {A : zm_M} {j : Nat} {v : Int32} : zfV A (zm_si A 91 j v) := ⟨zfr_si (by decide), fun i _ => by rw [zI_si_ne (by decide)]⟩
theorem R_gatherL {d N dd w : Nat} {s : sSt} {b : Int32} {M0 : zm_M} {Q : Int64 → zm_M → Prop} (hN : N ≤ 12) (e0 : s 0 = zon N) (hdd : dd < 10) (hw : w < 12) (ew : s (106 + 4 * dd) = zon w) (h83 : M0.1 83 = s) (hOk : sCt (sP s w) N ≤ 9 → ∀ M1, zfr [91] M0 M1 → (∀ j, j < N → sP s w j = true → M1.1 91 (sCt (sP s w) j) = zon j) → zt (d + 1) 177 128 [some (.ref 82), some (.int (zon dd)), some (.int b), some (.int (zon (sCt (sP s w) N))), some (.long 0), none, some (.long 1), none, some (.int 0), none, none, none, none, none] [] M1 (zPl Q)) (hEr : 9 < sCt (sP s w) N → ∀ M1, zfr [91] M0 M1 → Q (((-1000000000) - 3 : Int32).toInt64) (zm_si M1 86 3 ((M1.1 86 3) + 1))) : ∀ (n i : Nat) (M : zm_M), i + n = N → sCt (sP s w) i ≤ 9 → zfr [91] M0 M → (∀ j, j < i → sP s w j = true → M.1 91 (sCt (sP s w) j) = zon j) → zt (d + 1) 177 45 [some (.ref 82), some (.int (zon dd)), some (.int b), some (.int (zon (sCt (sP s w) i))), some (.int (zon i)), none, none, none, none, none, none, none, none, none] [] M (zPl Q) := by
  intro n
  induction n with
  | zero =>
    intro i M hi h9 f0 hl
    obtain rfl : i = N := by omega
    apply zg_X11_safe_p45
    rw [f0.1 83 (by decide), h83, e0, zon_lt (by omega) (by omega)]
    exact ⟨fun z => absurd z (by omega), fun _ => hOk h9 M f0 hl⟩
  | succ n ih =>
    intro i M hi h9 f0 hl
    have i0 : zm_inb (zon (106 + 4 * dd)) 480 = true := by rw [zon_inb (by omega)]; omega
    have i4 : zm_inb (zon (14 + 8 * i)) 480 = true := by rw [zon_inb (by omega)]; omega
    have i7 : zm_inb (zon (17 + 8 * i)) 480 = true := by rw [zon_inb (by omega)]; omega
    have no : ¬ sP s w i = true → zt (d + 1) 177 45 [some (.ref 82), some (.int (zon dd)), some (.int b), some (.int (zon (sCt (sP s w) i))), some (.int (zon (i + 1))), none, none, none, none, none, none, none, none, none] [] M (zPl Q) := fun hn => by
      have r := ih (i + 1) M (by omega) (by rw [sCt_s.2 hn]; exact h9) f0 (fun j hj hg => by
        by_cases e : j = i
        · exact absurd (e ▸ hg) hn
        · exact hl j (by omega) hg)
      rw [sCt_s.2 hn] at r
      exact r
    apply zg_X11_safe_p45
    rw [f0.1 83 (by decide), h83, e0, zon_lt (by omega) (by omega), zD0, zP4, zP7, zon_n (show 106 + 4 * dd < 2000 by omega), zon_n (show 14 + 8 * i < 2000 by omega), zon_n (show 17 + 8 * i < 2000 by omega), ew, zon_inj (show i < 2000 by omega) (show w < 2000 by omega), zon_s (a := i), zon_n (show sCt (sP s w) i < 2000 by omega), zon_s (a := sCt (sP s w) i)]
    refine ⟨fun _ => ⟨i0, fun z => no (fun y => (sP_iff.mp y).1 z), fun z1 => ⟨i4, fun z2 => ⟨i7, fun z3 => ?_, fun z => no (fun y => z (sP_iff.mp y).2.2)⟩, fun z => no (fun y => z (sP_iff.mp y).2.1)⟩⟩, fun z => absurd (by omega) z⟩
    have hP : sP s w i = true := sP_iff.mpr ⟨z1, z2, z3⟩
    have c1 := sCt_s.1 hP
    have c2 := sCt_mono (P := sP s w) (p := i + 1) N (by omega)
    refine ⟨fun z => hEr ?_ M f0, fun z => ⟨by rw [zon_inb (by omega)]; exact Nat.lt_of_le_of_ne h9 (fun y => z (by rw [y]; rfl)), ?_⟩⟩
    · have e9 : zon (sCt (sP s w) i) = zon 9 := z
      rw [zon_inj (by omega) (by omega)] at e9
      omega
    · have n9 : sCt (sP s w) i ≠ 9 := fun y => z (by rw [y]; rfl)
      have r := ih (i + 1) (zm_si M 91 (sCt (sP s w) i) (zon i)) (by omega) (by omega) (zfr_trans f0 (zfr_si (by decide))) (fun j hj hg => by
        rw [zI_si, if_pos rfl]
        by_cases e : j = i
        · rw [e, if_pos rfl]
        · have lt := sCt_lt hg (show j < i by omega)
          rw [if_neg (by omega)]
          exact hl j (by omega) hg)
      rw [c1] at r
      exact r
theorem R_tensL {d n : Nat} {dd b : Int32} {M : zm_M} {Q : Int64 → zm_M → Prop} (hn : n ≤ 9) (hQ : zt d 177 151 [some (.ref 82), some (.int dd), some (.int b), some (.int (zon n)), some (.long 0), none, some (.long (zol (10 ^ n))), none, some (.int 0), none, none, none, none, none] [] M (zPl Q)) : ∀ (m i : Nat), i + m = n → zt d 177 128 [some (.ref 82), some (.int dd), some (.int b), some (.int (zon n)), some (.long 0), none, some (.long (zol (10 ^ i))), none, some (.int (zon i)), none, none, none, none, none] [] M (zPl Q) := by
  intro m
  induction m with
  | zero =>
    intro i hi
    obtain rfl : i = n := by omega
    apply zg_X11_safe_p128
    rw [zon_lt (by omega) (by omega)]
    exact ⟨fun z => absurd z (by omega), fun _ => hQ⟩
  | succ m ih =>
    intro i hi
    have r := ih (i + 1) (by omega)
    have e : zol (10 ^ i) * 10 = zol (10 ^ (i + 1)) := by
      rw [Nat.pow_succ]
      exact zol_mul (b := 10)
    apply zg_X11_safe_p128
    rw [zon_lt (by omega) (by omega), e, zon_s]
    exact ⟨fun _ => r, fun z => absurd (by omega) z⟩
def sOff (s : sSt) (F : Nat → Nat) (n : Nat) (X : sSt) : Prop := ∀ k, (∀ j, j < n → k ≠ 14 + 8 * F j) → X k = s k
theorem sOff.upd {s X : sSt} {F : Nat → Nat} {n i : Nat} {v : Int32} (h : sOff s F n X) (hi : i < n) : sOff s F n (upd X (14 + 8 * F i) v) := fun k hk => by
  rw [upd_ne (hk i hi)]
  exact h k hk
theorem R_burL {A N dd w n d : Nat} {s : sSt} {F : Nat → Nat} {c b : Int32} {sm : Nat} {al : Int64} {M0 : zm_M} {Q : Int64 → zm_M → Prop} (hE : TE N s) (h3 : -999999 ≤ s 3 ∧ s 3 ≤ 999999) (hb : TB N (tIni s) 0) (hw : w < N) (hdd : dd < 10) (ew : s (106 + 4 * dd) = zon w) (ec : s (107 + 4 * dd) = c) (hc : 0 ≤ c ∧ c ≤ 99999) (hn : n ≤ 9) (hd : d < 512) (hL : sLF s F n) (hQ : ∀ M1, zfV M0 M1 → sOff s F n (M1.1 83) → (∀ j, j < n → M1.1 91 j = zon (F j)) → zt (A + 29) 177 151 [some (.ref 82), some (.int (zon dd)), some (.int b), some (.int (zon n)), some (.long (zol (sm + sWt (sFr s) F d n * sPh N w c s (sAl F d n s)))), none, some (.long al), none, some (.int (zon (d + 1))), none, none, none, none, none] [] M1 (zPl Q)) : ∀ (m i : Nat) (M : zm_M), i + m = n → zfV M0 M → sOff s F n (M.1 83) → (∀ j, j < n → M.1 91 j = zon (F j)) → (∀ j, j < i → M.1 83 (14 + 8 * F j) = if d.testBit j = true then 0 else 1) → zt (A + 29) 177 165 [some (.ref 82), some (.int (zon dd)), some (.int b), some (.int (zon n)), some (.long (zol sm)), none, some (.long al), none, some (.int (zon d)), some (.long (zol (sWt (sFr s) F d i))), none, some (.int (zon i)), none, none] [] M (zPl Q) := by
  intro m
  induction m with
  | zero =>
    intro i M hi f0 ho h91 hs
    obtain rfl : i = n := by omega
    have e83 : M.1 83 = sAl F d i s := sAl_eq hL.2 hs ho
    have f12 : ∀ j, j < i → F j < 12 := fun j hj => (hL.1 j hj).1
    have of : ∀ k, (∀ j, j < i → k ≠ 14 + 8 * F j) → sAl F d i s k = s k := fun k hk => sAl_off i hk
    apply zg_X11_safe_p165 (d := A + 28)
    rw [zon_lt (by omega) (by omega), zon_s (a := d)]
    refine ⟨fun z => absurd z (by omega), fun _ => ?_⟩
    refine R_tries (A := A) (hE.sal (d := d) i f12) e83 ?_ hw hdd ?_ ?_ (by rw [tIni_sal]; exact hb) hc (fun M1 f1 => ?_)
    · rw [of 3 (fun j hj => by omega)]
      exact h3
    · rw [of _ (fun j hj => by have := f12 j hj; omega)]
      exact ew
    · rw [of _ (fun j hj => by have := f12 j hj; omega)]
      exact ec
    · have e13 : (M1.1 82 13).toInt64 = zol (sPh N w c s (sAl F d i s)) := by
        rw [f1.2.2.1]
        exact sPh_try hE hb hw hc f12
      rw [e13, zol_mul, zol_add]
      refine hQ M1 (zfV_trans f0 ⟨zfr_sub f1.1 (by decide), f1.2.1⟩) ?_ (fun j hj => by rw [f1.1.1 91 (by decide)]; exact h91 j hj)
      rw [f1.1.1 83 (by decide)]
      exact ho
  | succ m ih =>
    intro i M hi f0 ho h91 hs
    have hi2 : i < n := by omega
    obtain ⟨f1, f2, f3⟩ := hL.1 i hi2
    have i9 : zm_inb (zon i) 9 = true := by rw [zon_inb (by omega)]; omega
    have i4 : zm_inb (zon (14 + 8 * F i)) 480 = true := by rw [zon_inb (by omega)]; omega
    have i7 : zm_inb (zon (17 + 8 * F i)) 480 = true := by rw [zon_inb (by omega)]; omega
    have fl := sFr_le (s := s) (p := F i)
    have x17 : M.1 83 (17 + 8 * F i) = zon (sFr s (F i)) := by rw [ho _ (fun j hj => by omega)]; exact f3
    have wt : sWt (sFr s) F d (i + 1) = sWt (sFr s) F d i * (if d.testBit i = true then sFr s (F i) else 10 - sFr s (F i)) := rfl
    have nx : ∀ v, (v = if d.testBit i = true then (0 : Int32) else 1) → zt (A + 29) 177 165 [some (.ref 82), some (.int (zon dd)), some (.int b), some (.int (zon n)), some (.long (zol sm)), none, some (.long al), none, some (.int (zon d)), some (.long (zol (sWt (sFr s) F d (i + 1)))), none, some (.int (zon (i + 1))), none, none] [] (zm_si M 83 (14 + 8 * F i) v) (zPl Q) := fun v hv => by
      refine ih (i + 1) (zm_si M 83 (14 + 8 * F i) v) (by omega) (zfV_trans f0 zfV_83) (by rw [zI_si_row]; exact ho.upd hi2) (fun j hj => by rw [zI_si_ne (by decide)]; exact h91 j hj) (fun j hj => ?_)
      rw [zI_si_row]
      by_cases e : j = i
      · rw [e, upd_at, hv]
      · rw [upd_ne (by have := hL.2 i j hi2 (by omega) e; omega)]
        exact hs j (by omega)
    apply zg_X11_safe_p165 (d := A + 28)
    rw [zon_lt (by omega) (by omega), zon_n (show i < 2000 by omega), h91 i hi2, zP4, zP7, zon_n (show 14 + 8 * F i < 2000 by omega), zon_n (show 17 + 8 * F i < 2000 by omega), x17, zon_10 _ (by omega), zon_l (by omega), zon_l (by omega), zol_mul, zol_mul, zon_s (a := i)]
    refine ⟨fun _ => ⟨fun z => ⟨i9, i7, i9, i4, ?_⟩, fun z => ⟨i9, i7, i9, i4, ?_⟩⟩, fun z => absurd hi2 z⟩
    · have b1 := (bt_tst1 (by omega)).mp z
      rw [bt_zon d hd i (by omega)] at b1
      rw [if_pos b1] at wt
      rw [← wt]
      exact nx 0 (by rw [if_pos b1])
    · have b0 : ¬ d.testBit i = true := fun y => z ((bt_tst1 (by omega)).mpr (by rw [bt_zon d hd i (by omega)]; exact y))
      rw [if_neg b0] at wt
      rw [← wt]
      exact nx 1 (by rw [if_neg b0])
theorem R_sumL {A N dd w n : Nat} {s : sSt} {F : Nat → Nat} {c b : Int32} {al : Int64} {M0 : zm_M} {Q : Int64 → zm_M → Prop} (hE : TE N s) (h3 : -999999 ≤ s 3 ∧ s 3 ≤ 999999) (hb : TB N (tIni s) 0) (hw : w < N) (hdd : dd < 10) (ew : s (106 + 4 * dd) = zon w) (ec : s (107 + 4 * dd) = c) (hc : 0 ≤ c ∧ c ≤ 99999) (hn : n ≤ 9) (hL : sLF s F n) (hQ : ∀ M1, zfV M0 M1 → sOff s F n (M1.1 83) → (∀ j, j < n → M1.1 91 j = zon (F j)) → zt (A + 29) 177 288 [some (.ref 82), none, some (.int b), some (.int (zon n)), some (.long (zol (sAll (sFr s) F n (sPh N w c s) s))), none, some (.long al), none, some (.int 0), none, none, none, none, none] [] M1 (zPl Q)) : ∀ (m d : Nat) (M : zm_M), d + m = 2 ^ n → zfV M0 M → sOff s F n (M.1 83) → (∀ j, j < n → M.1 91 j = zon (F j)) → zt (A + 29) 177 151 [some (.ref 82), some (.int (zon dd)), some (.int b), some (.int (zon n)), some (.long (zol (sSum (fun d => sWt (sFr s) F d n * sPh N w c s (sAl F d n s)) d))), none, some (.long al), none, some (.int (zon d)), none, none, none, none, none] [] M (zPl Q) := by
  intro m
  have p2 := pow2_le n (by omega)
  induction m with
  | zero =>
    intro d M hd f0 ho h91
    obtain rfl : d = 2 ^ n := by omega
    apply zg_X11_safe_p151
    rw [shl_2 n (by omega), zon_lt (by omega) (by omega)]
    exact ⟨fun z => absurd z (by omega), fun _ => hQ M f0 ho h91⟩
  | succ m ih =>
    intro d M hd f0 ho h91
    apply zg_X11_safe_p151
    rw [shl_2 n (by omega), zon_lt (by omega) (by omega)]
    refine ⟨fun _ => ?_, fun z => absurd (by omega) z⟩
    exact R_burL hE h3 hb hw hdd ew ec hc hn (by omega) hL (fun M1 f1 o1 g1 => ih (d + 1) M1 (by omega) f1 o1 g1) n 0 M (by omega) f0 ho h91 (fun j hj => absurd hj (Nat.not_lt_zero _))
theorem R_backL {d n : Nat} {s : sSt} {F : Nat → Nat} {b : Int32} {l1 l2 : Int64} {M0 : zm_M} {Q : Int64 → zm_M → Prop} (hn : n ≤ 9) (hL : sLF s F n) (hQ : ∀ M1, zfV M0 M1 → M1.1 83 = s → zt (d + 1) 177 321 [none, none, some (.int b), none, some (.long l1), none, some (.long l2), none, some (.long l1), none, some (.long l2), none, none, none] [] M1 (zPl Q)) : ∀ (m i : Nat) (M : zm_M), i + m = n → zfV M0 M → sOff s F n (M.1 83) → (∀ j, j < n → M.1 91 j = zon (F j)) → (∀ j, j < i → M.1 83 (14 + 8 * F j) = 1) → zt (d + 1) 177 288 [some (.ref 82), none, some (.int b), some (.int (zon n)), some (.long l1), none, some (.long l2), none, some (.int (zon i)), none, none, none, none, none] [] M (zPl Q) := by
  intro m
  induction m with
  | zero =>
    intro i M hi f0 ho h91 hs
    obtain rfl : i = n := by omega
    apply zg_X11_safe_p288
    rw [zon_lt (by omega) (by omega)]
    refine ⟨fun z => absurd z (by omega), fun _ => hQ M f0 ?_⟩
    funext k
    by_cases c : ∃ j, j < i ∧ k = 14 + 8 * F j
    · obtain ⟨j, hj, rfl⟩ := c
      rw [hs j hj, (hL.1 j hj).2.1]
    · exact ho k (fun j hj z => c ⟨j, hj, z⟩)
  | succ m ih =>
    intro i M hi f0 ho h91 hs
    have hi2 : i < n := by omega
    obtain ⟨f1, f2, f3⟩ := hL.1 i hi2
    apply zg_X11_safe_p288
    rw [zon_lt (by omega) (by omega), zon_n (show i < 2000 by omega), h91 i hi2, zP4, zon_n (show 14 + 8 * F i < 2000 by omega), zon_s (a := i)]
    refine ⟨fun _ => ⟨by rw [zon_inb (by omega)]; omega, by rw [zon_inb (by omega)]; omega, ?_⟩, fun z => absurd hi2 z⟩
    refine ih (i + 1) (zm_si M 83 (14 + 8 * F i) 1) (by omega) (zfV_trans f0 zfV_83) (by rw [zI_si_row]; exact ho.upd hi2) (fun j hj => by rw [zI_si_ne (by decide)]; exact h91 j hj) (fun j hj => ?_)
    rw [zI_si_row]
    by_cases e : j = i
    · rw [e, upd_at]
    · rw [upd_ne (by have := hL.2 i j hi2 (by omega) e; omega)]
      exact hs j (by omega)

/-! SAFE: the class's average. -/
def sFr (s : sSt) (p : Nat) : Nat := if (s (17 + 8 * p)).toNatClampNeg ≤ 9 then (s (17 + 8 * p)).toNatClampNeg else 0
theorem sFr_le {s : sSt} {p : Nat} : sFr s p ≤ 9 := by
  unfold sFr
  split <;> omega
theorem sFr_e {s : sSt} {p : Nat} (h : 0 ≤ s (17 + 8 * p) ∧ s (17 + 8 * p) ≤ 9) : s (17 + 8 * p) = zon (sFr s p) := by
  obtain ⟨k, e, hk⟩ := zof2 (n := 9) h.1 h.2 rfl
  unfold sFr
  rw [e, zon_n (by omega), if_pos hk]
theorem zon_l {k : Nat} (h : k < 2000) : (zon k).toInt64 = zol k := by
  have e := Int64.ofNat_int32ToNatClampNeg (zon k) (zon_0le h)
  rw [zon_n h] at e
  exact e.symm
theorem zon_10 : ∀ k, k < 10 → (10 : Int32) - zon k = zon (10 - k) := by decide +kernel
theorem shl_2 : ∀ m, m < 10 → (1 : Int32) <<< (zon m &&& 31) = zon (2 ^ m) := by decide +kernel
theorem bt_zon : ∀ d, d < 512 → ∀ q, q < 9 → bt (zon d) q = d.testBit q := by decide +kernel
theorem pow2_le : ∀ m, m < 10 → 2 ^ m ≤ 512 := by decide +kernel
theorem pow10_le : ∀ m, m < 10 → 10 ^ m ≤ 1000000000 := by decide +kernel
theorem upd_self {E : sSt} {a : Nat} {v : Int32} (h : E a = v) : upd E a v = E := by
  funext k
  by_cases c : k = a
  · rw [c, upd_at, h]
  · rw [upd_ne c]
theorem XE.al {q : Nat} {M : zm_M} {E : sSt} {v : Int32} (h : XE M E) (hq : q < 12) : XE (zm_si M 62 q v) (upd E (14 + 8 * q) v) := by
  obtain ⟨h1, h2, h3, h4⟩ := h
  refine ⟨fun p hp => ?_, by rw [zI_si_ne (by decide), upd_ne (by omega)]; exact h2, fun j hj => by rw [zI_si_ne (by decide), upd_ne (by omega)]; exact h3 j hj, h4.offr (zI_si_rne (by decide)) (zI_si_rne (by decide)) (fun k k1 k2 => upd_ne (by omega))⟩
  obtain ⟨a1, a2, a3, a4, a5⟩ := h1 p hp
  refine ⟨by rw [zI_si_ne (by decide), upd_ne (by omega)]; exact a1, by rw [zI_si_ne (by decide), upd_ne (by omega)]; exact a2, ?_, by rw [zI_si_ne (by decide), upd_ne (by omega)]; exact a4, by rw [zI_si_ne (by decide), upd_ne (by omega)]; exact a5⟩
  rw [zI_si, if_pos rfl]
  by_cases e : p = q
  · rw [if_pos e, e, upd_at]
  · rw [if_neg e, upd_ne (by omega)]
    exact a3
/-- what holds of the FRAIL that are listed -/
def sLF (s : sSt) (F : Nat → Nat) (m : Nat) : Prop := (∀ i, i < m → F i < 12 ∧ s (14 + 8 * F i) = 1 ∧ s (17 + 8 * F i) = zon (sFr s (F i))) ∧ ∀ i j, i < m → j < m → j ≠ i → F j ≠ F i
theorem sLF.ne {s : sSt} {F : Nat → Nat} {m i : Nat} (h : sLF s F m) (hi : i < m) {d : Nat} : sAl F d i s (14 + 8 * F i) = 1 := by
  rw [sAl_off i (fun j hj z => h.2 i j hi (by omega) (by omega) (by omega))]
  exact (h.1 i hi).2.1
theorem X_buryL {D m d : Nat} {s : sSt} {F : Nat → Nat} {Q : Int64 → zm_M → Prop} (hm : m ≤ 9) (hd : d < 512) (hL : sLF s F m) : ∀ (n i : Nat) (M : zm_M), i + n = m → M.1 66 3 = zon m → (∀ j, j < m → M.1 67 j = zon (F j)) → (∀ p, p < 12 → M.1 11 p = s (17 + 8 * p)) → XE M (sAl F d i s) → (∀ M1, XE M1 (sAl F d m s) → zfr [62] M M1 → Q (zol (sWt (sFr s) F d m)) M1) → zt (D + 2) 10 5 [some (.ref 66), some (.int (zon d)), some (.long (zol (sWt (sFr s) F d i))), none, some (.int (zon i)), none] [] M (zPl Q) := by
  intro n
  induction n with
  | zero =>
    intro i M hi h3 h67 h11 hX hQ
    obtain rfl : i = m := by omega
    apply zg_X1_bury_p5
    rw [h3, zon_lt (by omega) (by omega)]
    exact ⟨fun z => absurd z (by omega), fun _ => hQ M hX zfr_rfl⟩
  | succ n ih =>
    intro i M hi h3 h67 h11 hX hQ
    have hi2 : i < m := by omega
    obtain ⟨f1, f2, f3⟩ := hL.1 i hi2
    have i9 : zm_inb (zon i) 9 = true := by rw [zon_inb (by omega)]; omega
    have i12 : zm_inb (zon (F i)) 12 = true := by rw [zon_inb (by omega)]; omega
    have fl := sFr_le (s := s) (p := F i)
    have wt : sWt (sFr s) F d (i + 1) = sWt (sFr s) F d i * (if d.testBit i = true then sFr s (F i) else 10 - sFr s (F i)) := rfl
    have al : sAl F d (i + 1) s = upd (sAl F d i s) (14 + 8 * F i) (if d.testBit i = true then 0 else 1) := rfl
    apply zg_X1_bury_p5
    rw [h3, zon_lt (by omega) (by omega), zon_n (show i < 2000 by omega), h67 i hi2, zon_n (show F i < 2000 by omega), h11 _ f1, f3, zon_10 _ (by omega), zon_l (by omega), zon_l (by omega), zol_mul, zol_mul, zon_s (a := i)]
    refine ⟨fun _ => ⟨i9, i12, fun z => absurd z (zon_nn (by omega)), fun _ => ⟨fun z => ?_, fun z => ⟨i9, i12, ?_⟩⟩⟩, fun z => absurd hi2 z⟩
    · have b0 := (bt_tst (by omega)).mp z
      rw [bt_zon d hd i (by omega)] at b0
      rw [if_neg (by rw [b0]; decide)] at wt al
      rw [← wt]
      refine ih (i + 1) M (by omega) h3 h67 h11 ?_ hQ
      rw [al, upd_self (hL.ne hi2)]
      exact hX
    · have b1 : d.testBit i = true := by
        rw [← bt_zon d hd i (by omega)]
        by_cases c : bt (zon d) i = true
        · exact c
        · exact absurd ((bt_tst (by omega)).mpr (by simpa using c)) z
      rw [if_pos b1] at wt al
      rw [← wt]
      refine ih (i + 1) _ (by omega) (by rw [zI_si_ne (by decide)]; exact h3) (fun j hj => by rw [zI_si_ne (by decide)]; exact h67 j hj) (fun p hp => by rw [zI_si_ne (by decide)]; exact h11 p hp) ?_ (fun M1 x1 g1 => hQ M1 x1 (zfr_trans (zfr_si (by decide)) g1))
      rw [al]
      exact hX.al f1
/-- the cells as they were, but those of L -/
def zfc (L : List Nat) (M M1 : zm_M) : Prop := ∀ k, k ∉ L → M1.1 k = M.1 k
abbrev sLst : List Nat := [23, 24, 59, 60, 61, 62, 63, 64, 65, 66, 67]
theorem X_avgL {D N dd w m : Nat} {s : sSt} {F : Nat → Nat} {c : Int32} {M0 : zm_M} {Q : zm_M → Prop} (hR0 : RT M0 0 s) (hE : TE N s) (hb : TB N (tIni s) 0) (hw : w < N) (hdd : dd < 10) (ew : s (106 + 4 * dd) = zon w) (ec : s (107 + 4 * dd) = c) (hc : 0 ≤ c ∧ c ≤ 99999) (hm : m ≤ 9) (hL : sLF s F m) {A : Nat} (hA : A = sAll (sFr s) F m (sPh N w c s) s) (hA2 : A < 9223372036854775808) (hQ : ∀ M1, zfc sLst M0 M1 → M1.2.1 66 4 = zol (A / Nat.gcd A (10 ^ m)) → M1.2.1 66 5 = zol (10 ^ m / Nat.gcd A (10 ^ m)) → Q M1) : ∀ (n d : Nat) (M : zm_M), d + n = 2 ^ m → zfc sLst M0 M → M.1 66 3 = zon m → (∀ j, j < m → M.1 67 j = zon (F j)) → M.2.1 66 4 = zol (sSum (fun d => sWt (sFr s) F d m * sPh N w c s (sAl F d m s)) d) → M.2.1 66 5 = zol (10 ^ m) → zt (D + 26) 7 56 [some (.ref 66), some (.int (zon dd)), some (.int (zon d)), none, none] [] M (zPv Q) := by
  intro n
  have p2 := pow2_le m (by omega)
  have p10 := pow10_le m (by omega)
  have rt : ∀ M, zfc sLst M0 M → RT M 0 s := fun M f => hR0.cg (fun k h1 h2 h3 h4 h5 => f k (by simp only [List.mem_cons, List.not_mem_nil, or_false]; omega))
  induction n with
  | zero =>
    intro d M hd f0 h3 h67 h4 h5
    apply zg_X1_average_p56 (d := D + 25)
    rw [h3, shl_2 m (by omega), zon_lt (by omega) (by omega)]
    refine ⟨fun z => absurd z (by omega), fun _ => ?_⟩
    have e4 : M.2.1 66 4 = zol A := by
      rw [h4, hA, show d = 2 ^ m by omega]
      rfl
    have q10 : 0 < 10 ^ m := Nat.pow_pos (by decide)
    have g0 : 0 < Nat.gcd A (10 ^ m) := Nat.gcd_pos_of_pos_right A q10
    have g1 : Nat.gcd A (10 ^ m) ≤ 10 ^ m := Nat.le_of_dvd (by omega) (Nat.gcd_dvd_right A (10 ^ m))
    rw [e4, h5]
    refine X_gcd hA2 (by omega) ⟨fun z => ?_, fun z => ?_⟩
    · have nz : ¬ zol (Nat.gcd A (10 ^ m)) = 0 := (zol_0 (by omega)).mpr (by omega)
      refine ⟨nz, nz, hQ _ f0 ?_ ?_⟩
      · show M.2.1 66 4 / zol (Nat.gcd A (10 ^ m)) = _
        rw [e4, zol_div hA2 (by omega)]
      · show M.2.1 66 5 / zol (Nat.gcd A (10 ^ m)) = _
        rw [h5, zol_div (by omega) (by omega)]
    · have gg : Nat.gcd A (10 ^ m) = 1 := by
        have : ¬ 1 < Nat.gcd A (10 ^ m) := fun y => z ((cmp_1 (by omega)).mpr y)
        omega
      refine hQ M f0 ?_ ?_
      · rw [gg, Nat.div_one, e4]
      · rw [gg, Nat.div_one, h5]
  | succ n ih =>
    intro d M hd f0 h3 h67 h4 h5
    have hR := rt M f0
    apply zg_X1_average_p56 (d := D + 25)
    rw [h3, shl_2 m (by omega), zon_lt (by omega) (by omega), zon_s (a := d)]
    refine ⟨fun _ => ?_, fun z => absurd (by omega) z⟩
    refine X_begin (d := D + 24) hR (fun M1 x1 d1 f1 => ?_)
    apply zg_X1_bury
    refine X_buryL (D := D + 23) hm (by omega) hL m 0 M1 (by omega) (by rw [f1.1 66 (by decide)]; exact h3) (fun j hj => by rw [f1.1 67 (by decide)]; exact h67 j hj) (fun p hp => by rw [f1.1 11 (by decide)]; exact hR.pers (w := 7) hp (by decide) (by omega)) x1 (fun M2 x2 f2 => ?_)
    have y1 : YE M1 s := hR.ye.fr f1 (by decide)
    have d2 : XD M2 (tIni (sAl F d m s)) := by
      rw [tIni_sal]
      refine ⟨fun p hp => ?_, ?_⟩
      · rw [f2.1 63 (by decide), f2.1 64 (by decide), f2.1 65 (by decide)]
        exact d1.1 p hp
      · rw [f2.1 59 (by decide)]
        exact d1.2
    refine X_failOne (D := D) (hE.sal m (fun j hj => (hL.1 j hj).1)) hdd hw (by rw [f2.1 14 (by decide), (y1.1 dd hdd).1, ew]) (by rw [f2.1 15 (by decide), (y1.1 dd hdd).2.1, ec]) x2 d2 (by rw [tIni_sal]; exact hb) hc (b32j hc) (fun M3 d3 f3 => ?_)
    have e59 : (M3.1 59 8).toInt64 = zol (sPh N w c s (sAl F d m s)) := by
      rw [d3.2]
      exact sPh_try hE hb hw hc (fun j hj => (hL.1 j hj).1)
    have l3 : M3.2 = M.2 := f3.2.trans (f2.2.trans f1.2)
    have f03 : zfc sLst M0 M3 := fun k hk => ((zfr_sub (L2 := sLst) f3 (by decide)).1 k hk).trans (((zfr_sub (L2 := sLst) f2 (by decide)).1 k hk).trans (((zfr_sub (L2 := sLst) f1 (by decide)).1 k hk).trans (f0 k hk)))
    have c66 : M3.1 66 = M.1 66 := (f3.1 66 (by decide)).trans ((f2.1 66 (by decide)).trans (f1.1 66 (by decide)))
    have c67 : M3.1 67 = M.1 67 := (f3.1 67 (by decide)).trans ((f2.1 67 (by decide)).trans (f1.1 67 (by decide)))
    refine ih (d + 1) (zm_sl M3 66 4 (M3.2.1 66 4 + zol (sWt (sFr s) F d m) * (M3.1 59 8).toInt64)) (by omega) f03 (by show M3.1 66 3 = _; rw [c66]; exact h3) (fun j hj => by show M3.1 67 j = _; rw [c67]; exact h67 j hj) ?_ ?_
    · show M3.2.1 66 4 + zol (sWt (sFr s) F d m) * (M3.1 59 8).toInt64 = _
      rw [l3, h4, e59, zol_mul, zol_add]
      rfl
    · show M3.2.1 66 5 = _
      rw [l3]
      exact h5
theorem X_tensL {D dd m : Nat} {Q : zm_M → Prop} (hm : m ≤ 9) : ∀ (n i : Nat) (M : zm_M), i + n = m → M.1 66 3 = zon m → M.2.1 66 5 = zol (10 ^ i) → (∀ M1, M1.1 = M.1 → M1.2.1 66 4 = M.2.1 66 4 → M1.2.1 66 5 = zol (10 ^ m) → zt D 7 56 [some (.ref 66), some (.int (zon dd)), some (.int 0), none, none] [] M1 (zPv Q)) → zt D 7 28 [some (.ref 66), some (.int (zon dd)), some (.int (zon i)), none, none] [] M (zPv Q) := by
  intro n
  induction n with
  | zero =>
    intro i M hi h3 h5 hQ
    obtain rfl : i = m := by omega
    apply zg_X1_average_p28
    rw [h3, zon_lt (by omega) (by omega)]
    exact ⟨fun z => absurd z (by omega), fun _ => hQ M rfl rfl h5⟩
  | succ n ih =>
    intro i M hi h3 h5 hQ
    apply zg_X1_average_p28
    rw [h3, zon_lt (by omega) (by omega), zon_s]
    refine ⟨fun _ => ih (i + 1) _ (by omega) h3 ?_ (fun M1 e1 e4 e5 => hQ M1 e1 e4 e5), fun z => absurd (by omega) z⟩
    show M.2.1 66 5 * 10 = _
    rw [h5, Nat.pow_succ]
    exact zol_mul (b := 10)
theorem X_average {D N dd w : Nat} {s : sSt} {c : Int32} {M : zm_M} {Q : zm_M → Prop} (hR : RT M 0 s) (hW : WF s) (hE : TE N s) (hb : TB N (tIni s) 0) (hw : w < N) (hdd : dd < 10) (ew : s (106 + 4 * dd) = zon w) (ec : s (107 + 4 * dd) = c) (hc : 0 ≤ c ∧ c ≤ 99999) (h9 : sCt (sP s w) N ≤ 9) (hQ : ∀ x M1, LN s N w x → zfc sLst M M1 → M1.2.1 66 4 = zol (sEp (sFr s) (sG s w x) N (sPh N w c s) s / Nat.gcd (sEp (sFr s) (sG s w x) N (sPh N w c s) s) (10 ^ sCt (sG s w x) N)) → M1.2.1 66 5 = zol (10 ^ sCt (sG s w x) N / Nat.gcd (sEp (sFr s) (sG s w x) N (sPh N w c s) s) (10 ^ sCt (sG s w x) N)) → Q M1) : zv (D + 26) 7 [.ref 66, .int (zon dd)] M Q := by
  have hN := hE.1.1
  apply zg_X1_average
  refine ⟨by rw [zon_inb (by omega)]; omega, ?_⟩
  rw [zon_n (by omega), (hR.ye.1 dd hdd).1, ew]
  refine X_gather (d := D + 22) hR hE hw h9 (fun x M1 hx f1 h3 hl l9 => ?_)
  obtain ⟨F, F1, F2, F3⟩ := sLs_of (r := M1.1 67) hN hl
  have hL : sLF s F (sCt (sG s w x) N) := by
    refine ⟨fun i hi => ?_, F3⟩
    obtain ⟨a1, a2, a3⟩ := F2 i hi
    have a4 := sP_iff.mp (sG_iff.mp a3).1
    refine ⟨by omega, a4.2.1, sFr_e ?_⟩
    have pw := hW.2.2.2.2.2.2.2.1 (F i) (by rw [hE.1.2, zon_i (by omega)]; omega)
    exact pw.2.2.2.2.2.2.2.2
  have hA := sEp_all (fr := sFr s) F1 (E := s) N (Nat.le_refl N) (sPh N w c s)
  have hA2 := sEp_le (fr := sFr s) (P := sG s w x) (E := s) (fun p => by have := sFr_le (s := s) (p := p); omega) N (sPh N w c s) 99999 (fun E => sPh_le)
  have p10 := pow10_le _ (Nat.lt_succ_of_le l9)
  have hA3 : sEp (sFr s) (sG s w x) N (sPh N w c s) s < 9223372036854775808 := by omega
  refine X_tensL l9 (sCt (sG s w x) N) 0 _ (by omega) h3 rfl (fun M2 e1 e4 e5 => ?_)
  refine X_avgL (D := D) (M0 := M) (m := sCt (sG s w x) N) hR hE hb hw hdd ew ec hc l9 hL hA.symm hA3 (fun M3 f3 q4 q5 => hQ x M3 hx f3 q4 q5) (2 ^ sCt (sG s w x) N) 0 M2 (by omega) (fun k hk => ?_) (by rw [e1]; exact h3) (fun j hj => by rw [e1]; exact (F2 j hj).1) e4 e5
  rw [e1]
  exact (zfr_sub (L2 := sLst) f1 (by decide)).1 k hk

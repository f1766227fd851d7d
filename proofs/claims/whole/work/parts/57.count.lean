/-! Pairs: count, feed. -/
def smL (f : Nat → Int32) : Nat → Nat → Int32 → Int32
  | 0, _, acc => acc
  | n + 1, i, acc => smL f n (i + 1) (acc + f i)
theorem X_smL8 {d N : Nat} {f : Nat → Int32} {Q : Int32 → zm_M → Prop} {M : zm_M} (hN : N ≤ 12) (hf : ∀ i, i < 12 → M.1 8 i = f i) : ∀ (n i : Nat) (acc : Int32), i + n = N → Q (smL f n i acc) M → zt d 110 4 [some (.ref 8), some (.int (zon N)), some (.int acc), some (.int (zon i))] [] M (zPi Q) := by
  intro n
  induction n with
  | zero =>
    intro i acc hi hQ
    apply zg_X10_sumOf_r8_p4
    rw [zon_lt (by omega) (by omega)]
    exact ⟨fun z => absurd z (by omega), fun _ => hQ⟩
  | succ n ih =>
    intro i acc hi hQ
    apply zg_X10_sumOf_r8_p4
    rw [zon_lt (by omega) (by omega), zon_ltl (b := 12) (by omega) rfl, zon_n (by omega), hf i (by omega), zon_s]
    exact ⟨fun _ => ⟨fun _ => ⟨by rw [zon_inb (by omega)]; omega, ih (i + 1) _ (by omega) hQ⟩, fun z => absurd (by omega) z⟩, fun z => absurd (by omega) z⟩
theorem X_smL17 {d N : Nat} {f : Nat → Int32} {Q : Int32 → zm_M → Prop} {M : zm_M} (hN : N ≤ 10) (hf : ∀ i, i < 10 → M.1 17 i = f i) : ∀ (n i : Nat) (acc : Int32), i + n = N → Q (smL f n i acc) M → zt d 110 4 [some (.ref 17), some (.int (zon N)), some (.int acc), some (.int (zon i))] [] M (zPi Q) := by
  intro n
  induction n with
  | zero =>
    intro i acc hi hQ
    apply zg_X10_sumOf_r17_p4
    rw [zon_lt (by omega) (by omega)]
    exact ⟨fun z => absurd z (by omega), fun _ => hQ⟩
  | succ n ih =>
    intro i acc hi hQ
    apply zg_X10_sumOf_r17_p4
    rw [zon_lt (by omega) (by omega), zon_ltl (b := 10) (by omega) rfl, zon_n (by omega), hf i (by omega), zon_s]
    exact ⟨fun _ => ⟨fun _ => ⟨by rw [zon_inb (by omega)]; omega, ih (i + 1) _ (by omega) hQ⟩, fun z => absurd (by omega) z⟩, fun z => absurd (by omega) z⟩
theorem R_smL {d N a b : Nat} {f : Nat → Int32} {Q : Int32 → zm_M → Prop} {M : zm_M} (hN : N ≤ 12) (hab : a + b * 12 ≤ 480 ∧ 1 ≤ b) (hf : ∀ i, i < N → M.1 83 (a + b * i) = f i) : ∀ (n i : Nat) (acc : Int32), i + n = N → Q (smL f n i acc) M → zt d 202 6 [some (.ref 82), some (.int (zon a)), some (.int (zon b)), some (.int (zon N)), some (.int acc), some (.int (zon i))] [] M (zPi Q) := by
  intro n
  induction n with
  | zero =>
    intro i acc hi hQ
    apply zg_X11_count1_p6
    rw [zon_lt (by omega) (by omega)]
    exact ⟨fun z => absurd z (by omega), fun _ => hQ⟩
  | succ n ih =>
    intro i acc hi hQ
    have hb : b * i + b ≤ b * 12 := by
      have := Nat.mul_le_mul_left b (show i + 1 ≤ 12 by omega)
      rw [Nat.mul_add, Nat.mul_one] at this
      exact this
    apply zg_X11_count1_p6
    rw [zon_lt (by omega) (by omega), zon_mul, zon_add, zon_n (show a + b * i < 2000 by omega), hf i (by omega), zon_s]
    refine ⟨fun _ => ⟨?_, ih (i + 1) _ (by omega) hQ⟩, fun z => absurd (by omega) z⟩
    rw [zon_inb (by omega)]
    omega
theorem pair_count {d : Nat} {M : zm_M} {a : Int32} (h : Inv M) : zi (d + 2) 96 [.ref 0, .int a] M (fun v M1 => zi (d + 1) 203 [.ref 82, .int a] M1 (fun w M2 => v = w ∧ Inv M2)) := by
  obtain ⟨hR, hW⟩ := h.1
  obtain ⟨N, hN, hN2⟩ := zs12 hW.1
  obtain ⟨D, hD, hD2⟩ := zs10 hW.2.1
  have n0 : ∀ {x y : Int32}, (¬ x = y) → ¬ x = y := fun h => h
  apply zg_X10_count
  rw [show M.1 2 0 = M.1 83 0 from hR.1 0 2 0 rfl, show M.1 12 0 = M.1 83 1 from hR.1 1 12 0 rfl, show M.1 1 6 = M.1 83 2 from hR.1 2 1 6 rfl, show M.1 1 7 = M.1 83 3 from hR.1 3 1 7 rfl, show M.1 18 2 = M.1 83 4 from hR.1 4 18 2 rfl, show M.1 18 3 = M.1 83 5 from hR.1 5 18 3 rfl, show M.1 71 1 = M.1 82 16 from h.2.2.2.2.1, show M.1 1 8 = M.1 83 6 from hR.1 6 1 8 rfl]
  refine ⟨fun c0 => ?_, fun c0 => ⟨fun c1 => ?_, fun c1 => ⟨fun c2 => ?_, fun c2 => ⟨fun c3 => ?_, fun c3 => ⟨fun c4 => ?_, fun c4 => ⟨fun c5 => ?_, fun c5 => ⟨fun c6 => ?_, fun c6 => ⟨fun c7 => ?_, fun c7 => ⟨fun c8 => ?_, fun c8 => ⟨fun c9 => ?_, fun c9 => ?_⟩⟩⟩⟩⟩⟩⟩⟩⟩⟩
  · apply zg_X11_count
    exact ⟨fun _ => ⟨rfl, h⟩, fun z => absurd c0 z⟩
  · apply zg_X10_sumOf_r8
    rw [hN]
    refine X_smL8 (f := fun i => M.1 83 (14 + 8 * i)) hN2 (fun i hi => hR.pers (w := 4) hi (by decide) (by omega)) N 0 0 (by omega) ?_
    apply zg_X11_count
    refine ⟨fun z => absurd z c0, fun _ => ⟨fun _ => ?_, fun z => absurd c1 z⟩⟩
    apply zg_X11_count1
    rw [hN]
    exact R_smL (a := 14) (b := 8) (f := fun i => M.1 83 (14 + 8 * i)) hN2 (by decide) (fun i _ => rfl) N 0 0 (by omega) ⟨rfl, h⟩
  · apply zg_X11_count
    exact ⟨fun z => absurd z c0, fun _ => ⟨fun z => absurd z c1, fun _ => ⟨fun _ => ⟨rfl, h⟩, fun z => absurd c2 z⟩⟩⟩
  · apply zg_X10_sumOf_r17
    rw [hD]
    refine X_smL17 (f := fun i => M.1 83 (109 + 4 * i)) hD2 (fun i hi => (hR.ye.1 i hi).2.2) D 0 0 (by omega) ?_
    apply zg_X11_count
    refine ⟨fun z => absurd z c0, fun _ => ⟨fun z => absurd z c1, fun _ => ⟨fun z => absurd z c2, fun _ => ⟨fun _ => ?_, fun z => absurd c3 z⟩⟩⟩⟩
    apply zg_X11_count1
    rw [hD]
    exact R_smL (a := 109) (b := 4) (f := fun i => M.1 83 (109 + 4 * i)) (by omega) (by decide) (fun i _ => rfl) D 0 0 (by omega) ⟨rfl, h⟩
  · apply zg_X11_count
    exact ⟨fun z => absurd z c0, fun _ => ⟨fun z => absurd z c1, fun _ => ⟨fun z => absurd z c2, fun _ => ⟨fun z => absurd z c3, fun _ => ⟨fun _ => ⟨rfl, h⟩, fun z => absurd c4 z⟩⟩⟩⟩⟩
  · apply zg_X11_count
    exact ⟨fun z => absurd z c0, fun _ => ⟨fun z => absurd z c1, fun _ => ⟨fun z => absurd z c2, fun _ => ⟨fun z => absurd z c3, fun _ => ⟨fun z => absurd z c4, fun _ => ⟨fun _ => ⟨rfl, h⟩, fun z => absurd c5 z⟩⟩⟩⟩⟩⟩
  · apply zg_X11_count
    exact ⟨fun z => absurd z c0, fun _ => ⟨fun z => absurd z c1, fun _ => ⟨fun z => absurd z c2, fun _ => ⟨fun z => absurd z c3, fun _ => ⟨fun z => absurd z c4, fun _ => ⟨fun z => absurd z c5, fun _ => ⟨fun _ => ⟨rfl, h⟩, fun z => absurd c6 z⟩⟩⟩⟩⟩⟩⟩
  · apply zg_X11_count
    exact ⟨fun z => absurd z c0, fun _ => ⟨fun z => absurd z c1, fun _ => ⟨fun z => absurd z c2, fun _ => ⟨fun z => absurd z c3, fun _ => ⟨fun z => absurd z c4, fun _ => ⟨fun z => absurd z c5, fun _ => ⟨fun z => absurd z c6, fun _ => ⟨fun _ => ⟨rfl, h⟩, fun z => absurd c7 z⟩⟩⟩⟩⟩⟩⟩⟩
  · apply zg_X11_count
    exact ⟨fun z => absurd z c0, fun _ => ⟨fun z => absurd z c1, fun _ => ⟨fun z => absurd z c2, fun _ => ⟨fun z => absurd z c3, fun _ => ⟨fun z => absurd z c4, fun _ => ⟨fun z => absurd z c5, fun _ => ⟨fun z => absurd z c6, fun _ => ⟨fun z => absurd z c7, fun _ => ⟨fun _ => ⟨rfl, h⟩, fun z => absurd c8 z⟩⟩⟩⟩⟩⟩⟩⟩⟩
  · apply zg_X11_count
    exact ⟨fun z => absurd z c0, fun _ => ⟨fun z => absurd z c1, fun _ => ⟨fun z => absurd z c2, fun _ => ⟨fun z => absurd z c3, fun _ => ⟨fun z => absurd z c4, fun _ => ⟨fun z => absurd z c5, fun _ => ⟨fun z => absurd z c6, fun _ => ⟨fun z => absurd z c7, fun _ => ⟨fun z => absurd z c8, fun _ => ⟨fun _ => ⟨rfl, h⟩, fun z => absurd c9 z⟩⟩⟩⟩⟩⟩⟩⟩⟩⟩
  · apply zg_X11_count
    exact ⟨fun z => absurd z c0, fun _ => ⟨fun z => absurd z c1, fun _ => ⟨fun z => absurd z c2, fun _ => ⟨fun z => absurd z c3, fun _ => ⟨fun z => absurd z c4, fun _ => ⟨fun z => absurd z c5, fun _ => ⟨fun z => absurd z c6, fun _ => ⟨fun z => absurd z c7, fun _ => ⟨fun z => absurd z c8, fun _ => ⟨fun z => absurd z c9, fun _ => ⟨rfl, h.err1 (by decide)⟩⟩⟩⟩⟩⟩⟩⟩⟩⟩⟩
theorem fdS_ok {v : Int64} : ∀ (n : Nat) (k : Int32) (s : Nat → Int32), WF s → (s 4).toInt + n ≤ 60 → WF (fdS v n k s)
  | 0, k, s, h, _ => h
  | n + 1, k, s, h, hn => by
    have s4 := h.2.2.2.2.1
    have a1 := le_i s4.1 rfl rfl
    rw [show (0 : Int32).toInt = 0 from rfl] at a1
    have s60 : s 4 < 60 := by rw [Int32.lt_iff_toInt_lt, show (60 : Int32).toInt = 60 from rfl]; omega
    refine fdS_ok n (k + 1) _ (h.fdx byX_rng s60) ?_
    rw [fd1_4, add_i (by rw [show (1 : Int32).toInt = 1 from rfl]; omega), show (1 : Int32).toInt = 1 from rfl]
    omega
theorem R_feedL {d m : Nat} {v : Int64} {Q : Int32 → zm_M → Prop} (hm : m ≤ 8) : ∀ (n k : Nat) (M : zm_M) (s : Nat → Int32), k + n = m → M.1 83 = s → 0 ≤ s 4 → (s 4).toInt + n ≤ 60 → (∀ M1, M1.1 83 = fdS v n (zon k) s → zfr [83] M M1 → Q (fdS v n (zon k) s 4) M1) → zt d 132 38 [some (.ref 82), some (.long v), none, some (.int (zon m)), some (.int (zon k))] [] M (zPi Q) := by
  intro n
  induction n with
  | zero =>
    intro k M s hk hs h4 h60 hQ
    apply zg_X11_feed_p38
    rw [zon_lt (by omega) (by omega), hs]
    exact ⟨fun z => absurd z (by omega), fun _ => hQ M hs zfr_rfl⟩
  | succ n ih =>
    intro k M s hk hs h4 h60 hQ
    have a1 := le_i h4 rfl rfl
    rw [show (0 : Int32).toInt = 0 from rfl] at a1
    have n4 : ¬ s 4 < 0 := by grind
    obtain ⟨x1, x2⟩ := zix_1 (x := s 4) 396 (k := 396) (n := 60) n4 (by omega) (by decide) (by decide)
    have es : (s 4 + 1).toInt = (s 4).toInt + 1 := add_i (by rw [show (1 : Int32).toInt = 1 from rfl]; omega)
    apply zg_X11_feed_p38
    rw [zon_lt (by omega) (by omega), hs, x1, zon_s]
    refine ⟨fun _ => ⟨x2, ?_⟩, fun z => absurd (by omega) z⟩
    have eb : byX v (zon k) = byR v (zon k) := byX_byR ⟨zon_0le (by omega), by rw [zon_ltl (b := 8) (by omega) rfl]; omega⟩
    have e83 : (zm_si (zm_si M 83 (396 + (s 4).toNatClampNeg) (((v >>> ((8 * zon k).toInt64 &&& 63)) &&& 255).toInt32)) 83 4 ((zm_si M 83 (396 + (s 4).toNatClampNeg) (((v >>> ((8 * zon k).toInt64 &&& 63)) &&& 255).toInt32)).1 83 4 + 1)).1 83 = fd1 s (byX v (zon k)) := by
      rw [zI_si_row, zI_si_row, hs, eb]
      have e4 : ∀ b, upd s (396 + (s 4).toNatClampNeg) b 4 = s 4 := fun b => if_neg (by omega)
      rw [e4]
      rfl
    refine ih (k + 1) _ _ (by omega) e83 ?_ ?_ (fun M1 r1 f1 => ?_)
    · rw [fd1_4, Int32.le_iff_toInt_le, es, show (0 : Int32).toInt = 0 from rfl]
      omega
    · rw [fd1_4, es]
      omega
    · rw [← zon_s] at r1
      have := hQ M1 r1 (zfr_trans (zfr_trans (zfr_si (by decide)) (zfr_si (by decide))) f1)
      rw [← zon_s]
      exact this
theorem pair_feed {d : Nat} {M : zm_M} {v : Int64} {b : Int32} (h : Inv M) : zi (d + 1) 75 [.ref 0, .long v, .int b] M (fun v1 M1 => zi (d + 1) 132 [.ref 82, .long v, .int b] M1 (fun w M2 => v1 = w ∧ Inv M2)) := by
  obtain ⟨hR, hW⟩ := h.1
  have s4 := hW.2.2.2.2.1
  have r83 : ∀ j v, (zm_si M 81 j v).1 83 = M.1 83 := fun j v => zI_si_rne (by decide)
  have a1 := le_i s4.1 rfl rfl
  rw [show (0 : Int32).toInt = 0 from rfl] at a1
  have a2 := le_i s4.2 rfl rfl
  rw [show (60 : Int32).toInt = 60 from rfl] at a2
  apply zg_X10_feed
  rw [show M.1 18 2 = M.1 83 4 from hR.1 4 18 2 rfl]
  refine ⟨fun c1 => ?_, fun c1 => ⟨fun c2 => ?_, fun c2 => ⟨fun c3 => ?_, fun c3 => ?_⟩⟩⟩
  · apply zg_X11_feed
    exact ⟨fun _ => ⟨rfl, h.err1 (by decide)⟩, fun z => absurd c1 z⟩
  · apply zg_X11_feed
    exact ⟨fun z => absurd z c1, fun _ => ⟨fun _ => ⟨rfl, h.err1 (by decide)⟩, fun z => absurd c2 z⟩⟩
  · apply zg_X11_feed
    rw [r83]
    exact ⟨fun z => absurd z c1, fun _ => ⟨fun z => absurd z c2, fun _ => ⟨fun _ => ⟨rfl, h.err1 (by decide)⟩, fun z => absurd c3 z⟩⟩⟩
  · obtain ⟨m, rfl, hm⟩ := zof2 (x := b) (m := 8) (n := 8) (by grind) (by grind) rfl
    have h60 : (M.1 83 4).toInt + m ≤ 60 := by
      have e : (M.1 83 4 + zon m).toInt = (M.1 83 4).toInt + m := by rw [add_i (by rw [zon_i (by omega)]; omega), zon_i (by omega)]
      have : ¬ (60 : Int32).toInt < (M.1 83 4 + zon m).toInt := fun z => c3 (Int32.lt_iff_toInt_lt.mpr z)
      rw [e, show (60 : Int32).toInt = 60 from rfl] at this
      omega
    refine X_feedL (m := zon m) (by rw [Int32.le_iff_toInt_le, zon_i (by omega), show (8 : Int32).toInt = 8 from rfl]; omega) m hR (by rw [zon_i (by omega)]; simp) (by decide) s4.1 h60 (fun M4 r4 f4 _ => ?_)
    have e83 : M4.1 83 = M.1 83 := f4 83 (by decide) (by decide)
    apply zg_X11_feed
    rw [e83]
    refine ⟨fun z => absurd z c1, fun _ => ⟨fun z => absurd z c2, fun _ => ⟨fun z => absurd z c3, fun _ => ?_⟩⟩⟩
    refine R_feedL hm m 0 M4 (M.1 83) (by omega) e83 s4.1 h60 (fun M1 e1 f1 => ⟨rfl, ?_⟩)
    refine h.town (s2 := fdS v m (zon 0) (M.1 83)) (r4.congr (fun c g1 g2 => f1.1 c (by simp only [List.mem_cons, List.not_mem_nil, or_false]; omega))) (fdS_ok m _ _ hW h60) e1 (fun c hc => ?_) ?_ ?_
    · rw [f1.1 c (by simp only [List.mem_cons, List.not_mem_nil, or_false]; omega), f4 c (by omega) (by omega)]
    · rw [f1.1 82 (by decide), f4 82 (by decide) (by decide)]
    · rw [f1.1 82 (by decide), f4 82 (by decide) (by decide)]

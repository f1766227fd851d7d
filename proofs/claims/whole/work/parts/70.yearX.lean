/-! A year: the class's side. -/
theorem X_yCn {d N p : Nat} {s : Nat → Int32} {Q : Int32 → zm_M → Prop} {M : zm_M} (hR : RT M 0 s) (hW : YW N s) : ∀ (n i : Nat) (acc : Int32), i + n = N → Q (yCn s p n i acc) M → zt (d + 1) 21 4 [some (.ref 2), some (.int (zon p)), some (.int acc), some (.int (zon i))] [] M (zPi Q) := by
  have hN := hW.2.2.2
  have hFX : FX M N s := hR.fx hW.2.2.1
  intro n
  induction n with
  | zero =>
    intro i acc hi hQ
    apply zg_X3_countChildrenAlive_p4
    rw [hFX.1, zon_lt (by omega) (by omega)]
    exact ⟨fun z => absurd z (by omega), fun _ => hQ⟩
  | succ n ih =>
    intro i acc hi hQ
    have ii : zm_inb (zon i) 12 = true := by rw [zon_inb (by omega)]; omega
    rw [yCn] at hQ
    apply zg_X3_countChildrenAlive_p4
    rw [hFX.1, zon_lt (by omega) (by omega), zon_n (show i < 2000 by omega), zon_s (a := i)]
    refine ⟨fun _ => X_child (by omega) hFX (fun hc => ⟨fun z => absurd z (by decide), fun _ => ⟨ii, ?_⟩⟩) (fun hc => ⟨fun _ => ?_, fun z => absurd rfl z⟩), fun z => absurd (by omega) z⟩
    · rw [hR.pers (w := 4) (k := 14 + 8 * i) (by omega) (by decide) (by omega)]
      rcases (hW.pw (p := i) (by omega)).1 with a | a
      · rw [if_neg (fun z => by rw [a] at z; exact absurd z.1 (by decide))] at hQ
        rw [a, show acc + 0 = acc from Int32.add_zero acc]
        exact ih (i + 1) _ (by omega) hQ
      · rw [if_pos ⟨a, hc⟩] at hQ
        rw [a]
        exact ih (i + 1) _ (by omega) hQ
    · rw [if_neg (fun z => hc z.2)] at hQ
      exact ih (i + 1) _ (by omega) hQ
theorem X_yLs {d N p : Nat} {s : Nat → Int32} {Q : Int32 → zm_M → Prop} {M : zm_M} (hR : RT M 0 s) (hW : YW N s) : ∀ (n i : Nat), i + n = N → Q (yLs s p n i) M → zt (d + 1) 22 2 [some (.ref 2), some (.int (zon p)), some (.int (zon i))] [] M (zPi Q) := by
  have hN := hW.2.2.2
  have hFX : FX M N s := hR.fx hW.2.2.1
  intro n
  induction n with
  | zero =>
    intro i hi hQ
    apply zg_X3_leastChildAlive_p2
    rw [hFX.1, zon_lt (by omega) (by omega)]
    exact ⟨fun z => absurd z (by omega), fun _ => hQ⟩
  | succ n ih =>
    intro i hi hQ
    have ii : zm_inb (zon i) 12 = true := by rw [zon_inb (by omega)]; omega
    rw [yLs] at hQ
    apply zg_X3_leastChildAlive_p2
    rw [hFX.1, zon_lt (by omega) (by omega), zon_n (show i < 2000 by omega), zon_s (a := i), hR.pers (w := 4) (k := 14 + 8 * i) (by omega) (by decide) (by omega)]
    refine ⟨fun _ => ⟨ii, fun a => X_child (by omega) hFX (fun hc => ⟨fun z => absurd z (by decide), fun _ => ?_⟩) (fun hc => ⟨fun _ => ?_, fun z => absurd rfl z⟩), fun a => ?_⟩, fun z => absurd (by omega) z⟩
    · rw [if_pos ⟨a, hc⟩] at hQ
      exact hQ
    · rw [if_neg (fun z => hc z.2)] at hQ
      exact ih (i + 1) (by omega) hQ
    · rw [if_neg (fun z => a z.1)] at hQ
      exact ih (i + 1) (by omega) hQ
theorem yK_c {x : Int32} : (if (0 : Int32) < (if x < (9999 : Int32) then x else (9999 : Int32)) then (if x < (9999 : Int32) then x else (9999 : Int32)) else (0 : Int32)) = yK x := by
  unfold yK
  by_cases h : x < 9999
  · rw [if_pos h]
    split <;> split <;> grind
  · rw [if_neg h, if_pos (by decide)]
    split <;> grind
theorem cl3_c {x : Int32} : (if ((-999999) : Int32) < (if x < (999999 : Int32) then x else (999999 : Int32)) then (if x < (999999 : Int32) then x else (999999 : Int32)) else ((-999999) : Int32)) = cl3 x := by
  unfold cl3
  by_cases h : x < 999999
  · rw [if_pos h]
    split <;> split <;> grind
  · rw [if_neg h, if_pos (by decide)]
    split <;> grind
theorem X_yFr {d N p : Nat} {s : Nat → Int32} {Q : Int32 → zm_M → Prop} {M : zm_M} (hR : RT M 0 s) (hW : YW N s) (hp : p < N) (hQ : ∀ M1, zfr [27, 28] M M1 → Q (yFr s N p) M1) : zi (d + 2) 44 [.ref 1, .int (zon p)] M Q := by
  have hN := hW.2.2.2
  have pin : zm_inb (zon p) 12 = true := by rw [zon_inb (by omega)]; omega
  have st : M.1 25 0 = 0 ↔ ¬ 0 < s 271 := hR.2.2.stand
  apply zg_X7_freshOf
  rw [zon_n (show p < 2000 by omega), hR.pers (w := 5) (k := 15 + 8 * p) (by omega) (by decide) (by omega), hR.pers (w := 6) (k := 16 + 8 * p) (by omega) (by decide) (by omega)]
  unfold yFr at hQ
  refine ⟨fun c => ⟨pin, ?_⟩, fun c => ⟨pin, pin, ?_⟩⟩
  · rw [if_neg (st.mp c)] at hQ
    exact hQ M zfr_rfl
  · rw [if_pos (Classical.not_not.mp (fun z => c (st.mpr z)))] at hQ
    apply zg_X3_countChildrenAlive
    refine X_yCn hR hW N 0 0 (by omega) ?_
    refine X_worthF hR.2.2 c (fun M1 f1 => ?_)
    have := hQ M1 f1
    rw [yK_c]
    exact this
theorem X_leave5 {d N p : Nat} {c : Int32} {s : Nat → Int32} {Q : zm_M → Prop} {M : zm_M} (hR : RT M 0 s) (hW : YW N s) (hp : p < N) (hd : s (14 + 8 * p) = 0) (hc : c = -1 ∨ ∃ q, q < N ∧ c = zon q ∧ s (14 + 8 * q) = 1) (hQ : ∀ M1, RT M1 0 (yLv c s p 5) → zfr [1, 9] M M1 → Q M1) : zv (d + 3) 47 [.ref 1, .ref 9, .int (zon p), .int c] M Q := by
  have hN := hW.2.2.2
  have pin : zm_inb (zon p) 12 = true := by rw [zon_inb (by omega)]; omega
  apply zg_X7_leave_r1_9
  simp only [cl3_c]
  rw [show M.1 1 7 = s 3 from hR.1 3 1 7 rfl, zon_n (show p < 2000 by omega)]
  unfold yLv at hQ
  rcases hc with rfl | ⟨q, hq, rfl, aq⟩
  · rw [if_pos rfl] at hQ
    rw [hR.pers (w := 5) (k := 10 + 8 * p + 5) (by omega) (by decide) rfl, Int32.sub_zero]
    refine ⟨fun _ => ⟨fun _ => ⟨pin, pin, ?_⟩, fun z => absurd (by decide) z⟩, fun z => absurd (by decide) z⟩
    refine hQ _ ?_ (zfr_trans (zfr_si (by decide)) (zfr_si (by decide)))
    rw [upd_com (by omega)]
    exact (hR.set (k := 3) (c := 1) (j := 7) rfl (by decide) (by omega)).set (zmap_pers (p := p) (w := 5) (by omega) (by decide)) (by decide) (by omega)
  · have nq : ¬ zon q < 0 := zon_nn (by omega)
    have qin : zm_inb (zon q) 12 = true := by rw [zon_inb (by omega)]; omega
    have pq : p ≠ q := fun z => by rw [z, aq] at hd; exact absurd hd (by decide)
    rw [if_neg (fun z => nq (by rw [z]; decide)), zon_n (show q < 2000 by omega)] at hQ
    refine ⟨fun z => absurd z nq, fun _ => ⟨pin, qin, fun z => absurd z nq, fun _ => ⟨qin, qin, pin, pin, ?_⟩⟩⟩
    rw [zon_n (show q < 2000 by omega)]
    rw [zI_si, if_pos rfl, if_neg pq]
    rw [hR.pers (w := 5) (k := 10 + 8 * p + 5) (by omega) (by decide) rfl, hR.pers (w := 5) (k := 10 + 8 * q + 5) (by omega) (by decide) rfl]
    refine hQ _ ?_ (zfr_trans (zfr_trans (zfr_si (by decide)) (zfr_si (by decide))) (zfr_si (by decide)))
    rw [upd_com (i := 10 + 8 * p + 5) (j := 10 + 8 * q + 5) (by omega), upd_com (i := 10 + 8 * p + 5) (j := 3) (by omega)]
    exact ((hR.set (zmap_pers (p := q) (w := 5) (by omega) (by decide)) (by decide) (by omega)).set (k := 3) (c := 1) (j := 7) rfl (by decide) (by omega)).set (zmap_pers (p := p) (w := 5) (by omega) (by decide)) (by decide) (by omega)
theorem X_leave6 {d N p : Nat} {c : Int32} {s : Nat → Int32} {Q : zm_M → Prop} {M : zm_M} (hR : RT M 0 s) (hW : YW N s) (hp : p < N) (hd : s (14 + 8 * p) = 0) (hc : c = -1 ∨ ∃ q, q < N ∧ c = zon q ∧ s (14 + 8 * q) = 1) (hQ : ∀ M1, RT M1 0 (yLv c s p 6) → zfr [1, 10] M M1 → Q M1) : zv (d + 3) 47 [.ref 1, .ref 10, .int (zon p), .int c] M Q := by
  have hN := hW.2.2.2
  have pin : zm_inb (zon p) 12 = true := by rw [zon_inb (by omega)]; omega
  apply zg_X7_leave_r1_10
  simp only [cl3_c]
  rw [show M.1 1 7 = s 3 from hR.1 3 1 7 rfl, zon_n (show p < 2000 by omega)]
  unfold yLv at hQ
  rcases hc with rfl | ⟨q, hq, rfl, aq⟩
  · rw [if_pos rfl] at hQ
    rw [hR.pers (w := 6) (k := 10 + 8 * p + 6) (by omega) (by decide) rfl, Int32.sub_zero]
    refine ⟨fun _ => ⟨fun _ => ⟨pin, pin, ?_⟩, fun z => absurd (by decide) z⟩, fun z => absurd (by decide) z⟩
    refine hQ _ ?_ (zfr_trans (zfr_si (by decide)) (zfr_si (by decide)))
    rw [upd_com (by omega)]
    exact (hR.set (k := 3) (c := 1) (j := 7) rfl (by decide) (by omega)).set (zmap_pers (p := p) (w := 6) (by omega) (by decide)) (by decide) (by omega)
  · have nq : ¬ zon q < 0 := zon_nn (by omega)
    have qin : zm_inb (zon q) 12 = true := by rw [zon_inb (by omega)]; omega
    have pq : p ≠ q := fun z => by rw [z, aq] at hd; exact absurd hd (by decide)
    rw [if_neg (fun z => nq (by rw [z]; decide)), zon_n (show q < 2000 by omega)] at hQ
    refine ⟨fun z => absurd z nq, fun _ => ⟨pin, qin, fun z => absurd z nq, fun _ => ⟨qin, qin, pin, pin, ?_⟩⟩⟩
    rw [zon_n (show q < 2000 by omega)]
    rw [zI_si, if_pos rfl, if_neg pq]
    rw [hR.pers (w := 6) (k := 10 + 8 * p + 6) (by omega) (by decide) rfl, hR.pers (w := 6) (k := 10 + 8 * q + 6) (by omega) (by decide) rfl]
    refine hQ _ ?_ (zfr_trans (zfr_trans (zfr_si (by decide)) (zfr_si (by decide))) (zfr_si (by decide)))
    rw [upd_com (i := 10 + 8 * p + 6) (j := 10 + 8 * q + 6) (by omega), upd_com (i := 10 + 8 * p + 6) (j := 3) (by omega)]
    exact ((hR.set (zmap_pers (p := q) (w := 6) (by omega) (by decide)) (by decide) (by omega)).set (k := 3) (c := 1) (j := 7) rfl (by decide) (by omega)).set (zmap_pers (p := p) (w := 6) (by omega) (by decide)) (by decide) (by omega)
theorem X_bury {d N p : Nat} {s : Nat → Int32} {Q : zm_M → Prop} {M : zm_M} (hR : RT M 0 s) (hW : YW N s) (hp : p < N) (hQ : ∀ M1, RT M1 0 (yDie s N p) → zfr [1, 8, 9, 10] M M1 → Q M1) : zv (d + 4) 46 [.ref 1, .int (zon p)] M Q := by
  have hN := hW.2.2.2
  have pin : zm_inb (zon p) 12 = true := by rw [zon_inb (by omega)]; omega
  apply zg_X7_bury
  rw [zon_n (show p < 2000 by omega)]
  have hR1 := hR.set (v := 0) (zmap_pers (p := p) (w := 4) (by omega) (by decide)) (by decide) (by omega)
  have hW1 := hW.dead hp
  rw [show 10 + 8 * p + 4 = 14 + 8 * p by omega] at hR1
  refine ⟨pin, ?_⟩
  apply zg_X3_leastChildAlive
  refine X_yLs hR1 hW1 N 0 (by omega) ?_
  refine X_leave5 hR1 hW1 hp upd_at yLs_hc (fun M2 hR2 f2 => ?_)
  have hW2 := hW1.lv (w := 5) hp (Or.inl rfl) (yLs_hc (N := N) (p := p))
  have hc2 := yLs_hc (N := N) (p := p) (s := yLv (yLs (upd s (14 + 8 * p) 0) p N 0) (upd s (14 + 8 * p) 0) p 5)
  rw [yLv_ls (Or.inl rfl)] at hc2
  refine X_leave6 hR2 hW2 hp ?_ hc2 (fun M3 hR3 f3 => hQ M3 hR3 ?_)
  · rw [yLv_at (by omega) (fun q => by omega), upd_at]
  · exact zfr_trans (zfr_trans (zfr_si (by decide)) (zfr_sub f2 (by decide))) (zfr_sub f3 (by decide))
theorem X_yY {d N : Nat} {M0 : zm_M} {Q : Int32 → zm_M → Prop} : ∀ (n i : Nat) (a : Int32 × (Nat → Int32)) (M : zm_M), i + n = N → RT M 0 a.2 → YW N a.2 → zfr [1, 8, 9, 10, 27, 28] M0 M → (∀ M1, RT M1 0 (yY N n i a).2 → zfr [1, 8, 9, 10, 27, 28] M0 M1 → Q (yY N n i a).1 M1) → zt (d + 5) 43 4 [some (.ref 1), some (.int a.1), some (.int (zon i))] [] M (zPi Q) := by
  intro n
  induction n with
  | zero =>
    intro i a M hi hR hW f0 hQ
    have hN := hW.2.2.2
    apply zg_X7_passYear_p4 (d := d + 4)
    rw [show M.1 2 0 = zon N from (hR.1 0 2 0 rfl).trans hW.2.2.1, zon_lt (by omega) (by omega)]
    exact ⟨fun z => absurd z (by omega), fun _ => hQ M hR f0⟩
  | succ n ih =>
    intro i a M hi hR hW f0 hQ
    have hN := hW.2.2.2
    have pin : zm_inb (zon i) 12 = true := by rw [zon_inb (by omega)]; omega
    have hWs := hW.st (p := i) (by omega)
    rw [yY] at hQ
    have nx := fun M1 => ih (i + 1) (yS N i a) M1 (by omega)
    apply zg_X7_passYear_p4 (d := d + 4)
    rw [show M.1 2 0 = zon N from (hR.1 0 2 0 rfl).trans hW.2.2.1, zon_lt (by omega) (by omega), zon_n (show i < 2000 by omega), hR.pers (w := 4) (k := 14 + 8 * i) (by omega) (by decide) (by omega), hR.pers (w := 5) (k := 15 + 8 * i) (by omega) (by decide) (by omega), zon_s (a := i)]
    refine ⟨fun _ => ⟨pin, fun al => ⟨pin, X_yFr (d := d + 2) hR hW (p := i) (by omega) (fun M1 f1 => ⟨pin, pin, ?_⟩)⟩, fun al => ?_⟩, fun z => absurd (by omega) z⟩
    · have hR1 : RT M1 0 a.2 := hR.cg (fun c h1 h2 h3 h4 h5 => f1.1 c (by simp only [List.mem_cons, List.not_mem_nil, or_false]; omega))
      rw [show M1.1 1 8 = a.2 6 from hR1.1 6 1 8 rfl, hR1.pers (w := 7) (k := 17 + 8 * i) (by omega) (by decide) (by omega)]
      have hR2 : RT (zm_si (zm_si M1 9 i (yPu a.2 N i)) 1 8 (yZ a.2)) 0 (yLive a.2 N i) := by
        have := (hR1.set (v := yPu a.2 N i) (zmap_pers (p := i) (w := 5) (by omega) (by decide)) (by decide) (by omega)).set (v := yZ a.2) (k := 6) (c := 1) (j := 8) rfl (by decide) (by omega)
        rw [show 10 + 8 * i + 5 = 15 + 8 * i by omega] at this
        exact this
      have f2 : zfr [1, 8, 9, 10, 27, 28] M0 (zm_si (zm_si M1 9 i (yPu a.2 N i)) 1 8 (yZ a.2)) := zfr_trans (zfr_trans (zfr_trans f0 (zfr_sub f1 (by decide))) (zfr_si (by decide))) (zfr_si (by decide))
      unfold yS at nx hQ hWs
      rw [if_pos al] at nx hQ hWs
      refine ⟨fun (c : yR (yZ a.2) < a.2 (17 + 8 * i)) => ?_, fun (c : ¬ yR (yZ a.2) < a.2 (17 + 8 * i)) => ?_⟩
      · rw [if_pos c] at nx hQ hWs
        exact X_bury (d := d) hR2 (hW.live (by omega)) (p := i) (by omega) (fun M4 hR4 f4 => nx M4 hR4 hWs (zfr_trans f2 (zfr_sub f4 (by decide))) hQ)
      · rw [if_neg c] at nx hQ hWs
        exact nx _ hR2 hWs f2 hQ
    · unfold yS at nx hQ hWs
      rw [if_neg al] at nx hQ hWs
      exact nx M hR hWs f0 hQ
theorem X_yYs {d N m : Nat} {M0 : zm_M} {Q : Int32 → zm_M → Prop} (hm : m ≤ 20) : ∀ (n k : Nat) (a : Int32 × (Nat → Int32)) (M : zm_M), k + n = m → RT M 0 a.2 → YW N a.2 → zfr [1, 8, 9, 10, 27, 28] M0 M → (∀ M1, RT M1 0 (yYs N n a).2 → zfr [1, 8, 9, 10, 27, 28] M0 M1 → Q (yYs N n a).1 M1) → zt (d + 6) 73 21 [some (.ref 0), some (.int (zon m)), some (.int a.1), some (.int (zon k))] [] M (zPi Q) := by
  intro n
  induction n with
  | zero =>
    intro k a M hk hR hW f0 hQ
    apply zg_X10_years_p21 (d := d + 5)
    rw [zon_lt (by omega) (by omega)]
    exact ⟨fun z => absurd z (by omega), fun _ => hQ M hR f0⟩
  | succ n ih =>
    intro k a M hk hR hW f0 hQ
    apply zg_X10_years_p21 (d := d + 5)
    rw [zon_lt (by omega) (by omega), zon_s (a := k)]
    refine ⟨fun _ => ?_, fun z => absurd (by omega) z⟩
    apply zg_X7_passYear
    exact X_yY (d := d) N 0 (0, a.2) M (by omega) hR hW f0 (fun M1 hR1 f1 => ih (k + 1) (a.1 + (yY N N 0 (0, a.2)).1, (yY N N 0 (0, a.2)).2) M1 (by omega) hR1 (YW.yy N 0 (0, a.2) (by omega) hW) f1 hQ)

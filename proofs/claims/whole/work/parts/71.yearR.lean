/-! A year: the reference's side; pair: years. -/
theorem cl3_3 {P : Int32 → Prop} {x : Int32} (h : P (cl3 x)) : (x < ((-999999) : Int32) → P (-999999)) ∧ (¬ x < ((-999999) : Int32) → ((999999 : Int32) < x → P 999999) ∧ (¬ (999999 : Int32) < x → P x)) := by
  unfold cl3 at h
  refine ⟨fun a => ?_, fun a => ⟨fun b => ?_, fun b => ?_⟩⟩
  · rw [if_pos a] at h
    exact h
  · rw [if_neg a, if_pos b] at h
    exact h
  · rw [if_neg a, if_neg b] at h
    exact h
theorem yK_3 {P : Int32 → Prop} {x : Int32} (h : P (yK x)) : (x < (0 : Int32) → P 0) ∧ (¬ x < (0 : Int32) → ((9999 : Int32) < x → P 9999) ∧ (¬ (9999 : Int32) < x → P x)) := by
  unfold yK at h
  refine ⟨fun a => ?_, fun a => ⟨fun b => ?_, fun b => ?_⟩⟩
  · rw [if_pos a] at h
    exact h
  · rw [if_neg a, if_pos b] at h
    exact h
  · rw [if_neg a, if_neg b] at h
    exact h
theorem R_leaveE {d N p w : Nat} {c : Int32} {s : Nat → Int32} {Q : zm_M → Prop} {M : zm_M} (hw : w = 5 ∨ w = 6) (hN : N ≤ 12) (hp : p < N) (hs : M.1 83 = upd s (10 + 8 * p + w) 0) (hc : c = -1 ∨ ∃ q, q < N ∧ c = zon q ∧ s (14 + 8 * q) = 1) (hd : s (14 + 8 * p) = 0) (hQ : ∀ M1, M1.1 83 = yLv c s p w → zfr [83] M M1 → Q M1) : zt (d + 2) 167 27 [some (.ref 82), some (.int (zon p)), some (.int (zon w)), some (.int (s (10 + 8 * p + w))), some (.int c), some (.int (zon 0 - 1)), none] [] M (zPv Q) := by
  apply zg_X11_leave_p27
  refine ⟨fun _ => ?_, fun z => absurd (by decide) z⟩
  unfold yLv at hQ
  have s3 : M.1 83 3 = s 3 := by rw [hs, upd_ne (by omega)]
  rcases hc with rfl | ⟨q, hq, rfl, aq⟩
  · rw [if_pos rfl] at hQ
    refine ⟨fun _ => ?_, fun z => absurd rfl z⟩
    rw [s3]
    refine cl3_3 (P := fun y => Q (zm_si M 83 3 y)) ?_
    exact hQ _ (by rw [zI_si_row, hs]) (zfr_si (by decide))
  · have nq : ¬ zon q < 0 := zon_nn (by omega)
    have pq : p ≠ q := fun z => by rw [z, aq] at hd; exact absurd hd (by decide)
    have c1 : ¬ zon q = -1 := fun z => nq (by rw [z]; decide)
    have qin : zm_inb (zon (10 + 8 * q + w)) 480 = true := by rw [zon_inb (by omega)]; omega
    have sq : M.1 83 (10 + 8 * q + w) = s (10 + 8 * q + w) := by rw [hs, upd_ne (by omega)]
    rw [if_neg c1, zon_n (show q < 2000 by omega)] at hQ
    refine ⟨fun z => absurd z c1, fun _ => ?_⟩
    rw [zPw, zon_n (show 10 + 8 * q + w < 2000 by omega), sq]
    refine ⟨qin, fun a => ⟨qin, qin, ?_⟩, fun a => ⟨qin, qin, ?_⟩⟩
    · rw [show tMin (99999 - s (10 + 8 * q + w)) (s (10 + 8 * p + w)) = 99999 - s (10 + 8 * q + w) from if_pos a] at hQ
      rw [zI_si, if_pos rfl, if_neg (show ¬ 3 = 10 + 8 * q + w by omega), s3]
      refine cl3_3 (P := fun y => Q (zm_si (zm_si M 83 (10 + 8 * q + w) (s (10 + 8 * q + w) + (99999 - s (10 + 8 * q + w)))) 83 3 y)) ?_
      exact hQ _ (by rw [zI_si_row, zI_si_row, hs]) (zfr_trans (zfr_si (by decide)) (zfr_si (by decide)))
    · rw [show tMin (99999 - s (10 + 8 * q + w)) (s (10 + 8 * p + w)) = s (10 + 8 * p + w) from if_neg a] at hQ
      rw [zI_si, if_pos rfl, if_neg (show ¬ 3 = 10 + 8 * q + w by omega), s3]
      refine cl3_3 (P := fun y => Q (zm_si (zm_si M 83 (10 + 8 * q + w) (s (10 + 8 * q + w) + s (10 + 8 * p + w))) 83 3 y)) ?_
      exact hQ _ (by rw [zI_si_row, zI_si_row, hs]) (zfr_trans (zfr_si (by decide)) (zfr_si (by decide)))
theorem R_leaveL {d N p w : Nat} {v : Int32} {s : Nat → Int32} {Q : zm_M → Prop} {M : zm_M} (hN : N ≤ 12) (hs : ∀ q, q < N → M.1 83 (12 + 8 * q) = s (12 + 8 * q) ∧ M.1 83 (13 + 8 * q) = s (13 + 8 * q) ∧ M.1 83 (14 + 8 * q) = s (14 + 8 * q)) (hQ : zt (d + 2) 167 27 [some (.ref 82), some (.int (zon p)), some (.int (zon w)), some (.int v), some (.int (yLs s p N 0)), some (.int (zon 0 - 1)), none] [] M (zPv Q)) : ∀ i, i ≤ N → zt (d + 2) 167 27 [some (.ref 82), some (.int (zon p)), some (.int (zon w)), some (.int v), some (.int (yLs s p (N - i) i)), some (.int (zon i - 1)), none] [] M (zPv Q) := by
  intro i
  induction i with
  | zero =>
    intro _
    exact hQ
  | succ k ih =>
    intro hk
    have ih := ih (by omega)
    obtain ⟨h12, h13, h14⟩ := hs k (by omega)
    rw [show N - k = (N - (k + 1)) + 1 by omega, yLs, Int32.sub_eq_add_neg] at ih
    rw [show zon (k + 1) - 1 = zon k by rw [← zon_s]; exact Int32.add_sub_cancel _ _]
    have i2 : zm_inb (zon (12 + 8 * k)) 480 = true := by rw [zon_inb (by omega)]; omega
    have i3 : zm_inb (zon (13 + 8 * k)) 480 = true := by rw [zon_inb (by omega)]; omega
    have i4 : zm_inb (zon (14 + 8 * k)) 480 = true := by rw [zon_inb (by omega)]; omega
    apply zg_X11_leave_p27
    refine ⟨fun z => absurd z (zon_nn (by omega)), fun _ => ?_⟩
    rw [zP2, zP3, zP4, zon_n (show 12 + 8 * k < 2000 by omega), zon_n (show 13 + 8 * k < 2000 by omega), zon_n (show 14 + 8 * k < 2000 by omega), h12, h13, h14]
    refine ⟨i4, fun a => ⟨i2, fun f => ?_, fun f => ⟨i3, fun m => ?_, fun m => ?_⟩⟩, fun a => ?_⟩
    · rw [if_pos ⟨a, Or.inl f⟩] at ih
      exact ih
    · rw [if_pos ⟨a, Or.inr m⟩] at ih
      exact ih
    · rw [if_neg (fun z => z.2.elim f m)] at ih
      exact ih
    · rw [if_neg (fun z => a z.1)] at ih
      exact ih
theorem R_leave {d N p w : Nat} {b : Int32} {s : Nat → Int32} {Q : zm_M → Prop} {M : zm_M} (hb : b = zon w) (hw : w = 5 ∨ w = 6) (hs : M.1 83 = s) (hW : YW N s) (hp : p < N) (hd : s (14 + 8 * p) = 0) (hQ : ∀ M1, M1.1 83 = yLv (yLs s p N 0) s p w → zfr [83] M M1 → Q M1) : zv (d + 2) 167 [.ref 82, .int (zon p), .int b] M Q := by
  subst hb
  have hN := hW.2.2.2
  have pin : zm_inb (zon (10 + 8 * p + w)) 480 = true := by rw [zon_inb (by omega)]; omega
  apply zg_X11_leave
  rw [zPw, zon_n (show 10 + 8 * p + w < 2000 by omega)]
  have r : ∀ k, k ≠ 10 + 8 * p + w → (zm_si M 83 (10 + 8 * p + w) 0).1 83 k = s k := fun k hk => by rw [zI_si_row, hs, upd_ne hk]
  rw [r 0 (by omega), hW.2.2.1, hs]
  refine ⟨pin, pin, ?_⟩
  have l := R_leaveL (d := d) (p := p) (w := w) (v := s (10 + 8 * p + w)) (s := s) (Q := Q) (M := zm_si M 83 (10 + 8 * p + w) 0) hN (fun q hq => ⟨r _ (by omega), r _ (by omega), r _ (by omega)⟩) (R_leaveE hw hN hp (by rw [zI_si_row, hs]) yLs_hc hd (fun M1 e1 f1 => hQ M1 e1 (zfr_trans (zfr_si (by decide)) f1))) N (Nat.le_refl _)
  rw [Nat.sub_self] at l
  exact l
theorem R_yCn {d N p : Nat} {s : Nat → Int32} {Q : Int32 → zm_M → Prop} {M : zm_M} (hs : M.1 83 = s) (hW : YW N s) : ∀ (n i : Nat) (acc : Int32), i + n = N → zt (d + 2) 166 4 [some (.ref 82), some (.int (zon p)), some (.int (yCn s p n i acc)), some (.int (zon N))] [] M (zPi Q) → zt (d + 2) 166 4 [some (.ref 82), some (.int (zon p)), some (.int acc), some (.int (zon i))] [] M (zPi Q) := by
  have hN := hW.2.2.2
  intro n
  induction n with
  | zero =>
    intro i acc hi hQ
    rw [show i = N by omega]
    exact hQ
  | succ k ih =>
    intro i acc hi hQ
    have i2 : zm_inb (zon (12 + 8 * i)) 480 = true := by rw [zon_inb (by omega)]; omega
    have i3 : zm_inb (zon (13 + 8 * i)) 480 = true := by rw [zon_inb (by omega)]; omega
    have i4 : zm_inb (zon (14 + 8 * i)) 480 = true := by rw [zon_inb (by omega)]; omega
    rw [yCn] at hQ
    apply zg_X11_fresh_p4
    rw [hs, hW.2.2.1, zon_lt (by omega) (by omega)]
    refine ⟨fun _ => ?_, fun z => absurd (by omega) z⟩
    rw [zP2, zP3, zP4, zon_n (show 12 + 8 * i < 2000 by omega), zon_n (show 13 + 8 * i < 2000 by omega), zon_n (show 14 + 8 * i < 2000 by omega), zon_s (a := i), show acc + 0 = acc from Int32.add_zero acc]
    refine ⟨i4, fun a => ⟨i2, fun f => ?_, fun f => ⟨i3, fun m => ?_, fun m => ?_⟩⟩, fun a => ?_⟩
    · rw [if_pos ⟨a, Or.inl f⟩] at hQ
      exact ih (i + 1) _ (by omega) hQ
    · rw [if_pos ⟨a, Or.inr m⟩] at hQ
      exact ih (i + 1) _ (by omega) hQ
    · rw [if_neg (fun z => z.2.elim f m)] at hQ
      exact ih (i + 1) _ (by omega) hQ
    · rw [if_neg (fun z => a z.1)] at hQ
      exact ih (i + 1) _ (by omega) hQ
theorem R_yFr {d N p : Nat} {s : Nat → Int32} {Q : Int32 → zm_M → Prop} {M : zm_M} (hs : M.1 83 = s) (hW : YW N s) (hp : p < N) (hQ : ∀ M1, zfr [88, 89] M M1 → Q (yFr s N p) M1) : zi (d + 2) 166 [.ref 82, .int (zon p)] M Q := by
  have hN := hW.2.2.2
  have i5 : zm_inb (zon (15 + 8 * p)) 480 = true := by rw [zon_inb (by omega)]; omega
  have i6 : zm_inb (zon (16 + 8 * p)) 480 = true := by rw [zon_inb (by omega)]; omega
  apply zg_X11_fresh
  refine R_yCn hs hW N 0 0 (by omega) ?_
  apply zg_X11_fresh_p4
  rw [hs, hW.2.2.1, zon_lt (by omega) (by omega)]
  refine ⟨fun z => absurd z (by omega), fun _ => ⟨by decide, ?_⟩⟩
  rw [show ((146 + (125 * 1) : Int32).toNatClampNeg) = 271 from rfl, zP5, zP6, zon_n (show 15 + 8 * p < 2000 by omega), zon_n (show 16 + 8 * p < 2000 by omega)]
  unfold yFr at hQ
  refine ⟨fun c => ⟨i5, i6, ?_⟩, fun c => ⟨i6, ?_⟩⟩
  · rw [if_pos c] at hQ
    refine R_workF (s := s) (p := s (15 + 8 * p)) (h := s (16 + 8 * p)) (n0 := yCn s p N 0 0) hs hW.2.1 c (by simp [zI_si]) (fun M1 f1 => ?_)
    exact yK_3 (P := fun y => Q y M1) (hQ M1 (zfr_trans (zfr_trans (zfr_trans (zfr_si (by decide)) (zfr_si (by decide))) (zfr_si (by decide))) (zfr_sub f1 (by decide))))
  · rw [if_neg c] at hQ
    have g := yd20 (hW.pw hp).2.2
    have e : yK (s (16 + 8 * p) / 20) = s (16 + 8 * p) / 20 := by
      generalize s (16 + 8 * p) / 20 = x at *
      unfold yK
      rw [if_neg (by grind), if_neg (by grind)]
    refine yK_3 (P := fun y => Q y M) ?_
    rw [e]
    exact hQ M zfr_rfl
theorem R_yY {d N : Nat} {M0 : zm_M} {Q : Int32 → zm_M → Prop} : ∀ (n i : Nat) (a : Int32 × (Nat → Int32)) (M : zm_M), i + n = N → M.1 83 = a.2 → YW N a.2 → zfr [83, 88, 89] M0 M → (∀ M1, M1.1 83 = (yY N n i a).2 → zfr [83, 88, 89] M0 M1 → Q (yY N n i a).1 M1) → zt (d + 3) 168 4 [some (.ref 82), some (.int a.1), some (.int (zon i))] [] M (zPi Q) := by
  intro n
  induction n with
  | zero =>
    intro i a M hi hs hW f0 hQ
    have hN := hW.2.2.2
    apply zg_X11_year_p4 (d := d + 2)
    rw [hs, hW.2.2.1, zon_lt (by omega) (by omega)]
    exact ⟨fun z => absurd z (by omega), fun _ => hQ M hs f0⟩
  | succ n ih =>
    intro i a M hi hs hW f0 hQ
    have hN := hW.2.2.2
    have in4 : zm_inb (zon (14 + 8 * i)) 480 = true := by rw [zon_inb (by omega)]; omega
    have in5 : zm_inb (zon (15 + 8 * i)) 480 = true := by rw [zon_inb (by omega)]; omega
    have in7 : zm_inb (zon (17 + 8 * i)) 480 = true := by rw [zon_inb (by omega)]; omega
    have hWs := hW.st (p := i) (by omega)
    rw [yY] at hQ
    have nx := fun M1 => ih (i + 1) (yS N i a) M1 (by omega)
    unfold yS at nx hQ hWs
    apply zg_X11_year_p4 (d := d + 2)
    rw [hs, hW.2.2.1, zon_lt (by omega) (by omega)]
    refine ⟨fun _ => ?_, fun z => absurd (by omega) z⟩
    rw [zP4, zP5, zP7, zon_n (show 14 + 8 * i < 2000 by omega), zon_n (show 15 + 8 * i < 2000 by omega), zon_n (show 17 + 8 * i < 2000 by omega), zon_s (a := i)]
    refine ⟨in4, fun al => ⟨in5, R_yFr (d := d) hs hW (p := i) (by omega) (fun M1 f1 => ?_)⟩, fun al => ?_⟩
    · rw [if_pos al] at nx hQ hWs
      have h1 : M1.1 83 = a.2 := by rw [f1.1 83 (by decide), hs]
      have f01 : zfr [83, 88, 89] M0 M1 := zfr_trans f0 (zfr_sub f1 (by decide))
      have g1 := yFr_rng hW (p := i) (by omega)
      have g2 := (hW.pw (p := i) (by omega)).2.1
      have nx0 : ¬ a.2 (15 + 8 * i) + yFr a.2 N i < 0 := by
        clear nx hQ
        generalize yFr a.2 N i = x at *
        generalize a.2 (15 + 8 * i) = y at *
        grind
      refine ⟨fun z => absurd z nx0, fun _ => ⟨fun z => ?_, fun z => ?_⟩⟩
      · rw [show (99999 : Int32) = yPu a.2 N i from (if_neg (by clear nx hQ; generalize a.2 (15 + 8 * i) + yFr a.2 N i = y at *; grind)).symm]
        have r6 : (zm_si M1 83 (15 + 8 * i) (yPu a.2 N i)).1 83 6 = a.2 6 := by rw [zI_si_row, h1, upd_ne (by omega)]
        have r7 : ∀ z, (zm_si (zm_si M1 83 (15 + 8 * i) (yPu a.2 N i)) 83 6 z).1 83 (17 + 8 * i) = a.2 (17 + 8 * i) := fun z => by rw [zI_si_row, zI_si_row, h1, upd_ne (by omega), upd_ne (by omega)]
        rw [r6, r7]
        refine ⟨in5, in7, fun (c : yR (yZ a.2) < a.2 (17 + 8 * i)) => ⟨in4, ?_⟩, fun (c : ¬ yR (yZ a.2) < a.2 (17 + 8 * i)) => ?_⟩
        · rw [if_pos c] at nx hQ hWs
          refine R_leave (d := d) (w := 5) (s := upd (yLive a.2 N i) (14 + 8 * i) 0) rfl (Or.inl rfl) (by rw [zI_si_row, zI_si_row, zI_si_row, h1]; rfl) ((hW.live (by omega)).dead (by omega)) (p := i) (by omega) upd_at (fun M2 e2 f2 => ?_)
          have hW2 := ((hW.live (p := i) (by omega)).dead (p := i) (by omega)).lv (w := 5) (p := i) (by omega) (Or.inl rfl) (yLs_hc (N := N) (p := i))
          refine R_leave (d := d) (w := 6) rfl (Or.inr rfl) e2 hW2 (p := i) (by omega) (by rw [yLv_at (by omega) (fun q => by omega), upd_at]) (fun M3 e3 f3 => ?_)
          rw [yLv_ls (Or.inl rfl)] at e3
          exact nx M3 e3 hWs (zfr_trans (zfr_trans (zfr_trans (zfr_trans (zfr_trans f01 (zfr_si (by decide))) (zfr_si (by decide))) (zfr_si (by decide))) (zfr_sub f2 (by decide))) (zfr_sub f3 (by decide))) hQ
        · rw [if_neg c] at nx hQ hWs
          exact nx _ (by rw [zI_si_row, zI_si_row, h1]; rfl) hWs (zfr_trans (zfr_trans f01 (zfr_si (by decide))) (zfr_si (by decide))) hQ
      · rw [show a.2 (15 + 8 * i) + yFr a.2 N i = yPu a.2 N i from by unfold yPu; clear nx hQ; generalize a.2 (15 + 8 * i) + yFr a.2 N i = y at *; split <;> grind]
        have r6 : (zm_si M1 83 (15 + 8 * i) (yPu a.2 N i)).1 83 6 = a.2 6 := by rw [zI_si_row, h1, upd_ne (by omega)]
        have r7 : ∀ z, (zm_si (zm_si M1 83 (15 + 8 * i) (yPu a.2 N i)) 83 6 z).1 83 (17 + 8 * i) = a.2 (17 + 8 * i) := fun z => by rw [zI_si_row, zI_si_row, h1, upd_ne (by omega), upd_ne (by omega)]
        rw [r6, r7]
        refine ⟨in5, in7, fun (c : yR (yZ a.2) < a.2 (17 + 8 * i)) => ⟨in4, ?_⟩, fun (c : ¬ yR (yZ a.2) < a.2 (17 + 8 * i)) => ?_⟩
        · rw [if_pos c] at nx hQ hWs
          refine R_leave (d := d) (w := 5) (s := upd (yLive a.2 N i) (14 + 8 * i) 0) rfl (Or.inl rfl) (by rw [zI_si_row, zI_si_row, zI_si_row, h1]; rfl) ((hW.live (by omega)).dead (by omega)) (p := i) (by omega) upd_at (fun M2 e2 f2 => ?_)
          have hW2 := ((hW.live (p := i) (by omega)).dead (p := i) (by omega)).lv (w := 5) (p := i) (by omega) (Or.inl rfl) (yLs_hc (N := N) (p := i))
          refine R_leave (d := d) (w := 6) rfl (Or.inr rfl) e2 hW2 (p := i) (by omega) (by rw [yLv_at (by omega) (fun q => by omega), upd_at]) (fun M3 e3 f3 => ?_)
          rw [yLv_ls (Or.inl rfl)] at e3
          exact nx M3 e3 hWs (zfr_trans (zfr_trans (zfr_trans (zfr_trans (zfr_trans f01 (zfr_si (by decide))) (zfr_si (by decide))) (zfr_si (by decide))) (zfr_sub f2 (by decide))) (zfr_sub f3 (by decide))) hQ
        · rw [if_neg c] at nx hQ hWs
          exact nx _ (by rw [zI_si_row, zI_si_row, h1]; rfl) hWs (zfr_trans (zfr_trans f01 (zfr_si (by decide))) (zfr_si (by decide))) hQ
    · rw [if_neg al] at nx hQ hWs
      exact nx M hs hWs f0 hQ
theorem R_yYs {d N m : Nat} {M0 : zm_M} {Q : Int32 → zm_M → Prop} (hm : m ≤ 20) : ∀ (n k : Nat) (a : Int32 × (Nat → Int32)) (M : zm_M), k + n = m → M.1 83 = a.2 → YW N a.2 → zfr [83, 88, 89] M0 M → (∀ M1, M1.1 83 = (yYs N n a).2 → zfr [83, 88, 89] M0 M1 → Q (yYs N n a).1 M1) → zt (d + 4) 169 20 [some (.ref 82), some (.int (zon m)), some (.int a.1), some (.int (zon k))] [] M (zPi Q) := by
  intro n
  induction n with
  | zero =>
    intro k a M hk hs hW f0 hQ
    apply zg_X11_years_p20 (d := d + 3)
    rw [zon_lt (by omega) (by omega)]
    exact ⟨fun z => absurd z (by omega), fun _ => hQ M hs f0⟩
  | succ n ih =>
    intro k a M hk hs hW f0 hQ
    apply zg_X11_years_p20 (d := d + 3)
    rw [zon_lt (by omega) (by omega), zon_s (a := k)]
    refine ⟨fun _ => ?_, fun z => absurd (by omega) z⟩
    apply zg_X11_year
    exact R_yY (d := d) N 0 (0, a.2) M (by omega) hs hW f0 (fun M1 hs1 f1 => ih (k + 1) (a.1 + (yY N N 0 (0, a.2)).1, (yY N N 0 (0, a.2)).2) M1 (by omega) hs1 (YW.yy N 0 (0, a.2) (by omega) hW) f1 hQ)
theorem pair_years {d : Nat} {M : zm_M} {a : Int32} (h : Inv M) : zi (d + 6) 73 [.ref 0, .int a] M (fun v M1 => zi (d + 4) 169 [.ref 82, .int a] M1 (fun w M2 => v = w ∧ Inv M2)) := by
  obtain ⟨hR, hW⟩ := h.1
  obtain ⟨N, hN, hN2⟩ := zs12 hW.1
  have hY : YW N (M.1 83) := ⟨hW, hR.2.2.sx, hN, hN2⟩
  apply zg_X10_years
  refine ⟨fun c1 => ?_, fun c1 => ⟨fun c2 => ?_, fun c2 => ?_⟩⟩
  · apply zg_X11_years
    exact ⟨fun _ => ⟨rfl, h.err1 (by decide)⟩, fun z => absurd c1 z⟩
  · apply zg_X11_years
    exact ⟨fun z => absurd z c1, fun _ => ⟨fun _ => ⟨rfl, h.err1 (by decide)⟩, fun z => absurd c2 z⟩⟩
  · obtain ⟨m, rfl, hm⟩ := zof2 (x := a) (m := 20) (n := 20) (by grind) (by grind) rfl
    refine X_yYs (d := d) hm m 0 (0, M.1 83) M (by omega) hR hY zfr_rfl (fun M1 r1 f1 => ?_)
    have e83 : M1.1 83 = M.1 83 := f1.1 83 (by decide)
    apply zg_X11_years
    refine ⟨fun z => absurd z c1, fun _ => ⟨fun z => absurd z c2, fun _ => ?_⟩⟩
    refine R_yYs (d := d) hm m 0 (0, M.1 83) M1 (by omega) e83 hY zfr_rfl (fun M2 e2 f2 => ⟨rfl, ?_⟩)
    refine h.town (s2 := (yYs N m (0, M.1 83)).2) (r1.congr (fun c g1 g2 => f2.1 c (by simp only [List.mem_cons, List.not_mem_nil, or_false]; omega))) (YW.yys m (0, M.1 83) hY).1 e2 (fun c hc => ?_) ?_ ?_
    · rw [f2.1 c (by simp only [List.mem_cons, List.not_mem_nil, or_false]; omega), f1.1 c (by simp only [List.mem_cons, List.not_mem_nil, or_false]; omega)]
    · rw [f2.1 82 (by decide), f1.1 82 (by decide)]
    · rw [f2.1 82 (by decide), f1.1 82 (by decide)]

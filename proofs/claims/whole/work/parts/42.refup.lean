/-! A DEFAULT in the reference: what goes up. -/
theorem tTo_0 {T : zT} : tTo T 0 = T := by
  obtain ⟨a, b, c, e⟩ := T
  simp [tTo]
theorem tCall_0 {up : zT → Nat → Int32 → Int32 → zT} {E : Nat → Int32} {T : zT} {p : Nat} {s : Int32} : tCall up E T p 0 s = T := if_pos rfl
theorem tG_0 {E : Nat → Int32} : tG E 0 = 0 := by
  unfold tG
  split <;> rfl
theorem tUp_0 {E : Nat → Int32} : ∀ (n : Nat) (T : zT) (p : Nat) (s : Int32), tUp E n T p 0 s = T
  | 0, T, p, s => tTo_0
  | n + 1, T, p, s => by
    unfold tUp
    rw [tG_0, show (0 : Int32) - 0 = 0 from rfl, show (0 : Int32) / 2 = 0 from rfl, show (0 : Int32) - 0 = 0 from rfl, tTo_0, tCall_0, tCall_0, tCall_0]
    simp only [ite_self]
theorem tPay_0 {T : zT} {p : Nat} (h : 0 ≤ T.1 p ∧ T.1 p ≤ 99999) (h2 : 0 ≤ T.2.1 p ∧ T.2.1 p ≤ 99999) : tPaid T p 0 = 0 ∧ tPay T p 0 = T := by
  have e1 : tPaid T p 0 = 0 := by
    unfold tPaid tMin
    split <;> grind
  have e2 : tMin (T.1 p) 0 = 0 := by
    unfold tMin
    split <;> grind
  refine ⟨e1, ?_⟩
  have eu : ∀ (f : Nat → Int32), upd f p (f p) = f := fun f => by
    funext i
    unfold upd
    by_cases hi : i = p
    · rw [if_pos hi, hi]
    · rw [if_neg hi]
  obtain ⟨a, b, c, e⟩ := T
  unfold tPay
  rw [e1, e2]
  show (upd a p (a p - 0), upd b p (b p - (0 - 0)), upd c p (c p + 0), e) = (a, b, c, e)
  rw [show (0 : Int32) - 0 = 0 from rfl, show a p - 0 = a p by grind, show b p - 0 = b p by grind, show c p + 0 = c p by grind, eu, eu, eu]
def rCall (up : zT → Nat → Int32 → Int32 → zT) (E : Nat → Int32) (T : zT) (p : Nat) (c s : Int32) : zT :=
  if E (14 + 8 * p) = 0 then up T p c s
  else if E (10 + 8 * p) = 2 then tTo (tPay T p (tAns E T p c s)) (c - tPaid T p (tAns E T p c s))
  else up (tPay T p (tAns E T p c s)) p (c - tPaid T p (tAns E T p c s)) s
theorem rCall_eq {N : Nat} {up : zT → Nat → Int32 → Int32 → zT} {E : Nat → Int32} {T : zT} {p : Nat} {c s B : Int32} (hE : TE N E) (hb : TB N T B) (hp : p < N) (h0 : ∀ T p, up T p 0 s = T) : rCall up E T p c s = tCall up E T p c s := by
  unfold rCall tCall
  by_cases c0 : c = 0
  · subst c0
    rw [if_pos rfl]
    have ha := tAns_rng (T := T) (s := s) (c := 0) (hE.2.2.1 p hp).2.1 (by decide)
    have ha0 : tAns E T p 0 s = 0 := by grind
    obtain ⟨e1, e2⟩ := tPay_0 (hb.1 p hp).1 (hb.1 p hp).2
    rw [ha0, e1, e2, show (0 : Int32) - 0 = 0 from rfl, h0, tTo_0]
    simp only [ite_self]
  · rw [if_neg c0]
theorem R_tt {N : Nat} {M : zm_M} {E : Nat → Int32} {T : zT} {c t0 o3 B : Int32} {q0 : Nat → Int32} {Q : zm_M → Prop} (h : RD M E T t0 o3 q0) (hb : TB N T B) (hB : 0 ≤ B ∧ B ≤ 100000000) (ho : -999999 ≤ o3 ∧ o3 ≤ 999999) (hc : 0 ≤ c ∧ c ≤ 99999) (hQ : ∀ M1, RD M1 E (tTo T c) t0 o3 q0 → zf8 M M1 → Q M1) : (((M.1 83 3) - c) < ((-999999) : Int32) → Q (zm_si (zm_si M 82 13 ((M.1 82 13) + c)) 83 3 (-999999))) ∧ (¬ ((M.1 83 3) - c) < ((-999999) : Int32) → ((999999 : Int32) < ((M.1 83 3) - c) → Q (zm_si (zm_si M 82 13 ((M.1 82 13) + c)) 83 3 999999)) ∧ (¬ (999999 : Int32) < ((M.1 83 3) - c) → Q (zm_si (zm_si M 82 13 ((M.1 82 13) + c)) 83 3 ((M.1 83 3) - c)))) := by
  have fin : ∀ v, v = cl3 (M.1 83 3 - c) → Q (zm_si (zm_si M 82 13 (M.1 82 13 + c)) 83 3 v) := fun v hv => by
    have := h.to hb hB ho hc hv
    exact hQ _ this.1 this.2
  refine ⟨fun c1 => fin _ ?_, fun c1 => ⟨fun c2 => fin _ ?_, fun c2 => fin _ ?_⟩⟩
  · unfold cl3; rw [if_pos c1]
  · unfold cl3; rw [if_neg c1, if_pos c2]
  · unfold cl3; rw [if_neg c1, if_neg c2]
theorem R_call {D N k : Nat} {E : Nat → Int32} {up : zT → Nat → Int32 → Int32 → zT} {t0 o3 : Int32} {q0 : Nat → Int32} (hE : TE N E) (hk : 1 ≤ k ∧ k ≤ 10) (ho : -999999 ≤ o3 ∧ o3 ≤ 999999) (h0 : ∀ T p, up T p 0 (zon k) = T) (hup : ∀ (M : zm_M) (T : zT) (p : Nat) (c B : Int32) (Q : zm_M → Prop), RD M E T t0 o3 q0 → TB N T B → (0 ≤ c ∧ c ≤ 99999) → p < N → (0 ≤ B ∧ B ≤ 100000000 - c) → (∀ M1, RD M1 E (up T p c (zon k)) t0 o3 q0 → zf8 M M1 → Q M1) → zv (D + 5) 155 [.ref 82, .int (zon p), .int c, .int (zon k)] M Q) (M : zm_M) (T : zT) (p : Nat) (c B : Int32) (Q : zm_M → Prop) (hr : RD M E T t0 o3 q0) (hb : TB N T B) (hc : 0 ≤ c ∧ c ≤ 99999) (hp : p < N) (hB : 0 ≤ B ∧ B ≤ 100000000 - c) (hQ : ∀ M1, RD M1 E (tCall up E T p c (zon k)) t0 o3 q0 → zf8 M M1 → Q M1) : zv (D + 6) 153 [.ref 82, .int (zon p), .int c, .int (zon k)] M Q := by
  have hN := hE.1.1
  rw [← rCall_eq hE hb hp h0] at hQ
  have i4 : zm_inb (zon (14 + 8 * p)) 480 = true := by rw [zon_inb (by omega)]; omega
  have i0 : zm_inb (zon (10 + 8 * p)) 480 = true := by rw [zon_inb (by omega)]; omega
  have e4 : M.1 83 (14 + 8 * p) = E (14 + 8 * p) := hr.1 _ (by omega) (by omega)
  have ha := tAns_rng (T := T) (s := zon k) (hE.2.2.1 p hp).2.1 hc
  have hpd := tPaid_rng (hb.1 p hp).1 (hb.1 p hp).2 ha.1
  have hb1 := hb.pay hp ha.1
  have k0 : (0 : Int32) < zon k := by rw [Int32.lt_iff_toInt_lt, zon_i (by omega)]; simp; omega
  apply zg_X11_call (d := D + 4)
  rw [zP4, zP0, zon_n (show 14 + 8 * p < 2000 by omega), zon_n (show 10 + 8 * p < 2000 by omega), e4]
  unfold rCall at hQ
  refine ⟨i4, fun z => ?_, fun z => ?_⟩
  · rw [if_pos z] at hQ
    exact hup M T p c B _ hr hb hc hp hB hQ
  · rw [if_neg z] at hQ
    refine R_pays (d := D) hE hp hr hc (fun M1 r1 f1 => ⟨i0, ?_⟩)
    rw [show M1.1 83 (10 + 8 * p) = E (10 + 8 * p) from r1.1 _ (by omega) (by omega)]
    refine ⟨fun w => ⟨fun _ => ?_, fun y => absurd k0 y⟩, fun w => ?_⟩
    · rw [if_pos w] at hQ
      exact R_tt r1 hb1 (by grind) ho (by grind) (fun M2 r2 f2 => hQ M2 r2 (zf8_trans f1 f2))
    · rw [if_neg w] at hQ
      exact hup M1 _ p _ B _ r1 hb1 (by grind) hp (by grind) (fun M2 r2 f2 => hQ M2 r2 (zf8_trans f1 f2))
def tRes (up : zT → Nat → Int32 → Int32 → zT) (E : Nat → Int32) (T : zT) (g v5 v6 s : Int32) : zT :=
  if v5 < 0 then (if v6 < 0 then T else tCall up E T v6.toNatClampNeg g s)
  else (if v6 < 0 then tCall up E T v5.toNatClampNeg g s else tCall up E (tCall up E T v5.toNatClampNeg (g - g / 2) s) v6.toNatClampNeg (g / 2) s)
theorem R_rest {d N k : Nat} {E : Nat → Int32} {up : zT → Nat → Int32 → Int32 → zT} {t0 o3 : Int32} {q0 : Nat → Int32} {M1 : zm_M} {T : zT} {g v5 v6 B : Int32} {Q : zm_M → Prop} (hE : TE N E) (hub : ∀ (T : zT) (p : Nat) (c B : Int32), TB N T B → (0 ≤ c ∧ c ≤ 99999) → p < N → (0 ≤ B ∧ B ≤ 100000000 - c) → TB N (up T p c (zon (k + 1))) (B + c))
    (cl : ∀ (M : zm_M) (T : zT) (p : Nat) (c B : Int32) (Q : zm_M → Prop), RD M E T t0 o3 q0 → TB N T B → (0 ≤ c ∧ c ≤ 99999) → p < N → (0 ≤ B ∧ B ≤ 100000000 - c) → (∀ M1, RD M1 E (tCall up E T p c (zon (k + 1))) t0 o3 q0 → zf8 M M1 → Q M1) → zv (d + 1) 153 [.ref 82, .int (zon p), .int c, .int (zon (k + 1))] M Q)
    (hr : RD M1 E T t0 o3 q0) (hb : TB N T B) (hg : 0 ≤ g ∧ g ≤ 99999) (hB : 0 ≤ B ∧ B ≤ 100000000 - g) (h5 : v5 = -1 ∨ ∃ q, q < N ∧ v5 = zon q) (h6 : v6 = -1 ∨ ∃ q, q < N ∧ v6 = zon q) (hQ : ∀ M2, RD M2 E (tRes up E T g v5 v6 (zon (k + 1))) t0 o3 q0 → zf8 M1 M2 → Q M2) :
    (g = (0 : Int32) → Q M1) ∧ (¬ g = (0 : Int32) → (v6 = ((-1) : Int32) → (v5 = ((-1) : Int32) → zt (d + 2) 155 209 [some (.ref 82), none, none, some (.int (zon k)), none, none, some (.int v6), some (.int g), some (.int g)] [] M1 (zPv Q)) ∧ (¬ v5 = ((-1) : Int32) → zv (d + 1) 153 [.ref 82, .int v5, .int g, .int (zon (k + 1))] M1 (fun M2 => zt (d + 2) 155 209 [some (.ref 82), none, none, some (.int (zon k)), none, none, some (.int v6), some (.int g), some (.int g)] [] M2 (zPv Q)))) ∧ (¬ v6 = ((-1) : Int32) → (v5 = ((-1) : Int32) → (v5 = ((-1) : Int32) → zt (d + 2) 155 209 [some (.ref 82), none, none, some (.int (zon k)), none, none, some (.int v6), some (.int g), some (.int 0)] [] M1 (zPv Q)) ∧ (¬ v5 = ((-1) : Int32) → zv (d + 1) 153 [.ref 82, .int v5, .int 0, .int (zon (k + 1))] M1 (fun M2 => zt (d + 2) 155 209 [some (.ref 82), none, none, some (.int (zon k)), none, none, some (.int v6), some (.int g), some (.int 0)] [] M2 (zPv Q)))) ∧ (¬ v5 = ((-1) : Int32) → (v5 = ((-1) : Int32) → zt (d + 2) 155 209 [some (.ref 82), none, none, some (.int (zon k)), none, none, some (.int v6), some (.int g), some (.int ((g + 1) / 2))] [] M1 (zPv Q)) ∧ (¬ v5 = ((-1) : Int32) → zv (d + 1) 153 [.ref 82, .int v5, .int ((g + 1) / 2), .int (zon (k + 1))] M1 (fun M2 => zt (d + 2) 155 209 [some (.ref 82), none, none, some (.int (zon k)), none, none, some (.int v6), some (.int g), some (.int ((g + 1) / 2))] [] M2 (zPv Q)))))) := by
  have hN := hE.1.1
  have hh := zhalf hg.1
  have n1 : (-1 : Int32) < 0 := by decide
  have e1 : (g + 1) / 2 = g - g / 2 := zhalf2 hg.1 (by grind)
  have e2 : g - (g - g / 2) = g / 2 := by grind
  have e3 : g - 0 = g := by grind
  unfold tRes at hQ
  refine ⟨fun z => ?_, fun z => ⟨fun m1 => ⟨fun f1 => ?_, fun f1 => ?_⟩, fun m1 => ⟨fun f1 => ⟨fun _ => ?_, fun f2 => absurd f1 f2⟩, fun f1 => ⟨fun f2 => absurd f2 f1, fun _ => ?_⟩⟩⟩⟩
  · subst z
    rw [show (0 : Int32) / 2 = 0 from rfl, show (0 : Int32) - 0 = 0 from rfl, tCall_0, tCall_0, tCall_0] at hQ
    simp only [ite_self] at hQ
    exact hQ M1 hr zf8_rfl
  · refine zg_X11_goesUp_p209 (d := d + 1) ⟨fun _ => zg_X11_goesUp_p229 ?_, fun y => absurd m1 y⟩
    subst m1
    subst f1
    rw [if_pos n1, if_pos n1] at hQ
    exact hQ M1 hr zf8_rfl
  · rcases h5 with h5 | ⟨q, hq, h5⟩
    · exact absurd h5 f1
    · subst m1
      subst h5
      rw [if_neg (zon_nn (by omega)), if_pos n1, zon_n (by omega)] at hQ
      exact cl M1 T q g B _ hr hb hg hq hB (fun M2 r2 f2 => zg_X11_goesUp_p209 (d := d + 1) ⟨fun _ => zg_X11_goesUp_p229 (hQ M2 r2 f2), fun y => absurd rfl y⟩)
  · rcases h6 with h6 | ⟨q, hq, h6⟩
    · exact absurd h6 m1
    · subst f1
      subst h6
      rw [if_pos n1, if_neg (zon_nn (by omega)), zon_n (by omega)] at hQ
      refine zg_X11_goesUp_p209 (d := d + 1) ⟨fun y => absurd y m1, fun _ => ?_⟩
      rw [e3, zon_s]
      exact cl M1 T q g B _ hr hb hg hq hB (fun M2 r2 f2 => zg_X11_goesUp_p229 (hQ M2 r2 f2))
  · rcases h5 with h5 | ⟨q, hq, h5⟩
    · exact absurd h5 f1
    · rcases h6 with h6 | ⟨q2, hq2, h6⟩
      · exact absurd h6 m1
      · subst h5
        subst h6
        rw [if_neg (zon_nn (by omega)), if_neg (zon_nn (by omega)), zon_n (by omega), zon_n (by omega)] at hQ
        rw [e1]
        refine cl M1 T q (g - g / 2) B _ hr hb (by grind) hq (by grind) (fun M2 r2 f2 => zg_X11_goesUp_p209 (d := d + 1) ⟨fun y => absurd y m1, fun _ => ?_⟩)
        rw [e2, zon_s]
        exact cl M2 _ q2 (g / 2) (B + (g - g / 2)) _ r2 (TB.call hE hub hb (by grind) hq (by grind)) (by grind) hq2 (by grind) (fun M3 r3 f3 => zg_X11_goesUp_p229 (hQ M3 r3 (zf8_trans f2 f3)))
theorem R_126 {D n N k : Nat} {E : Nat → Int32} {t0 o3 : Int32} {q0 : Nat → Int32} {M : zm_M} {T : zT} {c v5 v6 B : Int32} {Q : zm_M → Prop} (hE : TE N E) (ho : -999999 ≤ o3 ∧ o3 ≤ 999999)
    (cl : ∀ (M : zm_M) (T : zT) (p : Nat) (c B : Int32) (Q : zm_M → Prop), RD M E T t0 o3 q0 → TB N T B → (0 ≤ c ∧ c ≤ 99999) → p < N → (0 ≤ B ∧ B ≤ 100000000 - c) → (∀ M1, RD M1 E (tCall (tUp E n) E T p c (zon (k + 1))) t0 o3 q0 → zf8 M M1 → Q M1) → zv (D + 1) 153 [.ref 82, .int (zon p), .int c, .int (zon (k + 1))] M Q)
    (hr : RD M E T t0 o3 q0) (hb : TB N T B) (hc : 0 ≤ c ∧ c ≤ 99999) (hB : 0 ≤ B ∧ B ≤ 100000000 - c) (h5 : v5 = -1 ∨ ∃ q, q < N ∧ v5 = zon q) (h6 : v6 = -1 ∨ ∃ q, q < N ∧ v6 = zon q) (hQ : ∀ M2, RD M2 E (tRes (tUp E n) E (tTo T (c - tG E c)) (tG E c) v5 v6 (zon (k + 1))) t0 o3 q0 → zf8 M M2 → Q M2) : zt (D + 2) 155 126 [some (.ref 82), none, none, some (.int (zon k)), some (.int c), some (.int v5), some (.int v6), none, none] [] M (zPv Q) := by
  have hg := tG_rng (E := E) hc
  have hub := TB.up hE n (zon (k + 1))
  have key : ∀ v, v = cl3 (M.1 83 3 - (c - tG E c)) → RD (zm_si (zm_si M 82 13 (M.1 82 13 + (c - tG E c))) 83 3 v) E (tTo T (c - tG E c)) t0 o3 q0 ∧ zf8 M (zm_si (zm_si M 82 13 (M.1 82 13 + (c - tG E c))) 83 3 v) := fun v hv => hr.to hb (by grind) ho (by grind) hv
  have hb1 : TB N (tTo T (c - tG E c)) (B + (c - tG E c)) := hb.to (by grind) (by grind)
  have hg1 : 0 ≤ tG E c ∧ tG E c ≤ 99999 := by grind
  have hB1 : 0 ≤ B + (c - tG E c) ∧ B + (c - tG E c) ≤ 100000000 - tG E c := by grind
  apply zg_X11_goesUp_p126 (d := D)
  rw [show M.1 83 8 = E 8 from hr.1 8 (by omega) (by omega), zon_s]
  refine ⟨fun h8 => ?_, fun h8 => ?_⟩
  · have e : tG E c = c / 2 := by unfold tG; rw [if_pos h8]
    rw [e] at hQ key hb1 hg1 hB1
    refine ⟨fun c1 => ?_, fun c1 => ⟨fun c2 => ?_, fun c2 => ?_⟩⟩
    · have kk := key (-999999) (by unfold cl3; rw [if_pos c1])
      have r := R_rest (d := D) (k := k) (Q := Q) (g := c / 2) (v5 := v5) (v6 := v6) hE hub cl kk.1 hb1 hg1 hB1 h5 h6 (fun M2 r2 f2 => hQ M2 r2 (zf8_trans kk.2 f2))
      exact r
    · have kk := key 999999 (by unfold cl3; rw [if_neg c1, if_pos c2])
      have r := R_rest (d := D) (k := k) (Q := Q) (g := c / 2) (v5 := v5) (v6 := v6) hE hub cl kk.1 hb1 hg1 hB1 h5 h6 (fun M2 r2 f2 => hQ M2 r2 (zf8_trans kk.2 f2))
      exact r
    · have kk := key _ (by unfold cl3; rw [if_neg c1, if_neg c2])
      have r := R_rest (d := D) (k := k) (Q := Q) (g := c / 2) (v5 := v5) (v6 := v6) hE hub cl kk.1 hb1 hg1 hB1 h5 h6 (fun M2 r2 f2 => hQ M2 r2 (zf8_trans kk.2 f2))
      exact r
  · have e : tG E c = c := by unfold tG; rw [if_neg h8]
    rw [e] at hQ key hb1 hg1 hB1
    refine ⟨fun c1 => ?_, fun c1 => ⟨fun c2 => ?_, fun c2 => ?_⟩⟩
    · have kk := key (-999999) (by unfold cl3; rw [if_pos c1])
      have r := R_rest (d := D) (k := k) (Q := Q) (g := c) (v5 := v5) (v6 := v6) hE hub cl kk.1 hb1 hg1 hB1 h5 h6 (fun M2 r2 f2 => hQ M2 r2 (zf8_trans kk.2 f2))
      exact r
    · have kk := key 999999 (by unfold cl3; rw [if_neg c1, if_pos c2])
      have r := R_rest (d := D) (k := k) (Q := Q) (g := c) (v5 := v5) (v6 := v6) hE hub cl kk.1 hb1 hg1 hB1 h5 h6 (fun M2 r2 f2 => hQ M2 r2 (zf8_trans kk.2 f2))
      exact r
    · have kk := key _ (by unfold cl3; rw [if_neg c1, if_neg c2])
      have r := R_rest (d := D) (k := k) (Q := Q) (g := c) (v5 := v5) (v6 := v6) hE hub cl kk.1 hb1 hg1 hB1 h5 h6 (fun M2 r2 f2 => hQ M2 r2 (zf8_trans kk.2 f2))
      exact r
theorem tUp_res {E : Nat → Int32} {n : Nat} {T : zT} {p : Nat} {c s : Int32} (hs : s < E 7) (hb : ¬ (E (12 + 8 * p) < 0 ∧ E (13 + 8 * p) < 0)) : tUp E (n + 1) T p c s = tRes (tUp E n) E (tTo T (c - tG E c)) (tG E c) (E (12 + 8 * p)) (E (13 + 8 * p)) (s + 1) := by
  rw [tUp, if_pos hs]
  unfold tRes
  by_cases h1 : E (12 + 8 * p) < 0
  · have h2 : ¬ E (13 + 8 * p) < 0 := fun z => hb ⟨h1, z⟩
    rw [if_pos h1, if_neg h2, if_pos h1, if_neg h2]
  · rw [if_neg h1, if_neg h1]
/-- from the parting on: what is left goes up, or to the town -/
theorem R_94 {D n N k p : Nat} {E : Nat → Int32} {t0 o3 : Int32} {q0 : Nat → Int32} {M : zm_M} {T : zT} {c B : Int32} {Q : zm_M → Prop} (hE : TE N E) (hp : p < N) (hk : zon k < E 7) (ho : -999999 ≤ o3 ∧ o3 ≤ 999999)
    (cl : ∀ (M : zm_M) (T : zT) (p : Nat) (c B : Int32) (Q : zm_M → Prop), RD M E T t0 o3 q0 → TB N T B → (0 ≤ c ∧ c ≤ 99999) → p < N → (0 ≤ B ∧ B ≤ 100000000 - c) → (∀ M1, RD M1 E (tCall (tUp E n) E T p c (zon (k + 1))) t0 o3 q0 → zf8 M M1 → Q M1) → zv (D + 1) 153 [.ref 82, .int (zon p), .int c, .int (zon (k + 1))] M Q)
    (hr : RD M E T t0 o3 q0) (hb : TB N T B) (hc : 0 ≤ c ∧ c ≤ 99999) (hB : 0 ≤ B ∧ B ≤ 100000000 - c) (hQ : ∀ M2, RD M2 E (tUp E (n + 1) T p c (zon k)) t0 o3 q0 → zf8 M M2 → Q M2) : zt (D + 2) 155 94 [some (.ref 82), some (.int (zon p)), none, some (.int (zon k)), some (.int c), none, none, none, none] [] M (zPv Q) := by
  have hN := hE.1.1
  obtain ⟨-, -, hf, hm, -⟩ := hE.2.2.1 p hp
  have i2 : zm_inb (zon (12 + 8 * p)) 480 = true := by rw [zon_inb (by omega)]; omega
  have i3 : zm_inb (zon (13 + 8 * p)) 480 = true := by rw [zon_inb (by omega)]; omega
  have e2 : M.1 83 (12 + 8 * p) = E (12 + 8 * p) := hr.1 _ (by omega) (by omega)
  have e3 : M.1 83 (13 + 8 * p) = E (13 + 8 * p) := hr.1 _ (by omega) (by omega)
  apply zg_X11_goesUp_p94 (d := D)
  rw [zP2, zP3, zon_n (show 12 + 8 * p < 2000 by omega), zon_n (show 13 + 8 * p < 2000 by omega), e2, e3, show c - 0 = c by grind]
  have main : ¬ (E (12 + 8 * p) < 0 ∧ E (13 + 8 * p) < 0) → zt (D + 2) 155 126 [some (.ref 82), none, none, some (.int (zon k)), some (.int c), some (.int (E (12 + 8 * p))), some (.int (E (13 + 8 * p))), none, none] [] M (zPv Q) := fun hnb => by
    refine R_126 (n := n) hE ho cl hr hb hc hB hf hm (fun M2 r2 f2 => hQ M2 ?_ f2)
    rw [tUp_res hk hnb, zon_s]
    exact r2
  refine ⟨i2, i3, fun z => ⟨fun w => ?_, fun w => main ?_⟩, fun z => main ?_⟩
  · refine R_tt hr hb (by grind) ho hc (fun M2 r2 f2 => hQ M2 ?_ f2)
    rw [tUp, if_pos hk, z, w, if_pos (by decide), if_pos (by decide)]
    exact r2
  · rintro ⟨-, y⟩
    rcases hm with hm | ⟨q, hq, hm⟩
    · exact w hm
    · rw [hm] at y
      exact zon_nn (by omega) y
  · rintro ⟨y, -⟩
    rcases hf with hf | ⟨q, hq, hf⟩
    · exact z hf
    · rw [hf] at y
      exact zon_nn (by omega) y
theorem R_up {N : Nat} {E : Nat → Int32} {t0 o3 : Int32} {q0 : Nat → Int32} (hE : TE N E) (ho : -999999 ≤ o3 ∧ o3 ≤ 999999) {D : Nat} : ∀ (n k : Nat), k + n = 10 → 1 ≤ k → ∀ (M : zm_M) (T : zT) (p : Nat) (c B : Int32) (Q : zm_M → Prop), RD M E T t0 o3 q0 → TB N T B → (0 ≤ c ∧ c ≤ 99999) → p < N → (0 ≤ B ∧ B ≤ 100000000 - c) → (∀ M1, RD M1 E (tUp E n T p c (zon k)) t0 o3 q0 → zf8 M M1 → Q M1) → zv (D + 2 * n + 5) 155 [.ref 82, .int (zon p), .int c, .int (zon k)] M Q
  | 0, k, hk, hk1, M, T, p, c, B, Q, hr, hb, hc, hp, hB, hQ => by
    have e : k = 10 := by omega
    subst e
    have h7 := hE.2.1
    apply zg_X11_goesUp (d := D + 3)
    rw [show M.1 83 7 = E 7 from hr.1 7 (by omega) (by omega)]
    refine ⟨fun z => ?_, fun _ => R_tt hr hb (by grind) ho hc hQ⟩
    rw [show zon 10 = 10 from rfl] at z
    exact absurd z (by grind)
  | n + 1, k, hk, hk1, M, T, p, c, B, Q, hr, hb, hc, hp, hB, hQ => by
    have hN := hE.1.1
    have ih := R_up hE ho (t0 := t0) (q0 := q0) (D := D) n (k + 1) (by omega) (by omega)
    have cl := R_call (D := D + 2 * n) hE (by omega) ho (fun T p => tUp_0 n T p _) ih
    show zv ((D + 2 * n + 5) + 2) 155 _ M Q
    apply zg_X11_goesUp (d := D + 2 * n + 5)
    rw [show M.1 83 7 = E 7 from hr.1 7 (by omega) (by omega)]
    refine ⟨fun z => ?_, fun z => R_tt hr hb (by grind) ho hc (fun M1 r1 f1 => hQ M1 ?_ f1)⟩
    · refine zg_X11_goesUp_p23 (d := D + 2 * n + 6) ?_
      rw [show M.1 83 0 = zon N from (hr.1 0 (by omega) (by omega)).trans hE.1.2]
      refine ⟨fun _ => ⟨fun y => ?_, fun _ => ?_⟩, fun y => absurd (show zon 0 < zon N by rw [zon_lt (by omega) (by omega)]; omega) y⟩
      · rw [show (0 : Int32) = zon 0 from rfl, zon_inj (by omega) (by omega)] at y
        omega
      · exact R_94 (D := D + 2 * n + 5) hE hp z ho cl hr hb hc hB hQ
    · rw [tUp, if_neg z]
      exact r1

/-! A DEFAULT in the class: answer, pay, call. -/
def XE (M : zm_M) (E : Nat → Int32) : Prop := (∀ p, p < 12 → M.1 60 p = E (12 + 8 * p) ∧ M.1 61 p = E (13 + 8 * p) ∧ M.1 62 p = E (14 + 8 * p) ∧ M.1 4 p = E (10 + 8 * p) ∧ M.1 5 p = E (11 + 8 * p)) ∧ M.1 2 0 = E 0 ∧ (∀ j, j < 3 → M.1 29 j = E (7 + j)) ∧ RX M 0 0 E
def XD (M : zm_M) (T : zT) : Prop := (∀ p, p < 12 → M.1 63 p = T.1 p ∧ M.1 64 p = T.2.1 p ∧ M.1 65 p = T.2.2.1 p) ∧ M.1 59 8 = T.2.2.2
theorem XE.fr {M M1 : zm_M} {E : Nat → Int32} (h : XE M E) (f : zfr [23, 24, 59, 63, 64, 65] M M1) : XE M1 E := by
  obtain ⟨h1, h2, h3, h4⟩ := h
  refine ⟨fun p hp => ?_, ?_, fun j hj => ?_, ?_⟩
  · rw [f.1 60 (by decide), f.1 61 (by decide), f.1 62 (by decide), f.1 4 (by decide), f.1 5 (by decide)]
    exact h1 p hp
  · rw [f.1 2 (by decide)]
    exact h2
  · rw [f.1 29 (by decide)]
    exact h3 j hj
  · exact h4.offr (f.1 21 (by decide)) (f.1 22 (by decide)) (fun _ _ _ => rfl)
theorem XD.fr {M M1 : zm_M} {T : zT} (h : XD M T) (f : zfr [23, 24] M M1) : XD M1 T := by
  obtain ⟨h1, h2⟩ := h
  refine ⟨fun p hp => ?_, ?_⟩
  · rw [f.1 63 (by decide), f.1 64 (by decide), f.1 65 (by decide)]
    exact h1 p hp
  · rw [f.1 59 (by decide)]
    exact h2
theorem XD.to {M : zm_M} {T : zT} {c : Int32} (h : XD M T) : XD (zm_si M 59 8 (M.1 59 8 + c)) (tTo T c) := by
  obtain ⟨h1, h2⟩ := h
  refine ⟨fun p hp => ?_, ?_⟩
  · rw [zI_si_rne (by decide), zI_si_rne (by decide), zI_si_rne (by decide)]
    exact h1 p hp
  · rw [zI_si_eq, h2]
    rfl
theorem X_pay {d : Nat} {M : zm_M} {T : zT} {p : Nat} {a : Int32} {Q : Int32 → zm_M → Prop} (hp : p < 12) (hd : XD M T) (hQ : ∀ M1, XD M1 (tPay T p a) → zfr [63, 64, 65] M M1 → Q (tPaid T p a) M1) : zi (d + 1) 57 [.ref 59, .int (zon p), .int a] M Q := by
  obtain ⟨y1, y2, y3⟩ := hd.1 p hp
  have hin : zm_inb (zon p) 12 = true := by rw [zon_inb (by omega)]; exact hp
  apply zg_X8_pay
  rw [zon_n (by omega), y1, y2, y3]
  refine ⟨hin, hin, hin, hin, hin, hin, hin, hin, hin, ?_⟩
  refine hQ (zm_si (zm_si (zm_si M 63 p (T.1 p - tMin (T.1 p) (tPaid T p a))) 64 p (T.2.1 p - (tPaid T p a - tMin (T.1 p) (tPaid T p a)))) 65 p (T.2.2.1 p + tPaid T p a)) ⟨fun q hq => ?_, ?_⟩ (zfr_trans (zfr_trans (zfr_si (by decide)) (zfr_si (by decide))) (zfr_si (by decide)))
  · show _ = upd T.1 p _ q ∧ _ = upd T.2.1 p _ q ∧ _ = upd T.2.2.1 p _ q
    obtain ⟨g1, g2, g3⟩ := hd.1 q hq
    unfold upd
    by_cases hqp : q = p
    · simp [zI_si, hqp]
    · simp [zI_si, hqp, g1, g2, g3]
  · rw [zI_si_ne (by decide), zI_si_ne (by decide), zI_si_ne (by decide)]
    exact hd.2
theorem X_answer {d : Nat} {M : zm_M} {E : Nat → Int32} {T : zT} {N p k : Nat} {c : Int32} {Q : Int32 → zm_M → Prop} (hE : TE N E) (hp : p < N) (hx : XE M E) (hd : XD M T) (hQ : ∀ M1, zfr [23, 24] M M1 → Q (tAns E T p c (zon k)) M1) : zi (d + 2) 56 [.ref 59, .int (zon p), .int c, .int (zon k)] M Q := by
  have hN := hE.1.1
  obtain ⟨hk1, -⟩ := hE.2.2.1 p hp
  obtain ⟨x1, x2, x3, x4, x5⟩ := hx.1 p (by omega)
  obtain ⟨y1, y2, y3⟩ := hd.1 p (by omega)
  have hin : zm_inb (zon p) 12 = true := by rw [zon_inb (by omega)]; omega
  have hr := hx.2.2.2
  have h0 : M.1 21 0 = 0 ↔ ¬ 0 < E 146 := hr.stand
  have hq : ∀ a, a = tAns E T p c (zon k) → Q a M := fun a ha => by rw [ha]; exact hQ M zfr_rfl
  apply zg_X8_answer
  rw [zon_n (by omega), x4, x5, y1, y2]
  refine ⟨hin, hin, ?_⟩
  have h7 : E (10 + 8 * p) = 0 ∨ E (10 + 8 * p) = 1 ∨ E (10 + 8 * p) = 2 ∨ E (10 + 8 * p) = 3 ∨ E (10 + 8 * p) = 4 ∨ E (10 + 8 * p) = 5 ∨ E (10 + 8 * p) = 6 := by grind
  rcases h7 with h | h | h | h | h | h | h <;> rw [h]
  · exact ⟨fun z => absurd z (by decide), fun _ => ⟨fun z => absurd z (by decide), fun _ => ⟨fun z => absurd z (by decide), fun _ => ⟨fun z => absurd z (by decide), fun _ => ⟨fun z => absurd z (by decide), fun _ => ⟨fun z => absurd z (by decide), fun _ => hq _ (by simp [tAns, h])⟩⟩⟩⟩⟩⟩
  · exact ⟨fun _ => hq _ (by simp [tAns, h, tMin]), fun z => absurd rfl z⟩
  · exact ⟨fun z => absurd z (by decide), fun _ => ⟨fun _ => ⟨fun s0 => hq _ (by simp [tAns, h, s0]), fun s0 => hq _ (by simp [tAns, h, s0])⟩, fun z => absurd rfl z⟩⟩
  · exact ⟨fun z => absurd z (by decide), fun _ => ⟨fun z => absurd z (by decide), fun _ => ⟨fun _ => ⟨fun s0 => hq _ (by simp [tAns, tHalf, h, s0]), fun s0 => hq _ (by simp [tAns, tHalf, h, s0])⟩, fun z => absurd rfl z⟩⟩⟩
  · exact ⟨fun z => absurd z (by decide), fun _ => ⟨fun z => absurd z (by decide), fun _ => ⟨fun z => absurd z (by decide), fun _ => ⟨fun _ => ⟨fun s0 => hq _ (by simp [tAns, tMin, h, s0]), fun s0 => hq _ (by simp [tAns, tMin, h, s0])⟩, fun z => absurd rfl z⟩⟩⟩⟩
  · exact ⟨fun z => absurd z (by decide), fun _ => ⟨fun z => absurd z (by decide), fun _ => ⟨fun z => absurd z (by decide), fun _ => ⟨fun z => absurd z (by decide), fun _ => ⟨fun _ => ⟨fun s0 => hq _ (by simp [tAns, tMin, tHalf, h, s0]), fun s0 => hq _ (by simp [tAns, tMin, tHalf, h, s0])⟩, fun z => absurd rfl z⟩⟩⟩⟩⟩
  · refine ⟨fun z => absurd z (by decide), fun _ => ⟨fun z => absurd z (by decide), fun _ => ⟨fun z => absurd z (by decide), fun _ => ⟨fun z => absurd z (by decide), fun _ => ⟨fun z => absurd z (by decide), fun _ => ⟨fun _ => ⟨fun s0 => hq _ ?_, fun s0 => ⟨hin, hin, ?_⟩⟩, fun z => absurd rfl z⟩⟩⟩⟩⟩⟩
    · simp [tAns, tTold, h, h0.mp s0]
    · refine X_worthA hr s0 (fun M1 f1 => ?_)
      have e := hQ M1 f1
      have h1 : 0 < E 146 := Decidable.byContradiction (fun z => s0 (h0.mpr z))
      unfold tAns tTold tMin at e
      rw [h, if_neg (by decide), if_neg (by decide), if_neg (by decide), if_neg (by decide), if_neg (by decide), if_pos rfl, if_pos h1] at e
      exact e
theorem X_call {D N k : Nat} {E : Nat → Int32} {up : zT → Nat → Int32 → Int32 → zT} (hE : TE N E) (hup : ∀ (M : zm_M) (T : zT) (p : Nat) (c B : Int32) (Q : zm_M → Prop), XE M E → XD M T → TB N T B → (0 ≤ c ∧ c ≤ 99999) → p < N → (0 ≤ B ∧ B ≤ 100000000 - c) → (∀ M1, XD M1 (up T p c (zon k)) → zfr [23, 24, 59, 63, 64, 65] M M1 → Q M1) → zv (D + 3) 54 [.ref 59, .int (zon p), .int c, .int (zon k)] M Q) (M : zm_M) (T : zT) (p : Nat) (c B : Int32) (Q : zm_M → Prop) (hx : XE M E) (hd : XD M T) (hb : TB N T B) (hc : 0 ≤ c ∧ c ≤ 99999) (hp : p < N) (hB : 0 ≤ B ∧ B ≤ 100000000 - c) (hQ : ∀ M1, XD M1 (tCall up E T p c (zon k)) → zfr [23, 24, 59, 63, 64, 65] M M1 → Q M1) : zv (D + 4) 55 [.ref 59, .int (zon p), .int c, .int (zon k)] M Q := by
  have hN := hE.1.1
  have hin : zm_inb (zon p) 12 = true := by rw [zon_inb (by omega)]; omega
  obtain ⟨x1, x2, x3, x4, x5⟩ := hx.1 p (by omega)
  have ha := tAns_rng (T := T) (s := zon k) (hE.2.2.1 p hp).2.1 hc
  have hpd := tPaid_rng (hb.1 p hp).1 (hb.1 p hp).2 ha.1
  have hb1 := hb.pay hp ha.1
  apply zg_X8_call (d := D + 3)
  rw [zon_n (by omega), x3]
  unfold tCall at hQ
  refine ⟨fun z => ?_, fun c0 => ⟨hin, fun z => ?_, fun z => ?_⟩⟩
  · rw [if_pos z] at hQ
    exact hQ M hd zfr_rfl
  · rw [if_neg c0, if_pos z] at hQ
    exact hup M T p c B _ hx hd hb hc hp hB hQ
  · rw [if_neg c0, if_neg z] at hQ
    refine X_answer (d := D + 1) hE hp hx hd (fun M1 f1 => ?_)
    refine X_pay (d := D + 2) (by omega) (hd.fr f1) (fun M4 d4 f4 => ?_)
    have f : zfr [23, 24, 59, 63, 64, 65] M M4 := zfr_trans (zfr_sub f1 (by decide)) (zfr_sub f4 (by decide))
    rw [show M4.1 4 = M.1 4 from f.1 4 (by decide), x4]
    refine ⟨hin, fun w => ?_, fun w => ?_⟩
    · rw [if_pos w] at hQ
      exact hQ _ d4.to (zfr_trans f (zfr_si (by decide)))
    · rw [if_neg w] at hQ
      exact hup M4 _ p _ B _ (hx.fr f) d4 hb1 (by grind) hp (by grind) (fun M1 d1 f1 => hQ M1 d1 (zfr_trans f f1))
theorem X_up {N : Nat} {E : Nat → Int32} (hE : TE N E) {D : Nat} : ∀ (n k : Nat), k + n = 10 → ∀ (M : zm_M) (T : zT) (p : Nat) (c B : Int32) (Q : zm_M → Prop), XE M E → XD M T → TB N T B → (0 ≤ c ∧ c ≤ 99999) → p < N → (0 ≤ B ∧ B ≤ 100000000 - c) → (∀ M1, XD M1 (tUp E n T p c (zon k)) → zfr [23, 24, 59, 63, 64, 65] M M1 → Q M1) → zv (D + 2 * n + 3) 54 [.ref 59, .int (zon p), .int c, .int (zon k)] M Q
  | 0, k, hk, M, T, p, c, B, Q, hx, hd, hb, hc, hp, hB, hQ => by
    have e : k = 10 := by omega
    subst e
    apply zg_X8_up (d := D + 2)
    rw [show M.1 29 0 = E 7 from hx.2.2.1 0 (by decide)]
    refine ⟨fun z => ?_, fun _ => hQ _ hd.to (zfr_si (by decide))⟩
    have := hE.2.1
    rw [show zon 10 = 10 from rfl] at z
    exact absurd z (by grind)
  | n + 1, k, hk, M, T, p, c, B, Q, hx, hd, hb, hc, hp, hB, hQ => by
    have hN := hE.1.1
    have hin : zm_inb (zon p) 12 = true := by rw [zon_inb (by omega)]; omega
    obtain ⟨x1, x2, x3, x4, x5⟩ := hx.1 p (by omega)
    obtain ⟨-, -, hf, hm, -⟩ := hE.2.2.1 p hp
    have ih := X_up hE (D := D) n (k + 1) (by omega)
    have cl := X_call (D := D + 2 * n) hE ih
    have bb := fun (T : zT) (p : Nat) (c B : Int32) => TB.call (N := N) (up := tUp E n) (T := T) (p := p) (c := c) (s := zon (k + 1)) (B := B) hE (TB.up hE n (zon (k + 1)))
    have t1 : ∀ g, 0 ≤ g ∧ g ≤ c → TB N (tTo T (c - g)) (B + (c - g)) := fun g hg => hb.to (by grind) (by grind)
    have one : ∀ (g : Int32) (q : Nat), (0 ≤ g ∧ g ≤ c) → q < N → (∀ M1, XD M1 (tCall (tUp E n) E (tTo T (c - g)) q g (zon (k + 1))) → zfr [23, 24, 59, 63, 64, 65] M M1 → Q M1) → zv (D + 2 * n + 4) 55 [.ref 59, .int (zon q), .int g, .int (zon (k + 1))] (zm_si M 59 8 (M.1 59 8 + (c - g))) (fun M9 => Q M9) := fun g q hg hq hq2 =>
      cl _ _ q g (B + (c - g)) _ (hx.fr (zfr_si (by decide))) hd.to (t1 g hg) (by grind) hq (by grind) (fun M1 d1 f1 => hq2 M1 d1 (zfr_trans (zfr_si (by decide)) f1))
    have two : ∀ (g : Int32) (q q2 : Nat), (0 ≤ g ∧ g ≤ c) → q < N → q2 < N → E (13 + 8 * p) = zon q2 → (∀ M1, XD M1 (tCall (tUp E n) E (tCall (tUp E n) E (tTo T (c - g)) q (g - g / 2) (zon (k + 1))) q2 (g / 2) (zon (k + 1))) → zfr [23, 24, 59, 63, 64, 65] M M1 → Q M1) → zv (D + 2 * n + 4) 55 [.ref 59, .int (zon q), .int (g - g / 2), .int (zon (k + 1))] (zm_si M 59 8 (M.1 59 8 + (c - g))) (fun M9 => zm_inb (zon p) 12 = true ∧ (zv (D + 2 * n + 4) 55 [.ref 59, .int (M9.1 61 p), .int (g / 2), .int (zon (k + 1))] M9 (fun M8 => Q M8))) := fun g q q2 hg hq hq2 he hQ2 => by
      have hh := zhalf hg.1
      refine cl _ _ q (g - g / 2) (B + (c - g)) _ (hx.fr (zfr_si (by decide))) hd.to (t1 g hg) (by grind) hq (by grind) (fun M1 d1 f1 => ⟨hin, ?_⟩)
      have f2 : zfr [23, 24, 59, 63, 64, 65] M M1 := zfr_trans (zfr_si (by decide)) f1
      rw [show M1.1 61 = M.1 61 from f2.1 61 (by decide), x2, he]
      exact cl _ _ q2 (g / 2) (B + (c - g) + (g - g / 2)) _ (hx.fr f2) d1 (bb _ q (g - g / 2) (B + (c - g)) (t1 g hg) (by grind) hq (by grind)) (by grind) hq2 (by grind) (fun M3 d3 f3 => hQ2 M3 d3 (zfr_trans f2 f3))
    have hg := tG_rng (E := E) hc
    have n1 : (-1 : Int32) < 0 := by decide
    show zv ((D + 2 * n + 4) + 1) 54 _ M Q
    apply zg_X8_up (d := D + 2 * n + 4)
    rw [zon_n (by omega), show M.1 29 0 = E 7 from hx.2.2.1 0 (by decide), show M.1 29 1 = E 8 from hx.2.2.1 1 (by decide), x1, x2, zon_s]
    unfold tUp at hQ
    by_cases hs : zon k < E 7
    · rw [if_pos hs] at hQ
      refine ⟨fun _ => ⟨hin, ?_⟩, fun z => absurd hs z⟩
      rcases hf with hf | ⟨q, hq, hf⟩
      · rw [hf] at hQ ⊢
        rw [if_pos n1] at hQ
        refine ⟨fun _ => ⟨hin, ?_⟩, fun z => absurd n1 z⟩
        rcases hm with hm | ⟨q2, hq2, hm⟩
        · rw [hm] at hQ ⊢
          rw [if_pos n1] at hQ
          exact ⟨fun _ => hQ _ hd.to (zfr_si (by decide)), fun z => absurd n1 z⟩
        · have nq : ¬ zon q2 < 0 := zon_nn (by omega)
          rw [hm] at hQ ⊢
          rw [if_neg nq, zon_n (by omega), zon_s] at hQ
          refine ⟨fun z => absurd z nq, fun _ => ⟨fun h8 => ⟨hin, fun z => absurd z nq, fun _ => ⟨hin, fun _ => ⟨hin, ?_⟩, fun z => absurd n1 z⟩⟩, fun h8 => ⟨hin, fun z => absurd z nq, fun _ => ⟨hin, fun _ => ⟨hin, ?_⟩, fun z => absurd n1 z⟩⟩⟩⟩
          · have e : tG E c = c / 2 := by unfold tG; rw [if_pos h8]
            rw [e] at hQ hg
            exact one _ q2 hg hq2 hQ
          · have e : tG E c = c := by unfold tG; rw [if_neg h8]
            rw [e] at hQ hg
            exact one _ q2 hg hq2 hQ
      · have nf : ¬ zon q < 0 := zon_nn (by omega)
        rw [hf] at hQ ⊢
        rw [if_neg nf, zon_n (by omega), zon_s] at hQ
        refine ⟨fun z => absurd z nf, fun _ => ?_⟩
        rcases hm with hm | ⟨q2, hq2, hm⟩
        · rw [hm] at hQ ⊢
          rw [if_pos n1] at hQ
          refine ⟨fun h8 => ⟨hin, fun _ => ⟨hin, ?_⟩, fun z => absurd n1 z⟩, fun h8 => ⟨hin, fun _ => ⟨hin, ?_⟩, fun z => absurd n1 z⟩⟩
          · have e : tG E c = c / 2 := by unfold tG; rw [if_pos h8]
            rw [e] at hQ hg
            exact one _ q hg hq hQ
          · have e : tG E c = c := by unfold tG; rw [if_neg h8]
            rw [e] at hQ hg
            exact one _ q hg hq hQ
        · have nq : ¬ zon q2 < 0 := zon_nn (by omega)
          rw [hm] at hQ ⊢
          rw [if_neg nq, zon_n (by omega)] at hQ
          refine ⟨fun h8 => ⟨hin, fun z => absurd z nq, fun _ => ⟨hin, fun z => absurd z nf, fun _ => ⟨hin, ?_⟩⟩⟩, fun h8 => ⟨hin, fun z => absurd z nq, fun _ => ⟨hin, fun z => absurd z nf, fun _ => ⟨hin, ?_⟩⟩⟩⟩
          · have e : tG E c = c / 2 := by unfold tG; rw [if_pos h8]
            rw [e] at hQ hg
            exact two _ q q2 hg hq hq2 hm hQ
          · have e : tG E c = c := by unfold tG; rw [if_neg h8]
            rw [e] at hQ hg
            exact two _ q q2 hg hq hq2 hm hQ
    · rw [if_neg hs] at hQ
      exact ⟨fun z => absurd z hs, fun _ => hQ _ hd.to (zfr_si (by decide))⟩

/-! A DEFAULT whole: who owes, sisters, what goes up; in both. -/
theorem b32a {c v : Int32} (hc : 0 ≤ c ∧ c ≤ 99999) (hv : 0 ≤ v ∧ v ≤ c) : 0 ≤ c - v ∧ c - v ≤ 99999 := by grind
theorem b32b {B c v : Int32} (hB : 0 ≤ B ∧ B ≤ 100000000 - c) (hc : 0 ≤ c ∧ c ≤ 99999) (hv : 0 ≤ v ∧ v ≤ c) : 0 ≤ B ∧ B ≤ 100000000 - (c - v) := by grind
theorem b32c {c v : Int32} (hc : 0 ≤ c ∧ c ≤ 99999) (hv : 0 ≤ v ∧ v ≤ c) : 0 ≤ v ∧ v ≤ 99999 := by grind
theorem b32d {c v : Int32} (hc : 0 ≤ c ∧ c ≤ 99999) (hv : 0 ≤ v ∧ v ≤ c) : 0 ≤ c - v ∧ c - v ≤ c := by grind
theorem b32e {k c : Int32} (hk : 0 ≤ k ∧ k ≤ 1100000) (hc : 0 ≤ c ∧ c ≤ 99999) : 0 ≤ k ∧ k ≤ 100000000 - c := by grind
theorem b32f {k l c : Int32} (hk : 0 ≤ k ∧ k ≤ 1100000) (hl : l = k + 100000) (hc : 0 ≤ c ∧ c ≤ 99999) : k + c ≤ l := by grind
theorem b32f0 {k l : Int32} (hk : 0 ≤ k ∧ k ≤ 1100000) (hl : l = k + 100000) : k ≤ l := by grind
theorem b32g {B c v : Int32} (hB : 0 ≤ B ∧ B ≤ 100000000 - c) (hc : 0 ≤ c ∧ c ≤ 99999) (hv : 0 ≤ v ∧ v ≤ c) : 0 ≤ B ∧ B ≤ 100000000 - v := by grind
theorem b32h {B c v : Int32} (hB : 0 ≤ B ∧ B ≤ 100000000 - c) (hc : 0 ≤ c ∧ c ≤ 99999) (hv : 0 ≤ v ∧ v ≤ c) : B + v ≤ B + c := by grind
theorem b32i {v c d : Int32} (h1 : v ≤ c - d) (h2 : 0 ≤ d ∧ d ≤ c) (hc : 0 ≤ c ∧ c ≤ 99999) : v ≤ c := by grind
theorem b32l {x : Int32} (h : 1 ≤ x ∧ x ≤ 9) : (0 : Int32) < x := by grind
theorem b32j {c : Int32} (hc : 0 ≤ c ∧ c ≤ 99999) : (0 : Int32) ≤ 0 ∧ (0 : Int32) ≤ 100000000 - c := by grind
theorem b32k {x a c : Int32} (h : 0 ≤ x ∧ x ≤ a ∧ True) (ha : a ≤ c) : 0 ≤ x ∧ x ≤ c := by grind
theorem tPc {T : zT} {E : Nat → Int32} {N p : Nat} {c s B : Int32} (hE : TE N E) (hb : TB N T B) (hp : p < N) (hc : 0 ≤ c ∧ c ≤ 99999) : 0 ≤ tAns E T p c s ∧ (0 ≤ tPaid T p (tAns E T p c s) ∧ tPaid T p (tAns E T p c s) ≤ c) := by
  have ha := tAns_rng (T := T) (s := s) (hE.2.2.1 p hp).2.1 hc
  have hpd := tPaid_rng (hb.1 p hp).1 (hb.1 p hp).2 ha.1
  exact ⟨ha.1, hpd.1, Int32.le_trans hpd.2.1 ha.2⟩
abbrev tAsk (E : Nat → Int32) (q who : Nat) : Prop := E 9 = 1 ∧ q ≠ who ∧ ¬ E (12 + 8 * who) < 0 ∧ ¬ E (13 + 8 * who) < 0 ∧ E (12 + 8 * q) = E (12 + 8 * who) ∧ E (13 + 8 * q) = E (13 + 8 * who)
def tSis (E : Nat → Int32) (who : Nat) : Nat → Nat → zT → Int32 → zT × Int32
  | 0, _, T, c => (T, c)
  | n + 1, i, T, c => if E (14 + 8 * i) = 1 ∧ tAsk E i who then tSis E who n (i + 1) (tPay T i (tAns E T i c (zon 0))) (c - tPaid T i (tAns E T i c (zon 0))) else tSis E who n (i + 1) T c
def tOwn (E : Nat → Int32) (T : zT) (who : Nat) (c : Int32) : zT × Int32 := if E (14 + 8 * who) = 1 then (tPay T who (tAns E T who c (zon 0)), c - tPaid T who (tAns E T who c (zon 0))) else (T, c)
def tTop (E : Nat → Int32) (T : zT) (p : Nat) (c : Int32) : zT := tUp E 10 T p c (zon 0)
def tDef (E : Nat → Int32) (N : Nat) (T : zT) (who : Nat) (c : Int32) : zT := tTop E (tSis E who N 0 (tOwn E T who c).1 (tOwn E T who c).2).1 who (tSis E who N 0 (tOwn E T who c).1 (tOwn E T who c).2).2
theorem TB.own {N : Nat} {E : Nat → Int32} {T : zT} {who : Nat} {c B : Int32} (hE : TE N E) (hb : TB N T B) (hp : who < N) (hc : 0 ≤ c ∧ c ≤ 99999) : TB N (tOwn E T who c).1 B ∧ (0 ≤ (tOwn E T who c).2 ∧ (tOwn E T who c).2 ≤ c) := by
  have hv := tPc (s := zon 0) hE hb hp hc
  unfold tOwn
  split
  · exact ⟨hb.pay hp hv.1, b32d hc hv.2⟩
  · exact ⟨hb, hc.1, Int32.le_refl c⟩
theorem TB.sis {N : Nat} {E : Nat → Int32} {who : Nat} {B : Int32} (hE : TE N E) : ∀ (n i : Nat) (T : zT) (c : Int32), i + n ≤ N → TB N T B → (0 ≤ c ∧ c ≤ 99999) → TB N (tSis E who n i T c).1 B ∧ (0 ≤ (tSis E who n i T c).2 ∧ (tSis E who n i T c).2 ≤ c)
  | 0, i, T, c, hi, hb, hc => ⟨hb, hc.1, Int32.le_refl c⟩
  | n + 1, i, T, c, hi, hb, hc => by
    have hv := tPc (p := i) (s := zon 0) hE hb (by omega) hc
    rw [tSis]
    split
    · have r := TB.sis hE n (i + 1) (who := who) _ (c - tPaid T i (tAns E T i c (zon 0))) (by omega) (hb.pay (p := i) (by omega) hv.1) (b32a hc hv.2)
      exact ⟨r.1, r.2.1, b32i r.2.2 hv.2 hc⟩
    · exact TB.sis hE n (i + 1) T c (by omega) hb hc
theorem TB.dflt {N : Nat} {E : Nat → Int32} {T : zT} {who : Nat} {c B : Int32} (hE : TE N E) (hb : TB N T B) (hp : who < N) (hc : 0 ≤ c ∧ c ≤ 99999) (hB : 0 ≤ B ∧ B ≤ 100000000 - c) : TB N (tDef E N T who c) (B + c) := by
  have h1 := hb.own hE hp hc
  have h2 := TB.sis (who := who) hE N 0 _ _ (by omega) h1.1 (b32c hc h1.2)
  have h3 := (⟨h2.2.1, Int32.le_trans h2.2.2 h1.2.2⟩ : _ ∧ _)
  unfold tDef
  generalize tSis E who N 0 (tOwn E T who c).1 (tOwn E T who c).2 = q at *
  have r := TB.up hE 10 (zon 0) q.1 who q.2 B h2.1 (b32c hc h3) hp (b32g hB hc h3)
  exact r.mono (b32h hB hc h3)
theorem tSis_no {E : Nat → Int32} {who : Nat} (h : ¬ E 9 = 1) : ∀ (n i : Nat) (T : zT) (c : Int32), tSis E who n i T c = (T, c)
  | 0, _, _, _ => rfl
  | n + 1, i, T, c => by
    rw [tSis, if_neg (fun z => h z.2.1)]
    exact tSis_no h n (i + 1) T c
theorem X_asked {d N : Nat} {M : zm_M} {E : Nat → Int32} {i who : Nat} {Q : Int32 → zm_M → Prop} (hN : N ≤ 12) (hi : i < N) (hw : who < N) (hx : XE M E) (h1 : tAsk E i who → Q 1 M) (h0 : ¬ tAsk E i who → Q 0 M) : zi d 53 [.ref 59, .int (zon i), .int (zon who)] M Q := by
  obtain ⟨x1, x2, -, -, -⟩ := hx.1 i (by omega)
  obtain ⟨y1, y2, -, -, -⟩ := hx.1 who (by omega)
  have ii : zm_inb (zon i) 12 = true := by rw [zon_inb (by omega)]; omega
  have iw : zm_inb (zon who) 12 = true := by rw [zon_inb (by omega)]; omega
  apply zg_X8_isAsked
  rw [show M.1 29 2 = E 9 from hx.2.2.1 2 (by decide), zon_n (show i < 2000 by omega), zon_n (show who < 2000 by omega), x1, x2, y1, y2, zon_inj (by omega) (by omega)]
  exact ⟨fun a1 => ⟨fun a2 => h0 (fun z => z.2.1 a2), fun a2 => ⟨iw, fun a3 => h0 (fun z => z.2.2.1 a3), fun a3 => ⟨iw, fun a4 => h0 (fun z => z.2.2.2.1 a4), fun a4 => ⟨ii, iw, fun a5 => ⟨ii, iw, fun a6 => h1 ⟨a1, a2, a3, a4, a5, a6⟩, fun a6 => h0 (fun z => a6 z.2.2.2.2.2)⟩, fun a5 => h0 (fun z => a5 z.2.2.2.2.1)⟩⟩⟩⟩, fun a1 => h0 (fun z => a1 z.1)⟩
theorem X_up10 {N : Nat} {E : Nat → Int32} (hE : TE N E) {D : Nat} (M : zm_M) (T : zT) (p : Nat) (c B : Int32) (Q : zm_M → Prop) (hx : XE M E) (hd : XD M T) (hb : TB N T B) (hc : 0 ≤ c ∧ c ≤ 99999) (hp : p < N) (hB : 0 ≤ B ∧ B ≤ 100000000 - c) (hQ : ∀ M1, XD M1 (tTop E T p c) → zfr [23, 24, 59, 63, 64, 65] M M1 → Q M1) : zv (D + 24) 54 [.ref 59, .int (zon p), .int c, .int (zon 0)] M Q := by
  have r := X_up (D := D + 1) hE 10 0 (by decide) M T p c B Q hx hd hb hc hp hB hQ
  have e : D + 1 + 2 * 10 + 3 = D + 24 := by omega
  rw [e] at r
  exact r
theorem X_failL {D N : Nat} {E : Nat → Int32} {who : Nat} {B : Int32} {Q : zm_M → Prop} (hE : TE N E) (hw : who < N) : ∀ (n i : Nat) (M : zm_M) (T : zT) (c : Int32), i + n = N → XE M E → XD M T → TB N T B → (0 ≤ c ∧ c ≤ 99999) → (0 ≤ B ∧ B ≤ 100000000 - c) → (∀ M1, XD M1 (tTop E (tSis E who n i T c).1 who (tSis E who n i T c).2) → zfr [23, 24, 59, 63, 64, 65] M M1 → Q M1) → zt (D + 25) 51 54 [some (.ref 59), none, some (.int (zon who)), some (.int c), some (.int (zon i))] [] M (zPv Q) := by
  intro n
  induction n with
  | zero =>
    intro i M T c hi hx hd hb hc hB hQ
    have hN := hE.1.1
    apply zg_X8_failOne_p54 (d := D + 24)
    rw [hx.2.1, hE.1.2, zon_lt (by omega) (by omega)]
    refine ⟨fun z => absurd z (by omega), fun _ => ?_⟩
    rw [tSis] at hQ
    dsimp only at hQ
    exact X_up10 hE M T who c B Q hx hd hb hc hw hB hQ
  | succ n ih =>
    intro i M T c hi hx hd hb hc hB hQ
    have hN := hE.1.1
    have ii : zm_inb (zon i) 12 = true := by rw [zon_inb (by omega)]; omega
    have hv := tPc (p := i) (s := zon 0) hE hb (by omega) hc
    apply zg_X8_failOne_p54 (d := D + 24)
    rw [hx.2.1, hE.1.2, zon_lt (by omega) (by omega), zon_n (by omega), (hx.1 i (by omega)).2.2.1, zon_s]
    rw [tSis] at hQ
    refine ⟨fun _ => ⟨ii, fun al => ?_, fun al => ?_⟩, fun z => absurd (by omega) z⟩
    · refine X_asked hN (by omega) hw hx (fun a => ⟨fun z => absurd z (by decide), fun _ => ?_⟩) (fun a => ⟨fun _ => ?_, fun z => absurd rfl z⟩)
      · rw [if_pos ⟨al, a⟩] at hQ
        refine X_answer (d := D + 22) (k := 0) hE (by omega) hx hd (fun M1 f1 => X_pay (d := D + 23) (by omega) (hd.fr f1) (fun M4 d4 f4 => ?_))
        have f : zfr [23, 24, 59, 63, 64, 65] M M4 := zfr_trans (zfr_sub f1 (by decide)) (zfr_sub f4 (by decide))
        exact ih (i + 1) M4 _ _ (by omega) (hx.fr f) d4 (hb.pay (by omega) hv.1) (b32a hc hv.2) (b32b hB hc hv.2) (fun M5 d5 f5 => hQ M5 d5 (zfr_trans f f5))
      · rw [if_neg (fun z => a z.2)] at hQ
        exact ih (i + 1) M _ _ (by omega) hx hd hb hc hB hQ
    · rw [if_neg (fun z => al z.1)] at hQ
      exact ih (i + 1) M _ _ (by omega) hx hd hb hc hB hQ
theorem X_failOne {D N : Nat} {E : Nat → Int32} {M : zm_M} {T : zT} {dd who : Nat} {c B : Int32} {Q : zm_M → Prop} (hE : TE N E) (hdd : dd < 10) (hw : who < N) (h14 : M.1 14 dd = zon who) (h15 : M.1 15 dd = c) (hx : XE M E) (hd : XD M T) (hb : TB N T B) (hc : 0 ≤ c ∧ c ≤ 99999) (hB : 0 ≤ B ∧ B ≤ 100000000 - c) (hQ : ∀ M1, XD M1 (tDef E N T who c) → zfr [23, 24, 59, 63, 64, 65] M M1 → Q M1) : zv (D + 25) 51 [.ref 59, .int (zon dd)] M Q := by
  have hN := hE.1.1
  have id : zm_inb (zon dd) 10 = true := by rw [zon_inb (by omega)]; omega
  have iw : zm_inb (zon who) 12 = true := by rw [zon_inb (by omega)]; omega
  have hv := tPc (p := who) (s := zon 0) hE hb hw hc
  unfold tDef tOwn at hQ
  apply zg_X8_failOne (d := D + 24)
  rw [zon_n (show dd < 2000 by omega), h14, h15, zon_n (show who < 2000 by omega), (hx.1 who (by omega)).2.2.1]
  refine ⟨id, id, iw, fun al => ?_, fun al => ?_⟩
  · rw [if_pos al] at hQ
    refine X_answer (d := D + 22) (k := 0) hE hw hx hd (fun M1 f1 => X_pay (d := D + 23) (by omega) (hd.fr f1) (fun M4 d4 f4 => ?_))
    have f : zfr [23, 24, 59, 63, 64, 65] M M4 := zfr_trans (zfr_sub f1 (by decide)) (zfr_sub f4 (by decide))
    exact X_failL hE hw N 0 M4 _ _ (by omega) (hx.fr f) d4 (hb.pay hw hv.1) (b32a hc hv.2) (b32b hB hc hv.2) (fun M5 d5 f5 => hQ M5 d5 (zfr_trans f f5))
  · rw [if_neg al] at hQ
    exact X_failL hE hw N 0 M _ _ (by omega) hx hd hb hc hB hQ
theorem R_sis {d N : Nat} {M : zm_M} {E : Nat → Int32} {T : zT} {t0 o3 : Int32} {q0 : Nat → Int32} {i who : Nat} {Q : Int32 → zm_M → Prop} (hE : TE N E) (hi : i < N) (hw : who < N) (h9 : E 9 = 1) (hr : RD M E T t0 o3 q0) (h1 : tAsk E i who → Q 1 M) (h0 : ¬ tAsk E i who → Q 0 M) : zi (d + 1) 154 [.ref 82, .int (zon who), .int (zon i)] M Q := by
  have hN := hE.1.1
  obtain ⟨-, -, hf, hm, -⟩ := hE.2.2.1 who hw
  have i2 : zm_inb (zon (12 + 8 * who)) 480 = true := by rw [zon_inb (by omega)]; omega
  have i3 : zm_inb (zon (13 + 8 * who)) 480 = true := by rw [zon_inb (by omega)]; omega
  have j2 : zm_inb (zon (12 + 8 * i)) 480 = true := by rw [zon_inb (by omega)]; omega
  have j3 : zm_inb (zon (13 + 8 * i)) 480 = true := by rw [zon_inb (by omega)]; omega
  have nn : ∀ x : Int32, (x = -1 ∨ ∃ q, q < N ∧ x = zon q) → ¬ x = -1 → ¬ x < 0 := fun x h z => by
    rcases h with h | ⟨q, hq, h⟩
    · exact absurd h z
    · rw [h]
      exact zon_nn (by omega)
  have n2 : ∀ x : Int32, x = -1 → x < 0 := fun x h => by rw [h]; decide
  apply zg_X11_areSisters
  rw [zP2, zP3, zP2, zP3, zon_n (show 12 + 8 * who < 2000 by omega), zon_n (show 13 + 8 * who < 2000 by omega), zon_n (show 12 + 8 * i < 2000 by omega), zon_n (show 13 + 8 * i < 2000 by omega), hr.1 (12 + 8 * who) (by omega) (by omega), hr.1 (13 + 8 * who) (by omega) (by omega), hr.1 (12 + 8 * i) (by omega) (by omega), hr.1 (13 + 8 * i) (by omega) (by omega), zon_inj (by omega) (by omega)]
  refine ⟨i2, fun a => ?_, fun a => ⟨i3, fun b => ?_, fun b => ⟨fun e => ?_, fun e => ⟨i2, j2, fun f => ⟨i3, j3, fun g => ?_, fun g => ?_⟩, fun f => ?_⟩⟩⟩⟩
  · have hn : ¬ tAsk E i who := fun z => z.2.2.1 (n2 _ a)
    exact ⟨fun _ => h0 hn, fun _ => h0 hn⟩
  · have hn : ¬ tAsk E i who := fun z => z.2.2.2.1 (n2 _ b)
    exact ⟨fun _ => h0 hn, fun _ => h0 hn⟩
  · exact h0 (fun z => z.2.1 e.symm)
  · exact h1 ⟨h9, fun z => e z.symm, nn _ hf a, nn _ hm b, f.symm, g.symm⟩
  · exact h0 (fun z => g z.2.2.2.2.2.symm)
  · exact h0 (fun z => f z.2.2.2.2.1.symm)
theorem R_sisL {D N : Nat} {E : Nat → Int32} {t0 o3 : Int32} {q0 : Nat → Int32} {who : Nat} {B : Int32} {Q : zm_M → Prop} (hE : TE N E) (hw : who < N) : ∀ (n i : Nat) (M : zm_M) (T : zT) (c : Int32), i + n = N → RD M E T t0 o3 q0 → TB N T B → (0 ≤ c ∧ c ≤ 99999) → (∀ M1, RD M1 E (tSis E who n i T c).1 t0 o3 q0 → zf8 M M1 → zt (D + 6) 155 94 [some (.ref 82), some (.int (zon who)), none, some (.int (zon 0)), some (.int (tSis E who n i T c).2), none, none, none, none] [] M1 (zPv Q)) → zt (D + 6) 155 23 [some (.ref 82), some (.int (zon who)), none, some (.int (zon 0)), some (.int c), some (.int (zon i)), none, none, none] [] M (zPv Q)
  | 0, i, M, T, c, hi, hr, hb, hc, h94 => by
    have hN := hE.1.1
    apply zg_X11_goesUp_p23 (d := D + 5)
    rw [show M.1 83 0 = zon N from (hr.1 0 (by omega) (by omega)).trans hE.1.2, zon_lt (by omega) (by omega)]
    rw [tSis] at h94
    dsimp only at h94
    exact ⟨fun z => absurd z (by omega), fun _ => h94 M hr zf8_rfl⟩
  | n + 1, i, M, T, c, hi, hr, hb, hc, h94 => by
    have hN := hE.1.1
    have hv := tPc (p := i) (s := zon 0) hE hb (by omega) hc
    have i4 : zm_inb (zon (14 + 8 * i)) 480 = true := by rw [zon_inb (by omega)]; omega
    apply zg_X11_goesUp_p23 (d := D + 5)
    rw [show M.1 83 0 = zon N from (hr.1 0 (by omega) (by omega)).trans hE.1.2, zon_lt (by omega) (by omega), show M.1 83 9 = E 9 from hr.1 9 (by omega) (by omega), zP4, zon_n (by omega), zon_s, Int32.sub_zero]
    refine ⟨fun _ => ⟨fun _ => ⟨fun h9 => ?_, fun h9 => ?_⟩, fun z => absurd rfl z⟩, fun z => absurd (by omega) z⟩
    · rw [tSis] at h94
      refine R_sis (d := D + 4) hE (by omega) hw h9 hr (fun a => ⟨fun z => absurd z (by decide), fun _ => ⟨i4, ?_⟩⟩) (fun a => ⟨fun _ => ?_, fun z => absurd rfl z⟩)
      · rw [show M.1 83 (14 + 8 * i) = E (14 + 8 * i) from hr.1 _ (by omega) (by omega)]
        refine ⟨fun al => ?_, fun al => ?_⟩
        · rw [if_pos ⟨al, a⟩] at h94
          exact R_pays (d := D) (k := 0) hE (by omega) hr hc (fun M4 r4 f4 => R_sisL hE hw n (i + 1) M4 _ _ (by omega) r4 (hb.pay (by omega) hv.1) (b32a hc hv.2) (fun M5 r5 f5 => h94 M5 r5 (zf8_trans f4 f5)))
        · rw [if_neg (fun z => al z.1)] at h94
          exact R_sisL hE hw n (i + 1) M _ _ (by omega) hr hb hc h94
      · rw [if_neg (fun z => a z.2)] at h94
        exact R_sisL hE hw n (i + 1) M _ _ (by omega) hr hb hc h94
    · rw [tSis_no h9] at h94
      exact h94 M hr zf8_rfl
theorem R_goes0 {D N : Nat} {E : Nat → Int32} {t0 o3 : Int32} {q0 : Nat → Int32} {M : zm_M} {T : zT} {who : Nat} {c B : Int32} {Q : zm_M → Prop} (hE : TE N E) (ho : -999999 ≤ o3 ∧ o3 ≤ 999999) (hw : who < N) (hr : RD M E T t0 o3 q0) (hb : TB N T B) (hc : 0 ≤ c ∧ c ≤ 99999) (hB : 0 ≤ B ∧ B ≤ 100000000 - c) (hQ : ∀ M1, RD M1 E (tTop E (tSis E who N 0 T c).1 who (tSis E who N 0 T c).2) t0 o3 q0 → zf8 M M1 → Q M1) : zv (D + 25) 155 [.ref 82, .int (zon who), .int c, .int (zon 0)] M Q := by
  have hN := hE.1.1
  have h7 := hE.2.1
  have s7 : zon 0 < E 7 := by exact b32l h7
  have ih := R_up hE ho (t0 := t0) (q0 := q0) (D := D) 9 1 (by omega) (by omega)
  have cl := R_call (D := D + 18) hE (by omega) ho (fun T p => tUp_0 9 T p _) ih
  have hs := TB.sis (who := who) hE N 0 T c (by omega) hb hc
  have hc2 := b32c hc hs.2
  have hB2 := b32g hB hc hs.2
  apply zg_X11_goesUp (d := D + 23)
  rw [show M.1 83 7 = E 7 from hr.1 7 (by omega) (by omega)]
  refine ⟨fun _ => ?_, fun z => absurd s7 z⟩
  refine R_sisL (D := D + 19) hE hw N 0 M T c (by omega) hr hb hc (fun M1 r1 f1 => ?_)
  generalize tSis E who N 0 T c = q at *
  have r := R_94 (D := D + 23) (n := 9) (Q := Q) hE hw s7 ho cl r1 hs.1 hc2 hB2 (fun M2 r2 f2 => hQ M2 r2 (zf8_trans f1 f2))
  exact r
theorem R_defC {D N : Nat} {E : Nat → Int32} {t0 o3 : Int32} {q0 : Nat → Int32} {M : zm_M} {T : zT} {who : Nat} {c B : Int32} {Q : zm_M → Prop} (hE : TE N E) (ho : -999999 ≤ o3 ∧ o3 ≤ 999999) (hw : who < N) (hr : RD M E T t0 o3 q0) (hb : TB N T B) (hc : 0 ≤ c ∧ c ≤ 99999) (hB : 0 ≤ B ∧ B ≤ 100000000 - c) (hQ : ∀ M1, RD M1 E (tDef E N T who c) t0 o3 q0 → zf8 M M1 → Q M1) : zv (D + 26) 153 [.ref 82, .int (zon who), .int c, .int (zon 0)] M Q := by
  have hN := hE.1.1
  have i4 : zm_inb (zon (14 + 8 * who)) 480 = true := by rw [zon_inb (by omega)]; omega
  have i0 : zm_inb (zon (10 + 8 * who)) 480 = true := by rw [zon_inb (by omega)]; omega
  have e4 : M.1 83 (14 + 8 * who) = E (14 + 8 * who) := hr.1 _ (by omega) (by omega)
  have hv := tPc (p := who) (s := zon 0) hE hb hw hc
  have al := (hE.2.2.1 who hw).2.2.2.2
  unfold tDef tOwn at hQ
  apply zg_X11_call (d := D + 24)
  rw [zP4, zP0, zon_n (show 14 + 8 * who < 2000 by omega), zon_n (show 10 + 8 * who < 2000 by omega), e4]
  refine ⟨i4, fun z => ?_, fun z => ?_⟩
  · rw [if_neg (by rw [z]; decide)] at hQ
    exact R_goes0 hE ho hw hr hb hc hB hQ
  · rw [if_pos (by rcases al with y | y; exact absurd y z; exact y)] at hQ
    refine R_pays (d := D + 20) (k := 0) hE hw hr hc (fun M1 r1 f1 => ⟨i0, ?_⟩)
    have go := R_goes0 (D := D) hE ho hw r1 (hb.pay hw hv.1) (c := c - tPaid T who (tAns E T who c (zon 0))) (b32a hc hv.2) (b32b hB hc hv.2) (fun M2 r2 f2 => hQ M2 r2 (zf8_trans f1 f2))
    exact ⟨fun _ => ⟨fun y => absurd y (by decide), fun _ => go⟩, fun _ => go⟩

/-! SAFE: whom no coin can reach changes nothing. -/
section AL
variable {E : Nat → Int32} {q : Nat} {x : Int32}
theorem tAns_al (hq : q < 12) {T : zT} {p : Nat} {c s : Int32} : tAns (upd E (14 + 8 * q) x) T p c s = tAns E T p c s := by
  have e1 : upd E (14 + 8 * q) x (10 + 8 * p) = E (10 + 8 * p) := upd_ne (by omega)
  have e2 : upd E (14 + 8 * q) x (11 + 8 * p) = E (11 + 8 * p) := upd_ne (by omega)
  have e3 : upd E (14 + 8 * q) x 146 = E 146 := upd_ne (by omega)
  have e4 : ∀ a b d e f, tvA (upd E (14 + 8 * q) x) a b d e f = tvA E a b d e f := fun a b d e f => by
    unfold tvA
    rw [e3, show (fun k => upd E (14 + 8 * q) x (147 + k)) = (fun k => E (147 + k)) from funext (fun k => upd_ne (by omega))]
  unfold tAns tTold
  rw [e1, e2, e3, e4]
theorem tCall_al (hq : q < 12) {up up2 : zT → Nat → Int32 → Int32 → zT} {T : zT} {p : Nat} {c s : Int32} (hp : p ≠ q) (hu : ∀ (T : zT) (c : Int32), up2 T p c s = up T p c s) : tCall up2 (upd E (14 + 8 * q) x) T p c s = tCall up E T p c s := by
  have e0 : upd E (14 + 8 * q) x (10 + 8 * p) = E (10 + 8 * p) := upd_ne (by omega)
  have e4 : upd E (14 + 8 * q) x (14 + 8 * p) = E (14 + 8 * p) := upd_ne (by omega)
  unfold tCall
  rw [tAns_al hq, e0, e4, hu T c, hu (tPay T p (tAns E T p c s))]
theorem tG_al (hq : q < 12) {c : Int32} : tG (upd E (14 + 8 * q) x) c = tG E c := by
  unfold tG
  rw [upd_ne (by omega)]
/-- those above one of C are in C -/
def rch (C : Nat → Prop) (N : Nat) (E : Nat → Int32) : Prop := ∀ p r, p < N → r < N → C p → (E (12 + 8 * p) = zon r ∨ E (13 + 8 * p) = zon r) → C r
theorem tUp_al {N : Nat} {C : Nat → Prop} (hP : PF N E) (hN : N ≤ 12) (hC : rch C N E) (hq : q < 12) (hn : ¬ C q) : ∀ (n : Nat) (s : Int32) (T : zT) (p : Nat) (c : Int32), p < N → C p → tUp (upd E (14 + 8 * q) x) n T p c s = tUp E n T p c s := by
  intro n
  induction n with
  | zero => intro s T p c hp hc; rfl
  | succ n ih =>
    intro s T p c hp hcp
    have e7 : upd E (14 + 8 * q) x 7 = E 7 := upd_ne (by omega)
    have e2 : upd E (14 + 8 * q) x (12 + 8 * p) = E (12 + 8 * p) := upd_ne (by omega)
    have e3 : upd E (14 + 8 * q) x (13 + 8 * p) = E (13 + 8 * p) := upd_ne (by omega)
    have call : ∀ (T : zT) (r : Nat) (c s : Int32), r < N → C r → tCall (tUp (upd E (14 + 8 * q) x) n) (upd E (14 + 8 * q) x) T r c s = tCall (tUp E n) E T r c s := fun T r c s hr hc => tCall_al hq (fun z => hn (z ▸ hc)) (fun T c => ih s T r c hr hc)
    obtain ⟨hf, hm⟩ := hP p hp
    have ng : ∀ (f : Nat), f < N → ¬ zon f < 0 := fun f hf => zon_nn (by omega)
    unfold tUp
    rw [e7, e2, e3, tG_al hq]
    by_cases c7 : s < E 7
    · rw [if_pos c7, if_pos c7]
      have n1 : (-1 : Int32) < 0 := by decide
      rcases hf with hf | ⟨f, f1, f2⟩
      · rcases hm with hm | ⟨m, m1, m2⟩
        · rw [hf, hm, if_pos n1, if_pos n1, if_pos n1, if_pos n1]
        · have cm := hC p m hp m1 hcp (Or.inr m2)
          rw [hf, m2, zon_n (show m < 2000 by omega), if_pos n1, if_neg (ng m m1), if_pos n1, if_neg (ng m m1), call _ _ _ _ m1 cm]
      · have cf := hC p f hp f1 hcp (Or.inl f2)
        rcases hm with hm | ⟨m, m1, m2⟩
        · rw [f2, hm, zon_n (show f < 2000 by omega), if_neg (ng f f1), if_pos n1, if_neg (ng f f1), if_pos n1, call _ _ _ _ f1 cf]
        · have cm := hC p m hp m1 hcp (Or.inr m2)
          rw [f2, m2, zon_n (show f < 2000 by omega), zon_n (show m < 2000 by omega), if_neg (ng f f1), if_neg (ng m m1), if_neg (ng f f1), if_neg (ng m m1), call _ _ _ _ m1 cm, call _ _ _ _ f1 cf]
    · rw [if_neg c7, if_neg c7]
theorem tAsk_al {i who : Nat} (hq : q < 12) : tAsk (upd E (14 + 8 * q) x) i who = tAsk E i who := by
  unfold tAsk
  rw [show upd E (14 + 8 * q) x 9 = E 9 from upd_ne (by omega), show upd E (14 + 8 * q) x (12 + 8 * who) = E (12 + 8 * who) from upd_ne (by omega), show upd E (14 + 8 * q) x (13 + 8 * who) = E (13 + 8 * who) from upd_ne (by omega), show upd E (14 + 8 * q) x (12 + 8 * i) = E (12 + 8 * i) from upd_ne (by omega), show upd E (14 + 8 * q) x (13 + 8 * i) = E (13 + 8 * i) from upd_ne (by omega)]
theorem tSis_al {N who : Nat} {C : Nat → Prop} (hA : ∀ i, i < N → tAsk E i who → C i) (hq : q < 12) (hn : ¬ C q) : ∀ (n i : Nat) (T : zT) (c : Int32), i + n ≤ N → tSis (upd E (14 + 8 * q) x) who n i T c = tSis E who n i T c := by
  intro n
  induction n with
  | zero => intro i T c hi; rfl
  | succ n ih =>
    intro i T c hi
    have ta : tAsk (upd E (14 + 8 * q) x) i who = tAsk E i who := tAsk_al hq
    unfold tSis
    rw [tAns_al hq]
    by_cases ha : tAsk E i who
    · have ha2 : tAsk (upd E (14 + 8 * q) x) i who := by
        rw [ta]
        exact ha
      have ci := hA i (by omega) ha
      have ne : i ≠ q := fun z => hn (z ▸ ci)
      have e1 : upd E (14 + 8 * q) x (14 + 8 * i) = E (14 + 8 * i) := upd_ne (by omega)
      by_cases h1 : E (14 + 8 * i) = 1
      · rw [if_pos ⟨e1.trans h1, ha2⟩, if_pos ⟨h1, ha⟩, ih _ _ _ (by omega)]
      · rw [if_neg (fun z => h1 (e1.symm.trans z.1)), if_neg (fun z => h1 z.1), ih _ _ _ (by omega)]
    · have ha2 : ¬ tAsk (upd E (14 + 8 * q) x) i who := by
        rw [ta]
        exact ha
      rw [if_neg (fun z => ha2 z.2), if_neg (fun z => ha z.2), ih _ _ _ (by omega)]
theorem tDef_al {N who : Nat} {C : Nat → Prop} {T : zT} {c : Int32} (hP : PF N E) (hN : N ≤ 12) (hC : rch C N E) (hA : ∀ i, i < N → tAsk E i who → C i) (hw : who < N) (hcw : C who) (hq : q < 12) (hn : ¬ C q) : tDef (upd E (14 + 8 * q) x) N T who c = tDef E N T who c := by
  have ne : who ≠ q := fun z => hn (z ▸ hcw)
  have eo : tOwn (upd E (14 + 8 * q) x) T who c = tOwn E T who c := by
    unfold tOwn
    rw [tAns_al hq, show upd E (14 + 8 * q) x (14 + 8 * who) = E (14 + 8 * who) from upd_ne (by omega)]
  unfold tDef tTop
  rw [eo, tSis_al hA hq hn N 0 _ _ (by omega), tUp_al hP hN hC hq hn 10 _ _ who _ hw hcw]
end AL
/-- E's alive in E0 -/
def sMx (E0 E : sSt) : sSt := fun k => if k % 8 = 6 ∧ 14 ≤ k ∧ k < 106 then E k else E0 k
theorem sMx_upd {E0 E : sSt} {q : Nat} {x : Int32} (hq : q < 12) : sMx E0 (upd E (14 + 8 * q) x) = upd (sMx E0 E) (14 + 8 * q) x := by
  funext k
  unfold sMx
  by_cases c : k = 14 + 8 * q
  · rw [if_pos (by omega), c, upd_at, upd_at]
  · rw [upd_ne c, upd_ne c]
theorem sMx_e {E0 E : sSt} {k : Nat} (h : ¬ k % 8 = 6 ∨ k < 14 ∨ 106 ≤ k) : sMx E0 E k = E0 k := by
  unfold sMx
  rw [if_neg (by omega)]
theorem sMx_al {F : Nat → Nat} {E0 : sSt} {d n : Nat} (hF : ∀ j, j < n → F j < 12) : sMx E0 (sAl F d n E0) = sAl F d n E0 := by
  funext k
  unfold sMx
  split
  · rfl
  · rename_i c
    rw [sAl_off n (fun j hj z => c (by have := hF j hj; omega))]
/-- what comes to the town, as a number -/
def sCl (v : Int32) : Nat := if v.toNatClampNeg ≤ 99999 then v.toNatClampNeg else 0
def sPh (N w : Nat) (c : Int32) (E0 E : sSt) : Nat := sCl (tDef (sMx E0 E) N (tIni E0) w c).2.2.2
theorem sPh_le {N w : Nat} {c : Int32} {E0 E : sSt} : sPh N w c E0 E ≤ 99999 := by
  unfold sPh sCl
  split <;> omega
theorem sPh_in {N w q : Nat} {c : Int32} {E0 : sSt} {C : Nat → Prop} (hP : PF N E0) (hN : N ≤ 12) (hC : rch C N E0) (hA : ∀ i, i < N → tAsk E0 i w → C i) (hw : w < N) (hcw : C w) (hq : q < 12) (hn : ¬ C q) : sIn q (sPh N w c E0) := by
  intro E x
  have k12 : ∀ p, sMx E0 E (12 + 8 * p) = E0 (12 + 8 * p) := fun p => sMx_e (by omega)
  have k13 : ∀ p, sMx E0 E (13 + 8 * p) = E0 (13 + 8 * p) := fun p => sMx_e (by omega)
  have hP2 : PF N (sMx E0 E) := fun p hp => by
    rw [k12, k13]
    exact hP p hp
  have hC2 : rch C N (sMx E0 E) := fun p r hp hr hc h => hC p r hp hr hc (by rw [← k12, ← k13]; exact h)
  have hA2 : ∀ i, i < N → tAsk (sMx E0 E) i w → C i := fun i hi ha => hA i hi (by
    unfold tAsk at ha ⊢
    rw [k12, k12, k13, k13, sMx_e (by omega)] at ha
    exact ha)
  show sCl (tDef (sMx E0 (upd E (14 + 8 * q) x)) N (tIni E0) w c).2.2.2 = sCl (tDef (sMx E0 E) N (tIni E0) w c).2.2.2
  rw [sMx_upd hq, tDef_al hP2 hN hC2 hA2 hw hcw hq hn]
theorem TE.al {N q : Nat} {E : sSt} {x : Int32} (h : TE N E) (hq : q < 12) (hx : x = 0 ∨ x = 1) : TE N (upd E (14 + 8 * q) x) := by
  obtain ⟨⟨h1, h2⟩, h3, h4, h5⟩ := h
  refine ⟨⟨h1, by rw [upd_ne (by omega)]; exact h2⟩, by rw [upd_ne (by omega)]; exact h3, fun p hp => ?_, h5.par (by omega)⟩
  obtain ⟨a1, a2, a3, a4, a5⟩ := h4 p hp
  refine ⟨by rw [upd_ne (by omega)]; exact a1, by rw [upd_ne (by omega)]; exact a2, by rw [upd_ne (by omega)]; exact a3, by rw [upd_ne (by omega)]; exact a4, ?_⟩
  by_cases e : 14 + 8 * p = 14 + 8 * q
  · rw [e, upd_at]
    exact hx
  · rw [upd_ne e]
    exact a5
theorem TE.sal {N : Nat} {F : Nat → Nat} {E : sSt} {d : Nat} (h : TE N E) : ∀ n, (∀ j, j < n → F j < 12) → TE N (sAl F d n E) := by
  intro n
  induction n with
  | zero => intro _; exact h
  | succ n ih =>
    intro hF
    unfold sAl
    refine (ih (fun j hj => hF j (by omega))).al (hF n (by omega)) ?_
    split
    · exact Or.inl rfl
    · exact Or.inr rfl
theorem tIni_al {q : Nat} {E : sSt} {x : Int32} : tIni (upd E (14 + 8 * q) x) = tIni E := by
  unfold tIni
  rw [show (fun p => upd E (14 + 8 * q) x (15 + 8 * p)) = (fun p => E (15 + 8 * p)) from funext (fun p => upd_ne (by omega)), show (fun p => upd E (14 + 8 * q) x (16 + 8 * p)) = (fun p => E (16 + 8 * p)) from funext (fun p => upd_ne (by omega))]
theorem tIni_sal {F : Nat → Nat} {E : sSt} {d : Nat} : ∀ n, tIni (sAl F d n E) = tIni E := by
  intro n
  induction n with
  | zero => rfl
  | succ n ih =>
    unfold sAl
    rw [tIni_al, ih]
/-- a try with these dead -/
theorem sPh_try {N w n d : Nat} {c : Int32} {E0 : sSt} {F : Nat → Nat} (hE : TE N E0) (hb : TB N (tIni E0) 0) (hw : w < N) (hc : 0 ≤ c ∧ c ≤ 99999) (hF : ∀ j, j < n → F j < 12) : (tDef (sAl F d n E0) N (tIni (sAl F d n E0)) w c).2.2.2.toInt64 = Int64.ofNat (sPh N w c E0 (sAl F d n E0)) := by
  have t := TB.dflt (c := c) (hE.sal (d := d) n hF) hb hw hc (b32j hc)
  rw [tIni_sal]
  unfold sPh
  rw [sMx_al hF]
  generalize (tDef (sAl F d n E0) N (tIni E0) w c) = T at *
  have t1 := t.2.1
  have t2 : T.2.2.2 ≤ 99999 := by have := t.2.2; grind
  unfold sCl
  have t3 := Int32.le_iff_toInt_le.mp t2
  rw [show (99999 : Int32).toInt = 99999 from rfl] at t3
  have t4 := zcl (x := T.2.2.2) (by grind)
  rw [if_pos (by omega)]
  exact (Int64.ofNat_int32ToNatClampNeg _ t1).symm

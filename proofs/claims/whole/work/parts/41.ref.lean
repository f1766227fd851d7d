/-! A DEFAULT in the reference: answers, pays. -/
def cl3 (x : Int32) : Int32 := if x < -999999 then -999999 else if 999999 < x then 999999 else x
theorem cl3_i {x : Int32} : (cl3 x).toInt = if x.toInt < -999999 then -999999 else if 999999 < x.toInt then 999999 else x.toInt := by
  have e1 : (-999999 : Int32).toInt = -999999 := rfl
  have e2 : (999999 : Int32).toInt = 999999 := rfl
  unfold cl3
  by_cases h1 : x < -999999
  · have h2 := Int32.lt_iff_toInt_lt.mp h1
    rw [e1] at h2
    rw [if_pos h1, if_pos h2, e1]
  · have h2 : ¬ x.toInt < -999999 := fun z => h1 (by rw [Int32.lt_iff_toInt_lt, e1]; exact z)
    rw [if_neg h1, if_neg h2]
    by_cases h3 : 999999 < x
    · have h4 := Int32.lt_iff_toInt_lt.mp h3
      rw [e2] at h4
      rw [if_pos h3, if_pos h4, e2]
    · have h4 : ¬ 999999 < x.toInt := fun z => h3 (by rw [Int32.lt_iff_toInt_lt, e2]; exact z)
      rw [if_neg h3, if_neg h4]
theorem sub_i {x y : Int32} (h : -2000000000 < x.toInt - y.toInt ∧ x.toInt - y.toInt < 2000000000) : (x - y).toInt = x.toInt - y.toInt := by
  rw [Int32.toInt_sub, Int.bmod]
  omega
theorem add_i {x y : Int32} (h : -2000000000 < x.toInt + y.toInt ∧ x.toInt + y.toInt < 2000000000) : (x + y).toInt = x.toInt + y.toInt := by
  rw [Int32.toInt_add, Int.bmod]
  omega
theorem le_i {x y : Int32} {a b : Int} (h : x ≤ y) (ha : x.toInt = a) (hb : y.toInt = b) : a ≤ b := by
  rw [← ha, ← hb]
  exact Int32.le_iff_toInt_le.mp h
theorem cl3_sub {o3 t c : Int32} (ho : -999999 ≤ o3 ∧ o3 ≤ 999999) (ht : 0 ≤ t ∧ t ≤ 100000000) (hc : 0 ≤ c ∧ c ≤ 99999) : cl3 (cl3 (o3 - t) - c) = cl3 (o3 - (t + c)) := by
  have a1 := le_i ho.1 rfl rfl
  have a2 := le_i ho.2 rfl rfl
  have b1 := le_i ht.1 rfl rfl
  have b2 := le_i ht.2 rfl rfl
  have c1 := le_i hc.1 rfl rfl
  have c2 := le_i hc.2 rfl rfl
  simp only [show (-999999 : Int32).toInt = -999999 from rfl, show (999999 : Int32).toInt = 999999 from rfl, show (0 : Int32).toInt = 0 from rfl, show (100000000 : Int32).toInt = 100000000 from rfl, show (99999 : Int32).toInt = 99999 from rfl] at a1 a2 b1 b2 c1 c2
  have e1 : (o3 - t).toInt = o3.toInt - t.toInt := sub_i (by omega)
  have e2 : (t + c).toInt = t.toInt + c.toInt := add_i (by omega)
  have e3 : (o3 - (t + c)).toInt = o3.toInt - (t.toInt + c.toInt) := by rw [sub_i (by rw [e2]; omega), e2]
  have e4 := cl3_i (x := o3 - t)
  rw [e1] at e4
  have e5 : (cl3 (o3 - t) - c).toInt = (cl3 (o3 - t)).toInt - c.toInt := sub_i (by rw [e4]; split <;> (try split) <;> omega)
  apply Int32.toInt_inj.mp
  rw [cl3_i, cl3_i, e5, e3, e4]
  repeat' split
  all_goals omega
def RD (M : zm_M) (E : Nat → Int32) (T : zT) (t0 o3 : Int32) (q0 : Nat → Int32) : Prop :=
  (∀ i, i ≠ 3 → (i < 10 ∨ 146 ≤ i ∨ (10 ≤ i ∧ i < 106 ∧ (i - 10) % 8 ≠ 5 ∧ (i - 10) % 8 ≠ 6) ∨ (106 ≤ i ∧ i < 146 ∧ (i - 106) % 4 ≠ 3)) → M.1 83 i = E i) ∧
  (∀ p, p < 12 → M.1 83 (15 + 8 * p) = T.1 p ∧ M.1 83 (16 + 8 * p) = T.2.1 p ∧ M.1 90 p = q0 p + T.2.2.1 p) ∧ M.1 83 3 = cl3 (o3 - T.2.2.2) ∧ M.1 82 13 = t0 + T.2.2.2
def zf8 (M M1 : zm_M) : Prop := zfr [82, 83, 88, 89, 90] M M1 ∧ (∀ j, j ≠ 13 → M1.1 82 j = M.1 82 j) ∧ (∀ q, q < 10 → M1.1 83 (109 + 4 * q) = M.1 83 (109 + 4 * q))
theorem zf8_rfl {M : zm_M} : zf8 M M := ⟨zfr_rfl, fun _ _ => rfl, fun _ _ => rfl⟩
theorem zf8_trans {A B D : zm_M} (h : zf8 A B) (h2 : zf8 B D) : zf8 A D := ⟨zfr_trans h.1 h2.1, fun j hj => (h2.2.1 j hj).trans (h.2.1 j hj), fun q hq => (h2.2.2 q hq).trans (h.2.2 q hq)⟩
theorem zf8_of {M M1 : zm_M} (h : zfr [88, 89] M M1) : zf8 M M1 := ⟨zfr_sub h (by decide), fun j _ => by rw [h.1 82 (by decide)], fun q _ => by rw [h.1 83 (by decide)]⟩
theorem RD.fr {M M1 : zm_M} {E : Nat → Int32} {T : zT} {t0 o3 : Int32} {q0 : Nat → Int32} (h : RD M E T t0 o3 q0) (f : zfr [88, 89] M M1) : RD M1 E T t0 o3 q0 := by
  unfold RD at h ⊢
  rw [f.1 83 (by decide), f.1 90 (by decide), f.1 82 (by decide)]
  exact h
theorem RD.tv {M : zm_M} {E : Nat → Int32} {T : zT} {t0 o3 : Int32} {q0 : Nat → Int32} (h : RD M E T t0 o3 q0) (c p hh t m : Int32) : tvA (M.1 83) c p hh t m = tvA E c p hh t m := by
  unfold tvA
  rw [h.1 146 (by omega) (by omega), show (fun k => M.1 83 (147 + k)) = (fun k => E (147 + k)) from funext (fun k => h.1 _ (by omega) (by omega))]
theorem RD.sx {M : zm_M} {E : Nat → Int32} {T : zT} {t0 o3 : Int32} {q0 : Nat → Int32} (h : RD M E T t0 o3 q0) (hs : SX 0 E) : SX 0 (M.1 83) := by
  unfold SX at hs ⊢
  rw [h.1 _ (by omega) (by omega), show (fun k => M.1 83 (147 + 125 * 0 + k)) = (fun k => E (147 + 125 * 0 + k)) from funext (fun k => h.1 _ (by omega) (by omega))]
  exact hs
/-- what comes to the town -/
theorem RD.to {M : zm_M} {E : Nat → Int32} {T : zT} {t0 o3 : Int32} {q0 : Nat → Int32} {c v : Int32} {N : Nat} {B : Int32} (h : RD M E T t0 o3 q0) (hb : TB N T B) (hB : 0 ≤ B ∧ B ≤ 100000000) (ho : -999999 ≤ o3 ∧ o3 ≤ 999999) (hc : 0 ≤ c ∧ c ≤ 99999) (hv : v = cl3 (M.1 83 3 - c)) : RD (zm_si (zm_si M 82 13 (M.1 82 13 + c)) 83 3 v) E (tTo T c) t0 o3 q0 ∧ zf8 M (zm_si (zm_si M 82 13 (M.1 82 13 + c)) 83 3 v) := by
  obtain ⟨h1, h2, h3, h4⟩ := h
  have hz := hb.2
  refine ⟨⟨fun i i3 hi => ?_, fun p hp => ?_, ?_, ?_⟩, zfr_trans (zfr_si (by decide)) (zfr_si (by decide)), fun j hj => ?_, fun q hq => ?_⟩
  · rw [zI_si, if_pos rfl, if_neg i3, zI_si_ne (by decide)]
    exact h1 i i3 hi
  · rw [zI_si, if_pos rfl, if_neg (by omega), zI_si_ne (by decide), zI_si, if_pos rfl, if_neg (by omega), zI_si_ne (by decide), zI_si_ne (by decide), zI_si_ne (by decide)]
    exact h2 p hp
  · rw [zI_si_eq, hv, h3]
    show cl3 (cl3 (o3 - T.2.2.2) - c) = cl3 (o3 - (T.2.2.2 + c))
    exact cl3_sub ho ⟨hz.1, by grind⟩ hc
  · rw [zI_si_ne (by decide), zI_si_eq, h4]
    show (t0 + T.2.2.2) + c = t0 + (T.2.2.2 + c)
    grind
  · rw [zI_si_ne (by decide), zI_si, if_pos rfl, if_neg hj]
  · rw [zI_si, if_pos rfl, if_neg (by omega), zI_si_ne (by decide)]
theorem R_told {d : Nat} {M : zm_M} {E : Nat → Int32} {T : zT} {N p k : Nat} {c t0 o3 : Int32} {q0 : Nat → Int32} {Q : Int32 → zm_M → Prop} (hE : TE N E) (hp : p < N) (hr : RD M E T t0 o3 q0) (hQ : ∀ M1, zfr [88, 89] M M1 → Q (if 0 < E 146 then tvA E c (T.1 p) (T.2.1 p) (zon k) (E (11 + 8 * p)) else c) M1) : zi (d + 3) 150 [.ref 82, .int (zon p), .int c, .int (zon k)] M Q := by
  have hN := hE.1.1
  have e146 : M.1 83 ((146 + (125 * 0) : Int32).toNatClampNeg) = E 146 := hr.1 146 (by omega) (by omega)
  have e1 : M.1 83 (11 + 8 * p) = E (11 + 8 * p) := hr.1 _ (by omega) (by omega)
  have i5 : zm_inb (zon (15 + 8 * p)) 480 = true := by rw [zon_inb (by omega)]; omega
  have i6 : zm_inb (zon (16 + 8 * p)) 480 = true := by rw [zon_inb (by omega)]; omega
  have i1 : zm_inb (zon (11 + 8 * p)) 480 = true := by rw [zon_inb (by omega)]; omega
  apply zg_X11_toldPart (d := d + 2)
  rw [e146, zP5, zP6, zP1, zon_n (by omega), zon_n (by omega), zon_n (by omega), e1, (hr.2.1 p (by omega)).1, (hr.2.1 p (by omega)).2.1]
  refine ⟨by decide, fun z => ⟨i5, i6, i1, ?_⟩, fun z => ?_⟩
  · have hq : ∀ M1, zfr [88, 89] M M1 → Q (tvA E c (T.1 p) (T.2.1 p) (zon k) (E (11 + 8 * p))) M1 := fun M1 f1 => by
      have := hQ M1 f1
      rw [if_pos z] at this
      exact this
    have f0 : zfr [88, 89] M (zm_si (zm_si (zm_si (zm_si (zm_si M 88 99 c) 88 112 (T.1 p)) 88 104 (T.2.1 p)) 88 115 (zon k)) 88 109 (E (11 + 8 * p))) := zfr_trans (zfr_trans (zfr_trans (zfr_trans (zfr_si (by decide)) (zfr_si (by decide))) (zfr_si (by decide))) (zfr_si (by decide))) (zfr_si (by decide))
    refine R_workA (d := d + 1) (s := M.1 83) (c := c) (p := T.1 p) (h := T.2.1 p) (t := zon k) (m := E (11 + 8 * p)) (f0.1 83 (by decide)) (hr.sx hE.2.2.2) ?_ (by simp [zI_si]) (fun M1 f1 => ?_)
    · rw [hr.1 146 (by omega) (by omega)]
      exact z
    · rw [hr.tv]
      exact hq M1 (zfr_trans f0 (zfr_sub f1 (by decide)))
  · have := hQ M zfr_rfl
    rw [if_neg z] at this
    exact this
theorem R_answers {d : Nat} {M : zm_M} {E : Nat → Int32} {T : zT} {N p k : Nat} {c t0 o3 : Int32} {q0 : Nat → Int32} {Q : Int32 → zm_M → Prop} (hE : TE N E) (hp : p < N) (hr : RD M E T t0 o3 q0) (hc : 0 ≤ c ∧ c ≤ 99999) (hQ : ∀ M1, zfr [88, 89] M M1 → Q (tAns E T p c (zon k)) M1) : zi (d + 4) 151 [.ref 82, .int (zon p), .int c, .int (zon k)] M Q := by
  have hN := hE.1.1
  obtain ⟨hk1, hm1, -⟩ := hE.2.2.1 p hp
  have e0 : M.1 83 (10 + 8 * p) = E (10 + 8 * p) := hr.1 _ (by omega) (by omega)
  have e1 : M.1 83 (11 + 8 * p) = E (11 + 8 * p) := hr.1 _ (by omega) (by omega)
  have i0 : zm_inb (zon (10 + 8 * p)) 480 = true := by rw [zon_inb (by omega)]; omega
  have i1 : zm_inb (zon (11 + 8 * p)) 480 = true := by rw [zon_inb (by omega)]; omega
  have hq : ∀ a, a = tAns E T p c (zon k) → Q a M := fun a ha => by rw [ha]; exact hQ M zfr_rfl
  have nc : ¬ c < 0 := by grind
  have h7 : E (10 + 8 * p) = 0 ∨ E (10 + 8 * p) = 1 ∨ E (10 + 8 * p) = 2 ∨ E (10 + 8 * p) = 3 ∨ E (10 + 8 * p) = 4 ∨ E (10 + 8 * p) = 5 ∨ E (10 + 8 * p) = 6 := by grind
  have hh := zhalf hc.1
  have hmin : ∀ x, (100 * E (11 + 8 * p) < c → 100 * E (11 + 8 * p) = x) → (¬ 100 * E (11 + 8 * p) < c → c = x) → tMin (100 * E (11 + 8 * p)) c = x := fun x h1 h2 => by
    unfold tMin
    split
    · rename_i z; exact h1 z
    · rename_i z; exact h2 z
  have tld : E (10 + 8 * p) = 6 → zi (d + 3) 150 [.ref 82, .int (zon p), .int c, .int (zon k)] M (fun x M2 => (x < 0 → Q 0 M2) ∧ (¬ x < 0 → (c < x → Q c M2) ∧ (¬ c < x → Q x M2))) := fun h => by
    refine R_told hE hp hr (fun M2 f2 => ?_)
    have e := hQ M2 f2
    unfold tAns tTold tMin at e
    rw [h, if_neg (by decide), if_neg (by decide), if_neg (by decide), if_neg (by decide), if_neg (by decide), if_pos rfl] at e
    generalize tvA E c (T.1 p) (T.2.1 p) (zon k) (E (11 + 8 * p)) = x at *
    by_cases h1 : 0 < E 146
    · rw [if_pos h1] at e ⊢
      refine ⟨fun z => ?_, fun z => ⟨fun w => ?_, fun w => ?_⟩⟩
      · rw [if_neg (by grind)] at e
        exact e
      · rw [if_neg (show ¬ x < c by grind)] at e
        by_cases c0 : 0 < c
        · rw [if_pos c0] at e
          exact e
        · rw [if_neg c0] at e
          rw [show c = 0 by grind]
          exact e
      · by_cases hx : x < c
        · rw [if_pos hx] at e
          by_cases x0 : 0 < x
          · rw [if_pos x0] at e
            exact e
          · rw [if_neg x0] at e
            rw [show x = 0 by grind]
            exact e
        · rw [if_neg hx] at e
          rw [show x = c by grind]
          by_cases c0 : 0 < c
          · rw [if_pos c0] at e
            exact e
          · rw [if_neg c0] at e
            rw [show c = 0 by grind]
            exact e
    · rw [if_neg h1] at e ⊢
      exact ⟨fun z => absurd z nc, fun _ => ⟨fun w => absurd w (by grind), fun _ => e⟩⟩
  apply zg_X11_answers (d := d + 3)
  rw [zP0, zP1, zon_n (by omega), zon_n (by omega), e0, e1, zhalf2 hc.1 (by grind)]
  refine ⟨i1, fun s0 => ⟨i0, ?_⟩, fun s0 => ⟨i0, ?_⟩⟩
  · rcases h7 with h | h | h | h | h | h | h
    · rw [h]
      exact ⟨fun z => absurd z (by decide), fun _ => ⟨fun z => absurd z (by decide), fun _ => ⟨fun z => absurd z (by decide), fun _ => ⟨fun z => absurd z (by decide), fun _ => ⟨fun z => absurd z (by decide), fun _ => ⟨fun z => absurd z (by decide), fun _ => hq _ (by simp [tAns, h])⟩⟩⟩⟩⟩⟩
    · rw [h]
      exact ⟨fun _ => ⟨fun z => absurd z nc, fun _ => ⟨fun w => hq _ (by simp [tAns, h, tMin, w]), fun w => hq _ (by simp [tAns, h, tMin, w])⟩⟩, fun z => absurd rfl z⟩
    · rw [h]
      exact ⟨fun z => absurd z (by decide), fun _ => ⟨fun _ => ⟨fun s0 => hq _ (by simp [tAns, h, s0]), fun z => absurd s0 z⟩, fun z => absurd rfl z⟩⟩
    · rw [h]
      exact ⟨fun z => absurd z (by decide), fun _ => ⟨fun z => absurd z (by decide), fun _ => ⟨fun _ => hq _ (by simp [tAns, tHalf, h, s0]), fun z => absurd rfl z⟩⟩⟩
    · rw [h]
      exact ⟨fun z => absurd z (by decide), fun _ => ⟨fun z => absurd z (by decide), fun _ => ⟨fun z => absurd z (by decide), fun _ => ⟨fun _ => ⟨fun s2 => ⟨fun z => absurd z nc, fun _ => ⟨fun w => hq _ (by simp [tAns, h, tMin, w, s2]), fun w => hq _ (by simp [tAns, h, tMin, w, s2])⟩⟩, fun s2 => hq _ (by simp [tAns, h, s2])⟩, fun z => absurd rfl z⟩⟩⟩⟩
    · rw [h]
      refine ⟨fun z => absurd z (by decide), fun _ => ⟨fun z => absurd z (by decide), fun _ => ⟨fun z => absurd z (by decide), fun _ => ⟨fun z => absurd z (by decide), fun _ => ⟨fun _ => ⟨fun w => absurd w (by grind), fun _ => ⟨fun w => hq _ ?_, fun w => hq _ ?_⟩⟩, fun z => absurd rfl z⟩⟩⟩⟩⟩
      · simp only [tAns, tHalf, tMin, h, s0]
        grind
      · simp only [tAns, tHalf, tMin, h, s0]
        grind
    · have t := tld h
      rw [h]
      exact ⟨fun z => absurd z (by decide), fun _ => ⟨fun z => absurd z (by decide), fun _ => ⟨fun z => absurd z (by decide), fun _ => ⟨fun z => absurd z (by decide), fun _ => ⟨fun z => absurd z (by decide), fun _ => ⟨fun _ => t, fun z => absurd rfl z⟩⟩⟩⟩⟩⟩
  · rcases h7 with h | h | h | h | h | h | h
    · rw [h]
      exact ⟨fun z => absurd z (by decide), fun _ => ⟨fun z => absurd z (by decide), fun _ => ⟨fun z => absurd z (by decide), fun _ => ⟨fun z => absurd z (by decide), fun _ => ⟨fun z => absurd z (by decide), fun _ => ⟨fun z => absurd z (by decide), fun _ => hq _ (by simp [tAns, h])⟩⟩⟩⟩⟩⟩
    · rw [h]
      exact ⟨fun _ => ⟨fun z => absurd z nc, fun _ => ⟨fun w => hq _ (by simp [tAns, h, tMin, w]), fun w => hq _ (by simp [tAns, h, tMin, w])⟩⟩, fun z => absurd rfl z⟩
    · rw [h]
      exact ⟨fun z => absurd z (by decide), fun _ => ⟨fun _ => ⟨fun z => absurd z s0, fun _ => hq _ (by simp [tAns, h, s0])⟩, fun z => absurd rfl z⟩⟩
    · rw [h]
      exact ⟨fun z => absurd z (by decide), fun _ => ⟨fun z => absurd z (by decide), fun _ => ⟨fun _ => hq _ (by simp [tAns, tHalf, h, s0]), fun z => absurd rfl z⟩⟩⟩
    · rw [h]
      exact ⟨fun z => absurd z (by decide), fun _ => ⟨fun z => absurd z (by decide), fun _ => ⟨fun z => absurd z (by decide), fun _ => ⟨fun _ => ⟨fun s2 => ⟨fun z => absurd z nc, fun _ => ⟨fun w => hq _ (by simp [tAns, h, tMin, w, s2]), fun w => hq _ (by simp [tAns, h, tMin, w, s2])⟩⟩, fun s2 => hq _ (by simp [tAns, h, s2])⟩, fun z => absurd rfl z⟩⟩⟩⟩
    · rw [h]
      refine ⟨fun z => absurd z (by decide), fun _ => ⟨fun z => absurd z (by decide), fun _ => ⟨fun z => absurd z (by decide), fun _ => ⟨fun z => absurd z (by decide), fun _ => ⟨fun _ => ⟨fun w => absurd w (by grind), fun _ => ⟨fun w => hq _ ?_, fun w => hq _ ?_⟩⟩, fun z => absurd rfl z⟩⟩⟩⟩⟩
      · simp only [tAns, tHalf, tMin, h, s0]
        grind
      · simp only [tAns, tHalf, tMin, h, s0]
        grind
    · have t := tld h
      rw [h]
      exact ⟨fun z => absurd z (by decide), fun _ => ⟨fun z => absurd z (by decide), fun _ => ⟨fun z => absurd z (by decide), fun _ => ⟨fun z => absurd z (by decide), fun _ => ⟨fun z => absurd z (by decide), fun _ => ⟨fun _ => t, fun z => absurd rfl z⟩⟩⟩⟩⟩⟩
theorem RD.pay {M : zm_M} {E : Nat → Int32} {T : zT} {t0 o3 : Int32} {q0 : Nat → Int32} {p : Nat} {x a b c : Int32} (h : RD M E T t0 o3 q0) (hp : p < 12) (ha : a = T.1 p - tMin (T.1 p) (tPaid T p x)) (hb : b = T.2.1 p - (tPaid T p x - tMin (T.1 p) (tPaid T p x))) (hc : c = M.1 90 p + tPaid T p x) : RD (zm_si (zm_si (zm_si M 83 (15 + 8 * p) a) 83 (16 + 8 * p) b) 90 p c) E (tPay T p x) t0 o3 q0 ∧ zf8 M (zm_si (zm_si (zm_si M 83 (15 + 8 * p) a) 83 (16 + 8 * p) b) 90 p c) := by
  obtain ⟨h1, h2, h3, h4⟩ := h
  refine ⟨⟨fun i i3 hi => ?_, fun q hq => ?_, ?_, ?_⟩, zfr_trans (zfr_trans (zfr_si (by decide)) (zfr_si (by decide))) (zfr_si (by decide)), fun j hj => ?_, fun q hq => ?_⟩
  · rw [zI_si_ne (by decide), zI_si, if_pos rfl, if_neg (by omega), zI_si, if_pos rfl, if_neg (by omega)]
    exact h1 i i3 hi
  · obtain ⟨g1, g2, g3⟩ := h2 q hq
    show _ = upd T.1 p _ q ∧ _ = upd T.2.1 p _ q ∧ _ = q0 q + upd T.2.2.1 p _ q
    unfold upd
    by_cases hqp : q = p
    · subst hqp
      rw [zI_si_ne (by decide), zI_si, if_pos rfl, if_neg (by omega), zI_si_eq, if_pos rfl, zI_si_ne (by decide), zI_si_eq, if_pos rfl, zI_si_eq, if_pos rfl, ha, hb, hc, g3]
      refine ⟨rfl, rfl, ?_⟩
      generalize tPaid T q x = y
      grind
    · rw [zI_si_ne (by decide), zI_si, if_pos rfl, if_neg (by omega), zI_si, if_pos rfl, if_neg (by omega), if_neg hqp, zI_si_ne (by decide), zI_si, if_pos rfl, if_neg (by omega), zI_si, if_pos rfl, if_neg (by omega), if_neg hqp, zI_si, if_pos rfl, if_neg hqp, zI_si_ne (by decide), zI_si_ne (by decide), if_neg hqp]
      exact ⟨g1, g2, g3⟩
  · rw [zI_si_ne (by decide), zI_si, if_pos rfl, if_neg (by omega), zI_si, if_pos rfl, if_neg (by omega)]
    exact h3
  · rw [zI_si_ne (by decide), zI_si_ne (by decide), zI_si_ne (by decide)]
    exact h4
  · rw [zI_si_ne (by decide), zI_si_ne (by decide), zI_si_ne (by decide)]
  · rw [zI_si_ne (by decide), zI_si, if_pos rfl, if_neg (by omega), zI_si, if_pos rfl, if_neg (by omega)]
theorem R_pays {d : Nat} {M : zm_M} {E : Nat → Int32} {T : zT} {N p k : Nat} {c t0 o3 : Int32} {q0 : Nat → Int32} {Q : Int32 → zm_M → Prop} (hE : TE N E) (hp : p < N) (hr : RD M E T t0 o3 q0) (hc : 0 ≤ c ∧ c ≤ 99999) (hQ : ∀ M1, RD M1 E (tPay T p (tAns E T p c (zon k))) t0 o3 q0 → zf8 M M1 → Q (tPaid T p (tAns E T p c (zon k))) M1) : zi (d + 5) 152 [.ref 82, .int (zon p), .int c, .int (zon k)] M Q := by
  have hN := hE.1.1
  have i5 : zm_inb (zon (15 + 8 * p)) 480 = true := by rw [zon_inb (by omega)]; omega
  have i6 : zm_inb (zon (16 + 8 * p)) 480 = true := by rw [zon_inb (by omega)]; omega
  have ip : zm_inb (zon p) 12 = true := by rw [zon_inb (by omega)]; omega
  apply zg_X11_pays (d := d + 4)
  rw [zP5, zP6, zon_n (show 15 + 8 * p < 2000 by omega), zon_n (show 16 + 8 * p < 2000 by omega), zon_n (show p < 2000 by omega), (hr.2.1 p (by omega)).1, (hr.2.1 p (by omega)).2.1]
  refine ⟨i5, i6, R_answers hE hp hr hc (fun M1 f1 => ?_)⟩
  have r1 := hr.fr f1
  have e5 : M1.1 83 (15 + 8 * p) = T.1 p := (r1.2.1 p (by omega)).1
  have e6 : M1.1 83 (16 + 8 * p) = T.2.1 p := (r1.2.1 p (by omega)).2.1
  generalize tAns E T p c (zon k) = x at *
  have e6' : ∀ v, (zm_si M1 83 (15 + 8 * p) v).1 83 (16 + 8 * p) = T.2.1 p := fun v => by rw [zI_si, if_pos rfl, if_neg (by omega)]; exact e6
  have fin : ∀ a b w, a = T.1 p - tMin (T.1 p) (tPaid T p x) → b = T.2.1 p - (tPaid T p x - tMin (T.1 p) (tPaid T p x)) → w = tPaid T p x → Q w (zm_si (zm_si (zm_si M1 83 (15 + 8 * p) a) 83 (16 + 8 * p) b) 90 p (M1.1 90 p + w)) := fun a b w ha hb hw => by
    have := r1.pay (x := x) (by omega) ha hb (c := M1.1 90 p + w) (by rw [hw])
    rw [hw] at this ⊢
    exact hQ _ this.1 (zf8_trans (zf8_of f1) this.2)
  simp only [e5, e6']
  refine ⟨fun c1 => ⟨i5, fun c2 => ⟨i5, i5, i5, i6, i6, ip, ip, ?_⟩, fun c2 => ⟨i5, i5, i6, i6, ip, ip, ?_⟩⟩, fun c1 => ⟨i5, fun c2 => ⟨i5, i5, i5, i6, i6, ip, ip, ?_⟩, fun c2 => ⟨i5, i5, i6, i6, ip, ip, ?_⟩⟩⟩
  · have w : tPaid T p x = T.1 p + T.2.1 p := by unfold tPaid tMin; rw [if_pos c1]
    refine fin _ _ _ ?_ ?_ w.symm
    · rw [w]; unfold tMin; rw [if_pos c2]
    · rw [w]; unfold tMin; rw [if_pos c2]
  · have w : tPaid T p x = T.1 p + T.2.1 p := by unfold tPaid tMin; rw [if_pos c1]
    refine fin _ _ _ ?_ ?_ w.symm
    · rw [w]; unfold tMin; rw [if_neg c2]
    · rw [w]; unfold tMin; rw [if_neg c2]
  · have w : tPaid T p x = x := by unfold tPaid tMin; rw [if_neg c1]
    refine fin _ _ _ ?_ ?_ w.symm
    · rw [w]; unfold tMin; rw [if_pos c2]
    · rw [w]; unfold tMin; rw [if_pos c2]
  · have w : tPaid T p x = x := by unfold tPaid tMin; rw [if_neg c1]
    refine fin _ _ _ ?_ ?_ w.symm
    · rw [w]; unfold tMin; rw [if_neg c2]
    · rw [w]; unfold tMin; rw [if_neg c2]

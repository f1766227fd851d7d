/-! A DEFAULT, as numbers: purses, houses, what is paid, what comes to the town. -/
abbrev zT : Type := (Nat → Int32) × (Nat → Int32) × (Nat → Int32) × Int32
def tTo (T : zT) (c : Int32) : zT := (T.1, T.2.1, T.2.2.1, T.2.2.2 + c)
def tMin (a b : Int32) : Int32 := if a < b then a else b
def tHalf (c s : Int32) : Int32 := if 0 < s then c - c / 2 else c
def tTold (E : Nat → Int32) (T : zT) (p : Nat) (c s : Int32) : Int32 := if 0 < E 146 then (if 0 < tMin (tvA E c (T.1 p) (T.2.1 p) s (E (11 + 8 * p))) c then tMin (tvA E c (T.1 p) (T.2.1 p) s (E (11 + 8 * p))) c else 0) else c
/-- what one answers for -/
def tAns (E : Nat → Int32) (T : zT) (p : Nat) (c s : Int32) : Int32 :=
  if E (10 + 8 * p) = 1 then tMin (100 * E (11 + 8 * p)) c
  else if E (10 + 8 * p) = 2 then (if 0 < s then 0 else c)
  else if E (10 + 8 * p) = 3 then tHalf c s
  else if E (10 + 8 * p) = 4 then (if s < 2 then tMin (100 * E (11 + 8 * p)) c else 0)
  else if E (10 + 8 * p) = 5 then tMin (tHalf c s + E (11 + 8 * p)) c
  else if E (10 + 8 * p) = 6 then tTold E T p c s
  else c
def tPaid (T : zT) (p : Nat) (a : Int32) : Int32 := tMin (T.1 p + T.2.1 p) a
def tPay (T : zT) (p : Nat) (a : Int32) : zT := (upd T.1 p (T.1 p - tMin (T.1 p) (tPaid T p a)), upd T.2.1 p (T.2.1 p - (tPaid T p a - tMin (T.1 p) (tPaid T p a))), upd T.2.2.1 p (T.2.2.1 p + tPaid T p a), T.2.2.2)
/-- a call above who owes, by what goes up -/
def tCall (up : zT → Nat → Int32 → Int32 → zT) (E : Nat → Int32) (T : zT) (p : Nat) (c s : Int32) : zT :=
  if c = 0 then T
  else if E (14 + 8 * p) = 0 then up T p c s
  else if E (10 + 8 * p) = 2 then tTo (tPay T p (tAns E T p c s)) (c - tPaid T p (tAns E T p c s))
  else up (tPay T p (tAns E T p c s)) p (c - tPaid T p (tAns E T p c s)) s
def tG (E : Nat → Int32) (c : Int32) : Int32 := if E 8 = 1 then c / 2 else c
def tUp (E : Nat → Int32) : Nat → zT → Nat → Int32 → Int32 → zT
  | 0, T, _, c, _ => tTo T c
  | n + 1, T, p, c, s =>
    if s < E 7 then
      if E (12 + 8 * p) < 0 then
        (if E (13 + 8 * p) < 0 then tTo T c
        else tCall (tUp E n) E (tTo T (c - tG E c)) (E (13 + 8 * p)).toNatClampNeg (tG E c) (s + 1))
      else
        (if E (13 + 8 * p) < 0 then tCall (tUp E n) E (tTo T (c - tG E c)) (E (12 + 8 * p)).toNatClampNeg (tG E c) (s + 1)
        else tCall (tUp E n) E (tCall (tUp E n) E (tTo T (c - tG E c)) (E (12 + 8 * p)).toNatClampNeg (tG E c - tG E c / 2) (s + 1)) (E (13 + 8 * p)).toNatClampNeg (tG E c / 2) (s + 1))
    else tTo T c
/-- the bounds of a reckoning, by persons and by what may have come to the town -/
def TB (N : Nat) (T : zT) (B : Int32) : Prop := (∀ p, p < N → (0 ≤ T.1 p ∧ T.1 p ≤ 99999) ∧ (0 ≤ T.2.1 p ∧ T.2.1 p ≤ 99999)) ∧ 0 ≤ T.2.2.2 ∧ T.2.2.2 ≤ B
theorem tMin_le {a b : Int32} : tMin a b ≤ a ∧ tMin a b ≤ b ∧ (tMin a b = a ∨ tMin a b = b) := by
  unfold tMin
  split <;> grind
theorem TB.to {N : Nat} {T : zT} {B c : Int32} (h : TB N T B) (hc : 0 ≤ c ∧ c ≤ 99999) (hB : B ≤ 100000000) : TB N (tTo T c) (B + c) := by
  obtain ⟨h1, h2, h3⟩ := h
  refine ⟨h1, ?_, ?_⟩
  · show 0 ≤ T.2.2.2 + c
    grind
  · show T.2.2.2 + c ≤ B + c
    grind
theorem TB.mono {N : Nat} {T : zT} {B B2 : Int32} (h : TB N T B) (hb : B ≤ B2) : TB N T B2 := ⟨h.1, h.2.1, by have := h.2.2; grind⟩
theorem tHalf_rng {c s : Int32} (hc : 0 ≤ c ∧ c ≤ 99999) : 0 ≤ tHalf c s ∧ tHalf c s ≤ c := by
  have := zhalf hc.1
  unfold tHalf
  split <;> grind
theorem tAns_rng {E : Nat → Int32} {T : zT} {p : Nat} {c s : Int32} (hm : 0 ≤ E (11 + 8 * p) ∧ E (11 + 8 * p) ≤ 99) (hc : 0 ≤ c ∧ c ≤ 99999) : 0 ≤ tAns E T p c s ∧ tAns E T p c s ≤ c := by
  have h1 := tMin_le (a := 100 * E (11 + 8 * p)) (b := c)
  have h2 := tHalf_rng (s := s) hc
  have h3 := tMin_le (a := tHalf c s + E (11 + 8 * p)) (b := c)
  have h4 := tMin_le (a := tvA E c (T.1 p) (T.2.1 p) s (E (11 + 8 * p))) (b := c)
  have h5 : 0 ≤ tTold E T p c s ∧ tTold E T p c s ≤ c := by
    unfold tTold
    generalize tvA E c (T.1 p) (T.2.1 p) s (E (11 + 8 * p)) = x at *
    split
    · split <;> grind
    · exact ⟨hc.1, by grind⟩
  unfold tAns
  generalize tTold E T p c s = x at *
  generalize tHalf c s = y at *
  generalize tMin (100 * E (11 + 8 * p)) c = z at *
  generalize tMin (y + E (11 + 8 * p)) c = w at *
  repeat' split
  all_goals grind
theorem tPaid_rng {T : zT} {p : Nat} {a : Int32} (h1 : 0 ≤ T.1 p ∧ T.1 p ≤ 99999) (h2 : 0 ≤ T.2.1 p ∧ T.2.1 p ≤ 99999) (ha : 0 ≤ a) : 0 ≤ tPaid T p a ∧ tPaid T p a ≤ a ∧ tPaid T p a ≤ T.1 p + T.2.1 p := by
  unfold tPaid tMin
  split <;> grind
theorem TB.pay {N : Nat} {T : zT} {B : Int32} {p : Nat} {a : Int32} (h : TB N T B) (hp : p < N) (ha : 0 ≤ a) : TB N (tPay T p a) B := by
  obtain ⟨h1, h2⟩ := h
  obtain ⟨g1, g2⟩ := h1 p hp
  have g3 := tPaid_rng g1 g2 ha
  have g4 := tMin_le (a := T.1 p) (b := tPaid T p a)
  refine ⟨fun q hq => ?_, h2⟩
  show (0 ≤ upd T.1 p _ q ∧ upd T.1 p _ q ≤ 99999) ∧ (0 ≤ upd T.2.1 p _ q ∧ upd T.2.1 p _ q ≤ 99999)
  unfold upd
  by_cases hqp : q = p
  · simp only [if_pos hqp]
    generalize tPaid T p a = x at *
    generalize tMin (T.1 p) x = y at *
    grind
  · simp only [if_neg hqp]
    exact h1 q hq
theorem tG_rng {E : Nat → Int32} {c : Int32} (hc : 0 ≤ c ∧ c ≤ 99999) : 0 ≤ tG E c ∧ tG E c ≤ c := by
  have := zhalf hc.1
  unfold tG
  split <;> grind
/-- what must hold of the tree -/
def TE (N : Nat) (E : Nat → Int32) : Prop := (N ≤ 12 ∧ E 0 = zon N) ∧ (1 ≤ E 7 ∧ E 7 ≤ 9) ∧ (∀ p, p < N → (0 ≤ E (10 + 8 * p) ∧ E (10 + 8 * p) ≤ 6) ∧ (0 ≤ E (11 + 8 * p) ∧ E (11 + 8 * p) ≤ 99) ∧ (E (12 + 8 * p) = -1 ∨ ∃ q, q < N ∧ E (12 + 8 * p) = zon q) ∧ (E (13 + 8 * p) = -1 ∨ ∃ q, q < N ∧ E (13 + 8 * p) = zon q) ∧ (E (14 + 8 * p) = 0 ∨ E (14 + 8 * p) = 1)) ∧ SX 0 E
theorem TB.call {N : Nat} {E : Nat → Int32} {up : zT → Nat → Int32 → Int32 → zT} {T : zT} {p : Nat} {c s B : Int32} (hE : TE N E) (hu : ∀ (T : zT) (p : Nat) (c B : Int32), TB N T B → (0 ≤ c ∧ c ≤ 99999) → p < N → (0 ≤ B ∧ B ≤ 100000000 - c) → TB N (up T p c s) (B + c)) (h : TB N T B) (hc : 0 ≤ c ∧ c ≤ 99999) (hp : p < N) (hB : 0 ≤ B ∧ B ≤ 100000000 - c) : TB N (tCall up E T p c s) (B + c) := by
  have ha := tAns_rng (T := T) (s := s) (hE.2.2.1 p hp).2.1 hc
  have hpd := tPaid_rng (h.1 p hp).1 (h.1 p hp).2 ha.1
  unfold tCall
  generalize tAns E T p c s = a at *
  by_cases c0 : c = 0
  · rw [if_pos c0]
    exact h.mono (by grind)
  · rw [if_neg c0]
    split
    · exact hu T p c B h hc hp hB
    · split
      · exact ((h.pay hp ha.1).to (by grind) (by grind)).mono (by grind)
      · exact (hu _ p _ B (h.pay hp ha.1) (by grind) hp (by grind)).mono (by grind)
theorem TB.up {N : Nat} {E : Nat → Int32} (hE : TE N E) : ∀ (n : Nat) (s : Int32) (T : zT) (p : Nat) (c B : Int32), TB N T B → (0 ≤ c ∧ c ≤ 99999) → p < N → (0 ≤ B ∧ B ≤ 100000000 - c) → TB N (tUp E n T p c s) (B + c)
  | 0, s, T, p, c, B, h, hc, hp, hB => h.to hc (by grind)
  | n + 1, s, T, p, c, B, h, hc, hp, hB => by
    have hg := tG_rng (E := E) hc
    obtain ⟨-, -, hf, hm, -⟩ := hE.2.2.1 p hp
    have ih := TB.up hE n
    have h1 : TB N (tTo T (c - tG E c)) (B + (c - tG E c)) := h.to (by grind) (by grind)
    have hh := zhalf hg.1
    unfold tUp
    generalize tG E c = g at *
    split
    · split
      · split
        · exact h.to hc (by grind)
        · rcases hm with hm | ⟨q, hq, hm⟩
          · rename_i z
            rw [hm] at z
            exact absurd (by decide) z
          · rw [hm, zon_n (by have := hE.1.1; omega)]
            exact (TB.call hE (ih (s + 1)) h1 (by grind) hq (by grind)).mono (by grind)
      · rcases hf with hf | ⟨q, hq, hf⟩
        · rename_i z
          rw [hf] at z
          exact absurd (by decide) z
        · rw [hf, zon_n (by have := hE.1.1; omega)]
          split
          · exact (TB.call hE (ih (s + 1)) h1 (by grind) hq (by grind)).mono (by grind)
          · rcases hm with hm | ⟨q2, hq2, hm⟩
            · rename_i z
              rw [hm] at z
              exact absurd (by decide) z
            · rw [hm, zon_n (by have := hE.1.1; omega)]
              have h2 := TB.call hE (ih (s + 1)) h1 (c := g - g / 2) (by grind) hq (by grind)
              exact (TB.call hE (ih (s + 1)) h2 (c := g / 2) (by grind) hq2 (by grind)).mono (by grind)
    · exact h.to hc (by grind)

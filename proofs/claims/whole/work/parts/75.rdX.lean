/-! TEXTS: the class's reader. -/
def XS (b : Nat → Int32) (L u : Nat) (g : tS) (M : zm_M) : Prop := (M.1 68 2 = zon g.1 ∧ M.1 68 1 = zon g.2.1 ∧ M.1 68 4 = zon L ∧ M.2.2.1 = 110 + u) ∧ (g.2.1 ≤ g.1 ∧ g.1 ≤ L ∧ L ≤ 60) ∧ (∀ k, k < 60 → M.1 70 k = b k) ∧ (∀ k, k < g.2.1 → zstp u (M.1 69 k) (g.2.2.1 k) (g.2.2.2 k))
theorem XS.nx {b : Nat → Int32} {L u : Nat} {g : tS} {M : zm_M} (h : XS b L u g M) (hl : g.1 < L) : XS b L u (tNx g) (zm_si M 68 2 (M.1 68 2 + 1)) := by
  obtain ⟨⟨h1, h2, h3, h4⟩, ⟨h5, h6, h7⟩, h8, h9⟩ := h
  refine ⟨⟨by rw [zI_si_eq, h1, zon_s]; rfl, by rw [zI_si, if_pos rfl, if_neg (by decide)]; exact h2, by rw [zI_si, if_pos rfl, if_neg (by decide)]; exact h3, h4⟩, ⟨?_, ?_, h7⟩, fun k hk => by rw [zI_si_ne (by decide)]; exact h8 k hk, fun k hk => by rw [zI_si_ne (by decide)]; exact h9 k hk⟩
  · show g.2.1 ≤ g.1 + 1
    omega
  · show g.1 + 1 ≤ L
    omega
theorem XS.add {b : Nat → Int32} {L u : Nat} {g : tS} {M : zm_M} {c a x : Int32} (h : XS b L u g M) (hl : g.2.1 < g.1) (hz : zstp u c a x) : XS b L u (tAdd g a x) (zm_si (zm_si M 69 g.2.1 c) 68 1 (zon g.2.1 + 1)) := by
  obtain ⟨⟨h1, h2, h3, h4⟩, ⟨h5, h6, h7⟩, h8, h9⟩ := h
  refine ⟨⟨?_, ?_, ?_, h4⟩, ⟨?_, h6, h7⟩, fun k hk => ?_, fun k hk => ?_⟩
  · rw [zI_si, if_pos rfl, if_neg (by decide), zI_si_ne (by decide)]
    exact h1
  · rw [zI_si_eq, zon_s]
    rfl
  · rw [zI_si, if_pos rfl, if_neg (by decide), zI_si_ne (by decide)]
    exact h3
  · show g.2.1 + 1 ≤ g.1
    omega
  · rw [zI_si_ne (by decide), zI_si_ne (by decide)]
    exact h8 k hk
  · have hk2 : k < g.2.1 + 1 := hk
    rw [zI_si_ne (by decide), zI_si, if_pos rfl]
    show zstp u _ (upd g.2.2.1 g.2.1 a k) (upd g.2.2.2 g.2.1 x k)
    by_cases e : k = g.2.1
    · rw [if_pos e, e, upd_at, upd_at]
      exact hz
    · rw [if_neg e, upd_ne e, upd_ne e]
      exact h9 k (by omega)
theorem XS.put {b : Nat → Int32} {L u : Nat} {g : tS} {M : zm_M} {c a x : Int32} {Q : zm_M → Prop} (h : XS b L u g M) (hl : g.2.1 < g.1) (hz : zstp u c a x) (hQ : ∀ M2, XS b L u (tAdd g a x) M2 → zfr [68, 69] M M2 → Q M2) : (M.1 68 1 < (60 : Int32) → zm_inb (M.1 68 1) 60 = true ∧ Q (zm_si (zm_si M 69 ((M.1 68 1).toNatClampNeg) c) 68 1 ((M.1 68 1) + 1))) ∧ (¬ M.1 68 1 < (60 : Int32) → Q M) := by
  have h60 : g.2.1 < 60 := by have := h.2.1; omega
  have h2 := h.1.2.1
  rw [h2, zon_n (by omega), zon_ltl (b := 60) (by omega) rfl]
  refine ⟨fun _ => ⟨by rw [zon_inb (by omega)]; exact h60, hQ _ (h.add hl hz) ?_⟩, fun z => absurd h60 z⟩
  exact zfr_trans (zfr_si (by decide)) (zfr_si (by decide))
theorem num_step {acc x : Int32} {B : Int} (h : 0 ≤ acc.toInt ∧ acc.toInt < B) (hB : B ≤ 1000) (hx : tDg x) : 0 ≤ (acc * 10 + x - 48).toInt ∧ (acc * 10 + x - 48).toInt < B * 10 := by
  have a1 := le_i hx.1 rfl rfl
  have a2 := le_i hx.2 rfl rfl
  rw [show (48 : Int32).toInt = 48 from rfl] at a1
  rw [show (57 : Int32).toInt = 57 from rfl] at a2
  have e : (acc * 10 + x - 48).toInt = acc.toInt * 10 + x.toInt - 48 := by
    have e1 : (acc * 10).toInt = acc.toInt * 10 := by
      rw [Int32.toInt_mul, show (10 : Int32).toInt = 10 from rfl, Int.bmod]
      omega
    have e2 : (acc * 10 + x).toInt = acc.toInt * 10 + x.toInt := by
      rw [add_i (by rw [e1]; omega), e1]
    rw [sub_i (by rw [e2, show (48 : Int32).toInt = 48 from rfl]; omega), e2]
    rfl
  rw [e]
  omega
theorem X_num {d u L : Nat} {b : Nat → Int32} {Q : zm_M → Prop} : ∀ (n i : Nat) (B : Int) (acc : Int32) (g : tS) (M : zm_M), i + n = 4 → ((i = 0 ∧ B = 1) ∨ (i = 1 ∧ B = 10) ∨ (i = 2 ∧ B = 100) ∨ (i = 3 ∧ B = 1000) ∨ (i = 4 ∧ B = 10000)) → (0 ≤ acc.toInt ∧ acc.toInt < B) → (g.2.1 < g.1 ∨ (0 < n ∧ g.1 < L ∧ tDg (b g.1))) → XS b L u g M → (∀ M2, XS b L u (tNum b L n acc g) M2 → zfr [68, 69] M M2 → Q M2) → zt (d + 1) 27 4 [some (.ref 68), some (.int acc), some (.int (zon i))] [] M (zPv Q) := by
  intro n
  induction n with
  | zero =>
    intro i B acc g M hi hB ha hl h hQ
    apply zg_X4_readNumber_p4
    rw [zon_ltl (b := 4) (by omega) rfl]
    exact ⟨fun z => absurd z (by omega), fun _ => h.put (a := 0) (x := acc) (by omega) (Or.inl ⟨rfl, rfl, ha.1, by omega⟩) hQ⟩
  | succ n ih =>
    intro i B acc g M hi hB ha hl h hQ
    have hb := h.2.1
    rw [tNum] at hQ
    apply zg_X4_readNumber_p4
    have fin : ¬ (g.1 < L ∧ tDg (b g.1)) → (M.1 68 1 < (60 : Int32) → zm_inb (M.1 68 1) 60 = true ∧ Q (zm_si (zm_si M 69 ((M.1 68 1).toNatClampNeg) acc) 68 1 ((M.1 68 1) + 1))) ∧ (¬ M.1 68 1 < (60 : Int32) → Q M) := fun hn => by
      rw [if_neg hn] at hQ
      exact h.put (a := 0) (x := acc) (hl.elim id (fun z => absurd z.2 hn)) (Or.inl ⟨rfl, rfl, ha.1, by omega⟩) hQ
    have h1 := h.1.1
    have h4 := h.1.2.2.1
    refine ⟨fun _ => ⟨fun c => ?_, fun c => fin (fun z => c ?_)⟩, fun z => absurd (by rw [zon_ltl (b := 4) (by omega) rfl]; omega) z⟩
    · have c0 : g.1 < L := by
        rw [h1, h4, zon_lt (by omega) (by omega)] at c
        exact c
      have inb : zm_inb (M.1 68 2) 60 = true := by rw [h1, zon_inb (by omega)]; omega
      have eb : M.1 70 ((M.1 68 2).toNatClampNeg) = b g.1 := by rw [h1, zon_n (by omega)]; exact h.2.2.1 _ (by omega)
      rw [eb]
      refine ⟨inb, fun z => fin (fun y => absurd y.2.1 (by grind)), fun z => ⟨fun z2 => fin (fun y => absurd y.2.2 (by grind)), fun z2 => ⟨fun _ => ⟨inb, ?_⟩, fun y => absurd c y⟩⟩⟩
      have dg : tDg (b g.1) := ⟨by grind, by grind⟩
      rw [if_pos ⟨c0, dg⟩] at hQ
      rw [zon_s (a := i)]
      refine ih (i + 1) (B * 10) _ (tNx g) _ (by omega) (by omega) (num_step ha (by omega) dg) (Or.inl ?_) (h.nx c0) (fun M2 h2 f2 => hQ M2 h2 (zfr_trans (zfr_si (by decide)) f2))
      show g.2.1 < g.1 + 1
      omega
    · rw [h1, h4, zon_lt (by omega) (by omega)]
      exact z.1

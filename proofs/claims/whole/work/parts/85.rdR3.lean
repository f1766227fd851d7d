/-! TEXTS: the reference's units. -/
def r33 (d : Nat) (Q : Int32 → zm_M → Prop) (M : zm_M) : Prop := ((M.1 82 6) = (5 : Int32) → Q 0 M) ∧ (¬ (M.1 82 6) = (5 : Int32) → zi d 142 [.ref 82] (zm_si (zm_si M 82 6 ((M.1 82 6) + 1)) 82 5 ((M.1 82 5) + 1)) (fun x122 M121 => (x122 = (0 : Int32) → Q 0 M121) ∧ (¬ x122 = (0 : Int32) → zm_inb (2 * (M121.1 82 7)) 124 = true ∧ (zm_inb ((2 * (M121.1 82 7)) + 1) 124 = true ∧ (Q 1 (zm_si (zm_si (zm_si (zm_si M121 82 6 ((M121.1 82 6) - 1)) 87 ((2 * (M121.1 82 7)).toNatClampNeg) 2) 87 (((2 * (M121.1 82 7)) + 1).toNatClampNeg) 0) 82 7 ((M121.1 82 7) + 1)))))))
def r40 (d : Nat) (Q : Int32 → zm_M → Prop) (M : zm_M) : Prop := ((M.1 82 6) = (5 : Int32) → Q 0 M) ∧ (¬ (M.1 82 6) = (5 : Int32) → zi d 136 [.ref 82] (zm_si (zm_si M 82 6 ((M.1 82 6) + 1)) 82 5 ((M.1 82 5) + 1)) (fun x102 M101 => (x102 = (0 : Int32) → Q 0 M101) ∧ (¬ x102 = (0 : Int32) → ((M101.1 82 5) < (M101.1 83 4) → zm_inb (396 + (M101.1 82 5)) 480 = true ∧ (((M101.1 83 ((396 + (M101.1 82 5)).toNatClampNeg)) = (41 : Int32) → Q 1 (zm_si (zm_si M101 82 5 ((M101.1 82 5) + 1)) 82 6 ((M101.1 82 6) - 1))) ∧ (¬ (M101.1 83 ((396 + (M101.1 82 5)).toNatClampNeg)) = (41 : Int32) → Q 0 M101))) ∧ (¬ (M101.1 82 5) < (M101.1 83 4) → Q 0 M101))))
abbrev rNam (M : zm_M) (x : Int32) : zm_M := zm_si (zm_si (zm_si (zm_si M 82 5 ((M.1 82 5) + 1)) 87 ((2 * (M.1 82 7)).toNatClampNeg) 1) 87 (((2 * (M.1 82 7)) + 1).toNatClampNeg) x) 82 7 ((M.1 82 7) + 1)
theorem tNm_all {u : Nat} {x : Int32} (hu : u ≤ 1) : (x = 112 → tNm u x) ∧ (x = 104 → tNm u x) := by
  have c : u = 0 ∨ u = 1 := by omega
  rcases c with rfl | rfl
  · exact ⟨fun h => Or.inl ⟨rfl, Or.inr (Or.inl h)⟩, fun h => Or.inl ⟨rfl, Or.inr (Or.inr (Or.inl h))⟩⟩
  · exact ⟨fun h => Or.inr ⟨rfl, Or.inl h⟩, fun h => Or.inr ⟨rfl, Or.inr (Or.inl h)⟩⟩
theorem R_one {d L u : Nat} {b : Nat → Int32} {g : tS} {M : zm_M} {Q : Int32 → zm_M → Prop} (hu : u ≤ 1) (hX : RS b L u g M) (hE : ¬ g.1 < L → Q 0 M) (hD : g.1 < L → tDg (b g.1) → zt (d + 1) 142 46 [some (.ref 82), none, some (.int 0), some (.int 0)] [] M (zPi Q)) (h33 : g.1 < L → b g.1 = 33 → r33 d Q M) (h40 : g.1 < L → b g.1 = 40 → r40 d Q M) (hN : g.1 < L → tNm u (b g.1) → rIn M ∧ Q 1 (rNam M (b g.1))) (hZ : g.1 < L → ¬ tDg (b g.1) → ¬ b g.1 = 33 → ¬ b g.1 = 40 → ¬ tNm u (b g.1) → Q 0 M) : zi (d + 1) 142 [.ref 82] M Q := by
  have c8 := hX.1.2.2.1
  apply zg_X11_one
  by_cases c : g.1 < L
  · obtain ⟨hi, hx⟩ := hX.at.2 c
    have hc := hX.at.1.mpr c
    rw [show M.1 83 ((396 + (M.1 82 5)).toNatClampNeg) = b g.1 from hx]
    have t33 : ¬ tDg (b g.1) → ¬ tNm u (b g.1) → (b g.1 = (33 : Int32) → r33 d Q M) ∧ (¬ b g.1 = (33 : Int32) → (b g.1 = (40 : Int32) → r40 d Q M) ∧ (¬ b g.1 = (40 : Int32) → Q 0 M)) := fun nd nn => ⟨h33 c, fun n1 => ⟨h40 c, fun n2 => hZ c nd n1 n2 nn⟩⟩
    have dig : ¬ tNm u (b g.1) → (b g.1 < (48 : Int32) → (b g.1 = (33 : Int32) → r33 d Q M) ∧ (¬ b g.1 = (33 : Int32) → (b g.1 = (40 : Int32) → r40 d Q M) ∧ (¬ b g.1 = (40 : Int32) → Q 0 M))) ∧ (¬ b g.1 < (48 : Int32) → ((57 : Int32) < b g.1 → (b g.1 = (33 : Int32) → r33 d Q M) ∧ (¬ b g.1 = (33 : Int32) → (b g.1 = (40 : Int32) → r40 d Q M) ∧ (¬ b g.1 = (40 : Int32) → Q 0 M))) ∧ (¬ (57 : Int32) < b g.1 → zt (d + 1) 142 46 [some (.ref 82), none, some (.int 0), some (.int 0)] [] M (zPi Q))) := fun nn => by
      refine ⟨fun y => t33 (fun z => ?_) nn, fun y => ⟨fun y2 => t33 (fun z => ?_) nn, fun y2 => hD c ⟨?_, ?_⟩⟩⟩
      · exact absurd z.1 (by grind)
      · exact absurd z.2 (by grind)
      · grind
      · grind
    have nm : tNm u (b g.1) → zm_inb (2 * (M.1 82 7)) 124 = true ∧ (zm_inb ((2 * (M.1 82 7)) + 1) 124 = true ∧ (Q 1 (rNam M (b g.1)))) := fun y => ⟨(hN c y).1.1, (hN c y).1.2, (hN c y).2⟩
    clear hN h33 h40 hZ hE hD
    have u01 : u = 0 ∨ u = 1 := by omega
    rcases u01 with rfl | rfl
    · refine ⟨fun _ => ⟨hi, fun y => nm ((tNm_all hu).1 y), fun y1 => ⟨fun y => nm ((tNm_all hu).2 y), fun y2 => ⟨fun _ => ⟨fun y => nm (Or.inl ⟨rfl, Or.inl y⟩), fun y3 => ⟨fun y => nm (Or.inl ⟨rfl, Or.inr (Or.inr (Or.inr (Or.inl y)))⟩), fun y4 => ⟨fun y => nm (Or.inl ⟨rfl, Or.inr (Or.inr (Or.inr (Or.inr y)))⟩), fun y5 => dig ?_⟩⟩⟩, fun z => absurd c8 z⟩⟩⟩, fun z => absurd hc z⟩
      rintro (⟨-, h⟩ | ⟨z, -⟩)
      · rcases h with h | h | h | h | h
        · exact y3 h
        · exact y1 h
        · exact y2 h
        · exact y4 h
        · exact y5 h
      · exact absurd z (by decide)
    · refine ⟨fun _ => ⟨hi, fun y => nm ((tNm_all hu).1 y), fun y1 => ⟨fun y => nm ((tNm_all hu).2 y), fun y2 => ⟨fun z => absurd (c8.symm.trans z) (by decide), fun _ => ⟨fun y => nm (Or.inr ⟨rfl, Or.inr (Or.inr y)⟩), fun y3 => dig ?_⟩⟩⟩⟩, fun z => absurd hc z⟩
      rintro (⟨z, -⟩ | ⟨-, h⟩)
      · exact absurd z (by decide)
      · rcases h with h | h | h
        · exact y1 h
        · exact y2 h
        · exact y3 h
  · exact ⟨fun z => absurd (hX.at.1.mp z) c, fun _ => ⟨fun _ => hE c, fun _ => hE c⟩⟩
theorem RS.rlay {b : Nat → Int32} {L u : Nat} {g : tS} {M : zm_M} {a x : Int32} {Q : zm_M → Prop} (h : RS b L u g M) (hl : g.2.1 < g.1) (hQ : ∀ M2, RS b L u (tAdd g a x) M2 → M2.1 82 6 = M.1 82 6 → rfr M M2 → Q M2) : zm_inb (2 * (M.1 82 7)) 124 = true ∧ (zm_inb ((2 * (M.1 82 7)) + 1) 124 = true ∧ Q (rLay M a x)) := by
  have ly := h.lay (a := a) (x := x) hl
  refine ⟨ly.1.1, ly.1.2, hQ _ ly.2 ?_ rfr_lay⟩
  unfold rLay
  rw [zI_si, if_pos rfl, if_neg (by decide), zI_si_ne (by decide), zI_si_ne (by decide)]
theorem R_num {d u L : Nat} {b : Nat → Int32} {Q : Int32 → zm_M → Prop} : ∀ (n i : Nat) (acc : Int32) (g : tS) (M : zm_M), i + n = 4 → (g.2.1 < g.1 ∨ (0 < n ∧ g.1 < L ∧ tDg (b g.1))) → RS b L u g M → (∀ M2, RS b L u (tNum b L n acc g) M2 → M2.1 82 6 = M.1 82 6 → rfr M M2 → Q 1 M2) → zt (d + 1) 142 46 [some (.ref 82), none, some (.int acc), some (.int (zon i))] [] M (zPi Q) := by
  intro n
  induction n with
  | zero =>
    intro i acc g M hi hl h hQ
    apply zg_X11_one_p46
    rw [zon_ltl (b := 4) (by omega) rfl]
    exact ⟨fun z => absurd z (by omega), fun _ => h.rlay (a := 0) (x := acc) (by omega) hQ⟩
  | succ n ih =>
    intro i acc g M hi hl h hQ
    rw [tNum] at hQ
    have fin : ¬ (g.1 < L ∧ tDg (b g.1)) → zm_inb (2 * (M.1 82 7)) 124 = true ∧ (zm_inb ((2 * (M.1 82 7)) + 1) 124 = true ∧ Q 1 (rLay M 0 acc)) := fun hn => by
      rw [if_neg hn] at hQ
      exact h.rlay (a := 0) (x := acc) (hl.elim id (fun z => absurd z.2 hn)) hQ
    apply zg_X11_one_p46
    refine ⟨fun _ => ?_, fun z => absurd (by rw [zon_ltl (b := 4) (by omega) rfl]; omega) z⟩
    by_cases c : g.1 < L
    · obtain ⟨hin, hx⟩ := h.at.2 c
      have hc := h.at.1.mpr c
      rw [show M.1 83 ((396 + (M.1 82 5)).toNatClampNeg) = b g.1 from hx]
      refine ⟨fun _ => ⟨hin, fun z => fin (fun y => absurd y.2.1 (by grind)), fun z => ⟨fun z2 => fin (fun y => absurd y.2.2 (by grind)), fun z2 => ⟨fun _ => ⟨hin, ?_⟩, fun y => absurd hc y⟩⟩⟩, fun y => absurd hc y⟩
      have dg : tDg (b g.1) := ⟨by grind, by grind⟩
      rw [if_pos ⟨c, dg⟩] at hQ
      rw [zon_s (a := i), Int32.mul_comm 10 acc]
      refine ih (i + 1) _ (tNx g) _ (by omega) (Or.inl ?_) (h.nx c) (fun M2 h2 o2 f2 => hQ M2 h2 (o2.trans ?_) (rfr_trans (rfr_si (by omega)) f2))
      · have := h.2.1
        show g.2.1 < g.1 + 1
        omega
      · rw [zI_si, if_pos rfl, if_neg (by decide)]
    · exact ⟨fun z => absurd (h.at.1.mp z) c, fun _ => fin (fun z => c z.1)⟩

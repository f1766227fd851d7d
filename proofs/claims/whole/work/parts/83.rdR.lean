/-! TEXTS: the reference's reader: its methods by kinds. -/
/-- what compared does behind its first sum -/
def cmpT (d : Nat) (Q : Int32 → zm_M → Prop) (M1 : zm_M) : Prop := ((M1.1 82 5) < (M1.1 83 4) → zm_inb (396 + (M1.1 82 5)) 480 = true ∧ (((M1.1 83 ((396 + (M1.1 82 5)).toNatClampNeg)) = (60 : Int32) → zi d 139 [.ref 82] (zm_si M1 82 5 ((M1.1 82 5) + 1)) (fun x5 M4 => (x5 = (0 : Int32) → Q 0 M4) ∧ (¬ x5 = (0 : Int32) → zm_inb (2 * (M4.1 82 7)) 124 = true ∧ (zm_inb ((2 * (M4.1 82 7)) + 1) 124 = true ∧ (Q 1 (zm_si (zm_si (zm_si M4 87 ((2 * (M4.1 82 7)).toNatClampNeg) 3) 87 (((2 * (M4.1 82 7)) + 1).toNatClampNeg) (M1.1 83 ((396 + (M1.1 82 5)).toNatClampNeg))) 82 7 ((M4.1 82 7) + 1))))))) ∧ (¬ (M1.1 83 ((396 + (M1.1 82 5)).toNatClampNeg)) = (60 : Int32) → ((M1.1 83 ((396 + (M1.1 82 5)).toNatClampNeg)) = (61 : Int32) → zi d 139 [.ref 82] (zm_si M1 82 5 ((M1.1 82 5) + 1)) (fun x15 M14 => (x15 = (0 : Int32) → Q 0 M14) ∧ (¬ x15 = (0 : Int32) → zm_inb (2 * (M14.1 82 7)) 124 = true ∧ (zm_inb ((2 * (M14.1 82 7)) + 1) 124 = true ∧ (Q 1 (zm_si (zm_si (zm_si M14 87 ((2 * (M14.1 82 7)).toNatClampNeg) 3) 87 (((2 * (M14.1 82 7)) + 1).toNatClampNeg) (M1.1 83 ((396 + (M1.1 82 5)).toNatClampNeg))) 82 7 ((M14.1 82 7) + 1))))))) ∧ (¬ (M1.1 83 ((396 + (M1.1 82 5)).toNatClampNeg)) = (61 : Int32) → ((M1.1 83 ((396 + (M1.1 82 5)).toNatClampNeg)) = (62 : Int32) → zi d 139 [.ref 82] (zm_si M1 82 5 ((M1.1 82 5) + 1)) (fun x25 M24 => (x25 = (0 : Int32) → Q 0 M24) ∧ (¬ x25 = (0 : Int32) → zm_inb (2 * (M24.1 82 7)) 124 = true ∧ (zm_inb ((2 * (M24.1 82 7)) + 1) 124 = true ∧ (Q 1 (zm_si (zm_si (zm_si M24 87 ((2 * (M24.1 82 7)).toNatClampNeg) 3) 87 (((2 * (M24.1 82 7)) + 1).toNatClampNeg) (M1.1 83 ((396 + (M1.1 82 5)).toNatClampNeg))) 82 7 ((M24.1 82 7) + 1))))))) ∧ (¬ (M1.1 83 ((396 + (M1.1 82 5)).toNatClampNeg)) = (62 : Int32) → Q 1 M1))))) ∧ (¬ (M1.1 82 5) < (M1.1 83 4) → Q 1 M1)
/-- the reference's methods, and their loops, by kinds -/
def RL (k d : Nat) (Q : Int32 → zm_M → Prop) (M : zm_M) : Prop :=
  if k = 0 then zi (d + 1) 136 [.ref 82] M Q else if k = 1 then zi (d + 1) 137 [.ref 82] M Q else if k = 2 then zi (d + 1) 138 [.ref 82] M Q
  else if k = 3 then zi (d + 1) 139 [.ref 82] M Q else if k = 4 then zi (d + 1) 140 [.ref 82] M Q else if k = 5 then zi (d + 1) 142 [.ref 82] M Q
  else if k = 10 then zt d 136 9 [some (.ref 82)] [] M (zPi Q) else if k = 11 then zt d 137 9 [some (.ref 82)] [] M (zPi Q)
  else if k = 12 then ∃ e, d = e + 1 ∧ cmpT e Q M
  else if k = 13 then zt d 139 9 [some (.ref 82), none] [] M (zPi Q) else zt d 140 9 [some (.ref 82), none] [] M (zPi Q)
abbrev rAt (M : zm_M) : Int32 := M.1 83 ((396 + (M.1 82 5)).toNatClampNeg)
abbrev rLay (M : zm_M) (a x : Int32) : zm_M := zm_si (zm_si (zm_si M 87 ((2 * (M.1 82 7)).toNatClampNeg) a) 87 (((2 * (M.1 82 7)) + 1).toNatClampNeg) x) 82 7 ((M.1 82 7) + 1)
abbrev rIn (M : zm_M) : Prop := zm_inb (2 * (M.1 82 7)) 124 = true ∧ zm_inb ((2 * (M.1 82 7)) + 1) 124 = true
theorem RL_head {r d : Nat} {Q : Int32 → zm_M → Prop} {M : zm_M} (hr : r < 5) (h : RL (r + 1) d (fun x M1 => (x = (0 : Int32) → Q 0 M1) ∧ (¬ x = (0 : Int32) → RL (10 + r) (d + 2) Q M1)) M) : RL r (d + 1) Q M := by
  have c5 : r = 0 ∨ r = 1 ∨ r = 2 ∨ r = 3 ∨ r = 4 := by omega
  rcases c5 with rfl | rfl | rfl | rfl | rfl
  · show zi (d + 1 + 1) 136 [.ref 82] M Q
    apply zg_X11_whole
    exact h
  · show zi (d + 1 + 1) 137 [.ref 82] M Q
    apply zg_X11_both
    exact h
  · show zi (d + 1 + 1) 138 [.ref 82] M Q
    apply zg_X11_compared
    refine zi.mono (show zi (d + 1) 139 [.ref 82] M _ from h) (fun x M1 g => ⟨g.1, fun y => ?_⟩)
    obtain ⟨e, he, h2⟩ := g.2 y
    obtain rfl : d + 1 = e := by omega
    exact h2
  · show zi (d + 1 + 1) 139 [.ref 82] M Q
    apply zg_X11_sum
    exact h
  · show zi (d + 1 + 1) 140 [.ref 82] M Q
    apply zg_X11_product
    exact h
theorem RL_stop {r d : Nat} {Q : Int32 → zm_M → Prop} {M : zm_M} (hr : r < 5) (hin : M.1 82 5 < M.1 83 4 → zm_inb (396 + (M.1 82 5)) 480 = true) (hs : M.1 82 5 < M.1 83 4 → ¬ tOp (rAt M) r) (hQ : Q 1 M) : RL (10 + r) (d + 1) Q M := by
  have c5 : r = 0 ∨ r = 1 ∨ r = 2 ∨ r = 3 ∨ r = 4 := by omega
  unfold tOp at hs
  rcases c5 with rfl | rfl | rfl | rfl | rfl
  · show zt (d + 1) 136 9 [some (.ref 82)] [] M (zPi Q)
    apply zg_X11_whole_p9
    by_cases c : M.1 82 5 < M.1 83 4
    · have hi := hin c
      have e0 : ¬ rAt M = (124 : Int32) := fun z => hs c (Or.inl ⟨rfl, z⟩)
      exact ⟨fun _ => ⟨hi, fun z => absurd z e0, fun _ => hQ⟩, fun z => absurd c z⟩
    · exact ⟨fun z => absurd z c, fun _ => hQ⟩
  · show zt (d + 1) 137 9 [some (.ref 82)] [] M (zPi Q)
    apply zg_X11_both_p9
    by_cases c : M.1 82 5 < M.1 83 4
    · have hi := hin c
      have e0 : ¬ rAt M = (38 : Int32) := fun z => hs c (Or.inr (Or.inl ⟨rfl, z⟩))
      exact ⟨fun _ => ⟨hi, fun z => absurd z e0, fun _ => hQ⟩, fun z => absurd c z⟩
    · exact ⟨fun z => absurd z c, fun _ => hQ⟩
  · refine ⟨d, rfl, ?_⟩
    unfold cmpT
    by_cases c : M.1 82 5 < M.1 83 4
    · have hi := hin c
      have e0 : ¬ rAt M = (60 : Int32) := fun z => hs c (Or.inr (Or.inr (Or.inl ⟨rfl, Or.inl z⟩)))
      have e1 : ¬ rAt M = (61 : Int32) := fun z => hs c (Or.inr (Or.inr (Or.inl ⟨rfl, Or.inr (Or.inl z)⟩)))
      have e2 : ¬ rAt M = (62 : Int32) := fun z => hs c (Or.inr (Or.inr (Or.inl ⟨rfl, Or.inr (Or.inr (z))⟩)))
      exact ⟨fun _ => ⟨hi, fun z => absurd z e0, fun _ => ⟨fun z => absurd z e1, fun _ => ⟨fun z => absurd z e2, fun _ => hQ⟩⟩⟩, fun z => absurd c z⟩
    · exact ⟨fun z => absurd z c, fun _ => hQ⟩
  · show zt (d + 1) 139 9 [some (.ref 82), none] [] M (zPi Q)
    apply zg_X11_sum_p9
    by_cases c : M.1 82 5 < M.1 83 4
    · have hi := hin c
      have e0 : ¬ rAt M = (43 : Int32) := fun z => hs c (Or.inr (Or.inr (Or.inr (Or.inl ⟨rfl, Or.inl z⟩))))
      have e1 : ¬ rAt M = (45 : Int32) := fun z => hs c (Or.inr (Or.inr (Or.inr (Or.inl ⟨rfl, Or.inr (z)⟩))))
      exact ⟨fun _ => ⟨hi, fun z => absurd z e0, fun _ => ⟨fun _ => ⟨hi, fun z => absurd z e1, fun _ => hQ⟩, fun z => absurd c z⟩⟩, fun z => absurd c z⟩
    · exact ⟨fun z => absurd z c, fun _ => ⟨fun z => absurd z c, fun _ => hQ⟩⟩
  · show zt (d + 1) 140 9 [some (.ref 82), none] [] M (zPi Q)
    apply zg_X11_product_p9
    by_cases c : M.1 82 5 < M.1 83 4
    · have hi := hin c
      have e0 : ¬ rAt M = (42 : Int32) := fun z => hs c (Or.inr (Or.inr (Or.inr (Or.inr (⟨rfl, Or.inl z⟩)))))
      have e1 : ¬ rAt M = (47 : Int32) := fun z => hs c (Or.inr (Or.inr (Or.inr (Or.inr (⟨rfl, Or.inr (Or.inl z)⟩)))))
      have e2 : ¬ rAt M = (37 : Int32) := fun z => hs c (Or.inr (Or.inr (Or.inr (Or.inr (⟨rfl, Or.inr (Or.inr (z))⟩)))))
      exact ⟨fun _ => ⟨hi, fun z => absurd z e0, fun _ => ⟨fun _ => ⟨hi, fun z => absurd z e1, fun _ => ⟨fun _ => ⟨hi, fun z => absurd z e2, fun _ => hQ⟩, fun z => absurd c z⟩⟩, fun z => absurd c z⟩⟩, fun z => absurd c z⟩
    · exact ⟨fun z => absurd z c, fun _ => ⟨fun z => absurd z c, fun _ => ⟨fun z => absurd z c, fun _ => hQ⟩⟩⟩
theorem RL_op {r d : Nat} {Q : Int32 → zm_M → Prop} {M : zm_M} {x : Int32} (hr : r < 5) (c : M.1 82 5 < M.1 83 4) (hi : zm_inb (396 + (M.1 82 5)) 480 = true) (hx : rAt M = x) (ho : tOp x r) (h : RL (r + 1) d (fun y M1 => (y = (0 : Int32) → Q 0 M1) ∧ (¬ y = (0 : Int32) → rIn M1 ∧ (r = 2 → Q 1 (rLay M1 3 x)) ∧ (r ≠ 2 → RL (10 + r) (d + 2) Q (rLay M1 3 x)))) (zm_si M 82 5 ((M.1 82 5) + 1))) : RL (10 + r) (d + 2) Q M := by
  have c5 : r = 0 ∨ r = 1 ∨ r = 2 ∨ r = 3 ∨ r = 4 := by omega
  unfold tOp at ho
  rcases c5 with rfl | rfl | rfl | rfl | rfl
  · have hv : x = (124 : Int32) := by
      rcases ho with ⟨z, h9⟩ | ⟨z, h9⟩ | ⟨z, h9⟩ | ⟨z, h9⟩ | ⟨z, h9⟩ <;> first | exact h9 | exact absurd z (by decide)
    show zt (d + 1 + 1) 136 9 [some (.ref 82)] [] M (zPi Q)
    apply zg_X11_whole_p9
    rw [show M.1 83 ((396 + (M.1 82 5)).toNatClampNeg) = x from hx]
    have h2 : zi (d + 1) 137 [.ref 82] (zm_si M 82 5 ((M.1 82 5) + 1)) (fun y M1 => (y = (0 : Int32) → Q 0 M1) ∧ (¬ y = (0 : Int32) → zm_inb (2 * (M1.1 82 7)) 124 = true ∧ (zm_inb ((2 * (M1.1 82 7)) + 1) 124 = true ∧ RL 10 (d + 2) Q (rLay M1 3 x)))) := zi.mono h (fun y M1 g => ⟨g.1, fun z => ⟨(g.2 z).1.1, (g.2 z).1.2, (g.2 z).2.2 (by decide)⟩⟩)
    subst hv
    exact ⟨fun _ => ⟨hi, fun _ => h2, fun z => absurd rfl z⟩, fun z => absurd c z⟩
  · have hv : x = (38 : Int32) := by
      rcases ho with ⟨z, h9⟩ | ⟨z, h9⟩ | ⟨z, h9⟩ | ⟨z, h9⟩ | ⟨z, h9⟩ <;> first | exact h9 | exact absurd z (by decide)
    show zt (d + 1 + 1) 137 9 [some (.ref 82)] [] M (zPi Q)
    apply zg_X11_both_p9
    rw [show M.1 83 ((396 + (M.1 82 5)).toNatClampNeg) = x from hx]
    have h2 : zi (d + 1) 138 [.ref 82] (zm_si M 82 5 ((M.1 82 5) + 1)) (fun y M1 => (y = (0 : Int32) → Q 0 M1) ∧ (¬ y = (0 : Int32) → zm_inb (2 * (M1.1 82 7)) 124 = true ∧ (zm_inb ((2 * (M1.1 82 7)) + 1) 124 = true ∧ RL 11 (d + 2) Q (rLay M1 3 x)))) := zi.mono h (fun y M1 g => ⟨g.1, fun z => ⟨(g.2 z).1.1, (g.2 z).1.2, (g.2 z).2.2 (by decide)⟩⟩)
    subst hv
    exact ⟨fun _ => ⟨hi, fun _ => h2, fun z => absurd rfl z⟩, fun z => absurd c z⟩
  · have hv : x = (60 : Int32) ∨ x = (61 : Int32) ∨ x = (62 : Int32) := by
      rcases ho with ⟨z, h9⟩ | ⟨z, h9⟩ | ⟨z, h9⟩ | ⟨z, h9⟩ | ⟨z, h9⟩ <;> first | exact h9 | exact absurd z (by decide)
    refine ⟨d + 1, rfl, ?_⟩
    unfold cmpT
    rw [show M.1 83 ((396 + (M.1 82 5)).toNatClampNeg) = x from hx]
    have h2 : zi (d + 1) 139 [.ref 82] (zm_si M 82 5 ((M.1 82 5) + 1)) (fun y M1 => (y = (0 : Int32) → Q 0 M1) ∧ (¬ y = (0 : Int32) → zm_inb (2 * (M1.1 82 7)) 124 = true ∧ (zm_inb ((2 * (M1.1 82 7)) + 1) 124 = true ∧ Q 1 (rLay M1 3 x)))) := zi.mono h (fun y M1 g => ⟨g.1, fun z => ⟨(g.2 z).1.1, (g.2 z).1.2, (g.2 z).2.1 rfl⟩⟩)
    rcases hv with rfl | rfl | rfl
    · exact ⟨fun _ => ⟨hi, fun _ => h2, fun z => absurd rfl z⟩, fun z => absurd c z⟩
    · exact ⟨fun _ => ⟨hi, fun z => absurd z (by decide), fun _ => ⟨fun _ => h2, fun z => absurd rfl z⟩⟩, fun z => absurd c z⟩
    · exact ⟨fun _ => ⟨hi, fun z => absurd z (by decide), fun _ => ⟨fun z => absurd z (by decide), fun _ => ⟨fun _ => h2, fun z => absurd rfl z⟩⟩⟩, fun z => absurd c z⟩
  · have hv : x = (43 : Int32) ∨ x = (45 : Int32) := by
      rcases ho with ⟨z, h9⟩ | ⟨z, h9⟩ | ⟨z, h9⟩ | ⟨z, h9⟩ | ⟨z, h9⟩ <;> first | exact h9 | exact absurd z (by decide)
    show zt (d + 1 + 1) 139 9 [some (.ref 82), none] [] M (zPi Q)
    apply zg_X11_sum_p9
    rw [show M.1 83 ((396 + (M.1 82 5)).toNatClampNeg) = x from hx]
    have h2 : zi (d + 1) 140 [.ref 82] (zm_si M 82 5 ((M.1 82 5) + 1)) (fun y M1 => (y = (0 : Int32) → Q 0 M1) ∧ (¬ y = (0 : Int32) → zm_inb (2 * (M1.1 82 7)) 124 = true ∧ (zm_inb ((2 * (M1.1 82 7)) + 1) 124 = true ∧ RL 13 (d + 2) Q (rLay M1 3 x)))) := zi.mono h (fun y M1 g => ⟨g.1, fun z => ⟨(g.2 z).1.1, (g.2 z).1.2, (g.2 z).2.2 (by decide)⟩⟩)
    rcases hv with rfl | rfl
    · exact ⟨fun _ => ⟨hi, fun _ => ⟨fun _ => ⟨hi, h2⟩, fun z => absurd c z⟩, fun z => absurd rfl z⟩, fun z => absurd c z⟩
    · exact ⟨fun _ => ⟨hi, fun z => absurd z (by decide), fun _ => ⟨fun _ => ⟨hi, fun _ => ⟨fun _ => ⟨hi, h2⟩, fun z => absurd c z⟩, fun z => absurd rfl z⟩, fun z => absurd c z⟩⟩, fun z => absurd c z⟩
  · have hv : x = (42 : Int32) ∨ x = (47 : Int32) ∨ x = (37 : Int32) := by
      rcases ho with ⟨z, h9⟩ | ⟨z, h9⟩ | ⟨z, h9⟩ | ⟨z, h9⟩ | ⟨z, h9⟩ <;> first | exact h9 | exact absurd z (by decide)
    show zt (d + 1 + 1) 140 9 [some (.ref 82), none] [] M (zPi Q)
    apply zg_X11_product_p9
    rw [show M.1 83 ((396 + (M.1 82 5)).toNatClampNeg) = x from hx]
    have h2 : zi (d + 1) 142 [.ref 82] (zm_si M 82 5 ((M.1 82 5) + 1)) (fun y M1 => (y = (0 : Int32) → Q 0 M1) ∧ (¬ y = (0 : Int32) → zm_inb (2 * (M1.1 82 7)) 124 = true ∧ (zm_inb ((2 * (M1.1 82 7)) + 1) 124 = true ∧ RL 14 (d + 2) Q (rLay M1 3 x)))) := zi.mono h (fun y M1 g => ⟨g.1, fun z => ⟨(g.2 z).1.1, (g.2 z).1.2, (g.2 z).2.2 (by decide)⟩⟩)
    rcases hv with rfl | rfl | rfl
    · exact ⟨fun _ => ⟨hi, fun _ => ⟨fun _ => ⟨hi, h2⟩, fun z => absurd c z⟩, fun z => absurd rfl z⟩, fun z => absurd c z⟩
    · exact ⟨fun _ => ⟨hi, fun z => absurd z (by decide), fun _ => ⟨fun _ => ⟨hi, fun _ => ⟨fun _ => ⟨hi, h2⟩, fun z => absurd c z⟩, fun z => absurd rfl z⟩, fun z => absurd c z⟩⟩, fun z => absurd c z⟩
    · exact ⟨fun _ => ⟨hi, fun z => absurd z (by decide), fun _ => ⟨fun _ => ⟨hi, fun z => absurd z (by decide), fun _ => ⟨fun _ => ⟨hi, fun _ => ⟨fun _ => ⟨hi, h2⟩, fun z => absurd c z⟩, fun z => absurd rfl z⟩, fun z => absurd c z⟩⟩, fun z => absurd c z⟩⟩, fun z => absurd c z⟩

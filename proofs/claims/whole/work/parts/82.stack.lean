/-! TEXTS: every reading that ends well adds one value. -/
def zdw (w : Nat → Int32) : Nat → Option Nat
  | 0 => some 0
  | n + 1 => match zdw w n with
    | none => none
    | some k => if w n = 0 ∨ w n = 1 then some (k + 1) else if w n = 2 then (if 1 ≤ k then some k else none) else (if 2 ≤ k then some (k - 1) else none)
theorem zdw_cg {w w2 : Nat → Int32} : ∀ n, (∀ j, j < n → w2 j = w j) → zdw w2 n = zdw w n := by
  intro n
  induction n with
  | zero => intro _; rfl
  | succ n ih =>
    intro h
    unfold zdw
    rw [ih (fun j hj => h j (by omega)), h n (by omega)]
theorem zdw_dep {f w : Nat → Int32} : ∀ n, (∀ j, j < n → f (2 * j) = w j) → zdep f n = zdw w n := by
  intro n
  induction n with
  | zero => intro _; rfl
  | succ n ih =>
    intro h
    unfold zdep zdw
    rw [ih (fun j hj => h j (by omega)), h n (by omega)]
    cases zdw w n <;> rfl
theorem zdw_add {w : Nat → Int32} {n D : Nat} {a : Int32} (h : zdw w n = some D) : zdw (upd w n a) (n + 1) = if a = 0 ∨ a = 1 then some (D + 1) else if a = 2 then (if 1 ≤ D then some D else none) else (if 2 ≤ D then some (D - 1) else none) := by
  unfold zdw
  rw [zdw_cg (w := w) n (fun j hj => upd_ne (by omega)), h, upd_at]
def SP (k : Nat) (g : tS) (ok : Bool) (g2 : tS) : Prop := (g.2.1 ≤ g2.2.1 ∧ ∀ j, j < g.2.1 → g2.2.2.1 j = g.2.2.1 j) ∧ (ok = true → ∀ D, (10 ≤ k → zdw g.2.2.1 g.2.1 = some (D + 1) → zdw g2.2.2.1 g2.2.1 = some (D + 1)) ∧ (k < 10 → zdw g.2.2.1 g.2.1 = some D → zdw g2.2.2.1 g2.2.1 = some (D + 1)))
theorem SP.of {k : Nat} {g g2 : tS} (h : g.2.1 ≤ g2.2.1 ∧ ∀ j, j < g.2.1 → g2.2.2.1 j = g.2.2.1 j) : SP k g false g2 := ⟨h, fun z => by cases z⟩
theorem tAdd_k {g g2 : tS} {a x : Int32} (h : g.2.1 ≤ g2.2.1 ∧ ∀ j, j < g.2.1 → g2.2.2.1 j = g.2.2.1 j) : g.2.1 ≤ (tAdd g2 a x).2.1 ∧ ∀ j, j < g.2.1 → (tAdd g2 a x).2.2.1 j = g.2.2.1 j := by
  refine ⟨Nat.le_succ_of_le h.1, fun j hj => ?_⟩
  show upd g2.2.2.1 g2.2.1 a j = _
  rw [upd_ne (by have := h.1; omega)]
  exact h.2 j hj
theorem tNum_sp {b : Nat → Int32} {L : Nat} : ∀ (n : Nat) (acc : Int32) (g : tS), ∃ x k, tNum b L n acc g = tAdd (k, g.2) 0 x := by
  intro n
  induction n with
  | zero => intro acc g; exact ⟨acc, g.1, rfl⟩
  | succ n ih =>
    intro acc g
    rw [tNum]
    split
    · obtain ⟨x, k, h⟩ := ih (acc * 10 + b g.1 - 48) (tNx g)
      exact ⟨x, k, h⟩
    · exact ⟨acc, g.1, rfl⟩
theorem Rd.sp {b : Nat → Int32} {L u k dp : Nat} {g g2 : tS} {ok : Bool} (h : Rd b L u k dp g ok g2) : SP k g ok g2 := by
  have rf : ∀ g : tS, g.2.1 ≤ g.2.1 ∧ ∀ j, j < g.2.1 → g.2.2.1 j = g.2.2.1 j := fun g => ⟨Nat.le_refl _, fun _ _ => rfl⟩
  have tr : ∀ {g g2 g3 : tS}, (g.2.1 ≤ g2.2.1 ∧ ∀ j, j < g.2.1 → g2.2.2.1 j = g.2.2.1 j) → (g2.2.1 ≤ g3.2.1 ∧ ∀ j, j < g2.2.1 → g3.2.2.1 j = g2.2.2.1 j) → (g.2.1 ≤ g3.2.1 ∧ ∀ j, j < g.2.1 → g3.2.2.1 j = g.2.2.1 j) := fun {g g2 g3} h1 h2 => ⟨Nat.le_trans h1.1 h2.1, fun j hj => (h2.2 j (Nat.lt_of_lt_of_le hj h1.1)).trans (h1.2 j hj)⟩
  refine h (fun k _ g ok g2 => SP k g ok g2) ⟨fun _ ih => SP.of ih.1, fun {r dp g g2 ok g3} hr ih1 ih2 => ⟨tr ih1.1 ih2.1, fun z D => ⟨fun y => absurd y (by omega), fun _ y => ?_⟩⟩, fun {r dp g} hr _ => ⟨rf g, fun _ D => ⟨fun _ y => y, fun y => absurd y (by omega)⟩⟩, fun _ _ _ ih => SP.of ih.1, fun {dp g g2} _ _ ih => ⟨tAdd_k ih.1, fun _ D => ⟨fun _ y => ?_, fun y => absurd y (by omega)⟩⟩, fun {r dp g g2 ok g3} hr _ _ _ ih1 ih2 => ⟨tr (tAdd_k ih1.1) ih2.1, fun z D => ⟨fun _ y => ?_, fun y => absurd y (by omega)⟩⟩, fun {dp g} _ => SP.of (rf g), fun {dp g} _ _ _ _ _ => SP.of (rf g), fun {g} _ _ => SP.of (rf g), fun _ _ _ ih => SP.of ih.1, fun {dp g g2} _ _ _ ih => ⟨tAdd_k ih.1, fun _ D => ⟨fun y => absurd y (by omega), fun _ y => ?_⟩⟩, fun _ _ _ ih => SP.of ih.1, fun _ _ _ ih _ => SP.of ih.1, fun {dp g g2} _ _ _ ih _ _ => ⟨ih.1, fun _ D => ⟨fun y => absurd y (by omega), fun _ y => ((ih.2 rfl D).2 (by omega) y)⟩⟩, fun {dp g} _ _ => ⟨tAdd_k (g2 := tNx g) (rf g), fun _ D => ⟨fun y => absurd y (by omega), fun _ y => ?_⟩⟩, fun {dp g} _ _ => ?_⟩
  · exact (ih2.2 z D).1 (by omega) ((ih1.2 rfl D).2 (by omega) y)
  · have e := (ih.2 rfl (D + 1)).2 (by omega) y
    have e2 := zdw_add (a := 3) e
    rw [if_neg (by decide), if_neg (by decide), if_pos (by omega)] at e2
    exact e2
  · have e := (ih1.2 rfl (D + 1)).2 (by omega) y
    have e2 := zdw_add (a := 3) e
    rw [if_neg (by decide), if_neg (by decide), if_pos (by omega)] at e2
    exact (ih2.2 z D).1 (by omega) e2
  · have e := (ih.2 rfl D).2 (by omega) y
    have e2 := zdw_add (a := 2) e
    rw [if_neg (by decide), if_pos rfl, if_pos (by omega)] at e2
    exact e2
  · have e2 := zdw_add (a := 1) y
    rw [if_pos (Or.inr rfl)] at e2
    exact e2
  · obtain ⟨x, k, e⟩ := tNum_sp (b := b) (L := L) 4 0 g
    rw [e]
    refine ⟨tAdd_k (g2 := (k, g.2)) (rf g), fun _ D => ⟨fun y => absurd y (by omega), fun _ y => ?_⟩⟩
    have e2 := zdw_add (a := 0) y
    rw [if_pos (Or.inl rfl)] at e2
    exact e2

/-! What a TEXT is worth: one reckoning, and both programs do it. -/
def jn (c x y : Int32) : Int32 :=
  if c = 43 then x + y else if c = 45 then x - y else if c = 42 then x * y
  else if c = 47 then (if y = 0 then 0 else x / y)
  else if c = 37 then (if y = 0 then 0 else x - x / y * y)
  else if c = 60 then (if x < y then 1 else 0) else if c = 62 then (if y < x then 1 else 0)
  else if c = 61 then (if x = y then 1 else 0)
  else if c = 38 then (if x = 0 then 0 else if y = 0 then 0 else 1)
  else (if x = 0 then (if y = 0 then 0 else 1) else 1)
def evS (f : Nat → Int32) (nm : Int32 → Int32) : Nat → Nat × (Nat → Int32)
  | 0 => (0, fun _ => 0)
  | n + 1 =>
    if f (2 * n) = 0 then ((evS f nm n).1 + 1, upd (evS f nm n).2 (evS f nm n).1 (f (2 * n + 1)))
    else if f (2 * n) = 1 then ((evS f nm n).1 + 1, upd (evS f nm n).2 (evS f nm n).1 (nm (f (2 * n + 1))))
    else if f (2 * n) = 2 then ((evS f nm n).1, upd (evS f nm n).2 ((evS f nm n).1 - 1) (if (evS f nm n).2 ((evS f nm n).1 - 1) = 0 then 1 else 0))
    else ((evS f nm n).1 - 1, upd (evS f nm n).2 ((evS f nm n).1 - 2) (jn (f (2 * n + 1)) ((evS f nm n).2 ((evS f nm n).1 - 2)) ((evS f nm n).2 ((evS f nm n).1 - 1))))
theorem zdep_prev {f : Nat → Int32} {n d : Nat} (h : zdep f (n + 1) = some d) : ∃ e, zdep f n = some e ∧ (f (2 * n) = 2 → 1 ≤ e) ∧ (f (2 * n) ≠ 0 → f (2 * n) ≠ 1 → f (2 * n) ≠ 2 → 2 ≤ e) ∧ ((f (2 * n) = 0 ∨ f (2 * n) = 1) → d = e + 1) ∧ (f (2 * n) = 2 → d = e) ∧ (f (2 * n) ≠ 0 → f (2 * n) ≠ 1 → f (2 * n) ≠ 2 → d = e - 1) := by
  unfold zdep at h
  cases h1 : zdep f n with
  | none => rw [h1] at h; cases h
  | some e =>
    rw [h1] at h
    dsimp only at h
    refine ⟨e, rfl, ?_⟩
    by_cases c0 : f (2 * n) = 0 ∨ f (2 * n) = 1
    · rw [if_pos c0] at h
      cases h
      refine ⟨fun z => ?_, fun z1 z2 z3 => ?_, fun _ => rfl, fun z => ?_, fun z1 z2 z3 => ?_⟩
      · rw [z] at c0; exact absurd c0 (by decide)
      · exact absurd c0 (by simp [z1, z2])
      · rw [z] at c0; exact absurd c0 (by decide)
      · exact absurd c0 (by simp [z1, z2])
    · rw [if_neg c0] at h
      by_cases c2 : f (2 * n) = 2
      · rw [if_pos c2] at h
        by_cases c3 : 1 ≤ e
        · rw [if_pos c3] at h
          cases h
          exact ⟨fun _ => c3, fun _ _ z => absurd c2 z, fun z => absurd z c0, fun _ => rfl, fun _ _ z => absurd c2 z⟩
        · rw [if_neg c3] at h; cases h
      · rw [if_neg c2] at h
        by_cases c3 : 2 ≤ e
        · rw [if_pos c3] at h
          cases h
          exact ⟨fun z => absurd z c2, fun _ _ _ => c3, fun z => absurd z c0, fun z => absurd z c2, fun _ _ _ => rfl⟩
        · rw [if_neg c3] at h; cases h
theorem zdep_le {f : Nat → Int32} : ∀ {n d : Nat}, zdep f n = some d → d ≤ n := by
  intro n
  induction n with
  | zero => intro d h; cases h; exact Nat.le_refl _
  | succ n ih =>
    intro d h
    obtain ⟨e, he, h1, h2, h3, h4, h5⟩ := zdep_prev h
    have := ih he
    by_cases c0 : f (2 * n) = 0 ∨ f (2 * n) = 1
    · have := h3 c0; omega
    · by_cases c2 : f (2 * n) = 2
      · have := h4 c2; omega
      · have := h5 (fun z => c0 (Or.inl z)) (fun z => c0 (Or.inr z)) c2; omega
theorem zdep_pre {f : Nat → Int32} : ∀ {n d : Nat}, zdep f n = some d → ∀ m, m ≤ n → ∃ e, zdep f m = some e := by
  intro n
  induction n with
  | zero => intro d h m hm; have : m = 0 := by omega
            subst this; exact ⟨d, h⟩
  | succ n ih =>
    intro d h m hm
    by_cases hmn : m = n + 1
    · subst hmn; exact ⟨d, h⟩
    · obtain ⟨e, he, _⟩ := zdep_prev h
      exact ih he m (by omega)
theorem evS_dep {f : Nat → Int32} {nm : Int32 → Int32} : ∀ {n d : Nat}, zdep f n = some d → (evS f nm n).1 = d := by
  intro n
  induction n with
  | zero => intro d h; cases h; rfl
  | succ n ih =>
    intro d h
    obtain ⟨e, he, h1, h2, h3, h4, h5⟩ := zdep_prev h
    have ee := ih he
    unfold evS
    by_cases c0 : f (2 * n) = 0
    · rw [if_pos c0, h3 (Or.inl c0)]
      show (evS f nm n).1 + 1 = _
      rw [ee]
    · rw [if_neg c0]
      by_cases c1 : f (2 * n) = 1
      · rw [if_pos c1, h3 (Or.inr c1)]
        show (evS f nm n).1 + 1 = _
        rw [ee]
      · rw [if_neg c1]
        by_cases c2 : f (2 * n) = 2
        · rw [if_pos c2, h4 c2]
          exact ee
        · rw [if_neg c2, h5 c0 c1 c2]
          show (evS f nm n).1 - 1 = _
          rw [ee]
theorem zdivm (x : Int32) : x / (-1) = -x := by
  apply Int32.toInt_inj.mp
  rw [Int32.toInt_div, show (-1 : Int32).toInt = -1 from rfl, Int.tdiv_neg, Int.tdiv_one, Int32.toInt_neg]
theorem zmodm (x : Int32) : x - x / (-1) * (-1) = 0 := by
  rw [zdivm]
  grind
theorem X_join {d : Nat} {M : zm_M} {Q : Int32 → zm_M → Prop} {c x y : Int32} (hc : c = 124 ∨ c = 38 ∨ c = 60 ∨ c = 61 ∨ c = 62 ∨ c = 43 ∨ c = 45 ∨ c = 42 ∨ c = 47 ∨ c = 37) (hQ : Q (jn c x y) M) : zi d 39 [.int c, .int x, .int y] M Q := by
  apply zg_X6_join
  rcases hc with rfl | rfl | rfl | rfl | rfl | rfl | rfl | rfl | rfl | rfl <;> (simp [jn] at hQ ⊢; grind)
theorem R_join {d : Nat} {M : zm_M} {Q : Int32 → zm_M → Prop} {c x y : Int32} (hc : c = 124 ∨ c = 38 ∨ c = 60 ∨ c = 61 ∨ c = 62 ∨ c = 43 ∨ c = 45 ∨ c = 42 ∨ c = 47 ∨ c = 37) (hQ : Q (jn c x y) M) : zi d 146 [.int c, .int x, .int y] M Q := by
  apply zg_X11_joined
  have e1 := zdivm x
  have e2 := zmodm x
  rcases hc with rfl | rfl | rfl | rfl | rfl | rfl | rfl | rfl | rfl | rfl <;> (simp [jn] at hQ ⊢; grind)
theorem zon_p {a : Nat} (h : 1 ≤ a) : zon a - 1 = zon (a - 1) := (Int32.ofNat_sub a 1 h).symm
theorem zon_m {a : Nat} (h : 1 ≤ a) : zon a + (-1) = zon (a - 1) := by
  rw [← zon_p h]
  grind
def nm0 (c p h s m v : Int32) : Int32 := if v = 99 then c else if v = 112 then p else if v = 104 then h else if v = 115 then s else m
def nm1 (p h n v : Int32) : Int32 := if v = 112 then p else if v = 104 then h else n

/-! Both states, and what ties them. -/
theorem zI_si {M : zm_M} {k j k2 j2 : Nat} {v : Int32} : (zm_si M k j v).1 k2 j2 = if k2 = k then (if j2 = j then v else M.1 k j2) else M.1 k2 j2 := by
  unfold zm_si zm_sr upd
  by_cases h : k2 = k
  · simp [h]
  · simp [h]
theorem zI_si_eq {M : zm_M} {k j : Nat} {v : Int32} : (zm_si M k j v).1 k j = v := by simp [zI_si]
theorem zI_si_ne {M : zm_M} {k j k2 j2 : Nat} {v : Int32} (h : k2 ≠ k) : (zm_si M k j v).1 k2 j2 = M.1 k2 j2 := by rw [zI_si, if_neg h]
theorem zI_si_row {M : zm_M} {k j : Nat} {v : Int32} : (zm_si M k j v).1 k = upd (M.1 k) j v := by unfold zm_si zm_sr; simp
theorem zI_si_rne {M : zm_M} {k j k2 : Nat} {v : Int32} (h : k2 ≠ k) : (zm_si M k j v).1 k2 = M.1 k2 := by unfold zm_si zm_sr; simp [h]
theorem zI_sr_row {M : zm_M} {k : Nat} {f : Nat → Int32} : (zm_sr M k f).1 k = f := by unfold zm_sr; simp
theorem zI_sr_rne {M : zm_M} {k k2 : Nat} {f : Nat → Int32} (h : k2 ≠ k) : (zm_sr M k f).1 k2 = M.1 k2 := by unfold zm_sr; simp [h]
theorem zM_si2 {M : zm_M} {k j : Nat} {v : Int32} : (zm_si M k j v).2 = M.2 := rfl
theorem zM_sr2 {M : zm_M} {k : Nat} {f : Nat → Int32} : (zm_sr M k f).2 = M.2 := rfl
/-- where the class holds what stands at a place of the reference's row: cell, place -/
def zmap (k : Nat) : Option (Nat × Nat) :=
  if k < 10 then (match k with | 0 => some (2, 0) | 1 => some (12, 0) | 2 => some (1, 6) | 3 => some (1, 7) | 4 => some (18, 2) | 5 => some (18, 3) | 6 => some (1, 8) | 7 => some (29, 0) | 8 => some (29, 1) | _ => some (29, 2))
  else if k < 106 then some (4 + (k - 10) % 8, (k - 10) / 8)
  else if k < 146 then some (14 + (k - 106) % 4, (k - 106) / 4)
  else if k < 396 then none
  else if k < 456 then some (19, k - 396)
  else if k < 480 then some (20, k - 456)
  else none
def zinv (c j : Nat) : Nat := match c with
  | 2 => 0
  | 12 => 1
  | 1 => if j = 8 then 6 else j - 4
  | 18 => j + 2
  | 29 => j + 7
  | 19 => j + 396
  | 20 => j + 456
  | c => if c < 12 then 10 + 8 * j + (c - 4) else 106 + 4 * j + (c - 14)
theorem zinv_chk : ∀ k, k < 480 → (match zmap k with | some q => decide (zinv q.1 q.2 = k) && (decide (1 ≤ q.1) && decide (q.1 ≤ 29)) | none => true) = true := by decide +kernel
theorem zmap_inv {k c j : Nat} (h : zmap k = some (c, j)) : zinv c j = k ∧ 1 ≤ c ∧ c ≤ 29 := by
  by_cases hk : k < 480
  · have h1 := zinv_chk k hk
    rw [h] at h1
    simp only [Bool.and_eq_true, decide_eq_true_eq] at h1
    exact ⟨h1.1, h1.2.1, h1.2.2⟩
  · exfalso
    unfold zmap at h
    rw [if_neg (by omega), if_neg (by omega), if_neg (by omega), if_neg (by omega), if_neg (by omega), if_neg (by omega)] at h
    cases h
theorem zmap_inj {k k2 c j : Nat} (h : zmap k = some (c, j)) (h2 : zmap k2 = some (c, j)) : k = k2 := (zmap_inv h).1.symm.trans (zmap_inv h2).1
/-- numbers: the class's cells, b further on (0: the town, 29: the image), hold s -/
def RN (M : zm_M) (b : Nat) (s : Nat → Int32) : Prop := ∀ k c j, zmap k = some (c, j) → M.1 (c + b) j = s k
theorem RN.set {M : zm_M} {b : Nat} {s : Nat → Int32} {k c j : Nat} {v : Int32} (h : RN M b s) (hk : zmap k = some (c, j)) : RN (zm_si M (c + b) j v) b (upd s k v) := by
  intro k2 c2 j2 h2
  unfold upd
  by_cases e : k2 = k
  · subst e
    rw [hk] at h2
    cases h2
    rw [if_pos rfl, zI_si_eq]
  · rw [if_neg e, zI_si]
    by_cases e1 : c2 + b = c + b
    · rw [if_pos e1]
      by_cases e2 : j2 = j
      · exfalso
        have : c2 = c := by omega
        subst this
        subst e2
        exact e (zmap_inj h2 hk)
      · rw [if_neg e2, ← e1]
        exact h k2 c2 j2 h2
    · rw [if_neg e1]
      exact h k2 c2 j2 h2
theorem RN.off {M : zm_M} {b : Nat} {s : Nat → Int32} {c j : Nat} {v : Int32} (h : RN M b s) (hc : c < 1 + b ∨ 29 + b < c) : RN (zm_si M c j v) b s := by
  intro k2 c2 j2 h2
  have h3 := zmap_inv h2
  rw [zI_si_ne (by omega)]
  exact h k2 c2 j2 h2
theorem RN.offr {M : zm_M} {b : Nat} {s : Nat → Int32} {c : Nat} {f : Nat → Int32} (h : RN M b s) (hc : c < 1 + b ∨ 29 + b < c) : RN (zm_sr M c f) b s := by
  intro k2 c2 j2 h2
  have h3 := zmap_inv h2
  rw [zI_sr_rne (by omega)]
  exact h k2 c2 j2 h2
/-- a step of a text: the class's number, the reference's kind and value -/
def zstp (u : Nat) (c what v : Int32) : Prop :=
  (what = 0 ∧ c = v ∧ 0 ≤ v.toInt ∧ v.toInt ≤ 9999) ∨
  (what = 1 ∧ ((u = 0 ∧ ((v = 99 ∧ c = -1) ∨ (v = 112 ∧ c = -2) ∨ (v = 104 ∧ c = -3) ∨ (v = 115 ∧ c = -4) ∨ (v = 109 ∧ c = -5))) ∨ (u = 1 ∧ ((v = 112 ∧ c = -1) ∨ (v = 104 ∧ c = -2) ∨ (v = 110 ∧ c = -3))))) ∨
  (what = 2 ∧ c = 10033) ∨
  (what = 3 ∧ c = 10000 + v ∧ (v = 124 ∨ v = 38 ∨ v = 60 ∨ v = 61 ∨ v = 62 ∨ v = 43 ∨ v = 45 ∨ v = 42 ∨ v = 47 ∨ v = 37))
/-- how many values stand behind the first n steps; none: a step finds too few -/
def zdep (f : Nat → Int32) : Nat → Option Nat
  | 0 => some 0
  | n + 1 => match zdep f n with
    | none => none
    | some k => if f (2 * n) = 0 ∨ f (2 * n) = 1 then some (k + 1) else if f (2 * n) = 2 then (if 1 ≤ k then some k else none) else (if 2 ≤ k then some (k - 1) else none)
/-- steps that stand: n of them, in the class's cell and in the reference's row f, and well formed -/
def zcode (u : Nat) (g f : Nat → Int32) (n : Nat) : Prop := (∀ k, k < n → zstp u (g k) (f (2 * k)) (f (2 * k + 1))) ∧ n ≤ 60 ∧ ∃ d, zdep f n = some d ∧ 1 ≤ d
/-- texts: the class's (u: the use) and the reference's -/
def RX (M : zm_M) (b u : Nat) (s : Nat → Int32) : Prop :=
  (M.1 (21 + 4 * u + b) 0 = 0 ∧ s (146 + 125 * u) = 0) ∨
  (M.1 (21 + 4 * u + b) 0 = 1 ∧ ∃ n : Nat, 0 < n ∧ M.1 (21 + 4 * u + b) 1 = Int32.ofNat n ∧ s (146 + 125 * u) = Int32.ofNat n ∧ zcode u (M.1 (22 + 4 * u + b)) (fun k => s (147 + 125 * u + k)) n)
def RT (M : zm_M) (b : Nat) (s : Nat → Int32) : Prop := RN M b s ∧ RX M b 0 s ∧ RX M b 1 s
theorem RX.offr {M M2 : zm_M} {b u : Nat} {s s2 : Nat → Int32} (h : RX M b u s) (h1 : M2.1 (21 + 4 * u + b) = M.1 (21 + 4 * u + b)) (h2 : M2.1 (22 + 4 * u + b) = M.1 (22 + 4 * u + b)) (h3 : ∀ k, 146 + 125 * u ≤ k → k < 271 + 125 * u → s2 k = s k) : RX M2 b u s2 := by
  unfold RX at h ⊢
  rw [h1, h2, h3 _ (by omega) (by omega)]
  rcases h with h | ⟨h4, n, h5, h6, h7, h8⟩
  · exact Or.inl h
  · refine Or.inr ⟨h4, n, h5, h6, h7, ?_⟩
    obtain ⟨g1, g2, g3, g4, g5⟩ := h8
    have e : ∀ k, k < 2 * n → s2 (147 + 125 * u + k) = s (147 + 125 * u + k) := fun k hk => h3 _ (by omega) (by omega)
    refine ⟨fun k hk => ?_, g2, g3, ?_, g5⟩
    · show zstp u (M.1 (22 + 4 * u + b) k) (s2 (147 + 125 * u + 2 * k)) (s2 (147 + 125 * u + (2 * k + 1)))
      rw [e _ (by omega), e _ (by omega)]
      exact g1 k hk
    · have : ∀ m, m ≤ n → zdep (fun k => s2 (147 + 125 * u + k)) m = zdep (fun k => s (147 + 125 * u + k)) m := by
        intro m
        induction m with
        | zero => intro _; rfl
        | succ m ih =>
          intro hm
          unfold zdep
          rw [ih (by omega), e (2 * m) (by omega)]
      rw [this n (Nat.le_refl _)]
      exact g4

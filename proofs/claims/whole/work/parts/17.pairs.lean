/-! What holds between two calls; the first pairs of calls. -/
def PW (s : Nat → Int32) (p : Nat) : Prop :=
  (0 ≤ s (10 + 8 * p) ∧ s (10 + 8 * p) ≤ 6) ∧ (0 ≤ s (11 + 8 * p) ∧ s (11 + 8 * p) ≤ 99) ∧ (-1 ≤ s (12 + 8 * p) ∧ s (12 + 8 * p) < s 0) ∧ (-1 ≤ s (13 + 8 * p) ∧ s (13 + 8 * p) < s 0) ∧ (s (12 + 8 * p) = s (13 + 8 * p) → s (12 + 8 * p) = -1) ∧
  (s (14 + 8 * p) = 0 ∨ s (14 + 8 * p) = 1) ∧ (0 ≤ s (15 + 8 * p) ∧ s (15 + 8 * p) ≤ 99999) ∧ (0 ≤ s (16 + 8 * p) ∧ s (16 + 8 * p) ≤ 99999) ∧ (0 ≤ s (17 + 8 * p) ∧ s (17 + 8 * p) ≤ 9)
def DW (s : Nat → Int32) (q : Nat) : Prop :=
  (0 ≤ s (106 + 4 * q) ∧ s (106 + 4 * q) < s 0) ∧ (1 ≤ s (107 + 4 * q) ∧ s (107 + 4 * q) ≤ 99999) ∧ (0 ≤ s (108 + 4 * q) ∧ s (108 + 4 * q) ≤ 9999) ∧ (s (109 + 4 * q) = 0 ∨ s (109 + 4 * q) = 1)
/-- the bounds of a state -/
def WF (s : Nat → Int32) : Prop :=
  (0 ≤ s 0 ∧ s 0 ≤ 12) ∧ (0 ≤ s 1 ∧ s 1 ≤ 10) ∧ (0 ≤ s 2 ∧ s 2 ≤ 9999) ∧ (-999999 ≤ s 3 ∧ s 3 ≤ 999999) ∧ (0 ≤ s 4 ∧ s 4 ≤ 60) ∧ (0 ≤ s 5 ∧ s 5 ≤ 24) ∧
  ((1 ≤ s 7 ∧ s 7 ≤ 9) ∧ (s 8 = 0 ∨ s 8 = 1) ∧ (s 9 = 0 ∨ s 9 = 1)) ∧
  (∀ p : Nat, (p : Int) < (s 0).toInt → PW s p) ∧ (∀ q : Nat, (q : Int) < (s 1).toInt → DW s q) ∧ (∀ j : Nat, (j : Int) < (s 4).toInt → 0 ≤ s (396 + j) ∧ s (396 + j) ≤ 255)
/-- sheets, errors, the trace -/
def IS (M : zm_M) : Prop := ∀ k, k < 4 → M.1 74 k = M.1 93 k ∧ M.1 75 k = M.1 94 k ∧ (M.1 93 k = 0 ∨ M.1 93 k = 8 ∨ M.1 93 k = 16 ∨ M.1 93 k = 32) ∧ (0 ≤ M.1 94 k ∧ M.1 94 k ≤ 24) ∧ ∀ j, j < 24 → M.1 (77 + k) j = M.1 95 (24 * k + j)
def IE (M : zm_M) : Prop := ∀ k, k < 7 → M.1 81 k = M.1 86 k
def IT (M : zm_M) : Prop := M.1 71 1 = M.1 82 16 ∧ (0 ≤ M.1 82 16 ∧ M.1 82 16 ≤ 30) ∧ ∀ j : Nat, (j : Int) < (M.1 82 16).toInt → M.1 72 j = M.1 92 j
def IK (M : zm_M) : Prop := M.1 0 8 = M.1 82 3 ∧ (M.1 82 3 ≠ 0 → RT M 29 (M.1 84) ∧ WF (M.1 84))
def Inv (M : zm_M) : Prop := (RT M 0 (M.1 83) ∧ WF (M.1 83)) ∧ IK M ∧ IS M ∧ IE M ∧ IT M
theorem WF.upd6 {s : Nat → Int32} (h : WF s) (v : Int32) : WF (upd s 6 v) := by
  have e : ∀ k, k ≠ 6 → upd s 6 v k = s k := fun k hk => if_neg hk
  unfold WF PW DW at h ⊢
  simp only [e 0 (by decide), e 1 (by decide), e 2 (by decide), e 3 (by decide), e 4 (by decide), e 5 (by decide), e 7 (by decide), e 8 (by decide), e 9 (by decide)]
  obtain ⟨h1, h2, h3, h4, h5, h6, h7, h8, h9, h10⟩ := h
  refine ⟨h1, h2, h3, h4, h5, h6, h7, fun p hp => ?_, fun q hq => ?_, fun j hj => ?_⟩
  · rw [e _ (by omega), e _ (by omega), e _ (by omega), e _ (by omega), e _ (by omega), e _ (by omega), e _ (by omega), e _ (by omega)]
    exact h8 p hp
  · rw [e _ (by omega), e _ (by omega), e _ (by omega), e _ (by omega)]
    exact h9 q hq
  · rw [e _ (by omega)]
    exact h10 j hj
theorem IS.off {M M2 : zm_M} (h : IS M) (e : ∀ k, (74 ≤ k ∧ k < 81) ∨ (93 ≤ k ∧ k < 96) → M2.1 k = M.1 k) : IS M2 := by
  intro k hk
  rw [e 74 (by omega), e 75 (by omega), e 93 (by omega), e 94 (by omega), e 95 (by omega), e (77 + k) (by omega)]
  exact h k hk
theorem IE.off {M M2 : zm_M} (h : IE M) (e1 : M2.1 81 = M.1 81) (e2 : M2.1 86 = M.1 86) : IE M2 := by
  intro k hk
  rw [e1, e2]
  exact h k hk
theorem IT.off {M M2 : zm_M} (h : IT M) (e : ∀ k, k = 71 ∨ k = 72 ∨ k = 92 → M2.1 k = M.1 k) (e2 : M2.1 82 16 = M.1 82 16) : IT M2 := by
  unfold IT at h ⊢
  rw [e 71 (by omega), e 72 (by omega), e 92 (by omega), e2]
  exact h
theorem RN.congr {M M2 : zm_M} {b : Nat} {s : Nat → Int32} (h : RN M b s) (e : ∀ k, 1 + b ≤ k → k ≤ 29 + b → M2.1 k = M.1 k) : RN M2 b s := by
  intro k c j hk
  have := zmap_inv hk
  rw [e _ (by omega) (by omega)]
  exact h k c j hk
theorem RT.congr {M M2 : zm_M} {b : Nat} {s : Nat → Int32} (h : RT M b s) (e : ∀ k, 1 + b ≤ k → k ≤ 29 + b → M2.1 k = M.1 k) : RT M2 b s :=
  ⟨h.1.congr e, h.2.1.offr (e _ (by omega) (by omega)) (e _ (by omega) (by omega)) (fun _ _ _ => rfl), h.2.2.offr (e _ (by omega) (by omega)) (e _ (by omega) (by omega)) (fun _ _ _ => rfl)⟩
theorem IK.off {M M2 : zm_M} (h : IK M) (e : ∀ k, 30 ≤ k → k ≤ 58 → M2.1 k = M.1 k) (e1 : M2.1 84 = M.1 84) (e2 : M2.1 0 8 = M.1 0 8) (e3 : M2.1 82 3 = M.1 82 3) : IK M2 := by
  unfold IK at h ⊢
  rw [e1, e2, e3]
  exact ⟨h.1, fun hz => ⟨(h.2 hz).1.congr e, (h.2 hz).2⟩⟩
/-- one number of the state is set, in both -/
theorem RT.set {M : zm_M} {b : Nat} {s : Nat → Int32} {k c j : Nat} {v : Int32} (h : RT M b s) (hk : zmap k = some (c, j)) (hc : c ≠ 21 ∧ c ≠ 22 ∧ c ≠ 25 ∧ c ≠ 26) (hk2 : k < 146 ∨ 396 ≤ k) : RT (zm_si M (c + b) j v) b (upd s k v) :=
  ⟨h.1.set hk, h.2.1.offr (zI_si_rne (by omega)) (zI_si_rne (by omega)) (fun i h1 h2 => if_neg (by omega)), h.2.2.offr (zI_si_rne (by omega)) (zI_si_rne (by omega)) (fun i h1 h2 => if_neg (by omega))⟩
/-- a new state in the town, all that matters beside it as it was -/
theorem Inv.town {M M2 : zm_M} {s2 : Nat → Int32} (h : Inv M) (hR : RT M2 0 s2) (hW : WF s2) (h83 : M2.1 83 = s2) (e : ∀ k, k = 0 ∨ (30 ≤ k ∧ k ≤ 58) ∨ (71 ≤ k ∧ k ≤ 81) ∨ k = 84 ∨ k = 86 ∨ (92 ≤ k ∧ k ≤ 95) → M2.1 k = M.1 k) (e3 : M2.1 82 3 = M.1 82 3) (e16 : M2.1 82 16 = M.1 82 16) : Inv M2 := by
  obtain ⟨-, hK, hS, hE, hT⟩ := h
  refine ⟨by rw [h83]; exact ⟨hR, hW⟩, hK.off (fun k h1 h2 => e k (by omega)) (e 84 (by omega)) (by rw [e 0 (by omega)]) e3, hS.off (fun k hk => e k (by omega)), hE.off (e 81 (by omega)) (e 86 (by omega)), hT.off (fun k hk => e k (by omega)) e16⟩
/-- an error told by both -/
theorem Inv.err {M : zm_M} {k : Nat} {v w : Int32} (h : Inv M) (hk : k < 7) (hv : v = M.1 81 k + 1) (hw : w = M.1 86 k + 1) : Inv (zm_si (zm_si M 81 k v) 86 k w) := by
  obtain ⟨hR, hK, hS, hE, hT⟩ := h
  have e : ∀ c, c ≠ 81 → c ≠ 86 → (zm_si (zm_si M 81 k v) 86 k w).1 c = M.1 c := fun c h1 h2 => by rw [zI_si_rne h2, zI_si_rne h1]
  refine ⟨?_, hK.off (fun c h1 h2 => e c (by omega) (by omega)) (e 84 (by omega) (by omega)) (by rw [e 0 (by omega) (by omega)]) (by rw [e 82 (by omega) (by omega)]), hS.off (fun c hc => e c (by omega) (by omega)), ?_, hT.off (fun c hc => e c (by omega) (by omega)) (by rw [e 82 (by omega) (by omega)])⟩
  · rw [e 83 (by omega) (by omega)]
    exact ⟨hR.1.congr (fun c h1 h2 => e c (by omega) (by omega)), hR.2⟩
  · intro i hi
    have h1 := hE i hi
    rw [zI_si, if_neg (by decide), zI_si, if_pos rfl, zI_si, if_pos rfl]
    by_cases hik : i = k
    · rw [if_pos hik, if_pos hik, hv, hw]
      subst hik
      rw [h1]
    · rw [if_neg hik, if_neg hik, zI_si, if_neg (by decide)]
      exact h1
theorem pair_seed {d : Nat} {M : zm_M} {a : Int32} (h : Inv M) : zi d 74 [.ref 0, .int a] M (fun v M1 => zi d 170 [.ref 82, .int a] M1 (fun w M2 => v = w ∧ Inv M2)) := by
  apply zg_X10_seed
  apply zg_X11_seed
  obtain ⟨hR, hW⟩ := h.1
  have h6 : zmap 6 = some (1, 8) := rfl
  have e : ∀ c, c ≠ 1 → c ≠ 83 → (zm_si (zm_si M 1 8 a) 83 6 a).1 c = M.1 c := fun c h1 h2 => by rw [zI_si_rne h2, zI_si_rne h1]
  refine ⟨?_, h.town (s2 := upd (M.1 83) 6 a) ?_ (hW.upd6 a) ?_ (fun c hc => e c (by omega) (by omega)) (by rw [e 82 (by omega) (by omega)]) (by rw [e 82 (by omega) (by omega)])⟩
  · rw [zI_si_ne (by decide)]
    exact hR.1 6 1 8 h6
  · exact (hR.set (v := a) h6 (by decide) (by decide)).congr (fun c h1 h2 => by rw [zI_si_rne (by omega)])
  · rw [zI_si_row, zI_si_rne (by decide)]
theorem pair_told {d : Nat} {M : zm_M} {a : Int32} (h : Inv M) : zi (d + 1) 97 [.ref 0, .int a] M (fun v M1 => zi (d + 1) 204 [.ref 82, .int a] M1 (fun w M2 => v = w ∧ Inv M2)) := by
  have h4 : ∀ {M1 : zm_M}, M1 = zm_si M 81 1 (M.1 81 1 + 1) → (a < 1 ∨ 6 < a) → zi (d + 1) 204 [.ref 82, .int a] M1 (fun w M2 => -1000000000 - 1 = w ∧ Inv M2) := by
    intro M1 hM1 hc
    subst hM1
    have hi : Inv (zm_si (zm_si M 81 1 (M.1 81 1 + 1)) 86 1 ((zm_si M 81 1 (M.1 81 1 + 1)).1 86 1 + 1)) := h.err (by decide) rfl (by rw [zI_si_ne (by decide)])
    apply zg_X11_told
    refine ⟨fun c1 => ⟨rfl, hi⟩, fun c1 => ⟨fun c2 => ⟨rfl, hi⟩, fun c2 => ?_⟩⟩
    rcases hc with hc | hc <;> contradiction
  apply zg_X10_told
  refine ⟨fun c1 => h4 rfl (Or.inl c1), fun c1 => ⟨fun c2 => h4 rfl (Or.inr c2), fun c2 => ⟨?_, ?_⟩⟩⟩
  · unfold zm_inb
    simp only [Int32.lt_iff_toInt_lt] at c1 c2
    simp at c1 c2 ⊢
    omega
  · apply zg_X11_told
    have hin : zm_inb a 7 = true := by
      unfold zm_inb
      simp only [Int32.lt_iff_toInt_lt] at c1 c2
      simp at c1 c2 ⊢
      omega
    refine ⟨fun z => absurd z c1, fun _ => ⟨fun z => absurd z c2, fun _ => ⟨hin, ?_, h⟩⟩⟩
    have h7 : a.toNatClampNeg < 7 := by
      unfold zm_inb at hin
      simp at hin
      have := hin.2
      unfold Int32.toNatClampNeg
      omega
    exact h.2.2.2.1 _ h7

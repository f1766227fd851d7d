/-! Pairs: image, restore. -/
def zcell (c j : Nat) : Prop := (c = 2 ∧ j = 0) ∨ (c = 12 ∧ j = 0) ∨ (c = 1 ∧ (j = 6 ∨ j = 7 ∨ j = 8)) ∨ (c = 18 ∧ (j = 2 ∨ j = 3)) ∨ (c = 29 ∧ j < 3) ∨ ((4 ≤ c ∧ c < 12) ∧ j < 12) ∨ ((14 ≤ c ∧ c < 18) ∧ j < 10) ∨ (c = 19 ∧ j < 60) ∨ (c = 20 ∧ j < 24) ∨ ((c = 21 ∨ c = 25) ∧ j < 2) ∨ ((c = 22 ∨ c = 26) ∧ j < 60)
theorem zmap_lt {k : Nat} {q : Nat × Nat} (h : zmap k = some q) : k < 480 := by
  by_cases hk : k < 480
  · exact hk
  · exfalso
    unfold zmap at h
    rw [if_neg (by omega), if_neg (by omega), if_neg (by omega), if_neg (by omega), if_neg (by omega), if_neg (by omega)] at h
    cases h
theorem zmap_zcell {k c j : Nat} (hk : zmap k = some (c, j)) : zcell c j := by
  unfold zcell
  unfold zmap at hk
  by_cases k10 : k < 10
  · rw [if_pos k10] at hk
    rcases (show k = 0 ∨ k = 1 ∨ k = 2 ∨ k = 3 ∨ k = 4 ∨ k = 5 ∨ k = 6 ∨ k = 7 ∨ k = 8 ∨ k = 9 by omega) with rfl | rfl | rfl | rfl | rfl | rfl | rfl | rfl | rfl | rfl <;> cases hk
    · exact Or.inl ⟨rfl, rfl⟩
    · exact Or.inr (Or.inl ⟨rfl, rfl⟩)
    · exact Or.inr (Or.inr (Or.inl ⟨rfl, Or.inl rfl⟩))
    · exact Or.inr (Or.inr (Or.inl ⟨rfl, Or.inr (Or.inl rfl)⟩))
    · exact Or.inr (Or.inr (Or.inr (Or.inl ⟨rfl, Or.inl rfl⟩)))
    · exact Or.inr (Or.inr (Or.inr (Or.inl ⟨rfl, Or.inr rfl⟩)))
    · exact Or.inr (Or.inr (Or.inl ⟨rfl, Or.inr (Or.inr rfl)⟩))
    · exact Or.inr (Or.inr (Or.inr (Or.inr (Or.inl ⟨rfl, by decide⟩))))
    · exact Or.inr (Or.inr (Or.inr (Or.inr (Or.inl ⟨rfl, by decide⟩))))
    · exact Or.inr (Or.inr (Or.inr (Or.inr (Or.inl ⟨rfl, by decide⟩))))
  · rw [if_neg k10] at hk
    by_cases k106 : k < 106
    · rw [if_pos k106] at hk
      cases hk
      exact Or.inr (Or.inr (Or.inr (Or.inr (Or.inr (Or.inl ⟨by omega, by omega⟩)))))
    · rw [if_neg k106] at hk
      by_cases k146 : k < 146
      · rw [if_pos k146] at hk
        cases hk
        exact Or.inr (Or.inr (Or.inr (Or.inr (Or.inr (Or.inr (Or.inl ⟨by omega, by omega⟩))))))
      · rw [if_neg k146] at hk
        by_cases k396 : k < 396
        · rw [if_pos k396] at hk
          cases hk
        · rw [if_neg k396] at hk
          by_cases k456 : k < 456
          · rw [if_pos k456] at hk
            cases hk
            exact Or.inr (Or.inr (Or.inr (Or.inr (Or.inr (Or.inr (Or.inr (Or.inl ⟨rfl, by omega⟩)))))))
          · rw [if_neg k456] at hk
            by_cases k480 : k < 480
            · rw [if_pos k480] at hk
              cases hk
              exact Or.inr (Or.inr (Or.inr (Or.inr (Or.inr (Or.inr (Or.inr (Or.inr (Or.inl ⟨rfl, by omega⟩))))))))
            · rw [if_neg k480] at hk
              cases hk
theorem RT.copy {M M2 : zm_M} {b1 b2 : Nat} {s : Nat → Int32} (h : RT M b1 s) (e : ∀ c j, zcell c j → M2.1 (c + b2) j = M.1 (c + b1) j) : RT M2 b2 s := by
  refine ⟨fun k c j hk => ?_, ?_, ?_⟩
  · rw [e c j (zmap_zcell hk)]
    exact h.1 k c j hk
  · have hx := h.2.1
    unfold RX at hx ⊢
    rw [e (21 + 4 * 0) 0 (by unfold zcell; omega), e (21 + 4 * 0) 1 (by unfold zcell; omega)]
    rcases hx with hx | ⟨h4, n, h5, h6, h7, h8⟩
    · exact Or.inl hx
    · refine Or.inr ⟨h4, n, h5, h6, h7, ?_, h8.2⟩
      intro k hk
      rw [e (22 + 4 * 0) k (by unfold zcell; have := h8.2.1; omega)]
      exact h8.1 k hk
  · have hx := h.2.2
    unfold RX at hx ⊢
    rw [e (21 + 4 * 1) 0 (by unfold zcell; omega), e (21 + 4 * 1) 1 (by unfold zcell; omega)]
    rcases hx with hx | ⟨h4, n, h5, h6, h7, h8⟩
    · exact Or.inl hx
    · refine Or.inr ⟨h4, n, h5, h6, h7, ?_, h8.2⟩
      intro k hk
      rw [e (22 + 4 * 1) k (by unfold zcell; have := h8.2.1; omega)]
      exact h8.1 k hk
theorem RT.sc {M : zm_M} {b : Nat} {s s2 : Nat → Int32} (h : RT M b s) (e : ∀ j, j < 480 → s2 j = s j) : RT M b s2 := by
  refine ⟨fun k c j hk => ?_, h.2.1.offr rfl rfl (fun k h1 h2 => e k (by omega)), h.2.2.offr rfl rfl (fun k h1 h2 => e k (by omega))⟩
  rw [e k (zmap_lt hk)]
  exact h.1 k c j hk
theorem WF.sc {s s2 : Nat → Int32} (h : WF s) (e : ∀ j, j < 480 → s2 j = s j) : WF s2 := by
  unfold WF PW DW at h ⊢
  simp only [e 0 (by decide), e 1 (by decide), e 2 (by decide), e 3 (by decide), e 4 (by decide), e 5 (by decide), e 7 (by decide), e 8 (by decide), e 9 (by decide)]
  obtain ⟨g1, g2, g3, g4, g5, g6, g7, g8, g9, g10⟩ := h
  have a1 := le_i g1.2 rfl rfl
  have a2 := le_i g2.2 rfl rfl
  have a5 := le_i g5.2 rfl rfl
  rw [show (12 : Int32).toInt = 12 from rfl] at a1
  rw [show (10 : Int32).toInt = 10 from rfl] at a2
  rw [show (60 : Int32).toInt = 60 from rfl] at a5
  refine ⟨g1, g2, g3, g4, g5, g6, g7, fun p hp => ?_, fun q hq => ?_, fun j hj => ?_⟩
  · rw [e _ (by omega), e _ (by omega), e _ (by omega), e _ (by omega), e _ (by omega), e _ (by omega), e _ (by omega), e _ (by omega)]
    exact g8 p hp
  · rw [e _ (by omega), e _ (by omega), e _ (by omega), e _ (by omega)]
    exact g9 q hq
  · rw [e _ (by omega)]
    exact g10 j hj
theorem RX.st {M : zm_M} {b u : Nat} {s : Nat → Int32} (h : RX M b u s) : M.1 (21 + 4 * u + b) 0 = 0 ∨ M.1 (21 + 4 * u + b) 0 = 1 := by
  rcases h with ⟨z, -⟩ | ⟨z, -⟩
  · exact Or.inl z
  · exact Or.inr z
theorem vcp {f g : Nat → Int32} {n p : Nat} (hp : p < n) : va_cpy f g 0 0 n p = f p := by
  unfold va_cpy
  rw [if_pos (by omega)]
  congr 1
  omega
theorem zu_cr_i8 {d k : Nat} {M : zm_M} {Q : zm_M → Prop} {v2 : Int32} (hk : k < 8) (h : (v2 < (8 : Int32) → (v2 < (8 : Int32) → zm_inb v2 8 = true ∧ zm_rf 3 v2.toNatClampNeg = some (4 + k) ∧ (zm_inb v2 8 = true ∧ zm_rf 32 v2.toNatClampNeg = some (33 + k) ∧ (zm_inb v2 8 = true ∧ zm_rf 3 v2.toNatClampNeg = some (4 + k) ∧ (zm_inb v2 8 = true ∧ zm_rf 32 v2.toNatClampNeg = some (33 + k) ∧ ((¬ (0 : Int32) < 0 ∧ ¬ (0 : Int32) < 0 ∧ ¬ (if (12 : Int32) < (12 : Int32) then (12 : Int32) else (12 : Int32)) < 0 ∧ 0 + (if (12 : Int32) < (12 : Int32) then (12 : Int32) else (12 : Int32)).toNatClampNeg ≤ 12 ∧ 0 + (if (12 : Int32) < (12 : Int32) then (12 : Int32) else (12 : Int32)).toNatClampNeg ≤ 12) ∧ (zt (d + 1) 111 2 [some (.ref 3), some (.ref 32), some (.int (v2 + 1))] [] (zm_sr M (33 + k) (va_cpy (M.1 (4 + k)) (M.1 (33 + k)) 0 0 ((if (12 : Int32) < (12 : Int32) then (12 : Int32) else (12 : Int32)).toNatClampNeg))) (zPv Q))))))) ∧ (¬ v2 < (8 : Int32) → Q M)) ∧ (¬ v2 < (8 : Int32) → Q M)) : zt (d + 1) 111 2 [some (.ref 3), some (.ref 32), some (.int v2)] [] M (zPv Q) := by
  rcases (show k = 0 ∨ k = 1 ∨ k = 2 ∨ k = 3 ∨ k = 4 ∨ k = 5 ∨ k = 6 ∨ k = 7 by omega) with rfl | rfl | rfl | rfl | rfl | rfl | rfl | rfl
  · exact zg_X10_copyRows_r3_32_p2_q0 h
  · exact zg_X10_copyRows_r3_32_p2_q1 h
  · exact zg_X10_copyRows_r3_32_p2_q2 h
  · exact zg_X10_copyRows_r3_32_p2_q3 h
  · exact zg_X10_copyRows_r3_32_p2_q4 h
  · exact zg_X10_copyRows_r3_32_p2_q5 h
  · exact zg_X10_copyRows_r3_32_p2_q6 h
  · exact zg_X10_copyRows_r3_32_p2_q7 h
theorem zrfs_i8 {k : Nat} (hk : k < 8) : zm_rf 3 k = some (4 + k) ∧ zm_rf 32 k = some (33 + k) := by
  rcases (show k = 0 ∨ k = 1 ∨ k = 2 ∨ k = 3 ∨ k = 4 ∨ k = 5 ∨ k = 6 ∨ k = 7 by omega) with rfl | rfl | rfl | rfl | rfl | rfl | rfl | rfl <;> exact ⟨rfl, rfl⟩
theorem X_crL_i8 {d : Nat} {Q : zm_M → Prop} : ∀ (n w : Nat) (M : zm_M), w + n = 8 → (∀ M1, (∀ v, w ≤ v → v < 8 → ∀ p, p < 12 → M1.1 (33 + v) p = M.1 (4 + v) p) → (∀ c, c < 33 + w ∨ 33 + 8 ≤ c → M1.1 c = M.1 c) → M1.2 = M.2 → Q M1) → zt (d + 1) 111 2 [some (.ref 3), some (.ref 32), some (.int (zon w))] [] M (zPv Q)
  | 0, w, M, hw, hQ => by
    have e : w = 8 := by omega
    subst e
    apply zu_cr_i8 (k := 0) (by decide)
    have n8 : ¬ zon 8 < 8 := by decide
    exact ⟨fun z => absurd z n8, fun _ => hQ M (fun v h1 h2 => by omega) (fun _ _ => rfl) rfl⟩
  | n + 1, w, M, hw, hQ => by
    have hwc : w < 8 := by omega
    have iw : zm_inb (zon w) 8 = true := by rw [zon_inb (by omega)]; exact hwc
    apply zu_cr_i8 hwc
    rw [zon_ltl (b := 8) (by omega) rfl, zon_n (by omega), zon_s]
    obtain ⟨r1, r2⟩ := zrfs_i8 hwc
    refine ⟨fun _ => ⟨fun _ => ⟨iw, r1, iw, r2, iw, r1, iw, r2, by decide, ?_⟩, fun z => absurd hwc z⟩, fun z => absurd hwc z⟩
    refine X_crL_i8 n (w + 1) _ (by omega) (fun M1 g1 g2 g3 => hQ M1 (fun v h1 h2 p hp => ?_) (fun c hc => ?_) g3)
    · by_cases hv : v = w
      · subst hv
        rw [g2 (33 + v) (by omega), zI_sr_row]
        exact vcp hp
      · rw [g1 v (by omega) h2 p hp, zI_sr_rne (by omega)]
    · rw [g2 c (by omega), zI_sr_rne (by omega)]
theorem zu_cr_i4 {d k : Nat} {M : zm_M} {Q : zm_M → Prop} {v2 : Int32} (hk : k < 4) (h : (v2 < (4 : Int32) → (v2 < (4 : Int32) → zm_inb v2 4 = true ∧ zm_rf 13 v2.toNatClampNeg = some (14 + k) ∧ (zm_inb v2 4 = true ∧ zm_rf 42 v2.toNatClampNeg = some (43 + k) ∧ (zm_inb v2 4 = true ∧ zm_rf 13 v2.toNatClampNeg = some (14 + k) ∧ (zm_inb v2 4 = true ∧ zm_rf 42 v2.toNatClampNeg = some (43 + k) ∧ ((¬ (0 : Int32) < 0 ∧ ¬ (0 : Int32) < 0 ∧ ¬ (if (10 : Int32) < (10 : Int32) then (10 : Int32) else (10 : Int32)) < 0 ∧ 0 + (if (10 : Int32) < (10 : Int32) then (10 : Int32) else (10 : Int32)).toNatClampNeg ≤ 10 ∧ 0 + (if (10 : Int32) < (10 : Int32) then (10 : Int32) else (10 : Int32)).toNatClampNeg ≤ 10) ∧ (zt (d + 1) 111 2 [some (.ref 13), some (.ref 42), some (.int (v2 + 1))] [] (zm_sr M (43 + k) (va_cpy (M.1 (14 + k)) (M.1 (43 + k)) 0 0 ((if (10 : Int32) < (10 : Int32) then (10 : Int32) else (10 : Int32)).toNatClampNeg))) (zPv Q))))))) ∧ (¬ v2 < (4 : Int32) → Q M)) ∧ (¬ v2 < (4 : Int32) → Q M)) : zt (d + 1) 111 2 [some (.ref 13), some (.ref 42), some (.int v2)] [] M (zPv Q) := by
  rcases (show k = 0 ∨ k = 1 ∨ k = 2 ∨ k = 3 by omega) with rfl | rfl | rfl | rfl
  · exact zg_X10_copyRows_r13_42_p2_q0 h
  · exact zg_X10_copyRows_r13_42_p2_q1 h
  · exact zg_X10_copyRows_r13_42_p2_q2 h
  · exact zg_X10_copyRows_r13_42_p2_q3 h
theorem zrfs_i4 {k : Nat} (hk : k < 4) : zm_rf 13 k = some (14 + k) ∧ zm_rf 42 k = some (43 + k) := by
  rcases (show k = 0 ∨ k = 1 ∨ k = 2 ∨ k = 3 by omega) with rfl | rfl | rfl | rfl <;> exact ⟨rfl, rfl⟩
theorem X_crL_i4 {d : Nat} {Q : zm_M → Prop} : ∀ (n w : Nat) (M : zm_M), w + n = 4 → (∀ M1, (∀ v, w ≤ v → v < 4 → ∀ p, p < 10 → M1.1 (43 + v) p = M.1 (14 + v) p) → (∀ c, c < 43 + w ∨ 43 + 4 ≤ c → M1.1 c = M.1 c) → M1.2 = M.2 → Q M1) → zt (d + 1) 111 2 [some (.ref 13), some (.ref 42), some (.int (zon w))] [] M (zPv Q)
  | 0, w, M, hw, hQ => by
    have e : w = 4 := by omega
    subst e
    apply zu_cr_i4 (k := 0) (by decide)
    have n8 : ¬ zon 4 < 4 := by decide
    exact ⟨fun z => absurd z n8, fun _ => hQ M (fun v h1 h2 => by omega) (fun _ _ => rfl) rfl⟩
  | n + 1, w, M, hw, hQ => by
    have hwc : w < 4 := by omega
    have iw : zm_inb (zon w) 4 = true := by rw [zon_inb (by omega)]; exact hwc
    apply zu_cr_i4 hwc
    rw [zon_ltl (b := 4) (by omega) rfl, zon_n (by omega), zon_s]
    obtain ⟨r1, r2⟩ := zrfs_i4 hwc
    refine ⟨fun _ => ⟨fun _ => ⟨iw, r1, iw, r2, iw, r1, iw, r2, by decide, ?_⟩, fun z => absurd hwc z⟩, fun z => absurd hwc z⟩
    refine X_crL_i4 n (w + 1) _ (by omega) (fun M1 g1 g2 g3 => hQ M1 (fun v h1 h2 p hp => ?_) (fun c hc => ?_) g3)
    · by_cases hv : v = w
      · subst hv
        rw [g2 (43 + v) (by omega), zI_sr_row]
        exact vcp hp
      · rw [g1 v (by omega) h2 p hp, zI_sr_rne (by omega)]
    · rw [g2 c (by omega), zI_sr_rne (by omega)]
theorem zu_cr_r8 {d k : Nat} {M : zm_M} {Q : zm_M → Prop} {v2 : Int32} (hk : k < 8) (h : (v2 < (8 : Int32) → (v2 < (8 : Int32) → zm_inb v2 8 = true ∧ zm_rf 32 v2.toNatClampNeg = some (33 + k) ∧ (zm_inb v2 8 = true ∧ zm_rf 3 v2.toNatClampNeg = some (4 + k) ∧ (zm_inb v2 8 = true ∧ zm_rf 32 v2.toNatClampNeg = some (33 + k) ∧ (zm_inb v2 8 = true ∧ zm_rf 3 v2.toNatClampNeg = some (4 + k) ∧ ((¬ (0 : Int32) < 0 ∧ ¬ (0 : Int32) < 0 ∧ ¬ (if (12 : Int32) < (12 : Int32) then (12 : Int32) else (12 : Int32)) < 0 ∧ 0 + (if (12 : Int32) < (12 : Int32) then (12 : Int32) else (12 : Int32)).toNatClampNeg ≤ 12 ∧ 0 + (if (12 : Int32) < (12 : Int32) then (12 : Int32) else (12 : Int32)).toNatClampNeg ≤ 12) ∧ (zt (d + 1) 111 2 [some (.ref 32), some (.ref 3), some (.int (v2 + 1))] [] (zm_sr M (4 + k) (va_cpy (M.1 (33 + k)) (M.1 (4 + k)) 0 0 ((if (12 : Int32) < (12 : Int32) then (12 : Int32) else (12 : Int32)).toNatClampNeg))) (zPv Q))))))) ∧ (¬ v2 < (8 : Int32) → Q M)) ∧ (¬ v2 < (8 : Int32) → Q M)) : zt (d + 1) 111 2 [some (.ref 32), some (.ref 3), some (.int v2)] [] M (zPv Q) := by
  rcases (show k = 0 ∨ k = 1 ∨ k = 2 ∨ k = 3 ∨ k = 4 ∨ k = 5 ∨ k = 6 ∨ k = 7 by omega) with rfl | rfl | rfl | rfl | rfl | rfl | rfl | rfl
  · exact zg_X10_copyRows_r32_3_p2_q0 h
  · exact zg_X10_copyRows_r32_3_p2_q1 h
  · exact zg_X10_copyRows_r32_3_p2_q2 h
  · exact zg_X10_copyRows_r32_3_p2_q3 h
  · exact zg_X10_copyRows_r32_3_p2_q4 h
  · exact zg_X10_copyRows_r32_3_p2_q5 h
  · exact zg_X10_copyRows_r32_3_p2_q6 h
  · exact zg_X10_copyRows_r32_3_p2_q7 h
theorem zrfs_r8 {k : Nat} (hk : k < 8) : zm_rf 32 k = some (33 + k) ∧ zm_rf 3 k = some (4 + k) := by
  rcases (show k = 0 ∨ k = 1 ∨ k = 2 ∨ k = 3 ∨ k = 4 ∨ k = 5 ∨ k = 6 ∨ k = 7 by omega) with rfl | rfl | rfl | rfl | rfl | rfl | rfl | rfl <;> exact ⟨rfl, rfl⟩
theorem X_crL_r8 {d : Nat} {Q : zm_M → Prop} : ∀ (n w : Nat) (M : zm_M), w + n = 8 → (∀ M1, (∀ v, w ≤ v → v < 8 → ∀ p, p < 12 → M1.1 (4 + v) p = M.1 (33 + v) p) → (∀ c, c < 4 + w ∨ 4 + 8 ≤ c → M1.1 c = M.1 c) → M1.2 = M.2 → Q M1) → zt (d + 1) 111 2 [some (.ref 32), some (.ref 3), some (.int (zon w))] [] M (zPv Q)
  | 0, w, M, hw, hQ => by
    have e : w = 8 := by omega
    subst e
    apply zu_cr_r8 (k := 0) (by decide)
    have n8 : ¬ zon 8 < 8 := by decide
    exact ⟨fun z => absurd z n8, fun _ => hQ M (fun v h1 h2 => by omega) (fun _ _ => rfl) rfl⟩
  | n + 1, w, M, hw, hQ => by
    have hwc : w < 8 := by omega
    have iw : zm_inb (zon w) 8 = true := by rw [zon_inb (by omega)]; exact hwc
    apply zu_cr_r8 hwc
    rw [zon_ltl (b := 8) (by omega) rfl, zon_n (by omega), zon_s]
    obtain ⟨r1, r2⟩ := zrfs_r8 hwc
    refine ⟨fun _ => ⟨fun _ => ⟨iw, r1, iw, r2, iw, r1, iw, r2, by decide, ?_⟩, fun z => absurd hwc z⟩, fun z => absurd hwc z⟩
    refine X_crL_r8 n (w + 1) _ (by omega) (fun M1 g1 g2 g3 => hQ M1 (fun v h1 h2 p hp => ?_) (fun c hc => ?_) g3)
    · by_cases hv : v = w
      · subst hv
        rw [g2 (4 + v) (by omega), zI_sr_row]
        exact vcp hp
      · rw [g1 v (by omega) h2 p hp, zI_sr_rne (by omega)]
    · rw [g2 c (by omega), zI_sr_rne (by omega)]
theorem zu_cr_r4 {d k : Nat} {M : zm_M} {Q : zm_M → Prop} {v2 : Int32} (hk : k < 4) (h : (v2 < (4 : Int32) → (v2 < (4 : Int32) → zm_inb v2 4 = true ∧ zm_rf 42 v2.toNatClampNeg = some (43 + k) ∧ (zm_inb v2 4 = true ∧ zm_rf 13 v2.toNatClampNeg = some (14 + k) ∧ (zm_inb v2 4 = true ∧ zm_rf 42 v2.toNatClampNeg = some (43 + k) ∧ (zm_inb v2 4 = true ∧ zm_rf 13 v2.toNatClampNeg = some (14 + k) ∧ ((¬ (0 : Int32) < 0 ∧ ¬ (0 : Int32) < 0 ∧ ¬ (if (10 : Int32) < (10 : Int32) then (10 : Int32) else (10 : Int32)) < 0 ∧ 0 + (if (10 : Int32) < (10 : Int32) then (10 : Int32) else (10 : Int32)).toNatClampNeg ≤ 10 ∧ 0 + (if (10 : Int32) < (10 : Int32) then (10 : Int32) else (10 : Int32)).toNatClampNeg ≤ 10) ∧ (zt (d + 1) 111 2 [some (.ref 42), some (.ref 13), some (.int (v2 + 1))] [] (zm_sr M (14 + k) (va_cpy (M.1 (43 + k)) (M.1 (14 + k)) 0 0 ((if (10 : Int32) < (10 : Int32) then (10 : Int32) else (10 : Int32)).toNatClampNeg))) (zPv Q))))))) ∧ (¬ v2 < (4 : Int32) → Q M)) ∧ (¬ v2 < (4 : Int32) → Q M)) : zt (d + 1) 111 2 [some (.ref 42), some (.ref 13), some (.int v2)] [] M (zPv Q) := by
  rcases (show k = 0 ∨ k = 1 ∨ k = 2 ∨ k = 3 by omega) with rfl | rfl | rfl | rfl
  · exact zg_X10_copyRows_r42_13_p2_q0 h
  · exact zg_X10_copyRows_r42_13_p2_q1 h
  · exact zg_X10_copyRows_r42_13_p2_q2 h
  · exact zg_X10_copyRows_r42_13_p2_q3 h
theorem zrfs_r4 {k : Nat} (hk : k < 4) : zm_rf 42 k = some (43 + k) ∧ zm_rf 13 k = some (14 + k) := by
  rcases (show k = 0 ∨ k = 1 ∨ k = 2 ∨ k = 3 by omega) with rfl | rfl | rfl | rfl <;> exact ⟨rfl, rfl⟩
theorem X_crL_r4 {d : Nat} {Q : zm_M → Prop} : ∀ (n w : Nat) (M : zm_M), w + n = 4 → (∀ M1, (∀ v, w ≤ v → v < 4 → ∀ p, p < 10 → M1.1 (14 + v) p = M.1 (43 + v) p) → (∀ c, c < 14 + w ∨ 14 + 4 ≤ c → M1.1 c = M.1 c) → M1.2 = M.2 → Q M1) → zt (d + 1) 111 2 [some (.ref 42), some (.ref 13), some (.int (zon w))] [] M (zPv Q)
  | 0, w, M, hw, hQ => by
    have e : w = 4 := by omega
    subst e
    apply zu_cr_r4 (k := 0) (by decide)
    have n8 : ¬ zon 4 < 4 := by decide
    exact ⟨fun z => absurd z n8, fun _ => hQ M (fun v h1 h2 => by omega) (fun _ _ => rfl) rfl⟩
  | n + 1, w, M, hw, hQ => by
    have hwc : w < 4 := by omega
    have iw : zm_inb (zon w) 4 = true := by rw [zon_inb (by omega)]; exact hwc
    apply zu_cr_r4 hwc
    rw [zon_ltl (b := 4) (by omega) rfl, zon_n (by omega), zon_s]
    obtain ⟨r1, r2⟩ := zrfs_r4 hwc
    refine ⟨fun _ => ⟨fun _ => ⟨iw, r1, iw, r2, iw, r1, iw, r2, by decide, ?_⟩, fun z => absurd hwc z⟩, fun z => absurd hwc z⟩
    refine X_crL_r4 n (w + 1) _ (by omega) (fun M1 g1 g2 g3 => hQ M1 (fun v h1 h2 p hp => ?_) (fun c hc => ?_) g3)
    · by_cases hv : v = w
      · subst hv
        rw [g2 (14 + v) (by omega), zI_sr_row]
        exact vcp hp
      · rw [g1 v (by omega) h2 p hp, zI_sr_rne (by omega)]
    · rw [g2 c (by omega), zI_sr_rne (by omega)]
theorem X_folk_im {d : Nat} {M : zm_M} {Q : zm_M → Prop} (hQ : ∀ M1, (∀ w, w < 8 → ∀ p, p < 12 → M1.1 (33 + w) p = M.1 (4 + w) p) → M1.1 31 0 = M.1 2 0 → (∀ c, c ≠ 31 → c < 33 ∨ 33 + 8 ≤ c → M1.1 c = M.1 c) → M1.2 = M.2 → Q M1) : zv (d + 2) 16 [.ref 31, .ref 2] M Q := by
  apply zg_X3_become_r31_2
  apply zg_X10_copyRows_r3_32
  refine X_crL_i8 8 0 _ rfl (fun M1 g1 g2 g3 => hQ M1 (fun w hw p hp => ?_) ?_ (fun c h1 h2 => ?_) g3)
  · rw [g1 w (by omega) hw p hp, zI_si_ne (by omega)]
  · rw [g2 31 (by decide), zI_si_eq]
  · rw [g2 c (by omega), zI_si_rne h1]
theorem X_bonds_im {d : Nat} {M : zm_M} {Q : zm_M → Prop} (hQ : ∀ M1, (∀ w, w < 4 → ∀ p, p < 10 → M1.1 (43 + w) p = M.1 (14 + w) p) → M1.1 41 0 = M.1 12 0 → (∀ c, c ≠ 41 → c < 43 ∨ 43 + 4 ≤ c → M1.1 c = M.1 c) → M1.2 = M.2 → Q M1) : zv (d + 2) 5 [.ref 41, .ref 12] M Q := by
  apply zg_X0_become_r41_12
  apply zg_X10_copyRows_r13_42
  refine X_crL_i4 4 0 _ rfl (fun M1 g1 g2 g3 => hQ M1 (fun w hw p hp => ?_) ?_ (fun c h1 h2 => ?_) g3)
  · rw [g1 w (by omega) hw p hp, zI_si_ne (by omega)]
  · rw [g2 41 (by decide), zI_si_eq]
  · rw [g2 c (by omega), zI_si_rne h1]
theorem X_desk_im {d : Nat} {M : zm_M} {Q : zm_M → Prop} (hQ : ∀ M1, (∀ j, j < 60 → M1.1 48 j = M.1 19 j) → (∀ j, j < 24 → M1.1 49 j = M.1 20 j) → M1.1 47 2 = M.1 18 2 → M1.1 47 3 = M.1 18 3 → (∀ c, c ≠ 47 → c ≠ 48 → c ≠ 49 → M1.1 c = M.1 c) → M1.2 = M.2 → Q M1) : zv (d + 1) 13 [.ref 47, .ref 18] M Q := by
  apply zg_X2_become_r47_18
  refine hQ _ (fun j hj => ?_) (fun j hj => ?_) ?_ ?_ (fun c h1 h2 h3 => ?_) rfl
  · rw [zI_si_ne (by decide), zI_si_ne (by decide), zI_sr_rne (by decide), zI_sr_row]
    exact vcp hj
  · rw [zI_si_ne (by decide), zI_si_ne (by decide), zI_sr_row]
    exact vcp hj
  · rw [zI_si, if_pos rfl, if_neg (by decide), zI_si_eq]
  · rw [zI_si_eq]
  · rw [zI_si_rne h1, zI_si_rne h1, zI_sr_rne h3, zI_sr_rne h2]
theorem X_texta_im {d : Nat} {M : zm_M} {Q : zm_M → Prop} (h01 : M.1 21 0 = 0 ∨ M.1 21 0 = 1) (hQ : ∀ M1, (∀ j, j < 60 → M1.1 51 j = M.1 22 j) → M1.1 50 0 = M.1 21 0 → M1.1 50 1 = M.1 21 1 → (∀ c, c ≠ 50 → c ≠ 51 → M1.1 c = M.1 c) → M1.2 = M.2 → Q M1) : zv (d + 2) 37 [.ref 50, .ref 21] M Q := by
  apply zg_X6_becomeText_r50_21
  apply zg_X6_become_r50_22
  have e0 : (zm_si (zm_si (zm_sr M 51 (va_cpy (M.1 22) (M.1 51) 0 0 60)) 50 1 (M.1 21 1)) 50 0 1).1 21 0 = M.1 21 0 := by
    rw [zI_si_ne (by decide), zI_si_ne (by decide), zI_sr_rne (by decide)]
  rw [e0]
  refine ⟨h01, hQ _ (fun j hj => ?_) ?_ ?_ (fun c h1 h2 => ?_) rfl⟩
  · rw [zI_si_ne (by decide), zI_si_ne (by decide), zI_si_ne (by decide), zI_sr_row]
    exact vcp hj
  · rw [zI_si_eq]
  · rw [zI_si, if_pos rfl, if_neg (by decide), zI_si, if_pos rfl, if_neg (by decide), zI_si_eq]
  · rw [zI_si_rne h1, zI_si_rne h1, zI_si_rne h1, zI_sr_rne h2]
theorem X_textf_im {d : Nat} {M : zm_M} {Q : zm_M → Prop} (h01 : M.1 25 0 = 0 ∨ M.1 25 0 = 1) (hQ : ∀ M1, (∀ j, j < 60 → M1.1 55 j = M.1 26 j) → M1.1 54 0 = M.1 25 0 → M1.1 54 1 = M.1 25 1 → (∀ c, c ≠ 54 → c ≠ 55 → M1.1 c = M.1 c) → M1.2 = M.2 → Q M1) : zv (d + 2) 37 [.ref 54, .ref 25] M Q := by
  apply zg_X6_becomeText_r54_25
  apply zg_X6_become_r54_26
  have e0 : (zm_si (zm_si (zm_sr M 55 (va_cpy (M.1 26) (M.1 55) 0 0 60)) 54 1 (M.1 25 1)) 54 0 1).1 25 0 = M.1 25 0 := by
    rw [zI_si_ne (by decide), zI_si_ne (by decide), zI_sr_rne (by decide)]
  rw [e0]
  refine ⟨h01, hQ _ (fun j hj => ?_) ?_ ?_ (fun c h1 h2 => ?_) rfl⟩
  · rw [zI_si_ne (by decide), zI_si_ne (by decide), zI_si_ne (by decide), zI_sr_row]
    exact vcp hj
  · rw [zI_si_eq]
  · rw [zI_si, if_pos rfl, if_neg (by decide), zI_si, if_pos rfl, if_neg (by decide), zI_si_eq]
  · rw [zI_si_rne h1, zI_si_rne h1, zI_si_rne h1, zI_sr_rne h2]
theorem X_town_im {d : Nat} {M : zm_M} {Q : zm_M → Prop} (h21 : M.1 21 0 = 0 ∨ M.1 21 0 = 1) (h25 : M.1 25 0 = 0 ∨ M.1 25 0 = 1) (hQ : ∀ M1, (∀ c j, zcell c j → M1.1 (c + 29) j = M.1 (c + 0) j) → (∀ c, c < 30 ∨ 58 < c → M1.1 c = M.1 c) → Q M1) : zv (d + 3) 41 [.ref 30, .ref 1] M Q := by
  apply zg_X7_become_r30_1 (d := d + 2)
  refine X_folk_im (fun M1 a1 a2 a3 _ => X_bonds_im (fun M4 b1 b2 b3 _ => X_desk_im (d := d + 1) (fun M7 c1 c2 c3 c4 c5 _ => X_texta_im ?_ (fun M10 d1 d2 d3 d4 _ => X_textf_im ?_ (fun M13 e1 e2 e3 e4 _ => hQ _ (fun c j hc => ?_) (fun c hc => ?_)))))) 
  · rw [c5 21 (by decide) (by decide) (by decide), b3 21 (by decide) (by decide), a3 21 (by decide) (by decide)]
    exact h21
  · rw [d4 25 (by decide) (by decide), c5 25 (by decide) (by decide) (by decide), b3 25 (by decide) (by decide), a3 25 (by decide) (by decide)]
    exact h25
  · have S : ∀ q, q < 30 ∨ 58 < q → M13.1 q = M.1 q := fun q hq => by
      rw [e4 q (by omega) (by omega), d4 q (by omega) (by omega), c5 q (by omega) (by omega) (by omega), b3 q (by omega) (by omega), a3 q (by omega) (by omega)]
    have S7 : ∀ q, q < 30 ∨ 58 < q → M7.1 q = M.1 q := fun q hq => by
      rw [c5 q (by omega) (by omega) (by omega), b3 q (by omega) (by omega), a3 q (by omega) (by omega)]
    have S10 : ∀ q, q < 30 ∨ 58 < q → M10.1 q = M.1 q := fun q hq => by
      rw [d4 q (by omega) (by omega), S7 q hq]
    have S4 : ∀ q, q < 30 ∨ 58 < q → M4.1 q = M.1 q := fun q hq => by
      rw [b3 q (by omega) (by omega), a3 q (by omega) (by omega)]
    have S1 : ∀ q, q < 30 ∨ 58 < q → M1.1 q = M.1 q := fun q hq => a3 q (by omega) (by omega)
    unfold zcell at hc
    rcases hc with ⟨rfl, rfl⟩ | ⟨rfl, rfl⟩ | ⟨rfl, hj⟩ | ⟨rfl, hj⟩ | ⟨rfl, hj⟩ | ⟨hc, hj⟩ | ⟨hc, hj⟩ | ⟨rfl, hj⟩ | ⟨rfl, hj⟩ | ⟨hc, hj⟩ | ⟨hc, hj⟩
    · rw [zI_si_ne (by decide), zI_si_ne (by decide), zI_si_ne (by decide), zI_sr_rne (by decide), e4 _ (by decide) (by decide), d4 _ (by decide) (by decide), c5 _ (by decide) (by decide) (by decide), b3 _ (by decide) (by decide)]
      exact a2
    · rw [zI_si_ne (by decide), zI_si_ne (by decide), zI_si_ne (by decide), zI_sr_rne (by decide), e4 _ (by decide) (by decide), d4 _ (by decide) (by decide), c5 _ (by decide) (by decide) (by decide)]
      exact b2.trans (by rw [S1 _ (by decide)])
    · rcases hj with rfl | rfl | rfl
      · rw [zI_si, if_pos rfl, if_neg (by decide), zI_si, if_pos rfl, if_neg (by decide), zI_si_eq, S _ (by decide)]
      · rw [zI_si, if_pos rfl, if_neg (by decide), zI_si_eq, S _ (by decide)]
      · rw [zI_si_eq, S _ (by decide)]
    · rw [zI_si_ne (by decide), zI_si_ne (by decide), zI_si_ne (by decide), zI_sr_rne (by decide), e4 _ (by decide) (by decide), d4 _ (by decide) (by decide)]
      rcases hj with rfl | rfl
      · exact c3.trans (by rw [S4 _ (by decide)])
      · exact c4.trans (by rw [S4 _ (by decide)])
    · rw [zI_si_ne (by decide), zI_si_ne (by decide), zI_si_ne (by decide), zI_sr_row, vcp hj, S _ (by decide)]
    · rw [zI_si_ne (by omega), zI_si_ne (by omega), zI_si_ne (by omega), zI_sr_rne (by omega), e4 _ (by omega) (by omega), d4 _ (by omega) (by omega), c5 _ (by omega) (by omega) (by omega), b3 _ (by omega) (by omega)]
      have := a1 (c - 4) (by omega) j hj
      rw [show 33 + (c - 4) = c + 29 by omega, show 4 + (c - 4) = c + 0 by omega] at this
      exact this
    · rw [zI_si_ne (by omega), zI_si_ne (by omega), zI_si_ne (by omega), zI_sr_rne (by omega), e4 _ (by omega) (by omega), d4 _ (by omega) (by omega), c5 _ (by omega) (by omega) (by omega)]
      have := b1 (c - 14) (by omega) j hj
      rw [show 43 + (c - 14) = c + 29 by omega, show 14 + (c - 14) = c + 0 by omega, S1 _ (by omega)] at this
      exact this
    · rw [zI_si_ne (by decide), zI_si_ne (by decide), zI_si_ne (by decide), zI_sr_rne (by decide), e4 _ (by decide) (by decide), d4 _ (by decide) (by decide)]
      exact (c1 j hj).trans (by rw [S4 _ (by decide)])
    · rw [zI_si_ne (by decide), zI_si_ne (by decide), zI_si_ne (by decide), zI_sr_rne (by decide), e4 _ (by decide) (by decide), d4 _ (by decide) (by decide)]
      exact (c2 j hj).trans (by rw [S4 _ (by decide)])
    · rcases hc with rfl | rfl
      · rw [zI_si_ne (by decide), zI_si_ne (by decide), zI_si_ne (by decide), zI_sr_rne (by decide), e4 _ (by decide) (by decide)]
        rcases (show j = 0 ∨ j = 1 by omega) with rfl | rfl
        · exact d2.trans (by rw [S7 _ (by decide)])
        · exact d3.trans (by rw [S7 _ (by decide)])
      · rw [zI_si_ne (by decide), zI_si_ne (by decide), zI_si_ne (by decide), zI_sr_rne (by decide)]
        rcases (show j = 0 ∨ j = 1 by omega) with rfl | rfl
        · exact e2.trans (by rw [S10 _ (by decide)])
        · exact e3.trans (by rw [S10 _ (by decide)])
    · rcases hc with rfl | rfl
      · rw [zI_si_ne (by decide), zI_si_ne (by decide), zI_si_ne (by decide), zI_sr_rne (by decide), e4 _ (by decide) (by decide)]
        exact (d1 j hj).trans (by rw [S7 _ (by decide)])
      · rw [zI_si_ne (by decide), zI_si_ne (by decide), zI_si_ne (by decide), zI_sr_rne (by decide)]
        exact (e1 j hj).trans (by rw [S10 _ (by decide)])
  · rw [zI_si_rne (by omega), zI_si_rne (by omega), zI_si_rne (by omega), zI_sr_rne (by omega), e4 c (by omega) (by omega), d4 c (by omega) (by omega), c5 c (by omega) (by omega) (by omega), b3 c (by omega) (by omega), a3 c (by omega) (by omega)]
theorem X_folk_re {d : Nat} {M : zm_M} {Q : zm_M → Prop} (hQ : ∀ M1, (∀ w, w < 8 → ∀ p, p < 12 → M1.1 (4 + w) p = M.1 (33 + w) p) → M1.1 2 0 = M.1 31 0 → (∀ c, c ≠ 2 → c < 4 ∨ 4 + 8 ≤ c → M1.1 c = M.1 c) → M1.2 = M.2 → Q M1) : zv (d + 2) 16 [.ref 2, .ref 31] M Q := by
  apply zg_X3_become_r2_31
  apply zg_X10_copyRows_r32_3
  refine X_crL_r8 8 0 _ rfl (fun M1 g1 g2 g3 => hQ M1 (fun w hw p hp => ?_) ?_ (fun c h1 h2 => ?_) g3)
  · rw [g1 w (by omega) hw p hp, zI_si_ne (by omega)]
  · rw [g2 2 (by decide), zI_si_eq]
  · rw [g2 c (by omega), zI_si_rne h1]
theorem X_bonds_re {d : Nat} {M : zm_M} {Q : zm_M → Prop} (hQ : ∀ M1, (∀ w, w < 4 → ∀ p, p < 10 → M1.1 (14 + w) p = M.1 (43 + w) p) → M1.1 12 0 = M.1 41 0 → (∀ c, c ≠ 12 → c < 14 ∨ 14 + 4 ≤ c → M1.1 c = M.1 c) → M1.2 = M.2 → Q M1) : zv (d + 2) 5 [.ref 12, .ref 41] M Q := by
  apply zg_X0_become_r12_41
  apply zg_X10_copyRows_r42_13
  refine X_crL_r4 4 0 _ rfl (fun M1 g1 g2 g3 => hQ M1 (fun w hw p hp => ?_) ?_ (fun c h1 h2 => ?_) g3)
  · rw [g1 w (by omega) hw p hp, zI_si_ne (by omega)]
  · rw [g2 12 (by decide), zI_si_eq]
  · rw [g2 c (by omega), zI_si_rne h1]
theorem X_desk_re {d : Nat} {M : zm_M} {Q : zm_M → Prop} (hQ : ∀ M1, (∀ j, j < 60 → M1.1 19 j = M.1 48 j) → (∀ j, j < 24 → M1.1 20 j = M.1 49 j) → M1.1 18 2 = M.1 47 2 → M1.1 18 3 = M.1 47 3 → (∀ c, c ≠ 18 → c ≠ 19 → c ≠ 20 → M1.1 c = M.1 c) → M1.2 = M.2 → Q M1) : zv (d + 1) 13 [.ref 18, .ref 47] M Q := by
  apply zg_X2_become_r18_47
  refine hQ _ (fun j hj => ?_) (fun j hj => ?_) ?_ ?_ (fun c h1 h2 h3 => ?_) rfl
  · rw [zI_si_ne (by decide), zI_si_ne (by decide), zI_sr_rne (by decide), zI_sr_row]
    exact vcp hj
  · rw [zI_si_ne (by decide), zI_si_ne (by decide), zI_sr_row]
    exact vcp hj
  · rw [zI_si, if_pos rfl, if_neg (by decide), zI_si_eq]
  · rw [zI_si_eq]
  · rw [zI_si_rne h1, zI_si_rne h1, zI_sr_rne h3, zI_sr_rne h2]
theorem X_texta_re {d : Nat} {M : zm_M} {Q : zm_M → Prop} (h01 : M.1 50 0 = 0 ∨ M.1 50 0 = 1) (hQ : ∀ M1, (∀ j, j < 60 → M1.1 22 j = M.1 51 j) → M1.1 21 0 = M.1 50 0 → M1.1 21 1 = M.1 50 1 → (∀ c, c ≠ 21 → c ≠ 22 → M1.1 c = M.1 c) → M1.2 = M.2 → Q M1) : zv (d + 2) 37 [.ref 21, .ref 50] M Q := by
  apply zg_X6_becomeText_r21_50
  apply zg_X6_become_r21_51
  have e0 : (zm_si (zm_si (zm_sr M 22 (va_cpy (M.1 51) (M.1 22) 0 0 60)) 21 1 (M.1 50 1)) 21 0 1).1 50 0 = M.1 50 0 := by
    rw [zI_si_ne (by decide), zI_si_ne (by decide), zI_sr_rne (by decide)]
  rw [e0]
  refine ⟨h01, hQ _ (fun j hj => ?_) ?_ ?_ (fun c h1 h2 => ?_) rfl⟩
  · rw [zI_si_ne (by decide), zI_si_ne (by decide), zI_si_ne (by decide), zI_sr_row]
    exact vcp hj
  · rw [zI_si_eq]
  · rw [zI_si, if_pos rfl, if_neg (by decide), zI_si, if_pos rfl, if_neg (by decide), zI_si_eq]
  · rw [zI_si_rne h1, zI_si_rne h1, zI_si_rne h1, zI_sr_rne h2]
theorem X_textf_re {d : Nat} {M : zm_M} {Q : zm_M → Prop} (h01 : M.1 54 0 = 0 ∨ M.1 54 0 = 1) (hQ : ∀ M1, (∀ j, j < 60 → M1.1 26 j = M.1 55 j) → M1.1 25 0 = M.1 54 0 → M1.1 25 1 = M.1 54 1 → (∀ c, c ≠ 25 → c ≠ 26 → M1.1 c = M.1 c) → M1.2 = M.2 → Q M1) : zv (d + 2) 37 [.ref 25, .ref 54] M Q := by
  apply zg_X6_becomeText_r25_54
  apply zg_X6_become_r25_55
  have e0 : (zm_si (zm_si (zm_sr M 26 (va_cpy (M.1 55) (M.1 26) 0 0 60)) 25 1 (M.1 54 1)) 25 0 1).1 54 0 = M.1 54 0 := by
    rw [zI_si_ne (by decide), zI_si_ne (by decide), zI_sr_rne (by decide)]
  rw [e0]
  refine ⟨h01, hQ _ (fun j hj => ?_) ?_ ?_ (fun c h1 h2 => ?_) rfl⟩
  · rw [zI_si_ne (by decide), zI_si_ne (by decide), zI_si_ne (by decide), zI_sr_row]
    exact vcp hj
  · rw [zI_si_eq]
  · rw [zI_si, if_pos rfl, if_neg (by decide), zI_si, if_pos rfl, if_neg (by decide), zI_si_eq]
  · rw [zI_si_rne h1, zI_si_rne h1, zI_si_rne h1, zI_sr_rne h2]
theorem X_town_re {d : Nat} {M : zm_M} {Q : zm_M → Prop} (h21 : M.1 50 0 = 0 ∨ M.1 50 0 = 1) (h25 : M.1 54 0 = 0 ∨ M.1 54 0 = 1) (hQ : ∀ M1, (∀ c j, zcell c j → M1.1 (c + 0) j = M.1 (c + 29) j) → (∀ c, c < 1 ∨ 29 < c → M1.1 c = M.1 c) → Q M1) : zv (d + 3) 41 [.ref 1, .ref 30] M Q := by
  apply zg_X7_become_r1_30 (d := d + 2)
  refine X_folk_re (fun M1 a1 a2 a3 _ => X_bonds_re (fun M4 b1 b2 b3 _ => X_desk_re (d := d + 1) (fun M7 c1 c2 c3 c4 c5 _ => X_texta_re ?_ (fun M10 d1 d2 d3 d4 _ => X_textf_re ?_ (fun M13 e1 e2 e3 e4 _ => hQ _ (fun c j hc => ?_) (fun c hc => ?_)))))) 
  · rw [c5 50 (by decide) (by decide) (by decide), b3 50 (by decide) (by decide), a3 50 (by decide) (by decide)]
    exact h21
  · rw [d4 54 (by decide) (by decide), c5 54 (by decide) (by decide) (by decide), b3 54 (by decide) (by decide), a3 54 (by decide) (by decide)]
    exact h25
  · have S : ∀ q, q < 1 ∨ 29 < q → M13.1 q = M.1 q := fun q hq => by
      rw [e4 q (by omega) (by omega), d4 q (by omega) (by omega), c5 q (by omega) (by omega) (by omega), b3 q (by omega) (by omega), a3 q (by omega) (by omega)]
    have S7 : ∀ q, q < 1 ∨ 29 < q → M7.1 q = M.1 q := fun q hq => by
      rw [c5 q (by omega) (by omega) (by omega), b3 q (by omega) (by omega), a3 q (by omega) (by omega)]
    have S10 : ∀ q, q < 1 ∨ 29 < q → M10.1 q = M.1 q := fun q hq => by
      rw [d4 q (by omega) (by omega), S7 q hq]
    have S4 : ∀ q, q < 1 ∨ 29 < q → M4.1 q = M.1 q := fun q hq => by
      rw [b3 q (by omega) (by omega), a3 q (by omega) (by omega)]
    have S1 : ∀ q, q < 1 ∨ 29 < q → M1.1 q = M.1 q := fun q hq => a3 q (by omega) (by omega)
    unfold zcell at hc
    rcases hc with ⟨rfl, rfl⟩ | ⟨rfl, rfl⟩ | ⟨rfl, hj⟩ | ⟨rfl, hj⟩ | ⟨rfl, hj⟩ | ⟨hc, hj⟩ | ⟨hc, hj⟩ | ⟨rfl, hj⟩ | ⟨rfl, hj⟩ | ⟨hc, hj⟩ | ⟨hc, hj⟩
    · rw [zI_si_ne (by decide), zI_si_ne (by decide), zI_si_ne (by decide), zI_sr_rne (by decide), e4 _ (by decide) (by decide), d4 _ (by decide) (by decide), c5 _ (by decide) (by decide) (by decide), b3 _ (by decide) (by decide)]
      exact a2
    · rw [zI_si_ne (by decide), zI_si_ne (by decide), zI_si_ne (by decide), zI_sr_rne (by decide), e4 _ (by decide) (by decide), d4 _ (by decide) (by decide), c5 _ (by decide) (by decide) (by decide)]
      exact b2.trans (by rw [S1 _ (by decide)])
    · rcases hj with rfl | rfl | rfl
      · rw [zI_si, if_pos rfl, if_neg (by decide), zI_si, if_pos rfl, if_neg (by decide), zI_si_eq, S _ (by decide)]
      · rw [zI_si, if_pos rfl, if_neg (by decide), zI_si_eq, S _ (by decide)]
      · rw [zI_si_eq, S _ (by decide)]
    · rw [zI_si_ne (by decide), zI_si_ne (by decide), zI_si_ne (by decide), zI_sr_rne (by decide), e4 _ (by decide) (by decide), d4 _ (by decide) (by decide)]
      rcases hj with rfl | rfl
      · exact c3.trans (by rw [S4 _ (by decide)])
      · exact c4.trans (by rw [S4 _ (by decide)])
    · rw [zI_si_ne (by decide), zI_si_ne (by decide), zI_si_ne (by decide), zI_sr_row, vcp hj, S _ (by decide)]
    · rw [zI_si_ne (by omega), zI_si_ne (by omega), zI_si_ne (by omega), zI_sr_rne (by omega), e4 _ (by omega) (by omega), d4 _ (by omega) (by omega), c5 _ (by omega) (by omega) (by omega), b3 _ (by omega) (by omega)]
      have := a1 (c - 4) (by omega) j hj
      rw [show 4 + (c - 4) = c + 0 by omega, show 33 + (c - 4) = c + 29 by omega] at this
      exact this
    · rw [zI_si_ne (by omega), zI_si_ne (by omega), zI_si_ne (by omega), zI_sr_rne (by omega), e4 _ (by omega) (by omega), d4 _ (by omega) (by omega), c5 _ (by omega) (by omega) (by omega)]
      have := b1 (c - 14) (by omega) j hj
      rw [show 14 + (c - 14) = c + 0 by omega, show 43 + (c - 14) = c + 29 by omega, S1 _ (by omega)] at this
      exact this
    · rw [zI_si_ne (by decide), zI_si_ne (by decide), zI_si_ne (by decide), zI_sr_rne (by decide), e4 _ (by decide) (by decide), d4 _ (by decide) (by decide)]
      exact (c1 j hj).trans (by rw [S4 _ (by decide)])
    · rw [zI_si_ne (by decide), zI_si_ne (by decide), zI_si_ne (by decide), zI_sr_rne (by decide), e4 _ (by decide) (by decide), d4 _ (by decide) (by decide)]
      exact (c2 j hj).trans (by rw [S4 _ (by decide)])
    · rcases hc with rfl | rfl
      · rw [zI_si_ne (by decide), zI_si_ne (by decide), zI_si_ne (by decide), zI_sr_rne (by decide), e4 _ (by decide) (by decide)]
        rcases (show j = 0 ∨ j = 1 by omega) with rfl | rfl
        · exact d2.trans (by rw [S7 _ (by decide)])
        · exact d3.trans (by rw [S7 _ (by decide)])
      · rw [zI_si_ne (by decide), zI_si_ne (by decide), zI_si_ne (by decide), zI_sr_rne (by decide)]
        rcases (show j = 0 ∨ j = 1 by omega) with rfl | rfl
        · exact e2.trans (by rw [S10 _ (by decide)])
        · exact e3.trans (by rw [S10 _ (by decide)])
    · rcases hc with rfl | rfl
      · rw [zI_si_ne (by decide), zI_si_ne (by decide), zI_si_ne (by decide), zI_sr_rne (by decide), e4 _ (by decide) (by decide)]
        exact (d1 j hj).trans (by rw [S7 _ (by decide)])
      · rw [zI_si_ne (by decide), zI_si_ne (by decide), zI_si_ne (by decide), zI_sr_rne (by decide)]
        exact (e1 j hj).trans (by rw [S10 _ (by decide)])
  · rw [zI_si_rne (by omega), zI_si_rne (by omega), zI_si_rne (by omega), zI_sr_rne (by omega), e4 c (by omega) (by omega), d4 c (by omega) (by omega), c5 c (by omega) (by omega) (by omega), b3 c (by omega) (by omega), a3 c (by omega) (by omega)]
theorem R_cLim {d : Nat} {Q : zm_M → Prop} : ∀ (n i : Nat) (M : zm_M), i + n = 480 → (∀ M1, (∀ c, c ≠ 84 → M1.1 c = M.1 c) → (∀ j, i ≤ j → j < 480 → M1.1 84 j = M.1 83 j) → (∀ j, j < i → M1.1 84 j = M.1 84 j) → Q M1) → zt d 115 2 [some (.ref 83), some (.ref 84), some (.int (zon i))] [] M (zPv Q)
  | 0, i, M, hi, hQ => by
    apply zg_X11_carry_r83_84_p2
    refine ⟨fun z => ?_, fun _ => hQ M (fun _ _ => rfl) (fun j h1 h2 => by omega) (fun _ _ => rfl)⟩
    rw [zon_ltl (b := 480) (by omega) rfl] at z
    omega
  | n + 1, i, M, hi, hQ => by
    apply zg_X11_carry_r83_84_p2
    have hin : zm_inb (zon i) 480 = true := by rw [zon_inb (by omega)]; omega
    rw [zon_ltl (b := 480) (by omega) rfl, zon_n (by omega), zon_s]
    refine ⟨fun _ => ⟨hin, hin, ?_⟩, fun z => absurd (by omega) z⟩
    refine R_cLim n (i + 1) _ (by omega) (fun M1 f1 g1 g2 => hQ M1 (fun c hc => by rw [f1 c hc, zI_si_rne hc]) (fun j h1 h2 => ?_) (fun j h1 => ?_))
    · by_cases hji : j = i
      · rw [hji, g2 i (by omega), zI_si_eq]
      · rw [g1 j (by omega) h2, zI_si_ne (by decide)]
    · rw [g2 j (by omega), zI_si, if_pos rfl, if_neg (by omega)]
theorem R_cLre {d : Nat} {Q : zm_M → Prop} : ∀ (n i : Nat) (M : zm_M), i + n = 480 → (∀ M1, (∀ c, c ≠ 83 → M1.1 c = M.1 c) → (∀ j, i ≤ j → j < 480 → M1.1 83 j = M.1 84 j) → (∀ j, j < i → M1.1 83 j = M.1 83 j) → Q M1) → zt d 115 2 [some (.ref 84), some (.ref 83), some (.int (zon i))] [] M (zPv Q)
  | 0, i, M, hi, hQ => by
    apply zg_X11_carry_r84_83_p2
    refine ⟨fun z => ?_, fun _ => hQ M (fun _ _ => rfl) (fun j h1 h2 => by omega) (fun _ _ => rfl)⟩
    rw [zon_ltl (b := 480) (by omega) rfl] at z
    omega
  | n + 1, i, M, hi, hQ => by
    apply zg_X11_carry_r84_83_p2
    have hin : zm_inb (zon i) 480 = true := by rw [zon_inb (by omega)]; omega
    rw [zon_ltl (b := 480) (by omega) rfl, zon_n (by omega), zon_s]
    refine ⟨fun _ => ⟨hin, hin, ?_⟩, fun z => absurd (by omega) z⟩
    refine R_cLre n (i + 1) _ (by omega) (fun M1 f1 g1 g2 => hQ M1 (fun c hc => by rw [f1 c hc, zI_si_rne hc]) (fun j h1 h2 => ?_) (fun j h1 => ?_))
    · by_cases hji : j = i
      · rw [hji, g2 i (by omega), zI_si_eq]
      · rw [g1 j (by omega) h2, zI_si_ne (by decide)]
    · rw [g2 j (by omega), zI_si, if_pos rfl, if_neg (by omega)]
theorem pair_image {d : Nat} {M : zm_M} (h : Inv M) : zi (d + 4) 92 [.ref 0] M (fun v M1 => zi (d + 1) 198 [.ref 82] M1 (fun w M2 => v = w ∧ Inv M2)) := by
  obtain ⟨⟨hR, hW⟩, hK, hS, hE, hT⟩ := h
  apply zg_X10_image (d := d + 3)
  refine X_town_im hR.2.1.st hR.2.2.st (fun M1 g1 g2 => ?_)
  apply zg_X11_image
  apply zg_X11_carry_r83_84
  refine R_cLim 480 0 _ rfl (fun M2 f2 k1 _ => ?_)
  have e : ∀ c, c ≠ 0 → c ≠ 82 → c ≠ 84 → (c < 30 ∨ 58 < c) → (zm_si M2 82 3 (M2.1 82 3 + 1)).1 c = M.1 c := fun c h1 h2 h3 h4 => by
    rw [zI_si_rne h2, f2 c h3, zI_si_rne h1, g2 c h4]
  have e82 : M2.1 82 = M.1 82 := by rw [f2 82 (by decide), zI_si_rne (by decide), g2 82 (by decide)]
  have e0 : M1.1 0 = M.1 0 := g2 0 (by decide)
  have k84 : ∀ j, j < 480 → (zm_si M2 82 3 (M2.1 82 3 + 1)).1 84 j = M.1 83 j := fun j hj => by
    rw [zI_si_ne (by decide), k1 j (by omega) hj, zI_si_ne (by decide), g2 83 (by decide)]
  refine ⟨?_, ?_, ?_, hS.off (fun c hc => e c (by omega) (by omega) (by omega) (by omega)), hE.off (e 81 (by decide) (by decide) (by decide) (by decide)) (e 86 (by decide) (by decide) (by decide) (by decide)), hT.off (fun c hc => e c (by omega) (by omega) (by omega) (by omega)) ?_⟩
  · rw [e82, e0, hK.1]
  · rw [e 83 (by decide) (by decide) (by decide) (by decide)]
    refine ⟨hR.congr (fun c h1 h2 => e c (by omega) (by omega) (by omega) (by omega)), hW⟩
  · refine ⟨?_, fun _ => ⟨?_, hW.sc k84⟩⟩
    · rw [zI_si_eq, zI_si_ne (by decide), f2 0 (by decide), zI_si_eq, e82, e0, hK.1]
    · refine (hR.copy (b2 := 29) (fun c j hc => ?_)).sc k84
      have hc2 : c < 30 := by
        unfold zcell at hc
        omega
      have hc1 : 1 ≤ c := by
        unfold zcell at hc
        omega
      rw [zI_si_ne (by omega), f2 (c + 29) (by omega), zI_si_ne (by omega)]
      exact g1 c j hc
  · rw [zI_si, if_pos rfl, if_neg (by decide), e82]
theorem pair_restore {d : Nat} {M : zm_M} (h : Inv M) : zi (d + 4) 93 [.ref 0] M (fun v M1 => zi (d + 1) 199 [.ref 82] M1 (fun w M2 => v = w ∧ Inv M2)) := by
  have hI := h
  obtain ⟨⟨hR, hW⟩, hK, hS, hE, hT⟩ := h
  apply zg_X10_restore (d := d + 3)
  refine ⟨fun z => ?_, fun z => ?_⟩
  · apply zg_X11_restore
    rw [zI_si_rne (show 82 ≠ 81 by decide), ← hK.1]
    exact ⟨fun _ => ⟨rfl, hI.err1 (by decide)⟩, fun y => absurd z y⟩
  · obtain ⟨kR, kW⟩ := hK.2 (by rw [← hK.1]; exact z)
    refine X_town_re kR.2.1.st kR.2.2.st (fun M1 g1 g2 => ?_)
    apply zg_X11_restore
    rw [g2 82 (by decide), ← hK.1]
    refine ⟨fun y => absurd y z, fun _ => ?_⟩
    apply zg_X11_carry_r84_83
    refine R_cLre 480 0 _ rfl (fun M2 f2 k1 _ => ?_)
    have k83 : ∀ j, j < 480 → M2.1 83 j = M.1 84 j := fun j hj => by rw [k1 j (by omega) hj, g2 84 (by decide)]
    have r1 : RT M2 0 (M2.1 83) := by
      refine (kR.copy (b2 := 0) (M2 := M2) (fun c j hc => ?_)).sc k83
      have hc2 : c < 30 := by
        unfold zcell at hc
        omega
      rw [f2 (c + 0) (by omega)]
      exact g1 c j hc
    refine ⟨?_, hI.town (s2 := M2.1 83) r1 (kW.sc k83) rfl (fun c hc => by rw [f2 c (by omega), g2 c (by omega)]) (by rw [f2 82 (by decide), g2 82 (by decide)]) (by rw [f2 82 (by decide), g2 82 (by decide)])⟩
    rw [k83 2 (by decide), g1 1 6 (by unfold zcell; omega)]
    exact kR.1 2 1 6 rfl

/-! Pairs of calls: person. -/
theorem X_addPers {d : Nat} {M : zm_M} {s : Nat → Int32} {k m pu ho : Int32} {Q : Int32 → zm_M → Prop} (hR : RT M 0 s) (n1 : ¬ s 0 < 0) (h1 : s 0 < 12) (hQ : ∀ M1 : zm_M, RT M1 0 (sPers s k m pu ho) → (∀ i, i = 0 ∨ 29 < i → M1.1 i = M.1 i) → M1.2 = M.2 → Q (s 0) M1) : zi d 15 [.ref 2, .int k, .int m, .int pu, .int ho] M Q := by
  have hq := zcl_lt n1 h1 (n := 12) (by decide)
  have hin := zm_inb_of 12 n1 h1 (n := 12) (by decide)
  have e1 : M.1 2 0 = s 0 := hR.1 0 2 0 rfl
  apply zg_X3_add
  rw [e1]
  refine ⟨hin, hin, hin, hin, hin, hin, hin, hin, hQ _ ?_ ?_ rfl⟩
  · have r0 := hR.set (v := k) (zmap_pers hq (w := 0) (by decide)) (by decide) (by omega)
    have r1 := r0.set (v := m) (zmap_pers hq (w := 1) (by decide)) (by decide) (by omega)
    have r2 := r1.set (v := -1) (zmap_pers hq (w := 2) (by decide)) (by decide) (by omega)
    have r3 := r2.set (v := -1) (zmap_pers hq (w := 3) (by decide)) (by decide) (by omega)
    have r4 := r3.set (v := 1) (zmap_pers hq (w := 4) (by decide)) (by decide) (by omega)
    have r5 := r4.set (v := pu) (zmap_pers hq (w := 5) (by decide)) (by decide) (by omega)
    have r6 := r5.set (v := ho) (zmap_pers hq (w := 6) (by decide)) (by decide) (by omega)
    have r7 := r6.set (v := 0) (zmap_pers hq (w := 7) (by decide)) (by decide) (by omega)
    exact r7.set (v := s 0 + 1) (k := 0) (c := 2) (j := 0) rfl (by decide) (by decide)
  · intro i hi
    rw [zI_si_rne (by omega), zI_si_rne (by omega), zI_si_rne (by omega), zI_si_rne (by omega), zI_si_rne (by omega), zI_si_rne (by omega), zI_si_rne (by omega), zI_si_rne (by omega), zI_si_rne (by omega)]
theorem R_person_bad {d : Nat} {M : zm_M} {a b c : Int32} {Q : Int32 → zm_M → Prop} (hb : ¬ (¬ a < 0 ∧ ¬ 699 < a ∧ ¬ b < 0 ∧ ¬ 99999 < b ∧ ¬ c < 0 ∧ ¬ 99999 < c)) (hQ : Q ((-1000000000) - 1) (zm_si M 86 1 (M.1 86 1 + 1))) : zi (d + 2) 122 [.ref 82, .int a, .int b, .int c] M Q := by
  apply zg_X11_person
  refine ⟨fun _ => hQ, fun c1 => ⟨fun _ => hQ, fun c2 => ⟨fun _ => hQ, fun c3 => ⟨fun _ => hQ, fun c4 => ⟨fun _ => hQ, fun c5 => ⟨fun _ => hQ, fun c6 => ?_⟩⟩⟩⟩⟩⟩
  exact absurd ⟨c1, c2, c3, c4, c5, c6⟩ hb
theorem X_person_bad {d : Nat} {M : zm_M} {a b c : Int32} {Q : Int32 → zm_M → Prop} (hb : ¬ (¬ a < 0 ∧ ¬ 699 < a ∧ ¬ b < 0 ∧ ¬ 99999 < b ∧ ¬ c < 0 ∧ ¬ 99999 < c)) (hQ : Q ((-1000000000) - 1) (zm_si M 81 1 (M.1 81 1 + 1))) : zi (d + 1) 62 [.ref 0, .int a, .int b, .int c] M Q := by
  apply zg_X10_person
  refine ⟨fun _ => hQ, fun c1 => ⟨fun c2 => ⟨fun _ => hQ, fun c3 => ⟨fun _ => hQ, fun c4 => ⟨fun _ => hQ, fun c5 => ⟨fun _ => hQ, fun c6 => ?_⟩⟩⟩⟩, fun _ => hQ⟩⟩
  exact absurd ⟨c1, by grind, c3, c4, c5, c6⟩ hb
theorem km_parts {a : Int32} (h : ¬ a < 0) (h2 : ¬ 699 < a) : (0 ≤ a / 100 ∧ a / 100 ≤ 6) ∧ (0 ≤ a - a / 100 * 100 ∧ a - a / 100 * 100 ≤ 99) := by
  obtain ⟨j, hj, rfl⟩ := nI_of2 (M := 699) (n := 699) (by decide) h (by grind)
  have e1 : nI j / 100 = nI (j / 100) := pk_div (a := j) (d := 100) (by omega) (by decide) (by decide)
  have e2 : nI j - nI j / 100 * 100 = nI (j % 100) := pk_rem (a := j) (d := 100) (by omega) (by decide) (by decide)
  rw [e2, e1]
  exact ⟨⟨nI_pos' (by omega), nI_le (b := 6) (by omega) (by decide)⟩, ⟨nI_pos' (by omega), nI_le (b := 99) (by omega) (by decide)⟩⟩
theorem R_person_good {d : Nat} {M : zm_M} {a b c : Int32} {Q : Int32 → zm_M → Prop} (hb : ¬ a < 0 ∧ ¬ 699 < a ∧ ¬ b < 0 ∧ ¬ 99999 < b ∧ ¬ c < 0 ∧ ¬ 99999 < c) (n1 : ¬ M.1 83 0 < 0) (h1 : M.1 83 0 < 12) (hQ : Q (M.1 83 0) (zm_sr M 83 (sPers (M.1 83) (a / 100) (a - a / 100 * 100) b c))) : zi (d + 2) 122 [.ref 82, .int a, .int b, .int c] M Q := by
  obtain ⟨c1, c2, c3, c4, c5, c6⟩ := hb
  have hq := zcl_lt n1 h1 (n := 12) (by decide)
  obtain ⟨x0, y0⟩ := zix_p 0 (k := 0) n1 h1 (by decide) (by decide)
  obtain ⟨x1, y1⟩ := zix_p 1 (k := 1) n1 h1 (by decide) (by decide)
  obtain ⟨x2, y2⟩ := zix_p 2 (k := 2) n1 h1 (by decide) (by decide)
  obtain ⟨x3, y3⟩ := zix_p 3 (k := 3) n1 h1 (by decide) (by decide)
  obtain ⟨x4, y4⟩ := zix_p 4 (k := 4) n1 h1 (by decide) (by decide)
  obtain ⟨x5, y5⟩ := zix_p 5 (k := 5) n1 h1 (by decide) (by decide)
  obtain ⟨x6, y6⟩ := zix_p 6 (k := 6) n1 h1 (by decide) (by decide)
  obtain ⟨x7, y7⟩ := zix_p 7 (k := 7) n1 h1 (by decide) (by decide)
  apply zg_X11_person
  refine ⟨fun z => absurd z c1, fun _ => ⟨fun z => absurd z c2, fun _ => ⟨fun z => absurd z c3, fun _ => ⟨fun z => absurd z c4, fun _ => ⟨fun z => absurd z c5, fun _ => ⟨fun z => absurd z c6, fun _ => ⟨fun z => by grind, fun _ => ⟨y0, y1, y2, y3, y4, y5, y6, y7, ?_⟩⟩⟩⟩⟩⟩⟩⟩
  rw [x0, x1, x2, x3, x4, x5, x6, x7]
  generalize hqn : (M.1 83 0).toNatClampNeg = q at hq
  have e : (zm_si (zm_si (zm_si (zm_si (zm_si (zm_si (zm_si (zm_si M 83 (10 + 8 * q + 0) (a / 100)) 83 (10 + 8 * q + 1) (a - a / 100 * 100)) 83 (10 + 8 * q + 2) (-1)) 83 (10 + 8 * q + 3) (-1)) 83 (10 + 8 * q + 4) 1) 83 (10 + 8 * q + 5) b) 83 (10 + 8 * q + 6) c) 83 (10 + 8 * q + 7) 0).1 83 0 = M.1 83 0 := by
    rw [zI_si, if_pos rfl, if_neg (by omega), zI_si, if_pos rfl, if_neg (by omega), zI_si, if_pos rfl, if_neg (by omega), zI_si, if_pos rfl, if_neg (by omega), zI_si, if_pos rfl, if_neg (by omega), zI_si, if_pos rfl, if_neg (by omega), zI_si, if_pos rfl, if_neg (by omega), zI_si, if_pos rfl, if_neg (by omega)]
  rw [e]
  rw [zsi_eq (M := M), zsi_sr, zsi_sr, zsi_sr, zsi_sr, zsi_sr, zsi_sr, zsi_sr, zsi_sr]
  unfold sPers at hQ
  rw [hqn] at hQ
  exact hQ

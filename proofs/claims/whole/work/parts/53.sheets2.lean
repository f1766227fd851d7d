/-! Pairs: sheet, put. -/
theorem IS.lay {M M2 : zm_M} {k : Nat} (h : IS M) (e : ∀ i, i < 4 → i ≠ k → M2.1 74 i = M.1 74 i ∧ M2.1 75 i = M.1 75 i ∧ M2.1 93 i = M.1 93 i ∧ M2.1 94 i = M.1 94 i ∧ (∀ j, j < 24 → M2.1 (77 + i) j = M.1 (77 + i) j) ∧ (∀ j, j < 24 → M2.1 95 (24 * i + j) = M.1 95 (24 * i + j))) (hk : M2.1 74 k = M2.1 93 k ∧ M2.1 75 k = M2.1 94 k ∧ (M2.1 93 k = 0 ∨ M2.1 93 k = 8 ∨ M2.1 93 k = 16 ∨ M2.1 93 k = 32) ∧ (0 ≤ M2.1 94 k ∧ M2.1 94 k ≤ 24) ∧ ∀ j, j < 24 → M2.1 (77 + k) j = M2.1 95 (24 * k + j)) : IS M2 := by
  intro i hi
  by_cases hik : i = k
  · rw [hik]
    exact hk
  · obtain ⟨a1, a2, a3, a4, a5, a6⟩ := e i hi hik
    obtain ⟨b1, b2, b3, b4, b5⟩ := h i hi
    rw [a1, a2, a3, a4]
    exact ⟨b1, b2, b3, b4, fun j hj => by rw [a5 j hj, a6 j hj]; exact b5 j hj⟩
theorem Inv.sheets {M M2 : zm_M} (h : Inv M) (e : ∀ c, c ∉ [74, 75, 77, 78, 79, 80, 93, 94, 95, 96] → M2.1 c = M.1 c) (hS : IS M2) : Inv M2 := by
  obtain ⟨⟨hR, hW⟩, hK, -, hE, hT⟩ := h
  refine ⟨?_, hK.off (fun k h1 h2 => e k ?_) (e 84 (by decide)) (by rw [e 0 (by decide)]) (by rw [e 82 (by decide)]), hS, hE.off (e 81 (by decide)) (e 86 (by decide)), hT.off (fun k hk => e k ?_) (by rw [e 82 (by decide)])⟩
  · rw [e 83 (by decide)]
    refine ⟨hR.congr (fun k h1 h2 => e k ?_), hW⟩
    simp only [List.mem_cons, List.not_mem_nil, or_false]
    omega
  · simp only [List.mem_cons, List.not_mem_nil, or_false]
    omega
  · simp only [List.mem_cons, List.not_mem_nil, or_false]
    omega
theorem X_fillS {d k : Nat} {Q : zm_M → Prop} (hk : k < 4) : ∀ (n i : Nat) (M : zm_M), i + n = 24 → (∀ j, j < i → M.1 (77 + k) j = 0) → (∀ M1, (∀ c, c ≠ 77 + k → M1.1 c = M.1 c) → (∀ j, j < 24 → M1.1 (77 + k) j = 0) → Q M1) → zt d 213 5 [some (.ref (77 + k)), some (.int 0), some (.int (zon i)), some (.int 24)] [] M (zPv Q)
  | 0, i, M, hi, h0, hQ => by
    apply zu_fill_p5 hk
    refine ⟨fun z => ?_, fun _ => hQ M (fun _ _ => rfl) (fun j hj => h0 j (by omega))⟩
    rw [zon_ltl (b := 24) (by omega) rfl] at z
    omega
  | n + 1, i, M, hi, h0, hQ => by
    apply zu_fill_p5 hk
    rw [zon_ltl (b := 24) (by omega) rfl, zon_n (by omega), zon_s]
    refine ⟨fun _ => ⟨by rw [zon_inb (by omega)]; omega, ?_⟩, fun z => absurd (by omega) z⟩
    refine X_fillS hk n (i + 1) _ (by omega) (fun j hj => ?_) (fun M1 f1 g1 => hQ M1 (fun c hc => by rw [f1 c hc, zI_si_rne hc]) g1)
    rw [zI_si, if_pos rfl]
    by_cases hji : j = i
    · rw [if_pos hji]
    · rw [if_neg hji]
      exact h0 j (by omega)
theorem X_lay {d k : Nat} {b n : Int32} {M : zm_M} {Q : zm_M → Prop} (hk : k < 4) (hQ : ∀ M1, (∀ c, c ≠ 74 → c ≠ 75 → c ≠ 77 + k → M1.1 c = M.1 c) → M1.1 74 = upd (M.1 74) k b → M1.1 75 = upd (M.1 75) k n → (∀ j, j < 24 → M1.1 (77 + k) j = 0) → Q M1) : zv (d + 1) 34 [.ref 73, .int (zon k), .int b, .int n] M Q := by
  have ik : zm_inb (zon k) 4 = true := by rw [zon_inb (by omega)]; omega
  apply zu_lay hk
  rw [zon_n (by omega)]
  refine ⟨ik, ik, ik, zrf_sheet hk, ?_⟩
  apply zu_fill hk
  refine X_fillS hk 24 0 _ rfl (fun j hj => absurd hj (Nat.not_lt_zero _)) (fun M1 f1 g1 => hQ M1 (fun c h1 h2 h3 => ?_) ?_ ?_ g1)
  · rw [f1 c h3, zI_si_rne h2, zI_si_rne h1]
  · rw [f1 74 (by omega), zI_si_rne (by decide), zI_si_row]
  · rw [f1 75 (by omega), zI_si_row, zI_si_rne (by decide)]
theorem R_shL {d k : Nat} {Q : Int32 → zm_M → Prop} (hk : k < 4) : ∀ (n i : Nat) (M : zm_M), i + n = 24 → (∀ j, j < i → M.1 95 (24 * k + j) = 0) → (∀ M1, (∀ c, c ≠ 95 → M1.1 c = M.1 c) → (∀ j, j < 24 → M1.1 95 (24 * k + j) = 0) → (∀ j, j < 24 * k ∨ 24 * k + 24 ≤ j → M1.1 95 j = M.1 95 j) → Q 1 M1) → zt d 192 90 [some (.ref 82), some (.int (zon k)), none, none, some (.int (zon i))] [] M (zPi Q)
  | 0, i, M, hi, h0, hQ => by
    apply zg_X11_sheet_p90
    refine ⟨fun z => ?_, fun _ => hQ M (fun _ _ => rfl) (fun j hj => h0 j (by omega)) (fun _ _ => rfl)⟩
    rw [zon_ltl (b := 24) (by omega) rfl] at z
    omega
  | n + 1, i, M, hi, h0, hQ => by
    apply zg_X11_sheet_p90
    rw [zon_ltl (b := 24) (by omega) rfl, zS, zon_n (by omega), zon_s]
    refine ⟨fun _ => ⟨by rw [zon_inb (by omega)]; omega, ?_⟩, fun z => absurd (by omega) z⟩
    refine R_shL hk n (i + 1) _ (by omega) (fun j hj => ?_) (fun M1 f1 g1 g2 => hQ M1 (fun c hc => by rw [f1 c hc, zI_si_rne hc]) g1 (fun j hj => ?_))
    · rw [zI_si, if_pos rfl]
      by_cases hji : 24 * k + j = 24 * k + i
      · rw [if_pos hji]
      · rw [if_neg hji]
        exact h0 j (by omega)
    · rw [g2 j hj, zI_si, if_pos rfl, if_neg (by omega)]
theorem pair_sheet {d : Nat} {M : zm_M} {a b c : Int32} (h : Inv M) : zi (d + 2) 87 [.ref 0, .int a, .int b, .int c] M (fun v M1 => zi (d + 3) 192 [.ref 82, .int a, .int b, .int c] M1 (fun w M2 => v = w ∧ Inv M2)) := by
  have hS := h.2.2.1
  have er : ∀ k, k < 7 → Inv (zm_si (zm_si M 81 k (M.1 81 k + 1)) 86 k ((zm_si M 81 k (M.1 81 k + 1)).1 86 k + 1)) := fun k hk => h.err1 hk
  have q1 : ∀ {x : Int32}, x = -1000000000 - 1 → (-1000000000 - 1 : Int32) = x ∧ Inv (zm_si (zm_si M 81 1 (M.1 81 1 + 1)) 86 1 ((zm_si M 81 1 (M.1 81 1 + 1)).1 86 1 + 1)) := fun hx => ⟨hx.symm, er 1 (by decide)⟩
  have q3 : ∀ {x : Int32}, x = -1000000000 - 3 → (-1000000000 - 3 : Int32) = x ∧ Inv (zm_si (zm_si M 81 3 (M.1 81 3 + 1)) 86 3 ((zm_si M 81 3 (M.1 81 3 + 1)).1 86 3 + 1)) := fun hx => ⟨hx.symm, er 3 (by decide)⟩
  rcases scase a with (s1 | ⟨s1, s2, s3⟩) | ⟨k, rfl, hk, ⟨s1, s2, s3⟩, ik⟩
  · apply zg_X10_sheet (d := d + 1)
    refine ⟨fun _ => ?_, fun z => absurd s1 z⟩
    apply zg_X11_sheet (d := d + 1)
    exact ⟨fun _ => q1 rfl, fun z => absurd s1 z⟩
  · apply zg_X10_sheet (d := d + 1)
    refine ⟨fun z => absurd z s1, fun _ => ⟨fun z => absurd z s2, fun _ => ?_⟩⟩
    apply zg_X11_sheet (d := d + 1)
    exact ⟨fun z => absurd z s1, fun _ => ⟨fun _ => q1 rfl, fun z => absurd s3 z⟩⟩
  · have hb : b = 0 ∨ (¬ b = 0 ∧ (b = 8 ∨ (¬ b = 8 ∧ (b = 16 ∨ (¬ b = 16 ∧ b = 32))))) ∨ (¬ b = 0 ∧ ¬ b = 8 ∧ ¬ b = 16 ∧ ¬ b = 32) := by
      by_cases b0 : b = 0
      · exact Or.inl b0
      · by_cases b8 : b = 8
        · exact Or.inr (Or.inl ⟨b0, Or.inl b8⟩)
        · by_cases b16 : b = 16
          · exact Or.inr (Or.inl ⟨b0, Or.inr ⟨b8, Or.inl b16⟩⟩)
          · by_cases b32 : b = 32
            · exact Or.inr (Or.inl ⟨b0, Or.inr ⟨b8, Or.inr ⟨b16, b32⟩⟩⟩)
            · exact Or.inr (Or.inr ⟨b0, b8, b16, b32⟩)
    have fin : ∀ (n : Int32), (b = 0 ∨ b = 8 ∨ b = 16 ∨ b = 32) → (0 ≤ n ∧ n ≤ 24) → (∀ M1 : zm_M, zt (d + 3) 192 90 [some (.ref 82), some (.int (zon k)), none, none, some (.int 0)] [] (zm_si (zm_si M1 93 k b) 94 k n) (zPi (fun w M2 => 1 = w ∧ Inv M2)) → zi (d + 3) 192 [.ref 82, .int (zon k), .int b, .int c] M1 (fun w M2 => 1 = w ∧ Inv M2)) → zv (d + 1) 34 [.ref 73, .int (zon k), .int b, .int n] M (fun M1 => zi (d + 3) 192 [.ref 82, .int (zon k), .int b, .int c] M1 (fun w M2 => 1 = w ∧ Inv M2)) := fun n hb hn hr => by
      refine X_lay hk (fun M1 f1 a74 a75 a77 => hr M1 ?_)
      refine R_shL hk 24 0 _ rfl (fun j hj => absurd hj (Nat.not_lt_zero _)) (fun M2 f2 z1 z2 => ⟨rfl, ?_⟩)
      have c0 : ∀ cc, cc ≠ 74 → cc ≠ 75 → cc ≠ 77 + k → cc ≠ 93 → cc ≠ 94 → cc ≠ 95 → M2.1 cc = M.1 cc := fun cc h1 h2 h3 h4 h5 h6 => by
        rw [f2 cc h6, zI_si_rne h5, zI_si_rne h4, f1 cc h1 h2 h3]
      have k74 : M2.1 74 = upd (M.1 74) k b := by rw [f2 74 (by decide), zI_si_rne (by decide), zI_si_rne (by decide), a74]
      have k75 : M2.1 75 = upd (M.1 75) k n := by rw [f2 75 (by decide), zI_si_rne (by decide), zI_si_rne (by decide), a75]
      have k93 : M2.1 93 = upd (M.1 93) k b := by rw [f2 93 (by decide), zI_si_rne (by decide), zI_si_row, f1 93 (by decide) (by decide) (by omega)]
      have k94 : M2.1 94 = upd (M.1 94) k n := by rw [f2 94 (by decide), zI_si_row, zI_si_rne (by decide), f1 94 (by decide) (by decide) (by omega)]
      have k77 : ∀ j, j < 24 → M2.1 (77 + k) j = 0 := fun j hj => by
        rw [f2 (77 + k) (by omega), zI_si_rne (by omega), zI_si_rne (by omega)]
        exact a77 j hj
      have k95 : ∀ j, j < 24 * k ∨ 24 * k + 24 ≤ j → M2.1 95 j = M.1 95 j := fun j hj => by
        rw [z2 j hj, zI_si_rne (by decide), zI_si_rne (by decide), f1 95 (by decide) (by decide) (by omega)]
      have un : ∀ (f : Nat → Int32) (i : Nat) (v : Int32), i ≠ k → upd f k v i = f i := fun f i v hi => if_neg hi
      have up : ∀ (f : Nat → Int32) (v : Int32), upd f k v k = v := fun f v => if_pos rfl
      refine h.sheets (fun cc hc => ?_) (hS.lay (k := k) (fun i hi hik => ?_) ?_)
      · simp only [List.mem_cons, List.not_mem_nil, or_false, not_or] at hc
        exact c0 cc (by omega) (by omega) (by omega) (by omega) (by omega) (by omega)
      · rw [k74, k75, k93, k94, un _ _ _ hik, un _ _ _ hik, un _ _ _ hik, un _ _ _ hik]
        refine ⟨rfl, rfl, rfl, rfl, fun j hj => by rw [c0 (77 + i) (by omega) (by omega) (by omega) (by omega) (by omega) (by omega)], fun j hj => k95 _ (by omega)⟩
      · rw [k74, k75, k93, k94, up, up, up, up]
        exact ⟨rfl, rfl, hb, hn, fun j hj => by rw [k77 j hj, z1 j hj]⟩
    rcases hb with b0 | ⟨b0, hb⟩ | ⟨b0, b8, b16, b32⟩
    · apply zg_X10_sheet (d := d + 1)
      refine ⟨fun z => absurd z s1, fun _ => ⟨fun _ => ⟨fun _ => ⟨fun _ => ⟨fun _ => ⟨fun _ => ?_, fun z => absurd b0 z⟩, fun z => absurd b0 z⟩, fun z => absurd b0 z⟩, fun z => absurd b0 z⟩, fun z => absurd s2 z⟩⟩
      refine fin 0 (Or.inl b0) (by decide) (fun M1 hz => ?_)
      apply zg_X11_sheet (d := d + 1)
      rw [zon_n (by omega)]
      exact ⟨fun z => absurd z s1, fun _ => ⟨fun z => absurd z s3, fun _ => ⟨fun _ => ⟨fun _ => ⟨fun _ => ⟨ik, fun _ => ⟨ik, hz⟩, fun z => absurd b0 z⟩, fun z => absurd b0 z⟩, fun z => absurd b0 z⟩, fun z => absurd b0 z⟩⟩⟩
    · by_cases n0 : c < 0
      · have rr : zi (d + 3) 192 [.ref 82, .int (zon k), .int b, .int c] (zm_si M 81 3 (M.1 81 3 + 1)) (fun w M2 => -1000000000 - 3 = w ∧ Inv M2) := by
          apply zg_X11_sheet (d := d + 1)
          rcases hb with b8 | ⟨b8, b16 | ⟨b16, b32⟩⟩
          · exact ⟨fun z => absurd z s1, fun _ => ⟨fun z => absurd z s3, fun _ => ⟨fun z => absurd z b0, fun _ => ⟨fun _ => ⟨fun z => absurd z b0, fun _ => ⟨fun _ => q3 rfl, fun z => absurd n0 z⟩⟩, fun z => absurd b8 z⟩⟩⟩⟩
          · exact ⟨fun z => absurd z s1, fun _ => ⟨fun z => absurd z s3, fun _ => ⟨fun z => absurd z b0, fun _ => ⟨fun z => absurd z b8, fun _ => ⟨fun _ => ⟨fun z => absurd z b0, fun _ => ⟨fun _ => q3 rfl, fun z => absurd n0 z⟩⟩, fun z => absurd b16 z⟩⟩⟩⟩⟩
          · exact ⟨fun z => absurd z s1, fun _ => ⟨fun z => absurd z s3, fun _ => ⟨fun z => absurd z b0, fun _ => ⟨fun z => absurd z b8, fun _ => ⟨fun z => absurd z b16, fun _ => ⟨fun _ => ⟨fun z => absurd z b0, fun _ => ⟨fun _ => q3 rfl, fun z => absurd n0 z⟩⟩, fun z => absurd b32 z⟩⟩⟩⟩⟩⟩
        apply zg_X10_sheet (d := d + 1)
        rcases hb with b8 | ⟨b8, b16 | ⟨b16, b32⟩⟩
        · exact ⟨fun z => absurd z s1, fun _ => ⟨fun _ => ⟨fun z => absurd z b0, fun _ => ⟨fun _ => ⟨fun z => absurd z b0, fun _ => ⟨fun _ => rr, fun z => absurd n0 z⟩⟩, fun z => absurd b8 z⟩⟩, fun z => absurd s2 z⟩⟩
        · exact ⟨fun z => absurd z s1, fun _ => ⟨fun _ => ⟨fun z => absurd z b0, fun _ => ⟨fun z => absurd z b8, fun _ => ⟨fun _ => ⟨fun z => absurd z b0, fun _ => ⟨fun _ => rr, fun z => absurd n0 z⟩⟩, fun z => absurd b16 z⟩⟩⟩, fun z => absurd s2 z⟩⟩
        · exact ⟨fun z => absurd z s1, fun _ => ⟨fun _ => ⟨fun z => absurd z b0, fun _ => ⟨fun z => absurd z b8, fun _ => ⟨fun z => absurd z b16, fun _ => ⟨fun _ => ⟨fun z => absurd z b0, fun _ => ⟨fun _ => rr, fun z => absurd n0 z⟩⟩, fun z => absurd b32 z⟩⟩⟩⟩, fun z => absurd s2 z⟩⟩
      · by_cases n24 : 24 < c
        · have rr : zi (d + 3) 192 [.ref 82, .int (zon k), .int b, .int c] (zm_si M 81 1 (M.1 81 1 + 1)) (fun w M2 => -1000000000 - 1 = w ∧ Inv M2) := by
            apply zg_X11_sheet (d := d + 1)
            rcases hb with b8 | ⟨b8, b16 | ⟨b16, b32⟩⟩
            · exact ⟨fun z => absurd z s1, fun _ => ⟨fun z => absurd z s3, fun _ => ⟨fun z => absurd z b0, fun _ => ⟨fun _ => ⟨fun z => absurd z b0, fun _ => ⟨fun z => absurd z n0, fun _ => ⟨fun z => absurd z b0, fun _ => ⟨fun _ => q1 rfl, fun z => absurd n24 z⟩⟩⟩⟩, fun z => absurd b8 z⟩⟩⟩⟩
            · exact ⟨fun z => absurd z s1, fun _ => ⟨fun z => absurd z s3, fun _ => ⟨fun z => absurd z b0, fun _ => ⟨fun z => absurd z b8, fun _ => ⟨fun _ => ⟨fun z => absurd z b0, fun _ => ⟨fun z => absurd z n0, fun _ => ⟨fun z => absurd z b0, fun _ => ⟨fun _ => q1 rfl, fun z => absurd n24 z⟩⟩⟩⟩, fun z => absurd b16 z⟩⟩⟩⟩⟩
            · exact ⟨fun z => absurd z s1, fun _ => ⟨fun z => absurd z s3, fun _ => ⟨fun z => absurd z b0, fun _ => ⟨fun z => absurd z b8, fun _ => ⟨fun z => absurd z b16, fun _ => ⟨fun _ => ⟨fun z => absurd z b0, fun _ => ⟨fun z => absurd z n0, fun _ => ⟨fun z => absurd z b0, fun _ => ⟨fun _ => q1 rfl, fun z => absurd n24 z⟩⟩⟩⟩, fun z => absurd b32 z⟩⟩⟩⟩⟩⟩
          apply zg_X10_sheet (d := d + 1)
          rcases hb with b8 | ⟨b8, b16 | ⟨b16, b32⟩⟩
          · exact ⟨fun z => absurd z s1, fun _ => ⟨fun _ => ⟨fun z => absurd z b0, fun _ => ⟨fun _ => ⟨fun z => absurd z b0, fun _ => ⟨fun z => absurd z n0, fun _ => ⟨fun z => absurd z b0, fun _ => ⟨fun _ => rr, fun z => absurd n24 z⟩⟩⟩⟩, fun z => absurd b8 z⟩⟩, fun z => absurd s2 z⟩⟩
          · exact ⟨fun z => absurd z s1, fun _ => ⟨fun _ => ⟨fun z => absurd z b0, fun _ => ⟨fun z => absurd z b8, fun _ => ⟨fun _ => ⟨fun z => absurd z b0, fun _ => ⟨fun z => absurd z n0, fun _ => ⟨fun z => absurd z b0, fun _ => ⟨fun _ => rr, fun z => absurd n24 z⟩⟩⟩⟩, fun z => absurd b16 z⟩⟩⟩, fun z => absurd s2 z⟩⟩
          · exact ⟨fun z => absurd z s1, fun _ => ⟨fun _ => ⟨fun z => absurd z b0, fun _ => ⟨fun z => absurd z b8, fun _ => ⟨fun z => absurd z b16, fun _ => ⟨fun _ => ⟨fun z => absurd z b0, fun _ => ⟨fun z => absurd z n0, fun _ => ⟨fun z => absurd z b0, fun _ => ⟨fun _ => rr, fun z => absurd n24 z⟩⟩⟩⟩, fun z => absurd b32 z⟩⟩⟩⟩, fun z => absurd s2 z⟩⟩
        · have rr := fin c (by rcases hb with z | ⟨-, z | ⟨-, z⟩⟩ <;> simp [z]) ⟨by grind, by grind⟩ (fun M1 hz => by
            apply zg_X11_sheet (d := d + 1)
            rw [zon_n (by omega)]
            rcases hb with b8 | ⟨b8, b16 | ⟨b16, b32⟩⟩
            · exact ⟨fun z => absurd z s1, fun _ => ⟨fun z => absurd z s3, fun _ => ⟨fun z => absurd z b0, fun _ => ⟨fun _ => ⟨fun z => absurd z b0, fun _ => ⟨fun z => absurd z n0, fun _ => ⟨fun z => absurd z b0, fun _ => ⟨fun z => absurd z n24, fun _ => ⟨ik, fun z => absurd z b0, fun _ => ⟨ik, hz⟩⟩⟩⟩⟩⟩, fun z => absurd b8 z⟩⟩⟩⟩
            · exact ⟨fun z => absurd z s1, fun _ => ⟨fun z => absurd z s3, fun _ => ⟨fun z => absurd z b0, fun _ => ⟨fun z => absurd z b8, fun _ => ⟨fun _ => ⟨fun z => absurd z b0, fun _ => ⟨fun z => absurd z n0, fun _ => ⟨fun z => absurd z b0, fun _ => ⟨fun z => absurd z n24, fun _ => ⟨ik, fun z => absurd z b0, fun _ => ⟨ik, hz⟩⟩⟩⟩⟩⟩, fun z => absurd b16 z⟩⟩⟩⟩⟩
            · exact ⟨fun z => absurd z s1, fun _ => ⟨fun z => absurd z s3, fun _ => ⟨fun z => absurd z b0, fun _ => ⟨fun z => absurd z b8, fun _ => ⟨fun z => absurd z b16, fun _ => ⟨fun _ => ⟨fun z => absurd z b0, fun _ => ⟨fun z => absurd z n0, fun _ => ⟨fun z => absurd z b0, fun _ => ⟨fun z => absurd z n24, fun _ => ⟨ik, fun z => absurd z b0, fun _ => ⟨ik, hz⟩⟩⟩⟩⟩⟩, fun z => absurd b32 z⟩⟩⟩⟩⟩⟩)
          apply zg_X10_sheet (d := d + 1)
          rcases hb with b8 | ⟨b8, b16 | ⟨b16, b32⟩⟩
          · exact ⟨fun z => absurd z s1, fun _ => ⟨fun _ => ⟨fun z => absurd z b0, fun _ => ⟨fun _ => ⟨fun z => absurd z b0, fun _ => ⟨fun z => absurd z n0, fun _ => ⟨fun z => absurd z b0, fun _ => ⟨fun z => absurd z n24, fun _ => ⟨fun z => absurd z b0, fun _ => rr⟩⟩⟩⟩⟩, fun z => absurd b8 z⟩⟩, fun z => absurd s2 z⟩⟩
          · exact ⟨fun z => absurd z s1, fun _ => ⟨fun _ => ⟨fun z => absurd z b0, fun _ => ⟨fun z => absurd z b8, fun _ => ⟨fun _ => ⟨fun z => absurd z b0, fun _ => ⟨fun z => absurd z n0, fun _ => ⟨fun z => absurd z b0, fun _ => ⟨fun z => absurd z n24, fun _ => ⟨fun z => absurd z b0, fun _ => rr⟩⟩⟩⟩⟩, fun z => absurd b16 z⟩⟩⟩, fun z => absurd s2 z⟩⟩
          · exact ⟨fun z => absurd z s1, fun _ => ⟨fun _ => ⟨fun z => absurd z b0, fun _ => ⟨fun z => absurd z b8, fun _ => ⟨fun z => absurd z b16, fun _ => ⟨fun _ => ⟨fun z => absurd z b0, fun _ => ⟨fun z => absurd z n0, fun _ => ⟨fun z => absurd z b0, fun _ => ⟨fun z => absurd z n24, fun _ => ⟨fun z => absurd z b0, fun _ => rr⟩⟩⟩⟩⟩, fun z => absurd b32 z⟩⟩⟩⟩, fun z => absurd s2 z⟩⟩
    · have rr : zi (d + 3) 192 [.ref 82, .int (zon k), .int b, .int c] (zm_si M 81 1 (M.1 81 1 + 1)) (fun w M2 => -1000000000 - 1 = w ∧ Inv M2) := by
        apply zg_X11_sheet (d := d + 1)
        exact ⟨fun z => absurd z s1, fun _ => ⟨fun z => absurd z s3, fun _ => ⟨fun z => absurd z b0, fun _ => ⟨fun z => absurd z b8, fun _ => ⟨fun z => absurd z b16, fun _ => ⟨fun z => absurd z b32, fun _ => q1 rfl⟩⟩⟩⟩⟩⟩
      apply zg_X10_sheet (d := d + 1)
      exact ⟨fun z => absurd z s1, fun _ => ⟨fun _ => ⟨fun z => absurd z b0, fun _ => ⟨fun z => absurd z b8, fun _ => ⟨fun z => absurd z b16, fun _ => ⟨fun z => absurd z b32, fun _ => rr⟩⟩⟩⟩, fun z => absurd s2 z⟩⟩

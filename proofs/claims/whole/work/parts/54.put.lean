/-! Pairs: put, move. -/
theorem sx_bits (x : BitVec 32) (n m : Nat) (hn : 0 < n) (hn2 : n < 32) (hm : m = 32 - n) : (x <<< m).sshiftRight m = (x.signExtend n).signExtend 32 := by
  subst hm
  apply BitVec.eq_of_getLsbD_eq
  intro i hi
  rw [BitVec.getLsbD_sshiftRight, BitVec.getLsbD_signExtend]
  have h1 : ¬ 32 ≤ i := by omega
  simp only [h1, decide_false, Bool.not_false, Bool.true_and, hi, decide_true]
  by_cases h : i < n
  · rw [if_pos (by omega), if_pos h, BitVec.getLsbD_shiftLeft, BitVec.getLsbD_signExtend]
    rw [show 32 - n + i - (32 - n) = i by omega]
    simp [h, hi, show 32 - n + i < 32 by omega, show ¬ 32 - n + i < 32 - n by omega]
  · rw [if_neg (by omega), if_neg h, BitVec.msb_eq_getLsbD_last, BitVec.msb_eq_getLsbD_last, BitVec.getLsbD_shiftLeft, BitVec.getLsbD_signExtend]
    rw [show 32 - 1 - (32 - n) = n - 1 by omega]
    simp [show n - 1 < n by omega, show n - 1 < 32 by omega, show ¬ 31 < 32 - n by omega]
theorem zsx8 (c : Int32) : (c <<< ((32 - 8) &&& 31)) >>> ((32 - 8) &&& 31) = c.toInt8.toInt32 := Int32.toBitVec_inj.mp (sx_bits c.toBitVec 8 24 (by decide) (by decide) (by decide))
theorem zsx16 (c : Int32) : (c <<< ((32 - 16) &&& 31)) >>> ((32 - 16) &&& 31) = c.toInt16.toInt32 := Int32.toBitVec_inj.mp (sx_bits c.toBitVec 16 16 (by decide) (by decide) (by decide))
theorem sx0 (x : BitVec 32) : (x <<< 0).sshiftRight 0 = x := by simp
theorem zsx32 (c : Int32) : (c <<< ((32 - 32) &&& 31)) >>> ((32 - 32) &&& 31) = c := Int32.toBitVec_inj.mp (sx0 c.toBitVec)
theorem pair_put {d : Nat} {M : zm_M} {a b c : Int32} (h : Inv M) : zi (d + 1) 88 [.ref 0, .int a, .int b, .int c] M (fun v M1 => zi (d + 2) 193 [.ref 82, .int a, .int b, .int c] M1 (fun w M2 => v = w ∧ Inv M2)) := by
  have hS := h.2.2.1
  have er : ∀ k, k < 7 → Inv (zm_si (zm_si M 81 k (M.1 81 k + 1)) 86 k ((zm_si M 81 k (M.1 81 k + 1)).1 86 k + 1)) := fun k hk => h.err1 hk
  have r93 : ∀ j v, (zm_si M 81 j v).1 93 = M.1 93 := fun j v => zI_si_rne (by decide)
  have r94 : ∀ j v, (zm_si M 81 j v).1 94 = M.1 94 := fun j v => zI_si_rne (by decide)
  rcases scase a with (s1 | ⟨s1, s2, s3⟩) | ⟨k, rfl, hk, ⟨s1, s2, s3⟩, ik⟩
  · apply zg_X10_put_q0
    refine ⟨fun _ => ?_, fun z => absurd s1 z⟩
    apply zg_X11_put
    exact ⟨fun _ => ⟨rfl, er 1 (by decide)⟩, fun z => absurd s1 z⟩
  · apply zg_X10_put_q0
    refine ⟨fun z => absurd z s1, fun _ => ⟨fun z => absurd z s2, fun _ => ?_⟩⟩
    apply zg_X11_put
    exact ⟨fun z => absurd z s1, fun _ => ⟨fun _ => ⟨rfl, er 1 (by decide)⟩, fun z => absurd s3 z⟩⟩
  · obtain ⟨t1, t2, t3, t4, t5⟩ := hS k hk
    apply zu_put hk
    rw [zon_n (by omega), t1, t2]
    refine ⟨fun z => absurd z s1, fun _ => ⟨fun _ => ⟨ik, fun b0 => ?_, fun b0 => ⟨fun c1 => ?_, fun c1 => ⟨ik, fun c2 => ⟨ik, zrf_sheet hk, ik, ?_⟩, fun c2 => ?_⟩⟩⟩, fun z => absurd s2 z⟩⟩
    · apply zg_X11_put
      rw [r93, zon_n (by omega)]
      exact ⟨fun z => absurd z s1, fun _ => ⟨fun z => absurd z s3, fun _ => ⟨ik, fun _ => ⟨rfl, er 2 (by decide)⟩, fun z => absurd b0 z⟩⟩⟩
    · apply zg_X11_put
      rw [r93, zon_n (by omega)]
      exact ⟨fun z => absurd z s1, fun _ => ⟨fun z => absurd z s3, fun _ => ⟨ik, fun z => absurd z b0, fun _ => ⟨ik, fun _ => ⟨rfl, er 1 (by decide)⟩, fun z => absurd c1 z⟩⟩⟩⟩
    · obtain ⟨i, rfl, hi⟩ := zof (x := b) (m := 24) (n := 24) c1 (by grind) rfl
      have ii : zm_inb (zon i) 24 = true := by rw [zon_inb (by omega)]; omega
      have c3 : ¬ M.1 94 k - 1 < zon i := by grind
      have fin : ∀ v : Int32, v = (c <<< ((32 - M.1 93 k) &&& 31)) >>> ((32 - M.1 93 k) &&& 31) → zi (d + 2) 193 [.ref 82, .int (zon k), .int (zon i), .int c] (zm_si M (77 + k) i v) (fun w M2 => 1 = w ∧ Inv M2) := fun v hv => by
        apply zg_X11_put
        rw [zS, zon_n (show k < 2000 by omega), zon_n (show 24 * k + i < 2000 by omega), zI_si_rne (show 93 ≠ 77 + k by omega), zI_si_rne (show 94 ≠ 77 + k by omega), ← hv]
        refine ⟨fun z => absurd z s1, fun _ => ⟨fun z => absurd z s3, fun _ => ⟨ik, fun z => absurd z b0, fun _ => ⟨ik, fun z => absurd z c1, fun _ => ⟨fun z => absurd z c3, fun _ => ⟨ik, by rw [zon_inb (by omega)]; omega, rfl, ?_⟩⟩⟩⟩⟩⟩
        refine h.sheets (fun cc hc => ?_) (hS.lay (k := k) (fun q hq hqk => ?_) ?_)
        · simp only [List.mem_cons, List.not_mem_nil, or_false, not_or] at hc
          rw [zI_si_rne (by omega), zI_si_rne (by omega)]
        · refine ⟨by rw [zI_si_ne (by decide), zI_si_ne (by omega)], by rw [zI_si_ne (by decide), zI_si_ne (by omega)], by rw [zI_si_ne (by decide), zI_si_ne (by omega)], by rw [zI_si_ne (by decide), zI_si_ne (by omega)], fun j hj => by rw [zI_si_ne (by omega), zI_si_ne (by omega)], fun j hj => by rw [zI_si, if_pos rfl, if_neg (by omega), zI_si_ne (by omega)]⟩
        · rw [zI_si_ne (show 74 ≠ 95 by decide), zI_si_ne (show 74 ≠ 77 + k by omega), zI_si_ne (show 93 ≠ 95 by decide), zI_si_ne (show 93 ≠ 77 + k by omega), zI_si_ne (show 75 ≠ 95 by decide), zI_si_ne (show 75 ≠ 77 + k by omega), zI_si_ne (show 94 ≠ 95 by decide), zI_si_ne (show 94 ≠ 77 + k by omega)]
          refine ⟨t1, t2, t3, t4, fun j hj => ?_⟩
          rw [zI_si_ne (show 77 + k ≠ 95 by omega), zI_si, if_pos rfl, zI_si, if_pos rfl]
          by_cases hji : j = i
          · rw [if_pos hji, if_pos (by omega)]
          · rw [if_neg hji, if_neg (by omega), zI_si_ne (by omega)]
            exact t5 j hj
      rw [zon_n (by omega)]
      refine ⟨fun w => ⟨ii, fin _ ?_⟩, fun w => ⟨fun w2 => ⟨ii, fin _ ?_⟩, fun w2 => ⟨ii, fin _ ?_⟩⟩⟩
      · rw [w]
        exact (zsx8 c).symm
      · rw [w2]
        exact (zsx16 c).symm
      · have w3 : M.1 93 k = 32 := by
          rcases t3 with z | z | z | z
          · exact absurd z b0
          · exact absurd z w
          · exact absurd z w2
          · exact z
        rw [w3]
        exact (zsx32 c).symm
    · have c3 : M.1 94 k - 1 < b := by grind
      apply zg_X11_put
      rw [r93, r94, zon_n (by omega)]
      exact ⟨fun z => absurd z s1, fun _ => ⟨fun z => absurd z s3, fun _ => ⟨ik, fun z => absurd z b0, fun _ => ⟨ik, fun z => absurd z c1, fun _ => ⟨fun _ => ⟨rfl, er 1 (by decide)⟩, fun z => absurd c3 z⟩⟩⟩⟩⟩
theorem R_mv2 {d l jj nn : Nat} {src : Nat → Int32} {Q : Int32 → zm_M → Prop} (hl : l < 4) (hj : jj + nn ≤ 24) : ∀ (n i : Nat) (M : zm_M), i + n = nn → (∀ v, v < nn → M.1 96 v = src v) → (∀ v, v < i → M.1 95 (24 * l + jj + v) = src v) → (∀ M1, (∀ c, c ≠ 95 → M1.1 c = M.1 c) → (∀ v, v < nn → M1.1 95 (24 * l + jj + v) = src v) → (∀ x, x < 24 * l + jj ∨ 24 * l + jj + nn ≤ x → M1.1 95 x = M.1 95 x) → Q (zon nn) M1) → zt d 194 152 [some (.ref 82), none, none, some (.int (zon l)), some (.int (zon jj)), some (.int (zon nn)), some (.int (zon i))] [] M (zPi Q)
  | 0, i, M, hi, h96, h0, hQ => by
    apply zg_X11_move_p152
    rw [zon_lt (by omega) (by omega)]
    exact ⟨fun z => absurd z (by omega), fun _ => hQ M (fun _ _ => rfl) (fun v hv => h0 v (by omega)) (fun _ _ => rfl)⟩
  | n + 1, i, M, hi, h96, h0, hQ => by
    apply zg_X11_move_p152
    rw [zon_lt (by omega) (by omega), zS, zon_add, zon_n (show 24 * l + jj + i < 2000 by omega), zon_n (show i < 2000 by omega), zon_s, h96 i (by omega)]
    refine ⟨fun _ => ⟨by rw [zon_inb (by omega)]; omega, by rw [zon_inb (by omega)]; omega, ?_⟩, fun z => absurd (by omega) z⟩
    refine R_mv2 hl hj n (i + 1) _ (by omega) (fun v hv => by rw [zI_si_ne (by decide)]; exact h96 v hv) (fun v hv => ?_) (fun M1 f1 g1 g2 => hQ M1 (fun c hc => by rw [f1 c hc, zI_si_rne hc]) g1 (fun x hx => ?_))
    · rw [zI_si, if_pos rfl]
      by_cases hvi : v = i
      · rw [if_pos (by omega), hvi]
      · rw [if_neg (by omega)]
        exact h0 v (by omega)
    · rw [g2 x hx, zI_si, if_pos rfl, if_neg (by omega)]
theorem R_mv1 {d k ii l jj nn : Nat} {src : Nat → Int32} {Q : Int32 → zm_M → Prop} (hk : k < 4) (hi2 : ii + nn ≤ 24) (hl : l < 4) (hj : jj + nn ≤ 24) (K : zm_M → Prop) (hK : ∀ M1, K M1 → zt d 194 152 [some (.ref 82), none, none, some (.int (zon l)), some (.int (zon jj)), some (.int (zon nn)), some (.int 0)] [] M1 (zPi Q)) : ∀ (n i : Nat) (M : zm_M), i + n = nn → (∀ v, v < nn → M.1 95 (24 * k + ii + v) = src v) → (∀ v, v < i → M.1 96 v = src v) → (∀ M1, (∀ c, c ≠ 96 → M1.1 c = M.1 c) → (∀ v, v < nn → M1.1 96 v = src v) → K M1) → zt d 194 115 [some (.ref 82), some (.int (zon k)), some (.int (zon ii)), some (.int (zon l)), some (.int (zon jj)), some (.int (zon nn)), some (.int (zon i))] [] M (zPi Q)
  | 0, i, M, hi, h95, h0, hQ => by
    apply zg_X11_move_p115
    rw [zon_lt (by omega) (by omega)]
    exact ⟨fun z => absurd z (by omega), fun _ => hK M (hQ M (fun _ _ => rfl) (fun v hv => h0 v (by omega)))⟩
  | n + 1, i, M, hi, h95, h0, hQ => by
    apply zg_X11_move_p115
    rw [zon_lt (by omega) (by omega), zS, zon_add, zon_n (show 24 * k + ii + i < 2000 by omega), zon_n (show i < 2000 by omega), zon_s, h95 i (by omega)]
    refine ⟨fun _ => ⟨by rw [zon_inb (by omega)]; omega, by rw [zon_inb (by omega)]; omega, ?_⟩, fun z => absurd (by omega) z⟩
    refine R_mv1 hk hi2 hl hj K hK n (i + 1) _ (by omega) (fun v hv => by rw [zI_si_ne (by decide)]; exact h95 v hv) (fun v hv => ?_) (fun M1 f1 g1 => hQ M1 (fun c hc => by rw [f1 c hc, zI_si_rne hc]) g1)
    rw [zI_si, if_pos rfl]
    by_cases hvi : v = i
    · rw [if_pos hvi, hvi]
    · rw [if_neg hvi]
      exact h0 v (by omega)
theorem pair_move {d : Nat} {M : zm_M} {a b c e f : Int32} (h : Inv M) : zi (d + 1) 89 [.ref 0, .int a, .int b, .int c, .int e, .int f] M (fun v M1 => zi (d + 2) 194 [.ref 82, .int a, .int b, .int c, .int e, .int f] M1 (fun w M2 => v = w ∧ Inv M2)) := by
  have hS := h.2.2.1
  have er : ∀ k, k < 7 → Inv (zm_si (zm_si M 81 k (M.1 81 k + 1)) 86 k ((zm_si M 81 k (M.1 81 k + 1)).1 86 k + 1)) := fun k hk => h.err1 hk
  have r93 : ∀ j v, (zm_si M 81 j v).1 93 = M.1 93 := fun j v => zI_si_rne (by decide)
  have r94 : ∀ j v, (zm_si M 81 j v).1 94 = M.1 94 := fun j v => zI_si_rne (by decide)
  rcases scase a with (s1 | ⟨s1, s2, s3⟩) | ⟨k, rfl, hk, ⟨s1, s2, s3⟩, ik⟩
  · apply zg_X10_move_q0_q1
    refine ⟨fun _ => ?_, fun z => absurd s1 z⟩
    apply zg_X11_move
    exact ⟨fun _ => ⟨rfl, er 1 (by decide)⟩, fun z => absurd s1 z⟩
  · apply zg_X10_move_q0_q1
    refine ⟨fun z => absurd z s1, fun _ => ⟨fun z => absurd z s2, fun _ => ?_⟩⟩
    apply zg_X11_move
    exact ⟨fun z => absurd z s1, fun _ => ⟨fun _ => ⟨rfl, er 1 (by decide)⟩, fun z => absurd s3 z⟩⟩
  · rcases scase c with (u1 | ⟨u1, u2, u3⟩) | ⟨l, rfl, hl, ⟨u1, u2, u3⟩, il⟩
    · apply zg_X10_move_q0_q1
      refine ⟨fun z => absurd z s1, fun _ => ⟨fun _ => ⟨fun _ => ?_, fun z => absurd u1 z⟩, fun z => absurd s2 z⟩⟩
      apply zg_X11_move
      exact ⟨fun z => absurd z s1, fun _ => ⟨fun z => absurd z s3, fun _ => ⟨fun _ => ⟨rfl, er 1 (by decide)⟩, fun z => absurd u1 z⟩⟩⟩
    · apply zg_X10_move_q0_q1
      refine ⟨fun z => absurd z s1, fun _ => ⟨fun _ => ⟨fun z => absurd z u1, fun _ => ⟨fun z => absurd z u2, fun _ => ?_⟩⟩, fun z => absurd s2 z⟩⟩
      apply zg_X11_move
      exact ⟨fun z => absurd z s1, fun _ => ⟨fun z => absurd z s3, fun _ => ⟨fun z => absurd z u1, fun _ => ⟨fun _ => ⟨rfl, er 1 (by decide)⟩, fun z => absurd u3 z⟩⟩⟩⟩
    · obtain ⟨t1, t2, t3, t4, t5⟩ := hS k hk
      obtain ⟨v1, v2, v3, v4, v5⟩ := hS l hl
      apply zu_move hk hl
      rw [zon_n (show k < 2000 by omega), zon_n (show l < 2000 by omega), t1, t2, v1, v2]
      refine ⟨fun z => absurd z s1, fun _ => ⟨fun _ => ⟨fun z => absurd z u1, fun _ => ⟨fun _ => ⟨ik, fun b0 => ?_, fun b0 => ⟨il, fun d0 => ?_, fun d0 => ⟨ik, il, fun bb => ?_, fun bb => ?_⟩⟩⟩, fun z => absurd u2 z⟩⟩, fun z => absurd s2 z⟩⟩
      · apply zg_X11_move
        rw [r93, zon_n (show k < 2000 by omega)]
        exact ⟨fun z => absurd z s1, fun _ => ⟨fun z => absurd z s3, fun _ => ⟨fun z => absurd z u1, fun _ => ⟨fun z => absurd z u3, fun _ => ⟨ik, fun _ => ⟨rfl, er 2 (by decide)⟩, fun z => absurd b0 z⟩⟩⟩⟩⟩
      · apply zg_X11_move
        rw [r93, zon_n (show k < 2000 by omega), zon_n (show l < 2000 by omega)]
        exact ⟨fun z => absurd z s1, fun _ => ⟨fun z => absurd z s3, fun _ => ⟨fun z => absurd z u1, fun _ => ⟨fun z => absurd z u3, fun _ => ⟨ik, fun z => absurd z b0, fun _ => ⟨il, fun _ => ⟨rfl, er 2 (by decide)⟩, fun z => absurd d0 z⟩⟩⟩⟩⟩⟩
      · have bad : (f < 0 ∨ b < 0 ∨ e < 0 ∨ M.1 94 k - f < b ∨ M.1 94 l - f < e) → zi (d + 2) 194 [.ref 82, .int (zon k), .int b, .int (zon l), .int e, .int f] (zm_si M 81 1 (M.1 81 1 + 1)) (fun w M2 => -1000000000 - 1 = w ∧ Inv M2) := fun hc => by
          have q : ∀ {x : Int32}, x = -1000000000 - 1 → (-1000000000 - 1 : Int32) = x ∧ Inv (zm_si (zm_si M 81 1 (M.1 81 1 + 1)) 86 1 ((zm_si M 81 1 (M.1 81 1 + 1)).1 86 1 + 1)) := fun hx => ⟨hx.symm, er 1 (by decide)⟩
          apply zg_X11_move
          rw [r93, r94, zon_n (show k < 2000 by omega), zon_n (show l < 2000 by omega)]
          refine ⟨fun z => absurd z s1, fun _ => ⟨fun z => absurd z s3, fun _ => ⟨fun z => absurd z u1, fun _ => ⟨fun z => absurd z u3, fun _ => ⟨ik, fun z => absurd z b0, fun _ => ⟨il, fun z => absurd z d0, fun _ => ⟨ik, il, fun _ => ⟨fun _ => q rfl, fun y1 => ⟨fun _ => q rfl, fun y2 => ⟨fun _ => q rfl, fun y3 => ⟨ik, fun _ => q rfl, fun y4 => ⟨il, fun _ => q rfl, fun y5 => ?_⟩⟩⟩⟩⟩, fun z => absurd bb z⟩⟩⟩⟩⟩⟩⟩
          rcases hc with y | y | y | y | y <;> contradiction
        refine ⟨fun y => bad (Or.inl y), fun n0 => ⟨fun y => bad (Or.inr (Or.inl y)), fun i0 => ⟨ik, fun y => bad (Or.inr (Or.inr (Or.inr (Or.inl (by grind))))), fun y1 => ⟨ik, fun y => bad (Or.inr (Or.inr (Or.inr (Or.inl y)))), fun y2 => ⟨fun y => absurd y n0, fun _ => ⟨fun y => bad (Or.inr (Or.inr (Or.inl y))), fun j0 => ⟨il, fun y => bad (Or.inr (Or.inr (Or.inr (Or.inr (by grind))))), fun y3 => ⟨il, fun y => bad (Or.inr (Or.inr (Or.inr (Or.inr y)))), fun y4 => ⟨ik, zrf_sheet hk, il, zrf_sheet hl, ?_⟩⟩⟩⟩⟩⟩⟩⟩⟩
        obtain ⟨sk, eSk, hsk⟩ := zof2 (x := M.1 94 k) (m := 24) (n := 24) t4.1 t4.2 rfl
        obtain ⟨sl, eSl, hsl⟩ := zof2 (x := M.1 94 l) (m := 24) (n := 24) v4.1 v4.2 rfl
        obtain ⟨nn, rfl, hnn⟩ := zof2 (x := f) (m := zon sk) (n := sk) (by grind) (by rw [← eSk]; grind) (zon_i (by omega))
        have hnl : nn ≤ sl := by
          have := y3
          rw [eSl, zon_lt (by omega) (by omega)] at this
          omega
        rw [eSk, show zon sk - zon nn = zon (sk - nn) from (Int32.ofNat_sub sk nn hnn).symm] at y2
        rw [eSl, show zon sl - zon nn = zon (sl - nn) from (Int32.ofNat_sub sl nn hnl).symm] at y4
        obtain ⟨ii, rfl, hii⟩ := zof2 (x := b) (m := zon (sk - nn)) (n := sk - nn) (by grind) (by grind) (zon_i (by omega))
        obtain ⟨jj, rfl, hjj⟩ := zof2 (x := e) (m := zon (sl - nn)) (n := sl - nn) (by grind) (by grind) (zon_i (by omega))
        rw [zon_n (by omega), zon_n (by omega), zon_n (by omega)]
        refine ⟨⟨i0, j0, n0, by omega, by omega⟩, ?_⟩
        have m93 : ∀ g, (zm_sr M (77 + l) g).1 93 = M.1 93 := fun g => zI_sr_rne (by omega)
        have m94 : ∀ g, (zm_sr M (77 + l) g).1 94 = M.1 94 := fun g => zI_sr_rne (by omega)
        apply zg_X11_move
        rw [m93, m94, zon_n (show k < 2000 by omega), zon_n (show l < 2000 by omega), eSk, eSl, show zon sk - zon nn = zon (sk - nn) from (Int32.ofNat_sub sk nn hnn).symm, show zon sl - zon nn = zon (sl - nn) from (Int32.ofNat_sub sl nn hnl).symm]
        refine ⟨fun z => absurd z s1, fun _ => ⟨fun z => absurd z s3, fun _ => ⟨fun z => absurd z u1, fun _ => ⟨fun z => absurd z u3, fun _ => ⟨ik, fun z => absurd z b0, fun _ => ⟨il, fun z => absurd z d0, fun _ => ⟨ik, il, fun _ => ⟨fun z => absurd z n0, fun _ => ⟨fun z => absurd z i0, fun _ => ⟨fun z => absurd z j0, fun _ => ⟨ik, fun z => absurd z y2, fun _ => ⟨il, fun z => absurd z y4, fun _ => ?_⟩⟩⟩⟩⟩, fun z => absurd bb z⟩⟩⟩⟩⟩⟩⟩
        refine R_mv1 (src := fun v => M.1 95 (24 * k + ii + v)) hk (by omega) hl (by omega) (fun M1 => (∀ cc, cc ≠ 96 → M1.1 cc = (zm_sr M (77 + l) (va_cpy (M.1 (77 + k)) (M.1 (77 + l)) ii jj nn)).1 cc) ∧ ∀ v, v < nn → M1.1 96 v = M.1 95 (24 * k + ii + v)) (fun M1 hK => ?_) nn 0 _ (by omega) (fun v hv => by rw [zI_sr_rne (by omega)]) (fun v hv => absurd hv (Nat.not_lt_zero _)) (fun M1 f1 g1 => ⟨f1, g1⟩)
        refine R_mv2 (src := fun v => M.1 95 (24 * k + ii + v)) hl (by omega) nn 0 M1 (by omega) hK.2 (fun v hv => absurd hv (Nat.not_lt_zero _)) (fun M2 f2 g2 g3 => ⟨rfl, ?_⟩)
        have c0 : ∀ cc, cc ≠ 77 + l → cc ≠ 95 → cc ≠ 96 → M2.1 cc = M.1 cc := fun cc h1 h2 h3 => by rw [f2 cc h2, hK.1 cc h3, zI_sr_rne h1]
        have k77 : M2.1 (77 + l) = va_cpy (M.1 (77 + k)) (M.1 (77 + l)) ii jj nn := by rw [f2 (77 + l) (by omega), hK.1 (77 + l) (by omega), zI_sr_row]
        have k95 : ∀ x, x < 24 * l + jj ∨ 24 * l + jj + nn ≤ x → M2.1 95 x = M.1 95 x := fun x hx => by rw [g3 x hx, hK.1 95 (by decide), zI_sr_rne (by omega)]
        refine h.sheets (fun cc hc => ?_) (hS.lay (k := l) (fun q hq hql => ?_) ?_)
        · simp only [List.mem_cons, List.not_mem_nil, or_false, not_or] at hc
          exact c0 cc (by omega) (by omega) (by omega)
        · rw [c0 74 (by omega) (by decide) (by decide), c0 75 (by omega) (by decide) (by decide), c0 93 (by omega) (by decide) (by decide), c0 94 (by omega) (by decide) (by decide), c0 (77 + q) (by omega) (by omega) (by omega)]
          exact ⟨rfl, rfl, rfl, rfl, fun j hj => rfl, fun j hj => k95 _ (by omega)⟩
        · rw [c0 74 (by omega) (by decide) (by decide), c0 75 (by omega) (by decide) (by decide), c0 93 (by omega) (by decide) (by decide), c0 94 (by omega) (by decide) (by decide), k77]
          refine ⟨v1, v2, v3, v4, fun j hj => ?_⟩
          unfold va_cpy
          by_cases hjr : jj ≤ j ∧ j < jj + nn
          · rw [if_pos hjr]
            have g := g2 (j - jj) (by omega)
            rw [show 24 * l + jj + (j - jj) = 24 * l + j by omega] at g
            rw [g, t5 _ (by omega), show 24 * k + (ii + (j - jj)) = 24 * k + ii + (j - jj) by omega]
          · rw [if_neg hjr, k95 _ (by omega)]
            exact v5 j hj
      · apply zg_X11_move
        rw [r93, zon_n (show k < 2000 by omega), zon_n (show l < 2000 by omega)]
        exact ⟨fun z => absurd z s1, fun _ => ⟨fun z => absurd z s3, fun _ => ⟨fun z => absurd z u1, fun _ => ⟨fun z => absurd z u3, fun _ => ⟨ik, fun z => absurd z b0, fun _ => ⟨il, fun z => absurd z d0, fun _ => ⟨ik, il, fun z => absurd z bb, fun _ => ⟨rfl, er 5 (by decide)⟩⟩⟩⟩⟩⟩⟩⟩

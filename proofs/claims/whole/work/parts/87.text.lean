/-! Pair of calls: text. -/
theorem cp60 (f g : Nat → Int32) (p : Nat) (hp : p < 60) : va_cpy f g 0 0 60 p = f p := by
  unfold va_cpy
  rw [if_pos (by omega), show 0 + (p - 0) = p by omega]
theorem X_reads {e L u : Nat} {b : Nat → Int32} {g2 : tS} {ok : Bool} {M : zm_M} {Q : Int32 → zm_M → Prop} (hu : u ≤ 1) (hL : L ≤ 60) (ht : ∀ k, k < 60 → M.1 19 k = b k) (hby : tBy b L) (hr : Rd b L u 0 0 (0, 0, fun _ => 0, fun _ => 0) ok g2) (hQ : ∀ M2, XS b L u g2 M2 → (∀ k, k ∉ [68, 69, 70] → M2.1 k = M.1 k) → Q (if ok = true ∧ g2.1 = L then 1 else 0) M2) : zi (e + 72) 23 [.ref 68, .ref 19, .int (zon L), .ref (110 + u)] M Q := by
  have st : ∀ M0, M0 = (zm_si (zm_si (zm_ss (zm_si (zm_sr M 70 (va_cpy (M.1 19) (M.1 70) 0 0 60)) 68 4 (zon L)) (110 + u)) 68 1 0) 68 2 0) → zi (e + 71) 24 [.ref 68, .int 0, .int 0] M0 (fun x2 M1 => (x2 = (0 : Int32) → Q 0 M1) ∧ (¬ x2 = (0 : Int32) → ((M1.1 68 2) = (M1.1 68 4) → Q 1 M1) ∧ (¬ (M1.1 68 2) = (M1.1 68 4) → Q 0 M1))) := fun M0 hM0 => by
    have f0 : ∀ k, k ∉ [68, 69, 70] → M0.1 k = M.1 k := fun k hk => by
      have k68 : k ≠ 68 := fun z => hk (by rw [z]; decide)
      have k70 : k ≠ 70 := fun z => hk (by rw [z]; decide)
      rw [hM0, zI_si_rne k68, zI_si_rne k68]
      show (zm_si (zm_sr M 70 (va_cpy (M.1 19) (M.1 70) 0 0 60)) 68 4 (zon L)).1 k = M.1 k
      rw [zI_si_rne k68, zI_sr_rne k70]
    have hX : XS b L u (0, 0, fun _ => 0, fun _ => 0) M0 := by
      rw [hM0]
      refine ⟨⟨zI_si_eq, ?_, ?_, rfl⟩, ⟨Nat.le_refl _, Nat.zero_le _, hL⟩, fun k hk => ?_, fun k hk => absurd hk (Nat.not_lt_zero _)⟩
      · rw [zI_si, if_pos rfl, if_neg (by decide)]
        exact zI_si_eq
      · rw [zI_si, if_pos rfl, if_neg (by decide), zI_si, if_pos rfl, if_neg (by decide)]
        exact zI_si_eq (M := zm_sr M 70 (va_cpy (M.1 19) (M.1 70) 0 0 60)) (k := 68) (j := 4) (v := zon L)
      · rw [zI_si_ne (by decide), zI_si_ne (by decide)]
        show (zm_si (zm_sr M 70 (va_cpy (M.1 19) (M.1 70) 0 0 60)) 68 4 (zon L)).1 70 k = b k
        rw [zI_si_ne (by decide), zI_sr_row, cp60 _ _ _ hk]
        exact ht k hk
    refine ((X_rd hu hby hr).2 (by omega) _ M0 hX (fun M2 h2 f2 => ?_)).1 (by omega) (e + 71) (by omega)
    have f3 : ∀ k, k ∉ [68, 69, 70] → M2.1 k = M.1 k := fun k hk => ((zfr_sub (L2 := [68, 69, 70]) f2 (by decide)).1 k hk).trans (f0 k hk)
    have q := hQ M2 h2 f3
    cases ok with
    | false =>
      rw [if_neg (fun z => by cases z.1)] at q
      exact ⟨fun _ => q, fun z => absurd rfl z⟩
    | true =>
      refine ⟨fun z => absurd z (by decide), fun _ => ?_⟩
      have hb := h2.2.1
      rw [h2.1.1, h2.1.2.2.1, zon_inj (by omega) (by omega)]
      refine ⟨fun z => ?_, fun z => ?_⟩
      · rw [if_pos ⟨rfl, z⟩] at q
        exact q
      · rw [if_neg (fun y => z y.2)] at q
        exact q
  have u01 : u = 0 ∨ u = 1 := by omega
  rcases u01 with rfl | rfl
  · apply zg_X4_reads_r68_19_110
    exact st _ rfl
  · apply zg_X4_reads_r68_19_111
    exact st _ rfl
theorem R_copy {e v n : Nat} {s0 : Nat → Int32} {Q : Int32 → zm_M → Prop} (hn : n ≤ 60) (hv : v < 272) : ∀ (m i : Nat) (M : zm_M), i + m = 2 * n → M.1 82 7 = zon n → (∀ k, M.1 83 k = if v + 1 ≤ k ∧ k < v + 1 + i then M.1 87 (k - (v + 1)) else s0 k) → (∀ M2, (∀ k, M2.1 83 k = if v + 1 ≤ k ∧ k < v + 1 + 2 * n then M.1 87 (k - (v + 1)) else s0 k) → zfr [83] M M2 → Q 1 M2) → zt e 144 102 [some (.ref 82), none, none, some (.int (zon v)), some (.int (zon i))] [] M (zPi Q) := by
  intro m
  induction m with
  | zero =>
    intro i M hi h7 h83 hQ
    apply zg_X11_text_p102
    rw [h7, zon_2, zon_lt (by omega) (by omega)]
    refine ⟨fun z => absurd z (by omega), fun _ => hQ M (fun k => ?_) zfr_rfl⟩
    rw [h83 k, show i = 2 * n by omega]
  | succ m ih =>
    intro i M hi h7 h83 hQ
    apply zg_X11_text_p102
    rw [h7, zon_2, zon_lt (by omega) (by omega), zon_s, zon_s, zon_add, zon_n (by omega), zon_n (by omega)]
    refine ⟨fun _ => ⟨by rw [zon_inb (by omega)]; omega, by rw [zon_inb (by omega)]; omega, ?_⟩, fun z => absurd (by omega) z⟩
    have r87 : (zm_si M 83 (v + 1 + i) (M.1 87 i)).1 87 = M.1 87 := zI_si_rne (by decide)
    refine ih (i + 1) _ (by omega) (by rw [zI_si_ne (by decide)]; exact h7) (fun k => ?_) (fun M2 h2 f2 => hQ M2 (fun k => ?_) (zfr_trans (zfr_si (by decide)) f2))
    · rw [zI_si, if_pos rfl, r87]
      by_cases ek : k = v + 1 + i
      · rw [if_pos ek, if_pos (by omega), ek, show v + 1 + i - (v + 1) = i by omega]
      · rw [if_neg ek, h83 k]
        by_cases hk : v + 1 ≤ k ∧ k < v + 1 + i
        · rw [if_pos hk, if_pos (by omega)]
        · rw [if_neg hk, if_neg (by omega)]
    · rw [h2 k, r87]
/-- the reference's text from its reading on -/
theorem R_text {e L u : Nat} {b : Nat → Int32} {g2 : tS} {ok : Bool} {M : zm_M} {Q : Int32 → zm_M → Prop} (hu : u ≤ 1) (hL : L ≤ 60) (h4 : M.1 83 4 = zon L) (ht : ∀ k, k < 60 → M.1 83 (396 + k) = b k) (hr : Rd b L u 0 0 (0, 0, fun _ => 0, fun _ => 0) ok g2) (hF : ¬ (ok = true ∧ g2.1 = L) → ∀ M2, (∀ k, k ∉ [82, 83, 87] → M2.1 k = M.1 k) → (∀ j, j = 3 ∨ j = 16 → M2.1 82 j = M.1 82 j) → M2.1 83 = upd (M.1 83) 4 0 → Q (-10 - zon g2.1) M2) (hT : ok = true → g2.1 = L → ∀ M2, (∀ k, k ∉ [82, 83, 87] → M2.1 k = M.1 k) → (∀ j, j = 3 ∨ j = 16 → M2.1 82 j = M.1 82 j) → (∀ k, k < g2.2.1 → M2.1 83 (147 + 125 * u + 2 * k) = g2.2.2.1 k ∧ M2.1 83 (147 + 125 * u + 2 * k + 1) = g2.2.2.2 k) → M2.1 83 (146 + 125 * u) = zon g2.2.1 → (∀ k, k < 146 + 125 * u ∨ 271 + 125 * u ≤ k → M2.1 83 k = upd (M.1 83) 4 0 k) → Q 1 M2) : zi (e + 37) 144 [.ref 82, .int (zon u)] M Q := by
  apply zg_X11_text
  refine ⟨fun z => absurd z (zon_nn (by omega)), fun _ => ⟨fun z => ?_, fun _ => ?_⟩⟩
  · have y : (zon 1 < zon u) = _ := zon_lt (by omega) (by omega)
    rw [show (1 : Int32) = zon 1 from rfl, y] at z
    omega
  have eM : ∀ M0, M0 = (zm_si (zm_si (zm_si (zm_si M 82 8 (zon u)) 82 5 0) 82 6 0) 82 7 0) → RS b L u (0, 0, fun _ => 0, fun _ => 0) M0 ∧ M0.1 82 6 = zon 0 ∧ (∀ k, k ≠ 82 → M0.1 k = M.1 k) ∧ (∀ j, j = 3 ∨ j = 16 → M0.1 82 j = M.1 82 j) := fun M0 hM0 => by
    rw [hM0]
    refine ⟨⟨⟨?_, zI_si_eq, ?_, ?_⟩, ⟨Nat.le_refl _, Nat.zero_le _, hL⟩, fun k hk => ?_, fun k hk => absurd hk (Nat.not_lt_zero _)⟩, ?_, fun k hk => ?_, fun j hj => ?_⟩
    · rw [zI_si, if_pos rfl, if_neg (by decide), zI_si, if_pos rfl, if_neg (by decide)]
      exact zI_si_eq
    · rw [zI_si, if_pos rfl, if_neg (by decide), zI_si, if_pos rfl, if_neg (by decide), zI_si, if_pos rfl, if_neg (by decide)]
      exact zI_si_eq
    · rw [zI_si_ne (by decide), zI_si_ne (by decide), zI_si_ne (by decide), zI_si_ne (by decide)]
      exact h4
    · rw [zI_si_ne (by decide), zI_si_ne (by decide), zI_si_ne (by decide), zI_si_ne (by decide)]
      exact ht k hk
    · rw [zI_si, if_pos rfl, if_neg (by decide)]
      exact zI_si_eq
    · rw [zI_si_rne hk, zI_si_rne hk, zI_si_rne hk, zI_si_rne hk]
    · rw [zI_si, if_pos rfl, if_neg (by omega), zI_si, if_pos rfl, if_neg (by omega), zI_si, if_pos rfl, if_neg (by omega), zI_si, if_pos rfl, if_neg (by omega)]
  obtain ⟨hX, h6, f0, j0⟩ := eM _ rfl
  generalize (zm_si (zm_si (zm_si (zm_si M 82 8 (zon u)) 82 5 0) 82 6 0) 82 7 0) = M0 at hX h6 f0 j0
  refine ((R_rd hu hr).2 (by omega) _ M0 hX h6 (fun M1 h1 o1 f1 => ?_) (e + 35)).1 (by omega) (by omega)
  have hb := h1.2.1
  have k1 : ∀ k, k ∉ [82, 83, 87] → M1.1 k = M.1 k := fun k hk => by
    exact ((zfr_sub (L2 := [82, 83, 87]) f1.1 (by decide)).1 k hk).trans (f0 k (fun z => hk (by rw [z]; decide)))
  have k83 : M1.1 83 = M.1 83 := (f1.1.1 83 (by decide)).trans (f0 83 (by decide))
  have kj : ∀ j, j = 3 ∨ j = 16 → M1.1 82 j = M.1 82 j := fun j hj => (f1.2 j (by omega) (by omega) (by omega)).trans (j0 j hj)
  have fl : ¬ (ok = true ∧ g2.1 = L) → Q (-10 - (M1.1 82 5)) (zm_si M1 83 4 0) := fun hn => by
    rw [h1.1.1]
    refine hF hn _ (fun k hk => ?_) (fun j hj => ?_) ?_
    · rw [zI_si_rne (fun z => hk (by rw [z]; decide))]
      exact k1 k hk
    · rw [zI_si_ne (by decide)]
      exact kj j hj
    · rw [zI_si_row, k83]
  cases ok with
  | false => exact ⟨fun _ => fl (fun z => by cases z.1), fun z => absurd rfl z⟩
  | true =>
    refine ⟨fun z => absurd z (by decide), fun _ => ?_⟩
    by_cases c : g2.1 = L
    · have c5 : M1.1 82 5 = M1.1 83 4 := by rw [h1.1.1, h1.1.2.2.2, c]
      refine ⟨fun _ => ?_, fun z => absurd c5 z⟩
      have ev : (146 + (125 * zon u) : Int32) = zon (146 + 125 * u) := by
        show zon 146 + zon 125 * zon u = _
        rw [zon_mul, zon_add]
      rw [ev, zon_n (by omega)]
      refine ⟨by rw [zon_inb (by omega)]; omega, ?_⟩
      have s7 : ∀ (j1 j2 : Nat) (x1 x2 : Int32) (k j : Nat), k ≠ 83 → (zm_si (zm_si M1 83 j1 x1) 83 j2 x2).1 k j = M1.1 k j := fun j1 j2 x1 x2 k j hk => by rw [zI_si_ne hk, zI_si_ne hk]
      refine R_copy (e := e + 37) (v := 146 + 125 * u) (n := g2.2.1) (s0 := (zm_si (zm_si M1 83 4 0) 83 (146 + 125 * u) (M1.1 82 7)).1 83) (by omega) (by omega) (2 * g2.2.1) 0 _ (by omega) ?_ (fun k => ?_) (fun M2 h2 f2 => ?_)
      · rw [s7 _ _ _ _ _ _ (by decide)]
        exact h1.1.2.1
      · rw [if_neg (by omega)]
      · have a87 : ∀ j, (zm_si (zm_si M1 83 4 0) 83 (146 + 125 * u) (M1.1 82 7)).1 87 j = M1.1 87 j := fun j => s7 _ _ _ _ _ _ (by decide)
        have a83 : ∀ k, (zm_si (zm_si M1 83 4 0) 83 (146 + 125 * u) (M1.1 82 7)).1 83 k = if k = 146 + 125 * u then zon g2.2.1 else upd (M.1 83) 4 0 k := fun k => by
          rw [zI_si, if_pos rfl, zI_si_row, k83, h1.1.2.1]
        refine hT rfl c M2 (fun k hk => ?_) (fun j hj => ?_) (fun k hk => ⟨?_, ?_⟩) ?_ (fun k hk => ?_)
        · have k3 : k ≠ 83 := fun z => hk (by rw [z]; decide)
          rw [(zfr_sub (L2 := [82, 83, 87]) f2 (by decide)).1 k hk, zI_si_rne k3, zI_si_rne k3]
          exact k1 k hk
        · rw [f2.1 82 (by decide), s7 _ _ _ _ _ _ (by decide)]
          exact kj j hj
        · rw [h2, if_pos (by omega), a87, show 147 + 125 * u + 2 * k - (146 + 125 * u + 1) = 2 * k by omega]
          exact (h1.2.2.2 k hk).1
        · rw [h2, if_pos (by omega), a87, show 147 + 125 * u + 2 * k + 1 - (146 + 125 * u + 1) = 2 * k + 1 by omega]
          exact (h1.2.2.2 k hk).2
        · rw [h2, if_neg (by omega), a83, if_pos rfl]
        · rw [h2, if_neg (by omega), a83, if_neg (by omega)]
    · refine ⟨fun z => absurd ?_ c, fun _ => fl (fun z => c z.2)⟩
      rw [h1.1.1, h1.1.2.2.2, zon_inj (by omega) (by omega)] at z
      exact z

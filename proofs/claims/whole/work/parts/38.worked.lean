/-! What a TEXT is worth: the reference's loop; both, from the state. -/
theorem R_workedL {d : Nat} {Q : Int32 → zm_M → Prop} {f s g : Nat → Int32} {nm : Int32 → Int32} {u N D : Nat} (hu : u ≤ 1) (hN : N ≤ 60) (hD : zdep f N = some D) (hD1 : 1 ≤ D) (hf : ∀ k, f k = s (147 + 125 * u + k)) (hsN : s (146 + 125 * u) = zon N) (hz : ∀ k, k < N → zstp u (g k) (f (2 * k)) (f (2 * k + 1))) : ∀ (left i : Nat) (M : zm_M), i + left = N → M.1 83 = s → (∀ k, k < N → f (2 * k) = 1 → zm_inb (f (2 * k + 1)) 128 = true ∧ M.1 88 (f (2 * k + 1)).toNatClampNeg = nm (f (2 * k + 1))) → (∀ j, j < (evS f nm i).1 → M.1 89 j = (evS f nm i).2 j) → (∀ M1, zfr [89] M M1 → Q ((evS f nm N).2 0) M1) → zt (d + 1) 147 14 [some (.ref 82), none, some (.int (zon (146 + 125 * u))), some (.int (zon (evS f nm i).1)), some (.int (zon i)), none, none] [] M (zPi Q)
  | 0, i, M, hi, hs, hn, hst, hQ => by
    have e : i = N := by omega
    subst e
    apply zg_X11_worked_p14
    rw [hs, zon_n (show 146 + 125 * u < 2000 by omega), hsN]
    refine ⟨by rw [zon_inb (by omega)]; omega, fun z => absurd z (by rw [zon_lt (by omega) (by omega)]; omega), fun _ => ?_⟩
    rw [hst 0 (by rw [evS_dep hD]; omega)]
    exact hQ M zfr_rfl
  | left + 1, i, M, hi, hs, hn, hst, hQ => by
    obtain ⟨e, he⟩ := zdep_pre hD i (by omega)
    obtain ⟨e2, he2⟩ := zdep_pre hD (i + 1) (by omega)
    have hle := zdep_le he
    obtain ⟨e9, he9, p1, p2, -⟩ := zdep_prev he2
    rw [he] at he9
    cases he9
    have es := evS_dep (nm := nm) he
    have st := hz i (by omega)
    have go : ∀ (x : Int32) (e2 j : Nat), evS f nm (i + 1) = (e2, upd (evS f nm i).2 j x) → j ≤ e → j + 1 = e2 → zt (d + 1) 147 14 [some (.ref 82), none, some (.int (zon (146 + 125 * u))), some (.int (zon e2)), some (.int (zon (i + 1))), none, none] [] (zm_si M 89 j x) (zPi Q) := by
      intro x e2 j hev hj hj2
      have r := R_workedL (d := d) hu hN hD hD1 hf hsN hz left (i + 1) (zm_si M 89 j x) (by omega) (by rw [zI_si_rne (by decide)]; exact hs) (fun k hk => by rw [zI_si_ne (by decide)]; exact hn k hk) (fun k hk => by
        rw [hev] at hk ⊢
        show (zm_si M 89 j x).1 89 k = upd (evS f nm i).2 j x k
        rw [zI_si, if_pos rfl]
        unfold upd
        by_cases hkj : k = j
        · rw [if_pos hkj, if_pos hkj]
        · rw [if_neg hkj, if_neg hkj]
          exact hst k (by dsimp only at hk; omega)) (fun M1 f1 => hQ M1 (zfr_trans (zfr_si (by decide)) f1))
      rw [hev] at r
      exact r
    have l1 : zon i < zon N := by rw [zon_lt (by omega) (by omega)]; omega
    have l5 : zm_inb (zon e) 64 = true := by rw [zon_inb (by omega)]; omega
    rw [es] at hst ⊢
    apply zg_X11_worked_p14
    have a1 : (zon (146 + 125 * u) + 1) + (2 * zon i) = zon (147 + 125 * u + 2 * i) := by
      show (zon (146 + 125 * u) + zon 1) + zon 2 * zon i = _
      rw [zon_mul, zon_add, zon_add, show 146 + 125 * u + 1 + 2 * i = 147 + 125 * u + 2 * i by omega]
    have a2 : (zon (146 + 125 * u) + 2) + (2 * zon i) = zon (147 + 125 * u + (2 * i + 1)) := by
      show (zon (146 + 125 * u) + zon 2) + zon 2 * zon i = _
      rw [zon_mul, zon_add, zon_add, show 146 + 125 * u + 2 + 2 * i = 147 + 125 * u + (2 * i + 1) by omega]
    have i0 : zm_inb (zon (146 + 125 * u)) 480 = true := by rw [zon_inb (by omega)]; omega
    have i1 : zm_inb (zon (147 + 125 * u + 2 * i)) 480 = true := by rw [zon_inb (by omega)]; omega
    have i2 : zm_inb (zon (147 + 125 * u + (2 * i + 1))) 480 = true := by rw [zon_inb (by omega)]; omega
    rw [a1, a2, hs, zon_n (show 146 + 125 * u < 2000 by omega), zon_n (show 147 + 125 * u + 2 * i < 2000 by omega), zon_n (show 147 + 125 * u + (2 * i + 1) < 2000 by omega), zon_n (show e < 2000 by omega), zon_s (a := e), zon_s (a := i), hsN, ← hf, ← hf]
    refine ⟨i0, fun _ => ⟨i1, i2, ?_⟩, fun z => absurd l1 z⟩
    unfold zstp at st
    rcases st with ⟨w0, cv, v0, v9⟩ | ⟨w1, hv⟩ | ⟨w2, cv⟩ | ⟨w3, cv, hsg⟩
    · have ev1 : evS f nm (i + 1) = (e + 1, upd (evS f nm i).2 e (f (2 * i + 1))) := by
        rw [evS, if_pos w0, es]
      have g1 := go _ _ _ ev1 (Nat.le_refl _) rfl
      exact ⟨fun _ => ⟨fun _ => ⟨l5, g1⟩, fun z => absurd w0 z⟩, fun z => absurd w0 z⟩
    · have n0 : ¬ f (2 * i) = 0 := by rw [w1]; decide
      have ev1 : evS f nm (i + 1) = (e + 1, upd (evS f nm i).2 e (nm (f (2 * i + 1)))) := by
        rw [evS, if_neg n0, if_pos w1, es]
      have g1 := go _ _ _ ev1 (Nat.le_refl _) rfl
      obtain ⟨m1, m2⟩ := hn i (by omega) w1
      rw [m2]
      exact ⟨fun z => absurd z n0, fun _ => ⟨fun _ => ⟨fun z => absurd z n0, fun _ => ⟨m1, l5, g1⟩⟩, fun z => absurd w1 z⟩⟩
    · have n0 : ¬ f (2 * i) = 0 := by rw [w2]; decide
      have n1 : ¬ f (2 * i) = 1 := by rw [w2]; decide
      have ev1 : evS f nm (i + 1) = (e, upd (evS f nm i).2 (e - 1) (if (evS f nm i).2 (e - 1) = 0 then 1 else 0)) := by
        rw [evS, if_neg n0, if_neg n1, if_pos w2, es]
      have e1 := p1 w2
      have g1 := go _ _ _ ev1 (by omega) (by omega)
      have q2 : zm_inb (zon (e - 1)) 64 = true := by rw [zon_inb (by omega)]; omega
      rw [zon_p e1, zon_n (show e - 1 < 2000 by omega), hst (e - 1) (by omega)]
      refine ⟨fun z => absurd z n0, fun _ => ⟨fun z => absurd z n1, fun _ => ⟨fun _ => ⟨q2, fun z => ⟨q2, ?_⟩, fun z => ⟨q2, ?_⟩⟩, fun z => absurd w2 z⟩⟩⟩
      · rw [if_pos z] at g1
        exact g1
      · rw [if_neg z] at g1
        exact g1
    · have n0 : f (2 * i) ≠ 0 := by rw [w3]; decide
      have n1 : f (2 * i) ≠ 1 := by rw [w3]; decide
      have n2 : f (2 * i) ≠ 2 := by rw [w3]; decide
      have ev1 : evS f nm (i + 1) = (e - 1, upd (evS f nm i).2 (e - 2) (jn (f (2 * i + 1)) ((evS f nm i).2 (e - 2)) ((evS f nm i).2 (e - 1)))) := by
        rw [evS, if_neg n0, if_neg n1, if_neg n2, es]
      have e1 := p2 n0 n1 n2
      have g1 := go _ _ _ ev1 (by omega) (by omega)
      have q2 : zm_inb (zon (e - 1)) 64 = true := by rw [zon_inb (by omega)]; omega
      have q3 : zm_inb (zon (e - 2)) 64 = true := by rw [zon_inb (by omega)]; omega
      rw [zon_m (show 1 ≤ e by omega), zon_p (show 1 ≤ e - 1 by omega), show e - 1 - 1 = e - 2 by omega, zon_n (show e - 1 < 2000 by omega), zon_n (show e - 2 < 2000 by omega), hst (e - 1) (by omega), hst (e - 2) (by omega)]
      exact ⟨fun z => absurd z n0, fun _ => ⟨fun z => absurd z n1, fun _ => ⟨fun z => absurd z n2, fun _ => ⟨q3, q2, R_join hsg ⟨q3, g1⟩⟩⟩⟩⟩
/-- what the TEXT of ANSWERS is worth, in a state with one; that of FRESH -/
def tvA (s : Nat → Int32) (c p h t m : Int32) : Int32 := (evS (fun k => s (147 + k)) (nm0 c p h t m) (s 146).toNatClampNeg).2 0
def tvF (s : Nat → Int32) (p h n : Int32) : Int32 := (evS (fun k => s (272 + k)) (nm1 p h n) (s 271).toNatClampNeg).2 0
theorem X_worthA {d : Nat} {M : zm_M} {s : Nat → Int32} {Q : Int32 → zm_M → Prop} {c p h t m : Int32} (hX : RX M 0 0 s) (h0 : ¬ M.1 21 0 = 0) (hQ : ∀ M1, zfr [23, 24] M M1 → Q (tvA s c p h t m) M1) : zi (d + 1) 38 [.ref 21, .int c, .int p, .int h, .int t, .int m] M Q := by
  rcases hX with ⟨z, -⟩ | ⟨h1, n, hn0, h2, h3, hc, hn, D, hD, hD1⟩
  · exact absurd z h0
  apply zg_X6_worth_r21
  have r := X_worthL0 (d := d) (Q := Q) (f := fun k => s (147 + k)) (nm := nm0 c p h t m) hn hD hD1 n 0 (zm_si (zm_si (zm_si (zm_si (zm_si M 24 0 c) 24 1 p) 24 2 h) 24 3 t) 24 4 m) (Nat.zero_add _) (by simp only [zI_si_ne (show 21 ≠ 24 by decide)]; exact h2) (fun k hk => by simp only [zI_si_ne (show 22 ≠ 24 by decide)]; exact hc k hk) (by simp [zI_si, nm0]) (fun j hj => absurd hj (Nat.not_lt_zero _)) (fun M1 f1 => by
    have e : tvA s c p h t m = (evS (fun k => s (147 + k)) (nm0 c p h t m) n).2 0 := by
      unfold tvA
      rw [show s 146 = zon n from h3, zon_n (by omega)]
    rw [← e]
    refine hQ M1 (zfr_trans ?_ (zfr_sub f1 (by decide)))
    exact zfr_trans (zfr_trans (zfr_trans (zfr_trans (zfr_si (by decide)) (zfr_si (by decide))) (zfr_si (by decide))) (zfr_si (by decide))) (zfr_si (by decide)))
  exact r
theorem X_worthF {d : Nat} {M : zm_M} {s : Nat → Int32} {Q : Int32 → zm_M → Prop} {p h n0 t m : Int32} (hX : RX M 0 1 s) (h0 : ¬ M.1 25 0 = 0) (hQ : ∀ M1, zfr [27, 28] M M1 → Q (tvF s p h n0) M1) : zi (d + 1) 38 [.ref 25, .int p, .int h, .int n0, .int t, .int m] M Q := by
  rcases hX with ⟨z, -⟩ | ⟨h1, n, hn0, h2, h3, hc, hn, D, hD, hD1⟩
  · exact absurd z h0
  apply zg_X6_worth_r25
  have r := X_worthL1 (d := d) (Q := Q) (f := fun k => s (272 + k)) (nm := nm1 p h n0) hn hD hD1 n 0 (zm_si (zm_si (zm_si (zm_si (zm_si M 28 0 p) 28 1 h) 28 2 n0) 28 3 t) 28 4 m) (Nat.zero_add _) (by simp only [zI_si_ne (show 25 ≠ 28 by decide)]; exact h2) (fun k hk => by simp only [zI_si_ne (show 26 ≠ 28 by decide)]; exact hc k hk) (by simp [zI_si, nm1]) (fun j hj => absurd hj (Nat.not_lt_zero _)) (fun M1 f1 => by
    have e : tvF s p h n0 = (evS (fun k => s (272 + k)) (nm1 p h n0) n).2 0 := by
      unfold tvF
      rw [show s 271 = zon n from h3, zon_n (by omega)]
    rw [← e]
    refine hQ M1 (zfr_trans ?_ (zfr_sub f1 (by decide)))
    exact zfr_trans (zfr_trans (zfr_trans (zfr_trans (zfr_si (by decide)) (zfr_si (by decide))) (zfr_si (by decide))) (zfr_si (by decide))) (zfr_si (by decide)))
  exact r
/-- a TEXT that stands, told of the reference's row alone -/
def SX (u : Nat) (s : Nat → Int32) : Prop := s (146 + 125 * u) = 0 ∨ ∃ n : Nat, 0 < n ∧ s (146 + 125 * u) = Int32.ofNat n ∧ ∃ g, zcode u g (fun k => s (147 + 125 * u + k)) n
theorem RX.sx {M : zm_M} {b u : Nat} {s : Nat → Int32} (h : RX M b u s) : SX u s := by
  rcases h with ⟨-, z⟩ | ⟨-, n, h1, -, h2, h3⟩
  · exact Or.inl z
  · exact Or.inr ⟨n, h1, h2, _, h3⟩
theorem RX.stand {M : zm_M} {b u : Nat} {s : Nat → Int32} (h : RX M b u s) : (M.1 (21 + 4 * u + b) 0 = 0 ↔ ¬ 0 < s (146 + 125 * u)) := by
  rcases h with ⟨z, z2⟩ | ⟨z, n, h1, -, h2, h3⟩
  · rw [z, z2]
    exact ⟨fun _ => by decide, fun _ => rfl⟩
  · rw [z, h2]
    refine ⟨fun z => absurd z (by decide), fun y => absurd ?_ y⟩
    have := h3.2.1
    rw [Int32.lt_iff_toInt_lt, show (Int32.ofNat n) = zon n from rfl, zon_i (by omega)]
    simp
    omega
theorem R_workA {d : Nat} {M : zm_M} {s : Nat → Int32} {Q : Int32 → zm_M → Prop} {c p h t m : Int32} (hs : M.1 83 = s) (hX : SX 0 s) (h0 : 0 < s 146) (hn : M.1 88 99 = c ∧ M.1 88 112 = p ∧ M.1 88 104 = h ∧ M.1 88 115 = t ∧ M.1 88 109 = m) (hQ : ∀ M1, zfr [89] M M1 → Q (tvA s c p h t m) M1) : zi (d + 1) 147 [.ref 82, .int 0] M Q := by
  rcases hX with z | ⟨n, hn0, h3, g, hc, hN, D, hD, hD1⟩
  · rw [show s 146 = 0 from z] at h0
    exact absurd h0 (by decide)
  apply zg_X11_worked
  have r := R_workedL (d := d) (Q := Q) (s := s) (u := 0) (f := fun k => s (147 + k)) (nm := nm0 c p h t m) (by omega) hN hD hD1 (fun k => rfl) h3 hc n 0 M (Nat.zero_add _) hs (fun k hk w => by
    have z := hc k hk
    rcases z with ⟨y, -⟩ | ⟨-, y⟩ | ⟨y, -⟩ | ⟨y, -⟩
    · have y := y.symm.trans w; exact absurd y (by decide)
    · rcases y with ⟨-, y⟩ | ⟨y, -⟩
      · rcases y with ⟨y, -⟩ | ⟨y, -⟩ | ⟨y, -⟩ | ⟨y, -⟩ | ⟨y, -⟩ <;> (simp only [Nat.mul_zero, Nat.add_zero] at y ⊢; rw [y])
        · exact ⟨by decide, hn.1⟩
        · exact ⟨by decide, hn.2.1⟩
        · exact ⟨by decide, hn.2.2.1⟩
        · exact ⟨by decide, hn.2.2.2.1⟩
        · exact ⟨by decide, hn.2.2.2.2⟩
      · exact absurd y (by decide)
    · have y := y.symm.trans w; exact absurd y (by decide)
    · have y := y.symm.trans w; exact absurd y (by decide)) (fun j hj => absurd hj (Nat.not_lt_zero _)) (fun M1 f1 => by
    have e : tvA s c p h t m = (evS (fun k => s (147 + k)) (nm0 c p h t m) n).2 0 := by
      unfold tvA
      rw [show s 146 = zon n from h3, zon_n (by omega)]
    rw [← e]
    exact hQ M1 f1)
  exact r
theorem R_workF {d : Nat} {M : zm_M} {s : Nat → Int32} {Q : Int32 → zm_M → Prop} {p h n0 : Int32} (hs : M.1 83 = s) (hX : SX 1 s) (h0 : 0 < s 271) (hn : M.1 88 112 = p ∧ M.1 88 104 = h ∧ M.1 88 110 = n0) (hQ : ∀ M1, zfr [89] M M1 → Q (tvF s p h n0) M1) : zi (d + 1) 147 [.ref 82, .int 1] M Q := by
  rcases hX with z | ⟨n, hn0, h3, g, hc, hN, D, hD, hD1⟩
  · rw [show s 271 = 0 from z] at h0
    exact absurd h0 (by decide)
  apply zg_X11_worked
  have r := R_workedL (d := d) (Q := Q) (s := s) (u := 1) (f := fun k => s (272 + k)) (nm := nm1 p h n0) (by omega) hN hD hD1 (fun k => rfl) h3 hc n 0 M (Nat.zero_add _) hs (fun k hk w => by
    have z := hc k hk
    rcases z with ⟨y, -⟩ | ⟨-, y⟩ | ⟨y, -⟩ | ⟨y, -⟩
    · have y := y.symm.trans w; exact absurd y (by decide)
    · rcases y with ⟨y, -⟩ | ⟨-, y⟩
      · exact absurd y (by decide)
      · rcases y with ⟨y, -⟩ | ⟨y, -⟩ | ⟨y, -⟩ <;> (simp only [Nat.mul_one, Nat.reduceAdd] at y ⊢; rw [y])
        · exact ⟨by decide, hn.1⟩
        · exact ⟨by decide, hn.2.1⟩
        · exact ⟨by decide, hn.2.2⟩
    · have y := y.symm.trans w; exact absurd y (by decide)
    · have y := y.symm.trans w; exact absurd y (by decide)) (fun j hj => absurd hj (Nat.not_lt_zero _)) (fun M1 f1 => by
    have e : tvF s p h n0 = (evS (fun k => s (272 + k)) (nm1 p h n0) n).2 0 := by
      unfold tvF
      rw [show s 271 = zon n from h3, zon_n (by omega)]
    rw [← e]
    exact hQ M1 f1)
  exact r

/-! What a TEXT is worth: the class's loop. -/
theorem X_worthL0 {d : Nat} {Q : Int32 → zm_M → Prop} {f : Nat → Int32} {nm : Int32 → Int32} {N D : Nat} (hN : N ≤ 60) (hD : zdep f N = some D) (hD1 : 1 ≤ D) : ∀ (left i : Nat) (M : zm_M), i + left = N → M.1 21 1 = zon N → (∀ k, k < N → zstp 0 (M.1 22 k) (f (2 * k)) (f (2 * k + 1))) → (nm 99 = M.1 24 0 ∧ nm 112 = M.1 24 1 ∧ nm 104 = M.1 24 2 ∧ nm 115 = M.1 24 3 ∧ nm 109 = M.1 24 4) → (∀ j, j < (evS f nm i).1 → M.1 23 j = (evS f nm i).2 j) → (∀ M1, zfr [23] M M1 → Q ((evS f nm N).2 0) M1) → zt (d + 1) 38 43 [some (.ref 21), none, none, none, none, none, some (.int (zon (evS f nm i).1)), some (.int (zon i)), none] [] M (zPi Q)
  | 0, i, M, hi, h21, hc, hn, hst, hQ => by
    have e : i = N := by omega
    subst e
    apply zg_X6_worth_r21_p43
    rw [h21]
    refine ⟨fun z => absurd z (by rw [zon_lt (by omega) (by omega)]; omega), fun _ => ?_⟩
    rw [hst 0 (by rw [evS_dep hD]; omega)]
    exact hQ M zfr_rfl
  | left + 1, i, M, hi, h21, hc, hn, hst, hQ => by
    obtain ⟨e, he⟩ := zdep_pre hD i (by omega)
    obtain ⟨e2, he2⟩ := zdep_pre hD (i + 1) (by omega)
    have hle := zdep_le he
    obtain ⟨e9, he9, p1, p2, -⟩ := zdep_prev he2
    rw [he] at he9
    cases he9
    have es := evS_dep (nm := nm) he
    have st := hc i (by omega)
    have go : ∀ (x : Int32) (e2 j : Nat), evS f nm (i + 1) = (e2, upd (evS f nm i).2 j x) → j ≤ e → j + 1 = e2 → zt (d + 1) 38 43 [some (.ref 21), none, none, none, none, none, some (.int (zon e2)), some (.int (zon (i + 1))), none] [] (zm_si M 23 j x) (zPi Q) := by
      intro x e2 j hev hj hj2
      have r := X_worthL0 (d := d) hN hD hD1 left (i + 1) (zm_si M 23 j x) (by omega) (by rw [zI_si_ne (by decide)]; exact h21) (fun k hk => by rw [zI_si_ne (by decide)]; exact hc k hk) (by simp only [zI_si_ne (show 24 ≠ 23 by decide)]; exact hn) (fun k hk => by
        rw [hev] at hk ⊢
        show (zm_si M 23 j x).1 23 k = upd (evS f nm i).2 j x k
        rw [zI_si, if_pos rfl]
        unfold upd
        by_cases hkj : k = j
        · rw [if_pos hkj, if_pos hkj]
        · rw [if_neg hkj, if_neg hkj]
          exact hst k (by dsimp only at hk; omega)) (fun M1 f1 => hQ M1 (zfr_trans (zfr_si (by decide)) f1))
      rw [hev] at r
      exact r
    have l1 : zon i < M.1 21 1 := by rw [h21, zon_lt (by omega) (by omega)]; omega
    have l2 : zon i < 60 := by rw [zon_ltl (b := 60) (by omega) rfl]; omega
    have l3 : zm_inb (zon i) 60 = true := by rw [zon_inb (by omega)]; omega
    have l4 : zon e < 60 := by rw [zon_ltl (b := 60) (by omega) rfl]; omega
    have l5 : zm_inb (zon e) 60 = true := by rw [zon_inb (by omega)]; omega
    rw [es] at hst ⊢
    apply zg_X6_worth_r21_p43
    simp only [zon_n (show i < 2000 by omega), zon_n (show e < 2000 by omega), zon_s]
    unfold zstp at st
    rcases st with ⟨w0, cv, v0, v9⟩ | ⟨w1, hv⟩ | ⟨w2, cv⟩ | ⟨w3, cv, hs⟩
    · have ev1 : evS f nm (i + 1) = (e + 1, upd (evS f nm i).2 e (f (2 * i + 1))) := by
        rw [evS, if_pos w0, es]
      have q0 : ¬ M.1 22 i < 0 := by rw [cv, Int32.lt_iff_toInt_lt]; simp; omega
      have q1 : M.1 22 i < 10000 := by rw [cv, Int32.lt_iff_toInt_lt, show (10000 : Int32).toInt = 10000 from rfl]; omega
      have q2 : (-1) - M.1 22 i < 5 := by grind
      refine ⟨fun _ => ⟨fun _ => ⟨l3, fun _ => ⟨fun _ => ⟨fun _ => ⟨fun z => absurd z q0, fun _ => ⟨l5, ?_⟩⟩, fun z => absurd q2 z⟩, fun z => absurd l4 z⟩, fun z => absurd q1 z⟩, fun z => absurd l2 z⟩, fun z => absurd l1 z⟩
      rw [cv]
      exact go _ _ _ ev1 (Nat.le_refl _) rfl
    · have ev1 : evS f nm (i + 1) = (e + 1, upd (evS f nm i).2 e (nm (f (2 * i + 1)))) := by
        rw [evS, if_neg (by rw [w1]; decide), if_pos w1, es]
      have g1 := go _ _ _ ev1 (Nat.le_refl _) rfl
      have hv : (f (2 * i + 1) = 99 ∧ M.1 22 i = -1) ∨ (f (2 * i + 1) = 112 ∧ M.1 22 i = -2) ∨ (f (2 * i + 1) = 104 ∧ M.1 22 i = -3) ∨ (f (2 * i + 1) = 115 ∧ M.1 22 i = -4) ∨ (f (2 * i + 1) = 109 ∧ M.1 22 i = -5) := by
        rcases hv with ⟨zu, hv⟩ | ⟨zu, hv⟩
        · exact hv
        · exact absurd zu (by decide)
      rcases hv with ⟨vv, cc⟩ | ⟨vv, cc⟩ | ⟨vv, cc⟩ | ⟨vv, cc⟩ | ⟨vv, cc⟩
      · have b0 : nm 99 = M.1 24 0 := hn.1
        rw [vv, b0] at g1
        rw [cc]
        refine ⟨fun _ => ⟨fun _ => ⟨l3, fun _ => ⟨fun _ => ⟨fun _ => ⟨fun _ => ⟨by decide, l5, g1⟩, fun z => absurd (by decide) z⟩, fun z => absurd (by decide) z⟩, fun z => absurd l4 z⟩, fun z => absurd (by decide) z⟩, fun z => absurd l2 z⟩, fun z => absurd l1 z⟩
      · have b0 : nm 112 = M.1 24 1 := hn.2.1
        rw [vv, b0] at g1
        rw [cc]
        refine ⟨fun _ => ⟨fun _ => ⟨l3, fun _ => ⟨fun _ => ⟨fun _ => ⟨fun _ => ⟨by decide, l5, g1⟩, fun z => absurd (by decide) z⟩, fun z => absurd (by decide) z⟩, fun z => absurd l4 z⟩, fun z => absurd (by decide) z⟩, fun z => absurd l2 z⟩, fun z => absurd l1 z⟩
      · have b0 : nm 104 = M.1 24 2 := hn.2.2.1
        rw [vv, b0] at g1
        rw [cc]
        refine ⟨fun _ => ⟨fun _ => ⟨l3, fun _ => ⟨fun _ => ⟨fun _ => ⟨fun _ => ⟨by decide, l5, g1⟩, fun z => absurd (by decide) z⟩, fun z => absurd (by decide) z⟩, fun z => absurd l4 z⟩, fun z => absurd (by decide) z⟩, fun z => absurd l2 z⟩, fun z => absurd l1 z⟩
      · have b0 : nm 115 = M.1 24 3 := hn.2.2.2.1
        rw [vv, b0] at g1
        rw [cc]
        refine ⟨fun _ => ⟨fun _ => ⟨l3, fun _ => ⟨fun _ => ⟨fun _ => ⟨fun _ => ⟨by decide, l5, g1⟩, fun z => absurd (by decide) z⟩, fun z => absurd (by decide) z⟩, fun z => absurd l4 z⟩, fun z => absurd (by decide) z⟩, fun z => absurd l2 z⟩, fun z => absurd l1 z⟩
      · have b0 : nm 109 = M.1 24 4 := hn.2.2.2.2
        rw [vv, b0] at g1
        rw [cc]
        refine ⟨fun _ => ⟨fun _ => ⟨l3, fun _ => ⟨fun _ => ⟨fun _ => ⟨fun _ => ⟨by decide, l5, g1⟩, fun z => absurd (by decide) z⟩, fun z => absurd (by decide) z⟩, fun z => absurd l4 z⟩, fun z => absurd (by decide) z⟩, fun z => absurd l2 z⟩, fun z => absurd l1 z⟩
    · have ev1 : evS f nm (i + 1) = (e, upd (evS f nm i).2 (e - 1) (if (evS f nm i).2 (e - 1) = 0 then 1 else 0)) := by
        rw [evS, if_neg (by rw [w2]; decide), if_neg (by rw [w2]; decide), if_pos w2, es]
      have e1 := p1 w2
      have g1 := go _ _ _ ev1 (by omega) (by omega)
      have q1 : ¬ zon e < 1 := by rw [zon_ltl (b := 1) (by omega) rfl]; omega
      have q2 : zm_inb (zon (e - 1)) 60 = true := by rw [zon_inb (by omega)]; omega
      rw [cv, zon_p e1, zon_n (show e - 1 < 2000 by omega), hst (e - 1) (by omega)]
      refine ⟨fun _ => ⟨fun _ => ⟨l3, fun z => absurd z (by decide), fun _ => ⟨fun _ => ⟨fun z => absurd z q1, fun _ => ⟨q2, fun z => ⟨q2, ?_⟩, fun z => ⟨q2, ?_⟩⟩⟩, fun z => absurd rfl z⟩⟩, fun z => absurd l2 z⟩, fun z => absurd l1 z⟩
      · rw [if_pos z] at g1
        exact g1
      · rw [if_neg z] at g1
        exact g1
    · have n0 : f (2 * i) ≠ 0 := by rw [w3]; decide
      have n1 : f (2 * i) ≠ 1 := by rw [w3]; decide
      have n2 : f (2 * i) ≠ 2 := by rw [w3]; decide
      have ev1 : evS f nm (i + 1) = (e - 1, upd (evS f nm i).2 (e - 2) (jn (f (2 * i + 1)) ((evS f nm i).2 (e - 2)) ((evS f nm i).2 (e - 1)))) := by
        rw [evS, if_neg n0, if_neg n1, if_neg n2, es]
      have e1 := p2 n0 n1 n2
      have g1 := go _ _ _ ev1 (by omega) (by omega)
      have q1 : ¬ zon e < 2 := by rw [zon_ltl (b := 2) (by omega) rfl]; omega
      have q2 : zm_inb (zon (e - 1)) 60 = true := by rw [zon_inb (by omega)]; omega
      have q3 : zm_inb (zon (e - 2)) 60 = true := by rw [zon_inb (by omega)]; omega
      have a1 : ¬ M.1 22 i < 10000 := by rw [cv]; rcases hs with z | z | z | z | z | z | z | z | z | z <;> rw [z] <;> decide
      have a2 : ¬ M.1 22 i = 10033 := by rw [cv]; rcases hs with z | z | z | z | z | z | z | z | z | z <;> rw [z] <;> decide
      have a3 : 10000 < M.1 22 i := by rw [cv]; rcases hs with z | z | z | z | z | z | z | z | z | z <;> rw [z] <;> decide
      have a4 : M.1 22 i - 10000 = f (2 * i + 1) := by rw [cv]; grind
      rw [zon_m (show 1 ≤ e by omega), zon_p (show 1 ≤ e - 1 by omega), show e - 1 - 1 = e - 2 by omega, zon_n (show e - 1 < 2000 by omega), zon_n (show e - 2 < 2000 by omega), hst (e - 1) (by omega), hst (e - 2) (by omega), a4]
      refine ⟨fun _ => ⟨fun _ => ⟨l3, fun z => absurd z a1, fun _ => ⟨fun z => absurd z a2, fun _ => ⟨fun _ => ⟨fun z => absurd z q1, fun _ => ⟨q3, q2, X_join hs ⟨q3, g1⟩⟩⟩, fun z => absurd a3 z⟩⟩⟩, fun z => absurd l2 z⟩, fun z => absurd l1 z⟩
theorem X_worthL1 {d : Nat} {Q : Int32 → zm_M → Prop} {f : Nat → Int32} {nm : Int32 → Int32} {N D : Nat} (hN : N ≤ 60) (hD : zdep f N = some D) (hD1 : 1 ≤ D) : ∀ (left i : Nat) (M : zm_M), i + left = N → M.1 25 1 = zon N → (∀ k, k < N → zstp 1 (M.1 26 k) (f (2 * k)) (f (2 * k + 1))) → (nm 112 = M.1 28 0 ∧ nm 104 = M.1 28 1 ∧ nm 110 = M.1 28 2) → (∀ j, j < (evS f nm i).1 → M.1 27 j = (evS f nm i).2 j) → (∀ M1, zfr [27] M M1 → Q ((evS f nm N).2 0) M1) → zt (d + 1) 38 43 [some (.ref 25), none, none, none, none, none, some (.int (zon (evS f nm i).1)), some (.int (zon i)), none] [] M (zPi Q)
  | 0, i, M, hi, h21, hc, hn, hst, hQ => by
    have e : i = N := by omega
    subst e
    apply zg_X6_worth_r25_p43
    rw [h21]
    refine ⟨fun z => absurd z (by rw [zon_lt (by omega) (by omega)]; omega), fun _ => ?_⟩
    rw [hst 0 (by rw [evS_dep hD]; omega)]
    exact hQ M zfr_rfl
  | left + 1, i, M, hi, h21, hc, hn, hst, hQ => by
    obtain ⟨e, he⟩ := zdep_pre hD i (by omega)
    obtain ⟨e2, he2⟩ := zdep_pre hD (i + 1) (by omega)
    have hle := zdep_le he
    obtain ⟨e9, he9, p1, p2, -⟩ := zdep_prev he2
    rw [he] at he9
    cases he9
    have es := evS_dep (nm := nm) he
    have st := hc i (by omega)
    have go : ∀ (x : Int32) (e2 j : Nat), evS f nm (i + 1) = (e2, upd (evS f nm i).2 j x) → j ≤ e → j + 1 = e2 → zt (d + 1) 38 43 [some (.ref 25), none, none, none, none, none, some (.int (zon e2)), some (.int (zon (i + 1))), none] [] (zm_si M 27 j x) (zPi Q) := by
      intro x e2 j hev hj hj2
      have r := X_worthL1 (d := d) hN hD hD1 left (i + 1) (zm_si M 27 j x) (by omega) (by rw [zI_si_ne (by decide)]; exact h21) (fun k hk => by rw [zI_si_ne (by decide)]; exact hc k hk) (by simp only [zI_si_ne (show 28 ≠ 27 by decide)]; exact hn) (fun k hk => by
        rw [hev] at hk ⊢
        show (zm_si M 27 j x).1 27 k = upd (evS f nm i).2 j x k
        rw [zI_si, if_pos rfl]
        unfold upd
        by_cases hkj : k = j
        · rw [if_pos hkj, if_pos hkj]
        · rw [if_neg hkj, if_neg hkj]
          exact hst k (by dsimp only at hk; omega)) (fun M1 f1 => hQ M1 (zfr_trans (zfr_si (by decide)) f1))
      rw [hev] at r
      exact r
    have l1 : zon i < M.1 25 1 := by rw [h21, zon_lt (by omega) (by omega)]; omega
    have l2 : zon i < 60 := by rw [zon_ltl (b := 60) (by omega) rfl]; omega
    have l3 : zm_inb (zon i) 60 = true := by rw [zon_inb (by omega)]; omega
    have l4 : zon e < 60 := by rw [zon_ltl (b := 60) (by omega) rfl]; omega
    have l5 : zm_inb (zon e) 60 = true := by rw [zon_inb (by omega)]; omega
    rw [es] at hst ⊢
    apply zg_X6_worth_r25_p43
    simp only [zon_n (show i < 2000 by omega), zon_n (show e < 2000 by omega), zon_s]
    unfold zstp at st
    rcases st with ⟨w0, cv, v0, v9⟩ | ⟨w1, hv⟩ | ⟨w2, cv⟩ | ⟨w3, cv, hs⟩
    · have ev1 : evS f nm (i + 1) = (e + 1, upd (evS f nm i).2 e (f (2 * i + 1))) := by
        rw [evS, if_pos w0, es]
      have q0 : ¬ M.1 26 i < 0 := by rw [cv, Int32.lt_iff_toInt_lt]; simp; omega
      have q1 : M.1 26 i < 10000 := by rw [cv, Int32.lt_iff_toInt_lt, show (10000 : Int32).toInt = 10000 from rfl]; omega
      have q2 : (-1) - M.1 26 i < 5 := by grind
      refine ⟨fun _ => ⟨fun _ => ⟨l3, fun _ => ⟨fun _ => ⟨fun _ => ⟨fun z => absurd z q0, fun _ => ⟨l5, ?_⟩⟩, fun z => absurd q2 z⟩, fun z => absurd l4 z⟩, fun z => absurd q1 z⟩, fun z => absurd l2 z⟩, fun z => absurd l1 z⟩
      rw [cv]
      exact go _ _ _ ev1 (Nat.le_refl _) rfl
    · have ev1 : evS f nm (i + 1) = (e + 1, upd (evS f nm i).2 e (nm (f (2 * i + 1)))) := by
        rw [evS, if_neg (by rw [w1]; decide), if_pos w1, es]
      have g1 := go _ _ _ ev1 (Nat.le_refl _) rfl
      have hv : (f (2 * i + 1) = 112 ∧ M.1 26 i = -1) ∨ (f (2 * i + 1) = 104 ∧ M.1 26 i = -2) ∨ (f (2 * i + 1) = 110 ∧ M.1 26 i = -3) := by
        rcases hv with ⟨zu, hv⟩ | ⟨zu, hv⟩
        · exact absurd zu (by decide)
        · exact hv
      rcases hv with ⟨vv, cc⟩ | ⟨vv, cc⟩ | ⟨vv, cc⟩
      · have b0 : nm 112 = M.1 28 0 := hn.1
        rw [vv, b0] at g1
        rw [cc]
        refine ⟨fun _ => ⟨fun _ => ⟨l3, fun _ => ⟨fun _ => ⟨fun _ => ⟨fun _ => ⟨by decide, l5, g1⟩, fun z => absurd (by decide) z⟩, fun z => absurd (by decide) z⟩, fun z => absurd l4 z⟩, fun z => absurd (by decide) z⟩, fun z => absurd l2 z⟩, fun z => absurd l1 z⟩
      · have b0 : nm 104 = M.1 28 1 := hn.2.1
        rw [vv, b0] at g1
        rw [cc]
        refine ⟨fun _ => ⟨fun _ => ⟨l3, fun _ => ⟨fun _ => ⟨fun _ => ⟨fun _ => ⟨by decide, l5, g1⟩, fun z => absurd (by decide) z⟩, fun z => absurd (by decide) z⟩, fun z => absurd l4 z⟩, fun z => absurd (by decide) z⟩, fun z => absurd l2 z⟩, fun z => absurd l1 z⟩
      · have b0 : nm 110 = M.1 28 2 := hn.2.2
        rw [vv, b0] at g1
        rw [cc]
        refine ⟨fun _ => ⟨fun _ => ⟨l3, fun _ => ⟨fun _ => ⟨fun _ => ⟨fun _ => ⟨by decide, l5, g1⟩, fun z => absurd (by decide) z⟩, fun z => absurd (by decide) z⟩, fun z => absurd l4 z⟩, fun z => absurd (by decide) z⟩, fun z => absurd l2 z⟩, fun z => absurd l1 z⟩
    · have ev1 : evS f nm (i + 1) = (e, upd (evS f nm i).2 (e - 1) (if (evS f nm i).2 (e - 1) = 0 then 1 else 0)) := by
        rw [evS, if_neg (by rw [w2]; decide), if_neg (by rw [w2]; decide), if_pos w2, es]
      have e1 := p1 w2
      have g1 := go _ _ _ ev1 (by omega) (by omega)
      have q1 : ¬ zon e < 1 := by rw [zon_ltl (b := 1) (by omega) rfl]; omega
      have q2 : zm_inb (zon (e - 1)) 60 = true := by rw [zon_inb (by omega)]; omega
      rw [cv, zon_p e1, zon_n (show e - 1 < 2000 by omega), hst (e - 1) (by omega)]
      refine ⟨fun _ => ⟨fun _ => ⟨l3, fun z => absurd z (by decide), fun _ => ⟨fun _ => ⟨fun z => absurd z q1, fun _ => ⟨q2, fun z => ⟨q2, ?_⟩, fun z => ⟨q2, ?_⟩⟩⟩, fun z => absurd rfl z⟩⟩, fun z => absurd l2 z⟩, fun z => absurd l1 z⟩
      · rw [if_pos z] at g1
        exact g1
      · rw [if_neg z] at g1
        exact g1
    · have n0 : f (2 * i) ≠ 0 := by rw [w3]; decide
      have n1 : f (2 * i) ≠ 1 := by rw [w3]; decide
      have n2 : f (2 * i) ≠ 2 := by rw [w3]; decide
      have ev1 : evS f nm (i + 1) = (e - 1, upd (evS f nm i).2 (e - 2) (jn (f (2 * i + 1)) ((evS f nm i).2 (e - 2)) ((evS f nm i).2 (e - 1)))) := by
        rw [evS, if_neg n0, if_neg n1, if_neg n2, es]
      have e1 := p2 n0 n1 n2
      have g1 := go _ _ _ ev1 (by omega) (by omega)
      have q1 : ¬ zon e < 2 := by rw [zon_ltl (b := 2) (by omega) rfl]; omega
      have q2 : zm_inb (zon (e - 1)) 60 = true := by rw [zon_inb (by omega)]; omega
      have q3 : zm_inb (zon (e - 2)) 60 = true := by rw [zon_inb (by omega)]; omega
      have a1 : ¬ M.1 26 i < 10000 := by rw [cv]; rcases hs with z | z | z | z | z | z | z | z | z | z <;> rw [z] <;> decide
      have a2 : ¬ M.1 26 i = 10033 := by rw [cv]; rcases hs with z | z | z | z | z | z | z | z | z | z <;> rw [z] <;> decide
      have a3 : 10000 < M.1 26 i := by rw [cv]; rcases hs with z | z | z | z | z | z | z | z | z | z <;> rw [z] <;> decide
      have a4 : M.1 26 i - 10000 = f (2 * i + 1) := by rw [cv]; grind
      rw [zon_m (show 1 ≤ e by omega), zon_p (show 1 ≤ e - 1 by omega), show e - 1 - 1 = e - 2 by omega, zon_n (show e - 1 < 2000 by omega), zon_n (show e - 2 < 2000 by omega), hst (e - 1) (by omega), hst (e - 2) (by omega), a4]
      refine ⟨fun _ => ⟨fun _ => ⟨l3, fun z => absurd z a1, fun _ => ⟨fun z => absurd z a2, fun _ => ⟨fun _ => ⟨fun z => absurd z q1, fun _ => ⟨q3, q2, X_join hs ⟨q3, g1⟩⟩⟩, fun z => absurd a3 z⟩⟩⟩, fun z => absurd l2 z⟩, fun z => absurd l1 z⟩

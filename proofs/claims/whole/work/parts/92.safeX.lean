/-! SAFE: the class's FRAIL, those that a coin can reach. -/
def sP (s : sSt) (w p : Nat) : Bool := decide (p ≠ w ∧ s (14 + 8 * p) = 1 ∧ 0 < s (17 + 8 * p))
def sG (s : sSt) (w : Nat) (x : Int32) (p : Nat) : Bool := decide (sP s w p = true ∧ (bt x p = true ∨ tAsk s p w))
theorem sP_iff {s : sSt} {w p : Nat} : sP s w p = true ↔ (p ≠ w ∧ s (14 + 8 * p) = 1 ∧ 0 < s (17 + 8 * p)) := by
  unfold sP
  exact decide_eq_true_iff
theorem sG_iff {s : sSt} {w p : Nat} {x : Int32} : sG s w x p = true ↔ (sP s w p = true ∧ (bt x p = true ∨ tAsk s p w)) := by
  unfold sG
  exact decide_eq_true_iff
theorem sCt_s {P : Nat → Bool} {p : Nat} : (P p = true → sCt P (p + 1) = sCt P p + 1) ∧ (¬ P p = true → sCt P (p + 1) = sCt P p) := ⟨fun h => if_pos h, fun h => if_neg h⟩
theorem sCt_lt {P : Nat → Bool} {p q : Nat} (hp : P p = true) (h : p < q) : sCt P p < sCt P q := by
  have h1 := sCt_s.1 hp
  have h2 := sCt_mono (P := P) (p := p + 1) q (by omega)
  omega
theorem sCt_sur {P : Nat → Bool} : ∀ (N i : Nat), i < sCt P N → ∃ j, j < N ∧ P j = true ∧ sCt P j = i := by
  intro N
  induction N with
  | zero => intro i h; exact absurd h (Nat.not_lt_zero _)
  | succ N ih =>
    intro i h
    by_cases c : P N = true
    · rw [sCt_s.1 c] at h
      by_cases e : i = sCt P N
      · exact ⟨N, by omega, c, e.symm⟩
      · obtain ⟨j, h1, h2, h3⟩ := ih i (by omega)
        exact ⟨j, by omega, h2, h3⟩
    · rw [sCt_s.2 c] at h
      obtain ⟨j, h1, h2, h3⟩ := ih i h
      exact ⟨j, by omega, h2, h3⟩
/-- a row that counts those of P up -/
theorem sLs_of {P : Nat → Bool} {N : Nat} {r : Nat → Int32} (hN : N ≤ 12) (h : ∀ j, j < N → P j = true → r (sCt P j) = zon j) : ∃ F : Nat → Nat, sLs P F N ∧ (∀ i, i < sCt P N → r i = zon (F i) ∧ F i < N ∧ P (F i) = true) ∧ ∀ i j, i < sCt P N → j < sCt P N → j ≠ i → F j ≠ F i := by
  have e : ∀ j, j < N → P j = true → (r (sCt P j)).toNatClampNeg = j := fun j hj hp => by rw [h j hj hp, zon_n (by omega)]
  refine ⟨fun i => (r i).toNatClampNeg, fun p hp hP => e p hp hP, fun i hi => ?_, fun i j hi hj hne => ?_⟩
  · obtain ⟨j, h1, h2, h3⟩ := sCt_sur N i hi
    subst h3
    show r (sCt P j) = zon (r (sCt P j)).toNatClampNeg ∧ (r (sCt P j)).toNatClampNeg < N ∧ P (r (sCt P j)).toNatClampNeg = true
    rw [e j h1 h2]
    exact ⟨h j h1 h2, h1, h2⟩
  · obtain ⟨a, a1, a2, a3⟩ := sCt_sur N i hi
    obtain ⟨b, b1, b2, b3⟩ := sCt_sur N j hj
    subst a3
    subst b3
    show (r (sCt P b)).toNatClampNeg ≠ (r (sCt P a)).toNatClampNeg
    rw [e a a1 a2, e b b1 b2]
    exact fun z => hne (by rw [z])
theorem X_isFrail {d p w : Nat} {s : sSt} {M : zm_M} {Q : Int32 → zm_M → Prop} (hR : RT M 0 s) (hp : p < 12) (hw : w < 12) (h1 : sP s w p = true → Q 1 M) (h0 : ¬ sP s w p = true → Q 0 M) : zi d 8 [.ref 66, .int (zon p), .int (zon w)] M Q := by
  have e8 : M.1 8 p = s (14 + 8 * p) := hR.pers (w := 4) hp (by decide) (by omega)
  have e11 : M.1 11 p = s (17 + 8 * p) := hR.pers (w := 7) hp (by decide) (by omega)
  have ip : zm_inb (zon p) 12 = true := by rw [zon_inb (by omega)]; omega
  apply zg_X1_isFrail
  rw [zon_inj (by omega) (by omega), zon_n (show p < 2000 by omega), e8, e11]
  exact ⟨fun z => h0 (fun y => (sP_iff.mp y).1 z), fun z => ⟨ip, fun a => ⟨ip, fun b => h1 (sP_iff.mpr ⟨z, a, b⟩), fun b => h0 (fun y => b (sP_iff.mp y).2.2)⟩, fun a => h0 (fun y => a (sP_iff.mp y).2.1)⟩⟩
theorem X_countL {d N w : Nat} {s : sSt} {M : zm_M} {Q : Int32 → zm_M → Prop} (hR : RT M 0 s) (e0 : s 0 = zon N) (hN : N ≤ 12) (hw : w < 12) (hQ : Q (zon (sCt (sP s w) N)) M) : ∀ (n i : Nat), i + n = N → zt (d + 1) 6 4 [some (.ref 66), some (.int (zon w)), some (.int (zon (sCt (sP s w) i))), some (.int (zon i))] [] M (zPi Q) := by
  intro n
  have e2 : M.1 2 0 = zon N := (hR.1 0 2 0 rfl).trans e0
  induction n with
  | zero =>
    intro i hi
    obtain rfl : i = N := by omega
    apply zg_X1_countFrail_p4
    rw [e2, zon_lt (by omega) (by omega)]
    exact ⟨fun z => absurd z (by omega), fun _ => hQ⟩
  | succ n ih =>
    intro i hi
    have nx := ih (i + 1) (by omega)
    apply zg_X1_countFrail_p4
    rw [e2, zon_lt (by omega) (by omega), zon_s (a := i), zon_s (a := sCt (sP s w) i)]
    refine ⟨fun _ => X_isFrail hR (by omega) hw (fun h1 => ⟨fun z => absurd z (by decide), fun _ => ?_⟩) (fun h0 => ⟨fun _ => ?_, fun z => absurd rfl z⟩), fun z => absurd (by omega) z⟩
    · rw [sCt_s.1 h1] at nx
      exact nx
    · rw [sCt_s.2 h0] at nx
      exact nx
theorem X_countFrail {d N w : Nat} {s : sSt} {M : zm_M} {Q : Int32 → zm_M → Prop} (hR : RT M 0 s) (e0 : s 0 = zon N) (hN : N ≤ 12) (hw : w < 12) (hQ : Q (zon (sCt (sP s w) N)) M) : zi (d + 1) 6 [.ref 66, .int (zon w)] M Q := by
  apply zg_X1_countFrail
  exact X_countL hR e0 hN hw hQ N 0 (by omega)
theorem X_gatherL {d N w : Nat} {s : sSt} {x : Int32} {M0 : zm_M} {Q : zm_M → Prop} (hR : RT M0 0 s) (hE : TE N s) (hw : w < N) (hX : XE M0 s) (h9 : sCt (sG s w x) N ≤ 9) (hQ : ∀ M1, zfr [66, 67] M0 M1 → M1.1 66 3 = zon (sCt (sG s w x) N) → (∀ j, j < N → sG s w x j = true → M1.1 67 (sCt (sG s w x) j) = zon j) → Q M1) : ∀ (n i : Nat) (M : zm_M), i + n = N → zfr [66, 67] M0 M → M.1 66 3 = zon (sCt (sG s w x) i) → (∀ j, j < i → sG s w x j = true → M.1 67 (sCt (sG s w x) j) = zon j) → zt (d + 2) 9 26 [some (.ref 66), some (.int (zon w)), some (.int x), some (.int (zon i))] [] M (zPv Q) := by
  intro n
  have hN := hE.1.1
  have e2 : M0.1 2 0 = zon N := (hR.1 0 2 0 rfl).trans hE.1.2
  induction n with
  | zero =>
    intro i M hi f0 h3 hl
    obtain rfl : i = N := by omega
    apply zg_X1_gather_p26
    rw [f0.1 2 (by decide), e2, zon_lt (by omega) (by omega)]
    exact ⟨fun z => absurd z (by omega), fun _ => hQ M f0 h3 hl⟩
  | succ n ih =>
    intro i M hi f0 h3 hl
    have hRM : RT M 0 s := hR.cg (fun c h1 h2 h3 h4 h5 => f0.1 c (by simp only [List.mem_cons, List.not_mem_nil, or_false]; omega))
    have hXM : XE M s := by
      obtain ⟨x1, x2, x3, x4⟩ := hX
      refine ⟨fun p hp => ?_, by rw [f0.1 2 (by decide)]; exact x2, fun j hj => by rw [f0.1 29 (by decide)]; exact x3 j hj, hRM.2.1⟩
      rw [f0.1 60 (by decide), f0.1 61 (by decide), f0.1 62 (by decide), f0.1 4 (by decide), f0.1 5 (by decide)]
      exact x1 p hp
    have ci := sCt_mono (P := sG s w x) (p := i) N (by omega)
    apply zg_X1_gather_p26
    rw [f0.1 2 (by decide), e2, zon_lt (by omega) (by omega), h3, zon_ltl (m := 9) (b := 9) (by omega) rfl, zon_s (a := i)]
    refine ⟨fun _ => ⟨fun c9 => ?_, fun c9 => ?_⟩, fun z => absurd (by omega) z⟩
    · have no : ¬ sG s w x i = true → zt (d + 2) 9 26 [some (.ref 66), some (.int (zon w)), some (.int x), some (.int (zon (i + 1)))] [] M (zPv Q) := fun hn => by
        refine ih (i + 1) M (by omega) f0 (by rw [h3, sCt_s.2 hn]) (fun j hj hg => ?_)
        by_cases e : j = i
        · exact absurd (e ▸ hg) hn
        · exact hl j (by omega) hg
      have yes : sG s w x i = true → zm_inb (M.1 66 3) 9 = true ∧ zt (d + 2) 9 26 [some (.ref 66), some (.int (zon w)), some (.int x), some (.int (zon (i + 1)))] [] (zm_si (zm_si M 67 ((M.1 66 3).toNatClampNeg) (zon i)) 66 3 ((M.1 66 3) + 1)) (zPv Q) := fun hg => by
        rw [h3, zon_n (by omega), zon_s (a := sCt (sG s w x) i)]
        refine ⟨by rw [zon_inb (by omega)]; exact c9, ih (i + 1) _ (by omega) (zfr_trans f0 (zfr_trans (zfr_si (by decide)) (zfr_si (by decide)))) (by rw [zI_si_eq, sCt_s.1 hg]) (fun j hj hg2 => ?_)⟩
        rw [zI_si_ne (by decide), zI_si, if_pos rfl]
        by_cases e : j = i
        · rw [e, if_pos rfl]
        · have lt := sCt_lt hg2 (show j < i by omega)
          rw [if_neg (by omega)]
          exact hl j (by omega) hg2
      have nk : ¬ zon i < 0 := zon_nn (by omega)
      refine X_isFrail hRM (by omega) (by omega) (fun hp => ⟨fun z => absurd z (by decide), fun _ => ⟨fun z => absurd z nk, fun _ => ⟨fun z => ?_, fun z => ?_⟩⟩⟩) (fun hp => ⟨fun _ => no (fun y => hp (sG_iff.mp y).1), fun z => absurd rfl z⟩)
      · have b0 := (bt_tst (by omega)).mp z
        refine X_asked hN (by omega) hw hXM (fun ha => ⟨fun z => absurd z (by decide), fun _ => ?_⟩) (fun ha => ⟨fun _ => no (fun y => (sG_iff.mp y).2.elim (fun y => by rw [b0] at y; cases y) ha), fun z => absurd rfl z⟩)
        have y := yes (sG_iff.mpr ⟨hp, Or.inr ha⟩)
        exact y
      · have b1 : bt x i = true := by
          by_cases c : bt x i = true
          · exact c
          · exact absurd ((bt_tst (by omega)).mpr (by simpa using c)) z
        have y := yes (sG_iff.mpr ⟨hp, Or.inl b1⟩)
        exact y
    · have e9 : sCt (sG s w x) i = sCt (sG s w x) N := by omega
      refine hQ M f0 (by rw [h3, e9]) (fun j hj hg => ?_)
      by_cases e : j < i
      · exact hl j e hg
      · exfalso
        have a1 := sCt_lt hg (show j < N by omega)
        have a2 := sCt_mono (P := sG s w x) (p := i) j (by omega)
        omega
theorem X_gather {d N w : Nat} {s : sSt} {M : zm_M} {Q : zm_M → Prop} (hR : RT M 0 s) (hE : TE N s) (hw : w < N) (h9 : sCt (sP s w) N ≤ 9) (hQ : ∀ x M1, LN s N w x → zfr [59, 60, 61, 62, 63, 64, 65, 66, 67] M M1 → M1.1 66 3 = zon (sCt (sG s w x) N) → (∀ j, j < N → sG s w x j = true → M1.1 67 (sCt (sG s w x) j) = zon j) → sCt (sG s w x) N ≤ 9 → Q M1) : zv (d + 3) 9 [.ref 66, .int (zon w)] M Q := by
  apply zg_X1_gather
  refine X_line hE.pf hE.1.1 hw (hR.fx hE.1.2) (fun x hx => ?_)
  refine X_begin hR (fun M4 x4 d4 f4 => ?_)
  have le : ∀ p, sCt (sG s w x) p ≤ sCt (sP s w) p := by
    intro p
    induction p with
    | zero => exact Nat.le_refl _
    | succ p ih =>
      by_cases c : sG s w x p = true
      · rw [sCt_s.1 c, sCt_s.1 (sG_iff.mp c).1]
        omega
      · rw [sCt_s.2 c]
        have := sCt_mono (P := sP s w) (p := p) (p + 1) (by omega)
        omega
  have hR4 : RT (zm_si M4 66 3 0) 0 s := hR.cg (fun c h1 h2 h3 h4 h5 => by rw [zI_si_rne (by omega)]; exact f4.1 c (by simp only [List.mem_cons, List.not_mem_nil, or_false]; omega))
  have hX4 : XE (zm_si M4 66 3 0) s := by
    obtain ⟨x1, x2, x3, -⟩ := x4
    refine ⟨fun p hp => ?_, by rw [zI_si_ne (by decide)]; exact x2, fun j hj => by rw [zI_si_ne (by decide)]; exact x3 j hj, hR4.2.1⟩
    rw [zI_si_ne (by decide), zI_si_ne (by decide), zI_si_ne (by decide), zI_si_ne (by decide), zI_si_ne (by decide)]
    exact x1 p hp
  have l9 := Nat.le_trans (le N) h9
  exact X_gatherL hR4 hE hw hX4 l9 (fun M1 f1 h3 hl => hQ x M1 hx (zfr_trans (zfr_trans (zfr_sub f4 (by decide)) (zfr_si (by decide))) (zfr_sub f1 (by decide))) h3 hl l9) N 0 _ (by omega) zfr_rfl zI_si_eq (fun j hj => absurd hj (Nat.not_lt_zero _))

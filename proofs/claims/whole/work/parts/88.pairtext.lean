/-! Pair of calls: text, both sides. -/
theorem zcode_of {b : Nat → Int32} {L u : Nat} {g2 : tS} {M : zm_M} {f : Nat → Int32} (h : Rd b L u 0 0 (0, 0, fun _ => 0, fun _ => 0) true g2) (hX : XS b L u g2 M) {g : Nat → Int32} (hg : ∀ k, k < 60 → g k = M.1 69 k) (hf : ∀ k, k < g2.2.1 → f (2 * k) = g2.2.2.1 k ∧ f (2 * k + 1) = g2.2.2.2 k) : 0 < g2.2.1 ∧ zcode u g f g2.2.1 := by
  have hb := hX.2.1
  have sp := (h.sp.2 rfl 0).2 (by omega) rfl
  have e := zdw_dep (f := f) (w := g2.2.2.1) g2.2.1 (fun j hj => (hf j hj).1)
  refine ⟨?_, fun k hk => ?_, by omega, 1, ?_, Nat.le_refl _⟩
  · have c : g2.2.1 ≠ 0 := fun z => by
      rw [z] at sp
      cases sp
    omega
  · rw [hg k (by omega), (hf k hk).1, (hf k hk).2]
    exact hX.2.2.2 k hk
  · rw [e]
    exact sp
theorem WF.t4 {s s2 : Nat → Int32} (h : WF s) (e4 : s2 4 = 0) (e : ∀ k, k ≠ 4 → (k < 146 ∨ 396 ≤ k) → s2 k = s k) : WF s2 := by
  have h1 : WF (upd s 4 0) := by
    have ev : ∀ k, k ≠ 4 → upd s 4 0 k = s k := fun k hk => if_neg hk
    unfold WF PW DW at h ⊢
    simp only [ev 0 (by decide), ev 1 (by decide), ev 2 (by decide), ev 3 (by decide), ev 5 (by decide), ev 7 (by decide), ev 8 (by decide), ev 9 (by decide)]
    obtain ⟨g1, g2, g3, g4, g5, g6, g7, g8, g9, g10⟩ := h
    have e40 : upd s 4 0 4 = 0 := if_pos rfl
    refine ⟨g1, g2, g3, g4, by rw [e40]; decide, g6, g7, fun i hi => ?_, fun q hq => ?_, fun j hj => ?_⟩
    · rw [ev _ (by omega), ev _ (by omega), ev _ (by omega), ev _ (by omega), ev _ (by omega), ev _ (by omega), ev _ (by omega), ev _ (by omega)]
      exact g8 i hi
    · rw [ev _ (by omega), ev _ (by omega), ev _ (by omega), ev _ (by omega)]
      exact g9 q hq
    · rw [e40, show (0 : Int32).toInt = 0 from rfl] at hj
      omega
  refine h1.txt (fun k hk => ?_)
  by_cases k4 : k = 4
  · rw [k4, e4]
    exact (if_pos rfl).symm
  · rw [e k k4 hk]
    exact (if_neg k4).symm
theorem X_text {e u L : Nat} {b : Nat → Int32} {g2 : tS} {ok : Bool} {M : zm_M} {Q : Int32 → zm_M → Prop} (hu : u ≤ 1) (hL : L ≤ 60) (h2 : M.1 18 2 = zon L) (ht : ∀ k, k < 60 → M.1 19 k = b k) (hby : tBy b L) (hr : Rd b L u 0 0 (0, 0, fun _ => 0, fun _ => 0) ok g2) (hF : ¬ (ok = true ∧ g2.1 = L) → ∀ M2, (∀ k, k ∉ [18, 68, 69, 70] → M2.1 k = M.1 k) → M2.1 18 = upd (M.1 18) 2 0 → Q (-10 - zon g2.1) M2) (hT : ok = true → g2.1 = L → ∀ M1 M2, XS b L u g2 M1 → (∀ k, k ∉ [18, 21 + 4 * u, 22 + 4 * u, 68, 69, 70] → M2.1 k = M.1 k) → M2.1 18 = upd (M.1 18) 2 0 → M2.1 (21 + 4 * u) 0 = 1 → M2.1 (21 + 4 * u) 1 = zon g2.2.1 → (∀ k, k < 60 → M2.1 (22 + 4 * u) k = M1.1 69 k) → Q 1 M2) : zi (e + 73) 76 [.ref 0, .int (zon u)] M Q := by
  have rd : zi (e + 72) 23 [.ref 68, .ref 19, .int (zon L), .ref (110 + u)] M (fun x M16 => (x = (0 : Int32) → Q ((-10) - (M16.1 68 2)) (zm_si M16 18 2 0)) ∧ (¬ x = (0 : Int32) → Q 1 (zm_si (zm_si (zm_sr (zm_si M16 18 2 0) (22 + 4 * u) (va_cpy (M16.1 69) (M16.1 (22 + 4 * u)) 0 0 60)) (21 + 4 * u) 1 (M16.1 68 1)) (21 + 4 * u) 0 1))) := by
    refine X_reads hu hL ht hby hr (fun M2 x2 f2 => ?_)
    by_cases c : ok = true ∧ g2.1 = L
    · rw [if_pos c]
      refine ⟨fun z => absurd z (by decide), fun _ => ?_⟩
      refine hT c.1 c.2 M2 _ x2 (fun k hk => ?_) ?_ ?_ ?_ (fun k hk => ?_)
      · have k1 : k ≠ 18 := fun z => hk (by rw [z]; simp)
        have k2 : k ≠ 21 + 4 * u := fun z => hk (by rw [z]; simp)
        have k3 : k ≠ 22 + 4 * u := fun z => hk (by rw [z]; simp)
        rw [zI_si_rne k2, zI_si_rne k2, zI_sr_rne k3, zI_si_rne k1]
        refine f2 k (fun z => hk ?_)
        simp at z ⊢
        omega
      · rw [zI_si_rne (by omega), zI_si_rne (by omega), zI_sr_rne (by omega), zI_si_row, f2 18 (by decide)]
      · exact zI_si_eq
      · rw [zI_si, if_pos rfl, if_neg (by decide), zI_si_eq]
        exact x2.1.2.1
      · rw [zI_si_ne (by omega), zI_si_ne (by omega), zI_sr_row]
        exact cp60 _ _ _ hk
    · rw [if_neg c]
      refine ⟨fun _ => ?_, fun z => absurd rfl z⟩
      rw [x2.1.1]
      refine hF c _ (fun k hk => ?_) ?_
      · have k1 : k ≠ 18 := fun z => hk (by rw [z]; simp)
        rw [zI_si_rne k1]
        refine f2 k (fun z => hk ?_)
        simp at z ⊢
        omega
      · rw [zI_si_row, f2 18 (by decide)]
  have u01 : u = 0 ∨ u = 1 := by omega
  apply zg_X10_text
  rw [h2]
  rcases u01 with rfl | rfl
  · refine ⟨fun _ => ⟨fun _ => ?_, fun z => absurd rfl z⟩, fun z => absurd rfl z⟩
    refine zi.mono rd (fun x M16 g => ⟨g.1, fun y => ⟨fun _ => ?_, fun z => absurd rfl z⟩⟩)
    apply zg_X6_become_r21_69
    have q := g.2 y
    rw [show (zm_si M16 18 2 0).1 69 = M16.1 69 from zI_si_rne (by decide), show (zm_si M16 18 2 0).1 22 = M16.1 22 from zI_si_rne (by decide)]
    exact q
  · refine ⟨fun z => absurd z (by decide), fun _ => ⟨fun _ => ⟨fun z => absurd z (by decide), fun _ => ?_⟩, fun z => absurd rfl z⟩⟩
    refine zi.mono rd (fun x M16 g => ⟨g.1, fun y => ⟨fun z => absurd z (by decide), fun _ => ?_⟩⟩)
    apply zg_X6_become_r25_69
    have q := g.2 y
    rw [show (zm_si M16 18 2 0).1 69 = M16.1 69 from zI_si_rne (by decide), show (zm_si M16 18 2 0).1 26 = M16.1 26 from zI_si_rne (by decide)]
    exact q
theorem pair_text {d : Nat} {M : zm_M} {a : Int32} (h : Inv M) : zi (d + 73) 76 [.ref 0, .int a] M (fun v M1 => zi (d + 37) 144 [.ref 82, .int a] M1 (fun w M2 => v = w ∧ Inv M2)) := by
  by_cases ha : a = 0 ∨ a = 1
  · obtain ⟨u, hu, rfl⟩ : ∃ u, u ≤ 1 ∧ a = zon u := by
      rcases ha with rfl | rfl
      · exact ⟨0, by omega, rfl⟩
      · exact ⟨1, by omega, rfl⟩
    obtain ⟨hR, hW⟩ := h.1
    obtain ⟨L, e4, hL⟩ := zof2 (n := 60) hW.2.2.2.2.1.1 hW.2.2.2.2.1.2 rfl
    have h182 : M.1 18 2 = zon L := by rw [← e4]; exact hR.1 4 18 2 rfl
    have ht : ∀ k, k < 60 → M.1 19 k = M.1 83 (396 + k) := fun k hk => hR.1 (396 + k) 19 k (zmap_tape hk)
    have hby : tBy (fun k => M.1 83 (396 + k)) L := fun k hk => by
      have w := hW.2.2.2.2.2.2.2.2.2 k (by rw [e4, zon_i (by omega)]; omega)
      obtain ⟨n, e, hn⟩ := zof2 (n := 255) w.1 w.2 rfl
      exact ⟨n, by omega, e⟩
    obtain ⟨ok, g2, hr⟩ := Rd.tot (b := fun k => M.1 83 (396 + k)) (L := L) hu (L * 12 + 11) 0 0 (0, 0, fun _ => 0, fun _ => 0) (by omega) (Nat.zero_le _) (by rw [if_pos (by decide)]; show (L - 0) * 12 + (11 - 0) ≤ _; omega) (by omega)
    have r4 := hR.set (v := 0) (k := 4) (c := 18) (j := 2) rfl (by decide) (by decide)
    refine X_text hu hL h182 ht hby hr (fun hn M1 f1 e18 => ?_) (fun h1 h2 M0 M1 x1 f1 e18 e0 e1 e22 => ?_)
    · have a83 : M1.1 83 = M.1 83 := f1 83 (by decide)
      refine R_text hu hL (by rw [a83]; exact e4) (fun k hk => by rw [a83]) hr (fun _ M2 k2 j2 e83 => ⟨rfl, ?_⟩) (fun o1 o2 => absurd ⟨o1, o2⟩ hn)
      rw [a83] at e83
      have kk : ∀ k, k ∉ [82, 83, 87] → k ∉ [18, 68, 69, 70] → M2.1 k = M.1 k := fun k p1 p2 => (k2 k p1).trans (f1 k p2)
      refine h.town (s2 := upd (M.1 83) 4 0) (r4.congr (fun k p1 p2 => ?_)) (hW.t4 (if_pos rfl) (fun k p1 p2 => if_neg p1)) e83 (fun k hk => kk k (by simp; omega) (by simp; omega)) ((j2 3 (by omega)).trans (by rw [f1 82 (by decide)])) ((j2 16 (by omega)).trans (by rw [f1 82 (by decide)]))
      by_cases c : k = 18
      · rw [c, k2 18 (by decide), e18, zI_si_row]
      · rw [zI_si_rne c]
        exact kk k (by simp; omega) (by simp; omega)
    · have a83 : M1.1 83 = M.1 83 := f1 83 (by simp; omega)
      refine R_text hu hL (by rw [a83]; exact e4) (fun k hk => by rw [a83]) hr (fun hn => absurd ⟨h1, h2⟩ hn) (fun _ _ M2 k2 j2 st n8 off => ⟨rfl, ?_⟩)
      rw [a83] at off
      have kk : ∀ k, k ∉ [82, 83, 87] → k ∉ [18, 21 + 4 * u, 22 + 4 * u, 68, 69, 70] → M2.1 k = M.1 k := fun k p1 p2 => (k2 k p1).trans (f1 k p2)
      subst h1
      have zc := zcode_of (f := fun k => M2.1 83 (147 + 125 * u + k)) (g := M2.1 (22 + 4 * u + 0)) hr x1 (fun k hk => by rw [k2 _ (by simp; omega)]; exact e22 k hk) (fun k hk => st k hk)
      refine h.town (s2 := M2.1 83) (r4.txt (u := u) (by omega) (fun k p1 p2 p3 p4 => ?_) (fun k hk => off k hk) (Or.inr ⟨?_, g2.2.1, zc.1, ?_, n8, zc.2⟩)) (hW.t4 (by rw [off 4 (by omega)]; exact if_pos rfl) (fun k p1 p2 => by rw [off k (by omega)]; exact if_neg p1)) rfl (fun k hk => kk k (by simp; omega) (by simp; omega)) ((j2 3 (by omega)).trans (by rw [f1 82 (by simp; omega)])) ((j2 16 (by omega)).trans (by rw [f1 82 (by simp; omega)]))
      · by_cases c : k = 18
        · rw [c, k2 18 (by decide), e18, zI_si_row]
        · rw [zI_si_rne c]
          exact kk k (by simp; omega) (by simp; omega)
      · rw [k2 _ (by simp; omega)]
        exact e0
      · rw [k2 _ (by simp; omega)]
        exact e1
  · have n0 : ¬ a = 0 := fun z => ha (Or.inl z)
    have n1 : ¬ a = 1 := fun z => ha (Or.inr z)
    apply zg_X10_text
    refine ⟨fun z => absurd z n0, fun _ => ⟨fun z => absurd z n1, fun _ => ?_⟩⟩
    apply zg_X11_text
    refine ⟨fun _ => ⟨rfl, h.err1 (by decide)⟩, fun c1 => ⟨fun _ => ⟨rfl, h.err1 (by decide)⟩, fun c2 => ?_⟩⟩
    exfalso
    grind

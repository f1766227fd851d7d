/-! The pair of voices. -/
def vL (k m : Int32) (kk v : Nat) (x : Int32) : List Int32 := if v = 0 then (vo k kk x).1 else if v = 1 then (vp k m kk kk x).1 else if v = 2 then (vaa k m kk kk x).1 else vlL k m kk kk
def vV (k m : Int32) (kk v : Nat) (x : Int32) : Int32 := if v = 0 then (vo k kk x).2 else if v = 1 then (vp k m kk kk x).2 else if v = 2 then (vaa k m kk kk x).2 else vlV k m kk kk x
theorem vL_len {k m : Int32} {kk v : Nat} {x : Int32} : (vL k m kk v x).length ≤ 7 := by
  have h0 := vo_len (k := k) (f := kk) (x := x)
  have h1 := vp_len (k := k) (m := m) (kk := kk) (f := kk) (x := x)
  have h2 := vaa_len (k := k) (m := m) (kk := kk) (f := kk) (x := x)
  have h3 := vlL_len (k := k) (m := m) (kk := kk) (f := kk)
  unfold vL
  repeat' split
  all_goals omega
theorem X_vrun {d kk v : Nat} {x : Int32} {M : zm_M} {Q : Int32 → zm_M → Prop} (hkk : kk < 7) (hv : v < 4) (h3 : M.1 71 3 = zon kk) (h2 : M.1 71 2 = 0) (ht : M.1 71 1 = zon 0) (hQ1 : (v = 3 ∧ M.1 71 5 = M.1 71 4) → ∀ z M1, VR 71 1 72 (zm_si M 71 2 1) 0 M1 (vL (M.1 71 4) (M.1 71 5) kk v x) → Q z M1) (hQ0 : ¬ (v = 3 ∧ M.1 71 5 = M.1 71 4) → ∀ M1, VR 71 1 72 M 0 M1 (vL (M.1 71 4) (M.1 71 5) kk v x) → Q (vV (M.1 71 4) (M.1 71 5) kk v x) M1) : zi (d + 14) 59 [.ref 71, .int (zon kk), .int (zon v), .int x, .int (zon 0)] M Q := by
  rcases (show v = 0 ∨ v = 1 ∨ v = 2 ∨ v = 3 by omega) with rfl | rfl | rfl | rfl
  · exact X_owes (d := d + 8) (t := 0) hkk ht (by decide) (by decide) (hQ0 (by simp))
  · exact X_pays (d := d + 4) (t := 0) hkk hkk h3 ht (by decide) (by decide) (hQ0 (by simp))
  · exact X_asks (d := d) (t := 0) hkk hkk h3 ht (by decide) (by decide) (hQ0 (by simp))
  · exact X_leaves (d := d + 2) (t := 0) hkk hkk h3 h2 ht (by decide) (by decide) (fun z M1 r1 => hQ1 ⟨rfl, z⟩ _ M1 r1) (fun z M1 r1 => hQ0 (fun y => z y.2) M1 r1)
theorem voice_fin {M M2 : zm_M} (h : Inv M) (e : ∀ c, c ∉ [71, 72, 81, 82, 86, 92] → M2.1 c = M.1 c) (e3 : M2.1 82 3 = M.1 82 3) (hE : IE M2) (hT : IT M2) : Inv M2 := by
  obtain ⟨⟨hR, hW⟩, hK, hS, -, -⟩ := h
  refine ⟨?_, hK.off (fun k h1 h2 => e k ?_) (e 84 (by decide)) (by rw [e 0 (by decide)]) e3, hS.off (fun k hk => e k ?_), hE, hT⟩
  · rw [e 83 (by decide)]
    refine ⟨hR.congr (fun k h1 h2 => e k ?_), hW⟩
    simp only [List.mem_cons, List.not_mem_nil, or_false]
    omega
  · simp only [List.mem_cons, List.not_mem_nil, or_false]
    omega
  · simp only [List.mem_cons, List.not_mem_nil, or_false]
    omega
theorem voice_it {M2 : zm_M} {L : List Int32} (hl : L.length ≤ 7) (h1 : M2.1 71 1 = zon L.length) (h2 : M2.1 82 16 = zon L.length) (h3 : ∀ i, i < L.length → M2.1 72 i = L.getD i 0) (h4 : ∀ i, i < L.length → M2.1 92 i = L.getD i 0) : IT M2 := by
  refine ⟨h1.trans h2.symm, ⟨?_, ?_⟩, fun j hj => ?_⟩
  · rw [h2]
    exact zon_0le (by omega)
  · rw [h2, Int32.le_iff_toInt_le, zon_i (by omega), show (30 : Int32).toInt = 30 from rfl]
    omega
  · rw [h2, zon_i (by omega)] at hj
    rw [h3 j (by omega), h4 j (by omega)]
theorem pair_voice {d : Nat} {M : zm_M} {a b x : Int32} (h : Inv M) : zi (d + 16) 85 [.ref 0, .int a, .int b, .int x] M (fun v M1 => zi (d + 10) 189 [.ref 82, .int a, .int b, .int x] M1 (fun w M2 => v = w ∧ Inv M2)) := by
  obtain ⟨hR, hW⟩ := h.1
  have e20 : M.1 2 0 = M.1 83 0 := hR.1 0 2 0 rfl
  have r83 : ∀ j v, (zm_si M 81 j v).1 83 = M.1 83 := fun j v => zI_si_rne (by decide)
  apply zg_X10_voice (d := d + 15)
  rw [e20]
  rcases h.pcase a with (g1 | ⟨g1, g2, g3⟩) | ⟨p, rfl, hp, hpN, ⟨g1, g2, g3⟩, pin⟩
  · refine ⟨fun _ => ?_, fun z => absurd g1 z⟩
    apply zg_X11_voice (d := d + 8)
    exact ⟨fun _ => ⟨rfl, h.err1 (by decide)⟩, fun z => absurd g1 z⟩
  · refine ⟨fun z => absurd z g1, fun _ => ⟨fun z => absurd z g2, fun _ => ?_⟩⟩
    apply zg_X11_voice (d := d + 8)
    rw [r83]
    exact ⟨fun z => absurd z g1, fun _ => ⟨fun _ => ⟨rfl, h.err1 (by decide)⟩, fun z => absurd g3 z⟩⟩
  · by_cases b0 : b < 0
    · refine ⟨fun z => absurd z g1, fun _ => ⟨fun _ => ⟨fun _ => ?_, fun z => absurd b0 z⟩, fun z => absurd g2 z⟩⟩
      apply zg_X11_voice (d := d + 8)
      rw [r83]
      exact ⟨fun z => absurd z g1, fun _ => ⟨fun z => absurd z g3, fun _ => ⟨fun _ => ⟨rfl, h.err1 (by decide)⟩, fun z => absurd b0 z⟩⟩⟩
    · by_cases b3 : 3 < b
      · refine ⟨fun z => absurd z g1, fun _ => ⟨fun _ => ⟨fun z => absurd z b0, fun _ => ⟨fun _ => ?_, fun z => absurd b3 z⟩⟩, fun z => absurd g2 z⟩⟩
        apply zg_X11_voice (d := d + 8)
        rw [r83]
        exact ⟨fun z => absurd z g1, fun _ => ⟨fun z => absurd z g3, fun _ => ⟨fun z => absurd z b0, fun _ => ⟨fun _ => ⟨rfl, h.err1 (by decide)⟩, fun z => absurd b3 z⟩⟩⟩⟩
      · obtain ⟨v, rfl, hv⟩ := zof2 (x := b) (m := 3) (n := 3) (by grind) (by grind) rfl
        have hPW := hW.2.2.2.2.2.2.2.1 p hpN
        obtain ⟨kk, ekk, hkk⟩ := zof2 (x := M.1 83 (10 + 8 * p)) (m := 6) (n := 6) hPW.1.1 hPW.1.2 rfl
        have x4 : M.1 4 p = zon kk := (hR.pers (w := 0) hp (by decide) (by omega)).trans ekk
        have x5 : M.1 5 p = M.1 83 (11 + 8 * p) := hR.pers (w := 1) hp (by decide) (by omega)
        refine ⟨fun z => absurd z g1, fun _ => ⟨fun _ => ⟨fun z => absurd z b0, fun _ => ⟨fun z => absurd z b3, fun _ => ⟨pin, pin, ?_⟩⟩⟩, fun z => absurd g2 z⟩⟩
        rw [zon_n (show p < 2000 by omega), x4, x5]
        apply zg_X9_speak (d := d + 14)
        generalize hM0 : zm_si (zm_si (zm_si (zm_si (zm_si M 71 3 (zon kk)) 71 4 (zon p)) 71 5 (M.1 83 (11 + 8 * p))) 71 1 0) 71 2 0 = M0
        have k3 : M0.1 71 3 = zon kk := by rw [← hM0]; simp [zI_si]
        have k4 : M0.1 71 4 = zon p := by rw [← hM0]; simp [zI_si]
        have k5 : M0.1 71 5 = M.1 83 (11 + 8 * p) := by rw [← hM0]; simp [zI_si]
        have k1 : M0.1 71 1 = zon 0 := by rw [← hM0]; simp [zI_si]; rfl
        have k2 : M0.1 71 2 = 0 := by rw [← hM0]; simp [zI_si]
        have kq : ∀ c, c ≠ 71 → M0.1 c = M.1 c := fun c hc => by
          rw [← hM0, zI_si_rne hc, zI_si_rne hc, zI_si_rne hc, zI_si_rne hc, zI_si_rne hc]
        generalize hm : M.1 83 (11 + 8 * p) = m at *
        have hlen := vL_len (k := zon p) (m := m) (kk := kk) (v := v) (x := x)
        -- the reference's run, from any memory behind the class's
        have rr : ∀ (M3 : zm_M) (Q : Int32 → zm_M → Prop), M3.1 83 = M.1 83 → ((v = 3 ∧ m = zon p) → ∀ M2, VR 82 16 92 (zm_si (zm_si (zm_si (zm_si M3 82 16 0) 82 17 (zon p)) 82 18 0) 82 18 1) 0 M2 (vL (zon p) m kk v x) → Q (-1000000000 - 6) (zm_si M2 86 6 (M2.1 86 6 + 1))) → (¬ (v = 3 ∧ m = zon p) → ∀ M2, VR 82 16 92 (zm_si (zm_si (zm_si M3 82 16 0) 82 17 (zon p)) 82 18 0) 0 M2 (vL (zon p) m kk v x) → Q (vV (zon p) m kk v x) M2) → zi (d + 10) 189 [.ref 82, .int (zon p), .int (zon v), .int x] M3 Q := fun M3 Q e83 hF hU => by
          have i0 : zm_inb (zon (10 + 8 * p)) 480 = true := by rw [zon_inb (by omega)]; omega
          apply zg_X11_voice (d := d + 8)
          rw [e83, zP0, zon_n (show 10 + 8 * p < 2000 by omega), ekk]
          generalize hM0' : zm_si (zm_si (zm_si M3 82 16 0) 82 17 (zon p)) 82 18 0 = N0 at *
          have n16 : N0.1 82 16 = zon 0 := by rw [← hM0']; simp [zI_si]; rfl
          have n17 : N0.1 82 17 = zon p := by rw [← hM0']; simp [zI_si]
          have n18 : N0.1 82 18 = 0 := by rw [← hM0']; simp [zI_si]
          have n83 : N0.1 83 = M.1 83 := by rw [← hM0', zI_si_rne (by decide), zI_si_rne (by decide), zI_si_rne (by decide), e83]
          have nkk : N0.1 83 (10 + 8 * p) = zon kk := by rw [n83, ekk]
          have nm : N0.1 83 (11 + 8 * p) = m := by rw [n83, hm]
          have un : ∀ (w : Int32) M2 L, VR 82 16 92 N0 0 M2 L → Q w M2 → (M2.1 82 18 = 0 → Q w M2) ∧ (¬ M2.1 82 18 = 0 → Q (-1000000000 - 6) (zm_si M2 86 6 (M2.1 86 6 + 1))) := fun w M2 L r hq => by
            have : M2.1 82 18 = 0 := (r.2.2.2.1 18 (by decide)).trans n18
            exact ⟨fun _ => hq, fun z => absurd this z⟩
          refine ⟨fun z => absurd z g1, fun _ => ⟨fun z => absurd z g3, fun _ => ⟨fun z => absurd z b0, fun _ => ⟨fun z => absurd z b3, fun _ => ⟨i0, ?_⟩⟩⟩⟩⟩
          rcases (show v = 0 ∨ v = 1 ∨ v = 2 ∨ v = 3 by omega) with rfl | rfl | rfl | rfl
          · refine ⟨fun _ => V_owes (d := d + 6) (t := 0) (by omega) n16 (by decide) (fun M2 r2 => ?_), fun z => absurd rfl z⟩
            rw [n17] at r2 ⊢
            exact un _ M2 _ r2 (hU (by simp) M2 r2)
          · refine ⟨fun z => absurd z (by decide), fun _ => ⟨fun _ => V_pays (d := d + 3) (t := 0) (by omega) (by omega) hp n17 nkk n16 (by decide) (fun M2 r2 => ?_), fun z => absurd rfl z⟩⟩
            rw [n17, nm] at r2 ⊢
            exact un _ M2 _ r2 (hU (by simp) M2 r2)
          · refine ⟨fun z => absurd z (by decide), fun _ => ⟨fun z => absurd z (by decide), fun _ => ⟨fun _ => V_asks (d := d) (t := 0) (by omega) (by omega) hp n17 nkk n16 (by decide) (fun M2 r2 => ?_), fun z => absurd rfl z⟩⟩⟩
            rw [n17, nm] at r2 ⊢
            exact un _ M2 _ r2 (hU (by simp) M2 r2)
          · refine ⟨fun z => absurd z (by decide), fun _ => ⟨fun z => absurd z (by decide), fun _ => ⟨fun z => absurd z (by decide), fun _ => V_leaves (d := d) (t := 0) (by omega) (by omega) hp n17 nkk n18 n16 (by decide) (fun z M2 r2 => ?_) (fun z M2 r2 => ?_)⟩⟩⟩
            · rw [nm] at z r2
              have : M2.1 82 18 = 1 := (r2.2.2.2.1 18 (by decide)).trans zI_si_eq
              rw [this]
              exact ⟨fun y => absurd y (by decide), fun _ => hF ⟨rfl, z⟩ M2 r2⟩
            · rw [nm] at z r2 ⊢
              exact un _ M2 _ r2 (hU (fun y => z y.2) M2 r2)
        refine X_vrun (d := d) (by omega) (by omega) k3 k2 k1 (fun z w M1 r1 => ?_) (fun z M1 r1 => ?_)
        · rw [k4, k5] at z r1
          have f2 : M1.1 71 2 = 1 := (r1.2.2.2.1 2 (by decide)).trans zI_si_eq
          rw [f2]
          refine ⟨fun y => absurd y (by decide), fun _ => ?_⟩
          have c1 : ∀ c, c ≠ 71 → c ≠ 72 → M1.1 c = M.1 c := fun c h1 h2 => by rw [r1.2.2.2.2 c h1 h2, zI_si_rne h1, kq c h1]
          refine rr (zm_si M1 81 6 (M1.1 81 6 + 1)) _ (by rw [zI_si_rne (by decide), c1 83 (by decide) (by decide)]) (fun _ M2 r2 => ⟨rfl, ?_⟩) (fun y => absurd z y)
          have c2 : ∀ c, c ≠ 82 → c ≠ 92 → c ≠ 86 → (zm_si M2 86 6 (M2.1 86 6 + 1)).1 c = (zm_si M1 81 6 (M1.1 81 6 + 1)).1 c := fun c h1 h2 h3 => by
            rw [zI_si_rne h3, r2.2.2.2.2 c h1 h2, zI_si_rne h1, zI_si_rne h1, zI_si_rne h1, zI_si_rne h1]
          refine voice_fin h (fun c hc => ?_) ?_ ?_ (voice_it (L := vL (zon p) m kk v x) hlen ?_ ?_ (fun i hi => ?_) (fun i hi => ?_))
          · simp only [List.mem_cons, List.not_mem_nil, or_false, not_or] at hc
            rw [c2 c hc.2.2.2.1 hc.2.2.2.2.2 hc.2.2.2.2.1, zI_si_rne hc.2.2.1, c1 c hc.1 hc.2.1]
          · rw [zI_si_ne (by decide), r2.2.2.2.1 3 (by decide)]
            simp [zI_si]
            rw [c1 82 (by decide) (by decide)]
          · intro q hq
            rw [c2 81 (by decide) (by decide) (by decide)]
            have hE := h.2.2.2.1 q hq
            have e86 : M2.1 86 = M.1 86 := by rw [r2.2.2.2.2 86 (by decide) (by decide), zI_si_rne (by decide), zI_si_rne (by decide), zI_si_rne (by decide), zI_si_rne (by decide), zI_si_rne (by decide), c1 86 (by decide) (by decide)]
            rw [zI_si, if_pos rfl, zI_si, if_pos rfl, e86, c1 81 (by decide) (by decide)]
            by_cases h6 : q = 6
            · rw [if_pos h6, if_pos h6]
              subst h6
              rw [hE]
            · rw [if_neg h6, if_neg h6]
              exact hE
          · rw [c2 71 (by decide) (by decide) (by decide), zI_si_ne (by decide)]
            have := r1.1
            rw [Nat.zero_add] at this
            exact this
          · have := r2.1
            rw [Nat.zero_add] at this
            rw [zI_si_ne (by decide)]
            exact this
          · rw [c2 72 (by decide) (by decide) (by decide), zI_si_ne (by decide)]
            have := r1.2.1 i hi
            rw [Nat.zero_add] at this
            exact this
          · have := r2.2.1 i hi
            rw [Nat.zero_add] at this
            rw [zI_si_ne (by decide)]
            exact this
        · rw [k4, k5] at z r1 ⊢
          have f2 : M1.1 71 2 = 0 := (r1.2.2.2.1 2 (by decide)).trans k2
          rw [f2]
          refine ⟨fun _ => ?_, fun y => absurd rfl y⟩
          have c1 : ∀ c, c ≠ 71 → c ≠ 72 → M1.1 c = M.1 c := fun c h1 h2 => by rw [r1.2.2.2.2 c h1 h2, kq c h1]
          refine rr M1 _ (c1 83 (by decide) (by decide)) (fun y => absurd y z) (fun _ M2 r2 => ⟨rfl, ?_⟩)
          have c2 : ∀ c, c ≠ 82 → c ≠ 92 → M2.1 c = M1.1 c := fun c h1 h2 => by
            rw [r2.2.2.2.2 c h1 h2, zI_si_rne h1, zI_si_rne h1, zI_si_rne h1]
          refine voice_fin h (fun c hc => ?_) ?_ ?_ (voice_it (L := vL (zon p) m kk v x) hlen ?_ ?_ (fun i hi => ?_) (fun i hi => ?_))
          · simp only [List.mem_cons, List.not_mem_nil, or_false, not_or] at hc
            rw [c2 c hc.2.2.2.1 hc.2.2.2.2.2, c1 c hc.1 hc.2.1]
          · rw [r2.2.2.2.1 3 (by decide)]
            simp [zI_si]
            rw [c1 82 (by decide) (by decide)]
          · intro q hq
            rw [c2 81 (by decide) (by decide), c2 86 (by decide) (by decide), c1 81 (by decide) (by decide), c1 86 (by decide) (by decide)]
            exact h.2.2.2.1 q hq
          · rw [c2 71 (by decide) (by decide)]
            have := r1.1
            rw [Nat.zero_add] at this
            exact this
          · have := r2.1
            rw [Nat.zero_add] at this
            exact this
          · rw [c2 72 (by decide) (by decide)]
            have := r1.2.1 i hi
            rw [Nat.zero_add] at this
            exact this
          · have := r2.2.1 i hi
            rw [Nat.zero_add] at this
            exact this

/-! Voices: the reference's asks and leaves; the pair. -/
theorem V_asks0 {d kk p t : Nat} {x : Int32} {M : zm_M} {Q : Int32 → zm_M → Prop} (hkk : kk < 7) (hp : p < 12) (h17 : M.1 82 17 = zon p) (hk : M.1 83 (10 + 8 * p) = zon kk) (ht : M.1 82 16 = zon t) (ht2 : t + 5 < 30) (hQ : ∀ M1, VR 82 16 92 M t M1 (va0 (M.1 82 17) (M.1 83 (11 + 8 * p)) kk x).1 → Q (va0 (M.1 82 17) (M.1 83 (11 + 8 * p)) kk x).2 M1) : zi (d + 7) 187 [.ref 82, .int (zon 0), .int x] M Q := by
  have it : zm_inb (zon t) 30 = true := by rw [zon_inb (by omega)]; omega
  have l30 : zon t < 30 := by rw [zon_ltl (b := 30) (by omega) rfl]; omega
  have i0 : zm_inb (zon (10 + 8 * p)) 480 = true := by rw [zon_inb (by omega)]; omega
  have i1 : zm_inb (zon (11 + 8 * p)) 480 = true := by rw [zon_inb (by omega)]; omega
  have r : zi (d + 6) 186 [.ref 82, .int (zon kk), .int x] (psh 82 16 92 M t 12) (fun v M' => zm_inb ((10 + (8 * (M'.1 82 17))) + 1) 480 = true ∧ (Q (v - (M'.1 83 (((10 + (8 * (M'.1 82 17))) + 1).toNatClampNeg))) M')) := V_pays (d := d) hkk hkk hp ((psh82 (by decide)).trans h17) (by rw [psh83]; exact hk) (t := t + 1) psh_b (by omega) (fun M1 r1 => by
    rw [psh82 (by decide), psh83] at r1 ⊢
    have g17 : M1.1 82 17 = M.1 82 17 := (r1.2.2.2.1 17 (by decide)).trans (psh82 (by decide))
    have g83 : M1.1 83 = M.1 83 := (r1.2.2.2.2 83 (by decide) (by decide)).trans psh83
    rw [g17, h17, zP1, zon_n (by omega), g83]
    have h9 := hQ M1 (VR.cons (VR.push (by decide)) r1)
    unfold va0 at h9
    rw [h17] at h9
    exact ⟨i1, h9⟩)
  apply zg_X11_asksBy (d := d + 5)
  rw [ht, h17, zP0, zon_n (show t < 2000 by omega), zon_n (show 10 + 8 * p < 2000 by omega), zon_s, hk]
  exact ⟨fun _ => ⟨fun _ => ⟨it, i0, r⟩, fun z => absurd l30 z⟩, fun z => absurd rfl z⟩
theorem V_asks {d f kk p t : Nat} {x : Int32} {M : zm_M} {Q : Int32 → zm_M → Prop} (hf : f < 7) (hkk : kk < 7) (hp : p < 12) (h17 : M.1 82 17 = zon p) (hk : M.1 83 (10 + 8 * p) = zon kk) (ht : M.1 82 16 = zon t) (ht2 : t + 6 < 30) (hQ : ∀ M1, VR 82 16 92 M t M1 (vaa (M.1 82 17) (M.1 83 (11 + 8 * p)) kk f x).1 → Q (vaa (M.1 82 17) (M.1 83 (11 + 8 * p)) kk f x).2 M1) : zi (d + 9) 187 [.ref 82, .int (zon f), .int x] M Q := by
  have it : zm_inb (zon t) 30 = true := by rw [zon_inb (by omega)]; omega
  have l30 : zon t < 30 := by rw [zon_ltl (b := 30) (by omega) rfl]; omega
  have up : ∀ (b : Int32) (x : Int32) (Q2 : Int32 → zm_M → Prop), (∀ M1, VR 82 16 92 M t M1 (b :: (va0 (M.1 82 17) (M.1 83 (11 + 8 * p)) kk x).1) → VR 82 16 92 (psh 82 16 92 M t b) (t + 1) M1 (va0 (M.1 82 17) (M.1 83 (11 + 8 * p)) kk x).1 → Q2 (va0 (M.1 82 17) (M.1 83 (11 + 8 * p)) kk x).2 M1) → zi (d + 7) 187 [.ref 82, .int (zon 0), .int x] (psh 82 16 92 M t b) Q2 := fun b x Q2 hQ2 => V_asks0 (d := d) hkk hp ((psh82 (by decide)).trans h17) (by rw [psh83]; exact hk) (t := t + 1) psh_b (by omega) (fun M1 r1 => by
    rw [psh82 (by decide), psh83] at r1 ⊢
    exact hQ2 M1 (VR.cons (VR.push (by decide)) r1) r1)
  rcases (show f = 0 ∨ f = 1 ∨ f = 2 ∨ f = 3 ∨ f = 4 ∨ f = 5 ∨ f = 6 by omega) with rfl | rfl | rfl | rfl | rfl | rfl | rfl
  · exact V_asks0 (d := d + 2) hkk hp h17 hk ht (by omega) hQ
  · have r : zi (d + 8) 187 [.ref 82, .int (zon 0), .int x] M Q := V_asks0 (d := d + 1) hkk hp h17 hk ht (by omega) hQ
    apply zg_X11_asksBy (d := d + 7)
    exact ⟨fun z => absurd z (by decide), fun _ => ⟨fun _ => ⟨fun z => absurd z (by decide), fun _ => ⟨fun z => absurd z (by decide), fun _ => r⟩⟩, fun z => absurd rfl z⟩⟩
  · have r : zi (d + 8) 187 [.ref 82, .int (zon 0), .int x] M Q := V_asks0 (d := d + 1) hkk hp h17 hk ht (by omega) hQ
    apply zg_X11_asksBy (d := d + 7)
    exact ⟨fun z => absurd z (by decide), fun _ => ⟨fun z => absurd z (by decide), fun _ => ⟨fun _ => ⟨fun z => absurd z (by decide), fun _ => ⟨fun z => absurd z (by decide), fun _ => r⟩⟩, fun z => absurd rfl z⟩⟩⟩
  · have r : zi (d + 8) 187 [.ref 82, .int (zon 0), .int (x / 2)] (psh 82 16 92 M t 40) (fun v M' => Q v M') := zi.dep (up 40 (x / 2) _ (fun M1 r1 _ => hQ M1 r1)) (by omega)
    apply zg_X11_asksBy (d := d + 7)
    rw [ht, zon_n (show t < 2000 by omega), zon_s]
    exact ⟨fun z => absurd z (by decide), fun _ => ⟨fun z => absurd z (by decide), fun _ => ⟨fun z => absurd z (by decide), fun _ => ⟨fun _ => ⟨fun _ => ⟨it, r⟩, fun z => absurd l30 z⟩, fun z => absurd rfl z⟩⟩⟩⟩
  · have r : zi (d + 8) 187 [.ref 82, .int (zon 1), .int x] (psh 82 16 92 M t 51) (fun v M' => Q (v ^^^ (M'.1 82 17)) M') := by
      have r0 := up 51 x (fun v M' => Q (v ^^^ (M'.1 82 17)) M') (fun M1 r1 r2 => by
        have g17 : M1.1 82 17 = M.1 82 17 := (r2.2.2.2.1 17 (by decide)).trans (psh82 (by decide))
        rw [g17]
        exact hQ M1 r1)
      apply zg_X11_asksBy (d := d + 6)
      exact ⟨fun z => absurd z (by decide), fun _ => ⟨fun _ => ⟨fun z => absurd z (by decide), fun _ => ⟨fun z => absurd z (by decide), fun _ => r0⟩⟩, fun z => absurd rfl z⟩⟩
    apply zg_X11_asksBy (d := d + 7)
    rw [ht, zon_n (show t < 2000 by omega), zon_s]
    exact ⟨fun z => absurd z (by decide), fun _ => ⟨fun z => absurd z (by decide), fun _ => ⟨fun z => absurd z (by decide), fun _ => ⟨fun z => absurd z (by decide), fun _ => ⟨fun _ => ⟨fun _ => ⟨it, r⟩, fun z => absurd l30 z⟩, fun z => absurd rfl z⟩⟩⟩⟩⟩
  · have r : zi (d + 8) 187 [.ref 82, .int (zon 3), .int x] M Q := by
      have r0 := up 40 (x / 2) (fun v M' => Q v M') (fun M1 r1 _ => hQ M1 r1)
      apply zg_X11_asksBy (d := d + 6)
      rw [ht, zon_n (show t < 2000 by omega), zon_s]
      exact ⟨fun z => absurd z (by decide), fun _ => ⟨fun z => absurd z (by decide), fun _ => ⟨fun z => absurd z (by decide), fun _ => ⟨fun _ => ⟨fun _ => ⟨it, r0⟩, fun z => absurd l30 z⟩, fun z => absurd rfl z⟩⟩⟩⟩
    apply zg_X11_asksBy (d := d + 7)
    exact ⟨fun z => absurd z (by decide), fun _ => ⟨fun z => absurd z (by decide), fun _ => ⟨fun z => absurd z (by decide), fun _ => ⟨fun z => absurd z (by decide), fun _ => ⟨fun z => absurd z (by decide), fun _ => ⟨fun z => absurd z (by decide), fun _ => ⟨fun _ => r, fun z => absurd rfl z⟩⟩⟩⟩⟩⟩⟩
  · have r : zi (d + 8) 187 [.ref 82, .int (zon 0), .int x] M Q := V_asks0 (d := d + 1) hkk hp h17 hk ht (by omega) hQ
    apply zg_X11_asksBy (d := d + 7)
    exact ⟨fun z => absurd z (by decide), fun _ => ⟨fun z => absurd z (by decide), fun _ => ⟨fun z => absurd z (by decide), fun _ => ⟨fun z => absurd z (by decide), fun _ => ⟨fun z => absurd z (by decide), fun _ => ⟨fun z => absurd z (by decide), fun _ => ⟨fun z => absurd z (by decide), fun _ => r⟩⟩⟩⟩⟩⟩⟩
theorem V_leaves0 {d p t : Nat} {x : Int32} {M : zm_M} {Q : Int32 → zm_M → Prop} (hp : p < 12) (h17 : M.1 82 17 = zon p) (h18 : M.1 82 18 = 0) (ht : M.1 82 16 = zon t) (ht2 : t < 30) (hQ1 : M.1 83 (11 + 8 * p) = zon p → ∀ M1, VR 82 16 92 (zm_si M 82 18 1) t M1 [13] → Q 0 M1) (hQ0 : ¬ M.1 83 (11 + 8 * p) = zon p → ∀ M1, VR 82 16 92 M t M1 [13] → Q (x / (M.1 83 (11 + 8 * p) - zon p)) M1) : zi (d + 2) 188 [.ref 82, .int (zon 0), .int x] M Q := by
  have it : zm_inb (zon t) 30 = true := by rw [zon_inb (by omega)]; omega
  have l30 : zon t < 30 := by rw [zon_ltl (b := 30) (by omega) rfl]; omega
  have i1 : zm_inb (zon (11 + 8 * p)) 480 = true := by rw [zon_inb (by omega)]; omega
  have v0 : VR 82 16 92 M t (zm_si (psh 82 16 92 M t 13) 82 18 0) [13] := by
    have h := VR.pf (a := 82) (b := 16) (c := 92) (t := t) (p := 18) (M := M) (x := 13) (v := 0) (by decide) (by decide)
    obtain ⟨a1, a2, a3, a4, a5⟩ := h
    refine ⟨a1, a2, fun j hj => ?_, fun j hj => ?_, fun q h1 h2 => ?_⟩
    · rw [a3 j hj, zI_si_ne (by decide)]
    · rw [a4 j hj, zI_si, if_pos rfl]
      by_cases h : j = 18
      · rw [if_pos h, h, h18]
      · rw [if_neg h]
    · rw [a5 q h1 h2, zI_si_rne h1]
  apply zg_X11_leavesBy
  rw [ht, h17, zP1, zon_n (show t < 2000 by omega), zon_n (show 11 + 8 * p < 2000 by omega), zon_s]
  refine ⟨fun _ => ⟨fun _ => ⟨it, i1, fun z => ⟨fun _ => ?_, fun y => absurd z y⟩, fun z => ⟨fun y => absurd y z, fun _ => ⟨fun y => ?_, fun y => ⟨z, ?_⟩⟩⟩⟩, fun z => absurd l30 z⟩, fun z => absurd rfl z⟩
  · exact hQ1 (by grind) _ (VR.pf (by decide) (by decide))
  · have h9 := hQ0 (fun w => z (by rw [w]; exact Int32.sub_self (zon p))) _ v0
    rw [y, zdivm] at h9
    exact h9
  · exact hQ0 (fun w => z (by rw [w]; exact Int32.sub_self (zon p))) _ v0
theorem V_leaves1 {d kk p t : Nat} {x : Int32} {M : zm_M} {Q : Int32 → zm_M → Prop} (hkk : kk < 7) (hp : p < 12) (h17 : M.1 82 17 = zon p) (hk : M.1 83 (10 + 8 * p) = zon kk) (h18 : M.1 82 18 = 0) (ht : M.1 82 16 = zon t) (ht2 : t + 6 < 30) (hQ1 : M.1 83 (11 + 8 * p) = zon p → ∀ M1, VR 82 16 92 (zm_si M 82 18 1) t M1 [21, 13] → Q 0 M1) (hQ0 : ¬ M.1 83 (11 + 8 * p) = zon p → ∀ M1, VR 82 16 92 M t M1 (21 :: 13 :: (vp (zon p) (M.1 83 (11 + 8 * p)) kk kk 1).1) → Q (x / (M.1 83 (11 + 8 * p) - zon p) + (vp (zon p) (M.1 83 (11 + 8 * p)) kk kk 1).2) M1) : zi (d + 7) 188 [.ref 82, .int (zon 1), .int x] M Q := by
  have it : zm_inb (zon t) 30 = true := by rw [zon_inb (by omega)]; omega
  have l30 : zon t < 30 := by rw [zon_ltl (b := 30) (by omega) rfl]; omega
  have i0 : zm_inb (zon (10 + 8 * p)) 480 = true := by rw [zon_inb (by omega)]; omega
  have r : zi (d + 6) 188 [.ref 82, .int (zon 0), .int x] (psh 82 16 92 M t 21) (fun x28 M27 => ((M27.1 82 18) = (0 : Int32) → zm_inb ((10 + (8 * (M27.1 82 17))) + 0) 480 = true ∧ (zi (d + 6) 186 [.ref 82, .int (M27.1 83 (((10 + (8 * (M27.1 82 17))) + 0).toNatClampNeg)), .int 1] M27 (fun x31 M30 => Q (x28 + x31) M30))) ∧ (¬ (M27.1 82 18) = (0 : Int32) → Q 0 M27)) := by
    refine V_leaves0 (d := d + 4) hp ((psh82 (by decide)).trans h17) ((psh82 (by decide)).trans h18) (t := t + 1) psh_b (by omega) (fun z M1 r1 => ?_) (fun z M1 r1 => ?_)
    · rw [psh83] at z
      have f1 : M1.1 82 18 = 1 := (r1.2.2.2.1 18 (by decide)).trans zI_si_eq
      rw [f1]
      exact ⟨fun y => absurd y (by decide), fun _ => hQ1 z M1 (VR.cons (VR.pf (by decide) (by decide)) r1)⟩
    · rw [psh83] at z ⊢
      have g : ∀ j, j ≠ 16 → M1.1 82 j = M.1 82 j := fun j hj => (r1.2.2.2.1 j hj).trans (psh82 hj)
      have g83 : M1.1 83 = M.1 83 := (r1.2.2.2.2 83 (by decide) (by decide)).trans psh83
      rw [g 18 (by decide), h18, g 17 (by decide), h17, zP0, zon_n (show 10 + 8 * p < 2000 by omega), g83, hk]
      refine ⟨fun _ => ⟨i0, ?_⟩, fun y => absurd rfl y⟩
      refine V_pays (d := d) hkk hkk hp ((g 17 (by decide)).trans h17) (by rw [g83]; exact hk) (t := t + 2) r1.1 (by omega) (fun M2 r2 => ?_)
      rw [g 17 (by decide), h17, g83] at r2 ⊢
      exact hQ0 z M2 (VR.cons (VR.push (by decide)) (VR.cons r1 r2))
  apply zg_X11_leavesBy (d := d + 5)
  rw [ht, zon_n (show t < 2000 by omega), zon_s]
  exact ⟨fun z => absurd z (by decide), fun _ => ⟨fun _ => ⟨fun _ => ⟨it, r⟩, fun z => absurd l30 z⟩, fun z => absurd rfl z⟩⟩
theorem V_leaves {d f kk p t : Nat} {x : Int32} {M : zm_M} {Q : Int32 → zm_M → Prop} (hf : f < 7) (hkk : kk < 7) (hp : p < 12) (h17 : M.1 82 17 = zon p) (hk : M.1 83 (10 + 8 * p) = zon kk) (h18 : M.1 82 18 = 0) (ht : M.1 82 16 = zon t) (ht2 : t + 6 < 30) (hQ1 : M.1 83 (11 + 8 * p) = zon p → ∀ M1, VR 82 16 92 (zm_si M 82 18 1) t M1 (vlL (zon p) (M.1 83 (11 + 8 * p)) kk f) → Q (vlV (zon p) (M.1 83 (11 + 8 * p)) kk f x) M1) (hQ0 : ¬ M.1 83 (11 + 8 * p) = zon p → ∀ M1, VR 82 16 92 M t M1 (vlL (zon p) (M.1 83 (11 + 8 * p)) kk f) → Q (vlV (zon p) (M.1 83 (11 + 8 * p)) kk f x) M1) : zi (d + 9) 188 [.ref 82, .int (zon f), .int x] M Q := by
  have base : ∀ d2, ¬ (f = 1 ∨ f = 4) → zi (d2 + 2) 188 [.ref 82, .int (zon 0), .int x] M Q := fun d2 hn => by
    unfold vlL vlV at hQ1 hQ0
    refine V_leaves0 (d := d2) hp h17 h18 ht (by omega) (fun z => ?_) (fun z => ?_)
    · have := hQ1 z
      rw [if_neg hn, if_pos z] at this
      exact this
    · have := hQ0 z
      rw [if_neg hn, if_neg z, if_neg hn] at this
      exact this
  have base1 : ∀ d2, (f = 1 ∨ f = 4) → zi (d2 + 7) 188 [.ref 82, .int (zon 1), .int x] M Q := fun d2 hn => by
    unfold vlL vlV at hQ1 hQ0
    refine V_leaves1 (d := d2) hkk hp h17 hk h18 ht ht2 (fun z => ?_) (fun z => ?_)
    · have := hQ1 z
      rw [if_pos hn, if_pos z, if_pos z] at this
      exact this
    · have := hQ0 z
      rw [if_pos hn, if_neg z, if_neg z, if_pos hn] at this
      exact this
  rcases (show f = 0 ∨ f = 1 ∨ f = 2 ∨ f = 3 ∨ f = 4 ∨ f = 5 ∨ f = 6 by omega) with rfl | rfl | rfl | rfl | rfl | rfl | rfl
  · exact base (d + 7) (by decide)
  · exact base1 (d + 2) (by decide)
  · have r := base (d + 6) (by decide)
    apply zg_X11_leavesBy (d := d + 7)
    exact ⟨fun z => absurd z (by decide), fun _ => ⟨fun z => absurd z (by decide), fun _ => ⟨fun z => absurd z (by decide), fun _ => ⟨fun z => absurd z (by decide), fun _ => r⟩⟩⟩⟩
  · have r := base (d + 6) (by decide)
    apply zg_X11_leavesBy (d := d + 7)
    exact ⟨fun z => absurd z (by decide), fun _ => ⟨fun z => absurd z (by decide), fun _ => ⟨fun z => absurd z (by decide), fun _ => ⟨fun z => absurd z (by decide), fun _ => r⟩⟩⟩⟩
  · have r := base1 (d + 1) (by decide)
    apply zg_X11_leavesBy (d := d + 7)
    exact ⟨fun z => absurd z (by decide), fun _ => ⟨fun z => absurd z (by decide), fun _ => ⟨fun _ => r, fun z => absurd rfl z⟩⟩⟩
  · have r : zi (d + 8) 188 [.ref 82, .int (zon 3), .int x] M Q := by
      have r0 := base (d + 5) (by decide)
      apply zg_X11_leavesBy (d := d + 6)
      exact ⟨fun z => absurd z (by decide), fun _ => ⟨fun z => absurd z (by decide), fun _ => ⟨fun z => absurd z (by decide), fun _ => ⟨fun z => absurd z (by decide), fun _ => r0⟩⟩⟩⟩
    apply zg_X11_leavesBy (d := d + 7)
    exact ⟨fun z => absurd z (by decide), fun _ => ⟨fun z => absurd z (by decide), fun _ => ⟨fun z => absurd z (by decide), fun _ => ⟨fun _ => r, fun z => absurd rfl z⟩⟩⟩⟩
  · have r := base (d + 6) (by decide)
    apply zg_X11_leavesBy (d := d + 7)
    exact ⟨fun z => absurd z (by decide), fun _ => ⟨fun z => absurd z (by decide), fun _ => ⟨fun z => absurd z (by decide), fun _ => ⟨fun z => absurd z (by decide), fun _ => r⟩⟩⟩⟩

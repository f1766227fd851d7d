/-! Voices: leaves in the class; the reference's; the pair. -/
theorem VR.pf {a b c t p : Nat} {M : zm_M} {x v : Int32} (hac : a ≠ c) (hp : p ≠ b) : VR a b c (zm_si M a p v) t (zm_si (psh a b c M t x) a p v) [x] := by
  have h := VR.push (a := a) (b := b) (c := c) (t := t) (M := M) (x := x) hac
  obtain ⟨a1, a2, a3, a4, a5⟩ := h
  refine ⟨?_, fun i hi => ?_, fun j hj => ?_, fun j hj => ?_, fun q h1 h2 => ?_⟩
  · rw [zI_si, if_pos rfl, if_neg (Ne.symm hp)]
    exact a1
  · rw [zI_si_ne (Ne.symm hac)]
    exact a2 i hi
  · rw [zI_si_ne (Ne.symm hac), zI_si_ne (Ne.symm hac)]
    exact a3 j hj
  · rw [zI_si, if_pos rfl, zI_si, if_pos rfl]
    by_cases hjp : j = p
    · rw [if_pos hjp, if_pos hjp]
    · rw [if_neg hjp, if_neg hjp]
      exact a4 j hj
  · rw [zI_si_rne h1, zI_si_rne h1]
    exact a5 q h1 h2
def vlL (k m : Int32) (kk f : Nat) : List Int32 := if f = 1 ∨ f = 4 then (if m = k then [21, 13] else 21 :: 13 :: (vp k m kk kk 1).1) else [13]
def vlV (k m : Int32) (kk f : Nat) (x : Int32) : Int32 := if m = k then 0 else if f = 1 ∨ f = 4 then x / (m - k) + (vp k m kk kk 1).2 else x / (m - k)
theorem vlL_len {k m : Int32} {kk f : Nat} : (vlL k m kk f).length ≤ 7 := by
  have h1 := vp_len (k := k) (m := m) (kk := kk) (f := kk) (x := 1)
  unfold vlL
  repeat' split
  all_goals first | (simp; done) | (simp only [List.length_cons]; omega)
theorem X_leaves0 {d e t : Nat} {x : Int32} {M : zm_M} {Q : Int32 → zm_M → Prop} (v6 : Nat) (h6 : v6 < 7) (ht : M.1 71 1 = zon t) (ht2 : t < 30) (he : e < 30) (hQ1 : M.1 71 5 = M.1 71 4 → ∀ M1, VR 71 1 72 (zm_si M 71 2 1) t M1 [13] → Q 0 M1) (hQ0 : ¬ M.1 71 5 = M.1 71 4 → ∀ M1, VR 71 1 72 M t M1 [13] → Q (x / (M.1 71 5 - M.1 71 4)) M1) : zt (d + 2) 59 6 [some (.ref 71), none, some (.int (zon 3)), some (.int x), some (.int (zon e)), some (.int (zon 0)), some (.int (zon v6))] [] M (zPi Q) := by
  refine X_sayT (d := d + 1) (f := 0) (vc := 3) (by decide) (by decide) (by omega) (Or.inl rfl) ht ht2 he ?_
  refine X_w13 (d := d) ?_
  apply zg_X9_part
  rw [psh71 (show 5 ≠ 1 by decide), psh71 (show 4 ≠ 1 by decide)]
  refine ⟨fun z => hQ1 z _ (VR.pf (by decide) (by decide)), fun z => ⟨fun y => z (by grind), hQ0 z _ (VR.push (by decide))⟩⟩
theorem X_leaves1 {d kk e t : Nat} {x : Int32} {M : zm_M} {Q : Int32 → zm_M → Prop} (v6 : Nat) (h6 : v6 < 7) (hkk : kk < 7) (h3 : M.1 71 3 = zon kk) (h2 : M.1 71 2 = 0) (ht : M.1 71 1 = zon t) (ht2 : t + 6 < 30) (he : e + 6 < 30) (hQ1 : M.1 71 5 = M.1 71 4 → ∀ M1, VR 71 1 72 (zm_si M 71 2 1) t M1 [21, 13] → Q 0 M1) (hQ0 : ¬ M.1 71 5 = M.1 71 4 → ∀ M1, VR 71 1 72 M t M1 (21 :: 13 :: (vp (M.1 71 4) (M.1 71 5) kk kk 1).1) → Q (x / (M.1 71 5 - M.1 71 4) + (vp (M.1 71 4) (M.1 71 5) kk kk 1).2) M1) : zt (d + 12) 59 6 [some (.ref 71), none, some (.int (zon 3)), some (.int x), some (.int (zon e)), some (.int (zon 1)), some (.int (zon v6))] [] M (zPi Q) := by
  refine X_sayT (d := d + 11) (f := 1) (vc := 3) (by decide) (by decide) (by omega) (Or.inr (by decide)) ht (by omega) (by omega) ?_
  refine X_w21 (d := d + 10) ?_
  apply zg_X9_say
  refine X_leaves0 (d := d + 8) 0 (by decide) (t := t + 1) psh_b (by omega) (by omega) (fun z M1 r1 => ?_) (fun z M1 r1 => ?_)
  · rw [psh71 (show 5 ≠ 1 by decide), psh71 (show 4 ≠ 1 by decide)] at z
    have f1 : M1.1 71 2 = 1 := (r1.2.2.2.1 2 (by decide)).trans zI_si_eq
    rw [f1]
    exact ⟨fun y => absurd y (by decide), fun _ => hQ1 z M1 (VR.cons (VR.pf (by decide) (by decide)) r1)⟩
  · rw [psh71 (show 5 ≠ 1 by decide), psh71 (show 4 ≠ 1 by decide)] at z ⊢
    have g : ∀ j, j ≠ 1 → M1.1 71 j = M.1 71 j := fun j hj => (r1.2.2.2.1 j hj).trans (psh71 hj)
    rw [g 2 (by decide), h2, g 3 (by decide), h3]
    refine ⟨fun _ => ?_, fun y => absurd rfl y⟩
    refine X_pays (d := d) hkk hkk (by rw [g 3 (by decide)]; exact h3) (t := t + 2) r1.1 (by omega) (by omega) (fun M2 r2 => ?_)
    rw [g 4 (by decide), g 5 (by decide)] at r2 ⊢
    exact hQ0 z M2 (VR.cons (VR.push (by decide)) (VR.cons r1 r2))
theorem X_leaves {d f kk e t : Nat} {x : Int32} {M : zm_M} {Q : Int32 → zm_M → Prop} (hf : f < 7) (hkk : kk < 7) (h3 : M.1 71 3 = zon kk) (h2 : M.1 71 2 = 0) (ht : M.1 71 1 = zon t) (ht2 : t + 6 < 30) (he : e + 6 < 30) (hQ1 : M.1 71 5 = M.1 71 4 → ∀ M1, VR 71 1 72 (zm_si M 71 2 1) t M1 (vlL (M.1 71 4) (M.1 71 5) kk f) → Q (vlV (M.1 71 4) (M.1 71 5) kk f x) M1) (hQ0 : ¬ M.1 71 5 = M.1 71 4 → ∀ M1, VR 71 1 72 M t M1 (vlL (M.1 71 4) (M.1 71 5) kk f) → Q (vlV (M.1 71 4) (M.1 71 5) kk f x) M1) : zi (d + 12) 59 [.ref 71, .int (zon f), .int (zon 3), .int x, .int (zon e)] M Q := by
  have base : ∀ v6, v6 < 7 → ¬ (f = 1 ∨ f = 4) → zt (d + 12) 59 6 [some (.ref 71), none, some (.int (zon 3)), some (.int x), some (.int (zon e)), some (.int (zon 0)), some (.int (zon v6))] [] M (zPi Q) := fun v6 h6 hn => by
    unfold vlL vlV at hQ1 hQ0
    refine X_leaves0 (d := d + 10) v6 h6 ht (by omega) (by omega) (fun z => ?_) (fun z => ?_)
    · have := hQ1 z
      rw [if_neg hn, if_pos z] at this
      exact this
    · have := hQ0 z
      rw [if_neg hn, if_neg z, if_neg hn] at this
      exact this
  have base1 : ∀ v6, v6 < 7 → (f = 1 ∨ f = 4) → zt (d + 12) 59 6 [some (.ref 71), none, some (.int (zon 3)), some (.int x), some (.int (zon e)), some (.int (zon 1)), some (.int (zon v6))] [] M (zPi Q) := fun v6 h6 hn => by
    unfold vlL vlV at hQ1 hQ0
    refine X_leaves1 (d := d) v6 h6 hkk h3 h2 ht ht2 he (fun z => ?_) (fun z => ?_)
    · have := hQ1 z
      rw [if_pos hn, if_pos z, if_pos z] at this
      exact this
    · have := hQ0 z
      rw [if_pos hn, if_neg z, if_neg z, if_pos hn] at this
      exact this
  rcases (show f = 0 ∨ f = 1 ∨ f = 2 ∨ f = 3 ∨ f = 4 ∨ f = 5 ∨ f = 6 by omega) with rfl | rfl | rfl | rfl | rfl | rfl | rfl
  · apply zg_X9_say
    exact base 0 (by decide) (by decide)
  · apply zg_X9_say
    exact base1 0 (by decide) (by decide)
  · apply zg_X9_say
    refine X_sayU (d := d + 11) (g := 0) (v6 := 0) (by decide) (by decide) (by decide) rfl rfl ?_
    exact base 1 (by decide) (by decide)
  · apply zg_X9_say
    refine X_sayU (d := d + 11) (g := 0) (v6 := 0) (by decide) (by decide) (by decide) rfl rfl ?_
    exact base 1 (by decide) (by decide)
  · apply zg_X9_say
    refine X_sayU (d := d + 11) (g := 1) (v6 := 0) (by decide) (by decide) (by decide) rfl rfl ?_
    exact base1 1 (by decide) (by decide)
  · apply zg_X9_say
    refine X_sayU (d := d + 11) (g := 3) (v6 := 0) (by decide) (by decide) (by decide) rfl rfl ?_
    refine X_sayU (d := d + 11) (g := 0) (v6 := 1) (by decide) (by decide) (by decide) rfl rfl ?_
    exact base 2 (by decide) (by decide)
  · apply zg_X9_say
    refine X_sayU (d := d + 11) (g := 0) (v6 := 0) (by decide) (by decide) (by decide) rfl rfl ?_
    exact base 1 (by decide) (by decide)
theorem psh82 {M : zm_M} {t j : Nat} {x : Int32} (hj : j ≠ 16) : (psh 82 16 92 M t x).1 82 j = M.1 82 j := psh_a (by decide) hj
theorem psh83 {M : zm_M} {t : Nat} {x : Int32} : (psh 82 16 92 M t x).1 83 = M.1 83 := psh_q (by decide) (by decide)
theorem V_owes0 {d t : Nat} {x : Int32} {M : zm_M} {Q : Int32 → zm_M → Prop} (ht : M.1 82 16 = zon t) (ht2 : t < 30) (hQ : ∀ M1, VR 82 16 92 M t M1 [10] → Q (x + M.1 82 17) M1) : zi (d + 1) 185 [.ref 82, .int (zon 0), .int x] M Q := by
  have it : zm_inb (zon t) 30 = true := by rw [zon_inb (by omega)]; omega
  have l30 : zon t < 30 := by rw [zon_ltl (b := 30) (by omega) rfl]; omega
  apply zg_X11_owesBy
  rw [ht, zon_n (by omega), zon_s]
  exact ⟨fun _ => ⟨fun _ => ⟨it, hQ _ (VR.push (by decide))⟩, fun z => absurd l30 z⟩, fun z => absurd rfl z⟩
theorem V_owes1 {d t : Nat} {x : Int32} {M : zm_M} {Q : Int32 → zm_M → Prop} (ht : M.1 82 16 = zon t) (ht2 : t + 1 < 30) (hQ : ∀ M1, VR 82 16 92 M t M1 [20, 10] → Q (x + M.1 82 17 - 6) M1) : zi (d + 2) 185 [.ref 82, .int (zon 1), .int x] M Q := by
  have it : zm_inb (zon t) 30 = true := by rw [zon_inb (by omega)]; omega
  have l30 : zon t < 30 := by rw [zon_ltl (b := 30) (by omega) rfl]; omega
  have r : zi (d + 1) 185 [.ref 82, .int (zon 0), .int x] (psh 82 16 92 M t 20) (fun v M' => Q (v - 6) M') := V_owes0 (t := t + 1) psh_b (by omega) (fun M1 r1 => by
    rw [psh82 (by decide)]
    exact hQ M1 (VR.cons (VR.push (by decide)) r1))
  apply zg_X11_owesBy
  rw [ht, zon_n (by omega), zon_s]
  exact ⟨fun z => absurd z (by decide), fun _ => ⟨fun _ => ⟨fun _ => ⟨it, r⟩, fun z => absurd l30 z⟩, fun z => absurd rfl z⟩⟩
theorem V_owes {d f t : Nat} {x : Int32} {M : zm_M} {Q : Int32 → zm_M → Prop} (hf : f < 7) (ht : M.1 82 16 = zon t) (ht2 : t + 2 < 30) (hQ : ∀ M1, VR 82 16 92 M t M1 (vo (M.1 82 17) f x).1 → Q (vo (M.1 82 17) f x).2 M1) : zi (d + 3) 185 [.ref 82, .int (zon f), .int x] M Q := by
  have it : zm_inb (zon t) 30 = true := by rw [zon_inb (by omega)]; omega
  have l30 : zon t < 30 := by rw [zon_ltl (b := 30) (by omega) rfl]; omega
  rcases (show f = 0 ∨ f = 1 ∨ f = 2 ∨ f = 3 ∨ f = 4 ∨ f = 5 ∨ f = 6 by omega) with rfl | rfl | rfl | rfl | rfl | rfl | rfl
  · exact V_owes0 (d := d + 2) ht (by omega) hQ
  · exact V_owes1 (d := d + 1) ht (by omega) hQ
  · have r : zi (d + 2) 185 [.ref 82, .int (zon 0), .int x] M Q := V_owes0 (d := d + 1) ht (by omega) hQ
    apply zg_X11_owesBy
    exact ⟨fun z => absurd z (by decide), fun _ => ⟨fun z => absurd z (by decide), fun _ => ⟨fun _ => ⟨fun z => absurd z (by decide), fun _ => ⟨fun z => absurd z (by decide), fun _ => r⟩⟩, fun z => absurd rfl z⟩⟩⟩
  · have r : zi (d + 2) 185 [.ref 82, .int (zon 0), .int x] M Q := V_owes0 (d := d + 1) ht (by omega) hQ
    apply zg_X11_owesBy
    exact ⟨fun z => absurd z (by decide), fun _ => ⟨fun z => absurd z (by decide), fun _ => ⟨fun z => absurd z (by decide), fun _ => ⟨fun _ => ⟨fun z => absurd z (by decide), fun _ => ⟨fun z => absurd z (by decide), fun _ => r⟩⟩, fun z => absurd rfl z⟩⟩⟩⟩
  · have r : zi (d + 2) 185 [.ref 82, .int (zon 1), .int x] (psh 82 16 92 M t 50) (fun v M' => Q (v * 3) M') := V_owes1 (d := d) (t := t + 1) psh_b (by omega) (fun M1 r1 => by
      rw [psh82 (by decide)]
      exact hQ M1 (VR.cons (VR.push (by decide)) r1))
    apply zg_X11_owesBy
    rw [ht, zon_n (by omega), zon_s]
    exact ⟨fun z => absurd z (by decide), fun _ => ⟨fun z => absurd z (by decide), fun _ => ⟨fun z => absurd z (by decide), fun _ => ⟨fun z => absurd z (by decide), fun _ => ⟨fun _ => ⟨fun _ => ⟨it, r⟩, fun z => absurd l30 z⟩, fun z => absurd rfl z⟩⟩⟩⟩⟩
  · have r0 : zi (d + 1) 185 [.ref 82, .int (zon 0), .int x] M Q := V_owes0 (d := d) ht (by omega) hQ
    have r : zi (d + 2) 185 [.ref 82, .int (zon 3), .int x] M Q := by
      apply zg_X11_owesBy
      exact ⟨fun z => absurd z (by decide), fun _ => ⟨fun z => absurd z (by decide), fun _ => ⟨fun z => absurd z (by decide), fun _ => ⟨fun _ => ⟨fun z => absurd z (by decide), fun _ => ⟨fun z => absurd z (by decide), fun _ => r0⟩⟩, fun z => absurd rfl z⟩⟩⟩⟩
    apply zg_X11_owesBy
    exact ⟨fun z => absurd z (by decide), fun _ => ⟨fun z => absurd z (by decide), fun _ => ⟨fun z => absurd z (by decide), fun _ => ⟨fun z => absurd z (by decide), fun _ => ⟨fun z => absurd z (by decide), fun _ => ⟨fun _ => ⟨fun z => absurd z (by decide), fun _ => ⟨fun _ => r, fun z => absurd rfl z⟩⟩, fun z => absurd rfl z⟩⟩⟩⟩⟩⟩
  · apply zg_X11_owesBy
    rw [ht, zon_n (by omega), zon_s]
    exact ⟨fun z => absurd z (by decide), fun _ => ⟨fun z => absurd z (by decide), fun _ => ⟨fun z => absurd z (by decide), fun _ => ⟨fun z => absurd z (by decide), fun _ => ⟨fun z => absurd z (by decide), fun _ => ⟨fun z => absurd z (by decide), fun _ => ⟨fun _ => ⟨fun _ => ⟨it, hQ _ (VR.push (by decide))⟩, fun z => absurd l30 z⟩, fun z => absurd rfl z⟩⟩⟩⟩⟩⟩⟩
theorem V_pays0 {d kk p t : Nat} {x : Int32} {M : zm_M} {Q : Int32 → zm_M → Prop} (hkk : kk < 7) (hp : p < 12) (h17 : M.1 82 17 = zon p) (hk : M.1 83 (10 + 8 * p) = zon kk) (ht : M.1 82 16 = zon t) (ht2 : t + 3 < 30) (hQ : ∀ M1, VR 82 16 92 M t M1 (vp0 (M.1 82 17) kk x).1 → Q (vp0 (M.1 82 17) kk x).2 M1) : zi (d + 4) 186 [.ref 82, .int (zon 0), .int x] M Q := by
  have it : zm_inb (zon t) 30 = true := by rw [zon_inb (by omega)]; omega
  have l30 : zon t < 30 := by rw [zon_ltl (b := 30) (by omega) rfl]; omega
  have i0 : zm_inb (zon (10 + 8 * p)) 480 = true := by rw [zon_inb (by omega)]; omega
  have r : zi (d + 3) 185 [.ref 82, .int (zon kk), .int x] (psh 82 16 92 M t 11) (fun v M' => Q (v * 2) M') := V_owes (d := d) hkk (t := t + 1) psh_b (by omega) (fun M1 r1 => by
    rw [psh82 (by decide)] at r1 ⊢
    exact hQ M1 (VR.cons (VR.push (by decide)) r1))
  apply zg_X11_paysBy (d := d + 2)
  rw [ht, h17, zP0, zon_n (show t < 2000 by omega), zon_n (show 10 + 8 * p < 2000 by omega), zon_s, hk]
  exact ⟨fun _ => ⟨fun _ => ⟨it, i0, r⟩, fun z => absurd l30 z⟩, fun z => absurd rfl z⟩
theorem V_pays {d f kk p t : Nat} {x : Int32} {M : zm_M} {Q : Int32 → zm_M → Prop} (hf : f < 7) (hkk : kk < 7) (hp : p < 12) (h17 : M.1 82 17 = zon p) (hk : M.1 83 (10 + 8 * p) = zon kk) (ht : M.1 82 16 = zon t) (ht2 : t + 4 < 30) (hQ : ∀ M1, VR 82 16 92 M t M1 (vp (M.1 82 17) (M.1 83 (11 + 8 * p)) kk f x).1 → Q (vp (M.1 82 17) (M.1 83 (11 + 8 * p)) kk f x).2 M1) : zi (d + 6) 186 [.ref 82, .int (zon f), .int x] M Q := by
  have it : zm_inb (zon t) 30 = true := by rw [zon_inb (by omega)]; omega
  have l30 : zon t < 30 := by rw [zon_ltl (b := 30) (by omega) rfl]; omega
  have i1 : zm_inb (zon (11 + 8 * p)) 480 = true := by rw [zon_inb (by omega)]; omega
  have up : ∀ (b : Int32) (x : Int32) (Q2 : Int32 → zm_M → Prop), (∀ M1, VR 82 16 92 M t M1 (b :: (vp0 (M.1 82 17) kk x).1) → VR 82 16 92 (psh 82 16 92 M t b) (t + 1) M1 (vp0 (M.1 82 17) kk x).1 → Q2 (vp0 (M.1 82 17) kk x).2 M1) → zi (d + 4) 186 [.ref 82, .int (zon 0), .int x] (psh 82 16 92 M t b) Q2 := fun b x Q2 hQ2 => V_pays0 (d := d) hkk hp ((psh82 (by decide)).trans h17) (by rw [psh83]; exact hk) (t := t + 1) psh_b (by omega) (fun M1 r1 => by
    rw [psh82 (by decide)] at r1 ⊢
    exact hQ2 M1 (VR.cons (VR.push (by decide)) r1) r1)
  rcases (show f = 0 ∨ f = 1 ∨ f = 2 ∨ f = 3 ∨ f = 4 ∨ f = 5 ∨ f = 6 by omega) with rfl | rfl | rfl | rfl | rfl | rfl | rfl
  · exact V_pays0 (d := d + 2) hkk hp h17 hk ht (by omega) hQ
  · have r : zi (d + 5) 186 [.ref 82, .int (zon 0), .int x] M Q := V_pays0 (d := d + 1) hkk hp h17 hk ht (by omega) hQ
    apply zg_X11_paysBy (d := d + 4)
    exact ⟨fun z => absurd z (by decide), fun _ => ⟨fun _ => ⟨fun z => absurd z (by decide), fun _ => ⟨fun z => absurd z (by decide), fun _ => r⟩⟩, fun z => absurd rfl z⟩⟩
  · have r : zi (d + 5) 186 [.ref 82, .int (zon 0), .int x] (psh 82 16 92 M t 30) (fun v M' => Q (0 - v) M') := zi.dep (up 30 x _ (fun M1 r1 _ => hQ M1 r1)) (by omega)
    apply zg_X11_paysBy (d := d + 4)
    rw [ht, zon_n (show t < 2000 by omega), zon_s]
    exact ⟨fun z => absurd z (by decide), fun _ => ⟨fun z => absurd z (by decide), fun _ => ⟨fun _ => ⟨fun _ => ⟨it, r⟩, fun z => absurd l30 z⟩, fun z => absurd rfl z⟩⟩⟩
  · have r : zi (d + 5) 186 [.ref 82, .int (zon 0), .int x] M Q := V_pays0 (d := d + 1) hkk hp h17 hk ht (by omega) hQ
    apply zg_X11_paysBy (d := d + 4)
    exact ⟨fun z => absurd z (by decide), fun _ => ⟨fun z => absurd z (by decide), fun _ => ⟨fun z => absurd z (by decide), fun _ => ⟨fun _ => ⟨fun z => absurd z (by decide), fun _ => ⟨fun z => absurd z (by decide), fun _ => r⟩⟩, fun z => absurd rfl z⟩⟩⟩⟩
  · have r0 : zi (d + 4) 186 [.ref 82, .int (zon 0), .int x] M Q := V_pays0 (d := d) hkk hp h17 hk ht (by omega) hQ
    have r : zi (d + 5) 186 [.ref 82, .int (zon 1), .int x] M Q := by
      apply zg_X11_paysBy (d := d + 3)
      exact ⟨fun z => absurd z (by decide), fun _ => ⟨fun _ => ⟨fun z => absurd z (by decide), fun _ => ⟨fun z => absurd z (by decide), fun _ => r0⟩⟩, fun z => absurd rfl z⟩⟩
    apply zg_X11_paysBy (d := d + 4)
    exact ⟨fun z => absurd z (by decide), fun _ => ⟨fun z => absurd z (by decide), fun _ => ⟨fun z => absurd z (by decide), fun _ => ⟨fun z => absurd z (by decide), fun _ => ⟨fun _ => ⟨fun _ => r, fun z => absurd rfl z⟩, fun z => absurd rfl z⟩⟩⟩⟩⟩
  · have r : zi (d + 5) 186 [.ref 82, .int (zon 3), .int (x + 1)] (psh 82 16 92 M t 60) (fun v M' => Q v M') := by
      have r0 := up 60 (x + 1) _ (fun M1 r1 _ => hQ M1 r1)
      apply zg_X11_paysBy (d := d + 3)
      exact ⟨fun z => absurd z (by decide), fun _ => ⟨fun z => absurd z (by decide), fun _ => ⟨fun z => absurd z (by decide), fun _ => ⟨fun _ => ⟨fun z => absurd z (by decide), fun _ => ⟨fun z => absurd z (by decide), fun _ => r0⟩⟩, fun z => absurd rfl z⟩⟩⟩⟩
    apply zg_X11_paysBy (d := d + 4)
    rw [ht, zon_n (show t < 2000 by omega), zon_s]
    exact ⟨fun z => absurd z (by decide), fun _ => ⟨fun z => absurd z (by decide), fun _ => ⟨fun z => absurd z (by decide), fun _ => ⟨fun z => absurd z (by decide), fun _ => ⟨fun z => absurd z (by decide), fun _ => ⟨fun _ => ⟨fun _ => ⟨it, r⟩, fun z => absurd l30 z⟩, fun z => absurd rfl z⟩⟩⟩⟩⟩⟩
  · have r : zi (d + 5) 186 [.ref 82, .int (zon 0), .int x] (psh 82 16 92 M t 71) (fun v M' => zm_inb ((10 + (8 * (M'.1 82 17))) + 1) 480 = true ∧ (Q (v + (M'.1 83 (((10 + (8 * (M'.1 82 17))) + 1).toNatClampNeg))) M')) := zi.dep (up 71 x _ (fun M1 r1 r2 => by
      have g17 : M1.1 82 17 = M.1 82 17 := (r2.2.2.2.1 17 (by decide)).trans (psh82 (by decide))
      have g83 : M1.1 83 = M.1 83 := (r2.2.2.2.2 83 (by decide) (by decide)).trans psh83
      rw [g17, h17, zP1, zon_n (by omega), g83]
      rw [h17] at r1 hQ
      exact ⟨i1, hQ M1 r1⟩)) (by omega)
    apply zg_X11_paysBy (d := d + 4)
    rw [ht, zon_n (show t < 2000 by omega), zon_s]
    exact ⟨fun z => absurd z (by decide), fun _ => ⟨fun z => absurd z (by decide), fun _ => ⟨fun z => absurd z (by decide), fun _ => ⟨fun z => absurd z (by decide), fun _ => ⟨fun z => absurd z (by decide), fun _ => ⟨fun z => absurd z (by decide), fun _ => ⟨fun _ => ⟨fun _ => ⟨it, r⟩, fun z => absurd l30 z⟩, fun z => absurd rfl z⟩⟩⟩⟩⟩⟩⟩

/-! TEXTS: the reference's state, its ranks. -/
def RS (b : Nat → Int32) (L u : Nat) (g : tS) (M : zm_M) : Prop := (M.1 82 5 = zon g.1 ∧ M.1 82 7 = zon g.2.1 ∧ M.1 82 8 = zon u ∧ M.1 83 4 = zon L) ∧ (g.2.1 ≤ g.1 ∧ g.1 ≤ L ∧ L ≤ 60) ∧ (∀ k, k < 60 → M.1 83 (396 + k) = b k) ∧ (∀ k, k < g.2.1 → M.1 87 (2 * k) = g.2.2.1 k ∧ M.1 87 (2 * k + 1) = g.2.2.2 k)
/-- all but the steps and three numbers is as it was -/
def rfr (M M1 : zm_M) : Prop := zfr [82, 87] M M1 ∧ ∀ j, j ≠ 5 → j ≠ 6 → j ≠ 7 → M1.1 82 j = M.1 82 j
theorem rfr_rfl {M : zm_M} : rfr M M := ⟨zfr_rfl, fun _ _ _ _ => rfl⟩
theorem rfr_trans {A B D : zm_M} (h : rfr A B) (h2 : rfr B D) : rfr A D := ⟨zfr_trans h.1 h2.1, fun j a1 a2 a3 => (h2.2 j a1 a2 a3).trans (h.2 j a1 a2 a3)⟩
theorem rfr_si {A : zm_M} {j : Nat} {v : Int32} (hj : j = 5 ∨ j = 6 ∨ j = 7) : rfr A (zm_si A 82 j v) := ⟨zfr_si (by decide), fun i a1 a2 a3 => by rw [zI_si, if_pos rfl, if_neg (by omega)]⟩
theorem rfr_st {A : zm_M} {j : Nat} {v : Int32} : rfr A (zm_si A 87 j v) := ⟨zfr_si (by decide), fun i a1 a2 a3 => by rw [zI_si_ne (by decide)]⟩
theorem rfr_lay {A : zm_M} {a x : Int32} : rfr A (rLay A a x) := rfr_trans (rfr_trans rfr_st rfr_st) (rfr_si (by omega))
theorem zon_2 {n : Nat} : 2 * zon n = zon (2 * n) := by
  show zon 2 * zon n = _
  rw [zon_mul]
theorem RS.nx {b : Nat → Int32} {L u : Nat} {g : tS} {M : zm_M} (h : RS b L u g M) (hl : g.1 < L) : RS b L u (tNx g) (zm_si M 82 5 (M.1 82 5 + 1)) := by
  obtain ⟨⟨h1, h2, h3, h4⟩, ⟨h5, h6, h7⟩, h8, h9⟩ := h
  refine ⟨⟨by rw [zI_si_eq, h1, zon_s]; rfl, by rw [zI_si, if_pos rfl, if_neg (by decide)]; exact h2, by rw [zI_si, if_pos rfl, if_neg (by decide)]; exact h3, by rw [zI_si_ne (by decide)]; exact h4⟩, ⟨?_, ?_, h7⟩, fun k hk => by rw [zI_si_ne (by decide)]; exact h8 k hk, fun k hk => by rw [zI_si_ne (by decide), zI_si_ne (by decide)]; exact h9 k hk⟩
  · show g.2.1 ≤ g.1 + 1
    omega
  · show g.1 + 1 ≤ L
    omega
theorem RS.op {b : Nat → Int32} {L u : Nat} {g : tS} {M : zm_M} {v : Int32} (h : RS b L u g M) : RS b L u g (zm_si M 82 6 v) := by
  obtain ⟨⟨h1, h2, h3, h4⟩, h5, h8, h9⟩ := h
  exact ⟨⟨by rw [zI_si, if_pos rfl, if_neg (by decide)]; exact h1, by rw [zI_si, if_pos rfl, if_neg (by decide)]; exact h2, by rw [zI_si, if_pos rfl, if_neg (by decide)]; exact h3, by rw [zI_si_ne (by decide)]; exact h4⟩, h5, fun k hk => by rw [zI_si_ne (by decide)]; exact h8 k hk, fun k hk => by rw [zI_si_ne (by decide), zI_si_ne (by decide)]; exact h9 k hk⟩
theorem rLay_7 {M : zm_M} {a x : Int32} {n : Nat} (h : M.1 82 7 = zon n) (hn : n < 60) : rLay M a x = zm_si (zm_si (zm_si M 87 (2 * n) a) 87 (2 * n + 1) x) 82 7 (zon (n + 1)) := by
  unfold rLay
  rw [h, zon_2, zon_s, zon_s, zon_n (by omega), zon_n (by omega)]
theorem RS.lay {b : Nat → Int32} {L u : Nat} {g : tS} {M : zm_M} {a x : Int32} (h : RS b L u g M) (hl : g.2.1 < g.1) : rIn M ∧ RS b L u (tAdd g a x) (rLay M a x) := by
  obtain ⟨⟨h1, h2, h3, h4⟩, ⟨h5, h6, h7⟩, h8, h9⟩ := h
  refine ⟨?_, ?_⟩
  · unfold rIn
    rw [h2, zon_2, zon_s, zon_inb (by omega), zon_inb (by omega)]
    omega
  rw [rLay_7 h2 (by omega)]
  refine ⟨⟨?_, zI_si_eq, ?_, ?_⟩, ⟨?_, h6, h7⟩, fun k hk => ?_, fun k hk => ?_⟩
  · rw [zI_si, if_pos rfl, if_neg (by decide), zI_si_ne (by decide), zI_si_ne (by decide)]
    exact h1
  · rw [zI_si, if_pos rfl, if_neg (by decide), zI_si_ne (by decide), zI_si_ne (by decide)]
    exact h3
  · rw [zI_si_ne (by decide), zI_si_ne (by decide), zI_si_ne (by decide)]
    exact h4
  · show g.2.1 + 1 ≤ g.1
    omega
  · rw [zI_si_ne (by decide), zI_si_ne (by decide), zI_si_ne (by decide)]
    exact h8 k hk
  · have hk2 : k < g.2.1 + 1 := hk
    have ej : ∀ j, (zm_si (zm_si (zm_si M 87 (2 * g.2.1) a) 87 (2 * g.2.1 + 1) x) 82 7 (zon (g.2.1 + 1))).1 87 j = if j = 2 * g.2.1 + 1 then x else if j = 2 * g.2.1 then a else M.1 87 j := fun j => by rw [zI_si_ne (by decide), zI_si, if_pos rfl, zI_si, if_pos rfl]
    rw [ej, ej]
    show _ = upd g.2.2.1 g.2.1 a k ∧ _ = upd g.2.2.2 g.2.1 x k
    by_cases e : k = g.2.1
    · rw [e, upd_at, upd_at, if_neg (by omega), if_pos rfl, if_pos rfl]
      exact ⟨rfl, rfl⟩
    · rw [upd_ne e, upd_ne e, if_neg (by omega), if_neg (by omega), if_neg (by omega), if_neg (by omega)]
      exact h9 k (by omega)
theorem RS.at {b : Nat → Int32} {L u : Nat} {g : tS} {M : zm_M} (h : RS b L u g M) : (M.1 82 5 < M.1 83 4 ↔ g.1 < L) ∧ (g.1 < L → zm_inb (396 + (M.1 82 5)) 480 = true ∧ rAt M = b g.1) := by
  obtain ⟨⟨h1, h2, h3, h4⟩, ⟨h5, h6, h7⟩, h8, h9⟩ := h
  have e : 396 + zon g.1 = zon (396 + g.1) := zon_add (a := 396)
  unfold rAt
  rw [h1, h4, e]
  refine ⟨by rw [zon_lt (by omega) (by omega)], fun c => ⟨by rw [zon_inb (by omega)]; omega, ?_⟩⟩
  rw [zon_n (by omega)]
  exact h8 _ (by omega)
def RP (b : Nat → Int32) (L u k dp : Nat) (g : tS) (ok : Bool) (g2 : tS) : Prop := tBn L g g2 ∧ (dp ≤ 5 → ∀ (Q : Int32 → zm_M → Prop) (M : zm_M), RS b L u g M → M.1 82 6 = zon dp → (∀ M2, RS b L u g2 M2 → (ok = true → M2.1 82 6 = zon dp) → rfr M M2 → Q (cond ok 1 0) M2) → ∀ d, (k ≤ 5 → 6 * (5 - dp) + 5 ≤ d + k → RL k d Q M) ∧ (10 ≤ k → 6 * (5 - dp) + 15 ≤ d + k → RL k (d + 1) Q M))
theorem RP.down {b : Nat → Int32} {L u r dp : Nat} {g g2 : tS} (hr : r < 5) (ih : RP b L u (r + 1) dp g false g2) : RP b L u r dp g false g2 := by
  refine ⟨ih.1, fun hdp Q M hX ho hQ d => ⟨fun _ hd => ?_, fun z => absurd z (by omega)⟩⟩
  obtain ⟨e, rfl⟩ : ∃ e, d = e + 1 := ⟨d - 1, by omega⟩
  refine RL_head hr ?_
  exact (ih.2 hdp _ M hX ho (fun M2 h2 _ f2 => ⟨fun _ => hQ M2 h2 (fun z => by cases z) f2, fun z => absurd rfl z⟩) e).1 (by omega) (by omega)
theorem RP.up {b : Nat → Int32} {L u r dp : Nat} {g g2 g3 : tS} {ok : Bool} (hr : r < 5) (ih : RP b L u (r + 1) dp g true g2) (ih2 : RP b L u (10 + r) dp g2 ok g3) : RP b L u r dp g ok g3 := by
  have b1 := ih.1
  have b2 := ih2.1
  refine ⟨by unfold tBn at *; omega, fun hdp Q M hX ho hQ d => ⟨fun _ hd => ?_, fun z => absurd z (by omega)⟩⟩
  obtain ⟨e, rfl⟩ : ∃ e, d = e + 1 := ⟨d - 1, by omega⟩
  refine RL_head hr ?_
  refine (ih.2 hdp _ M hX ho (fun M2 h2 o2 f2 => ⟨fun z => absurd z (by decide), fun _ => ?_⟩) e).1 (by omega) (by omega)
  exact (ih2.2 hdp Q M2 h2 (o2 rfl) (fun M3 h3 o3 f3 => hQ M3 h3 o3 (rfr_trans f2 f3)) (e + 1)).2 (by omega) (by omega)
theorem RP.stop {b : Nat → Int32} {L u r dp : Nat} {g : tS} (hr : r < 5) (hs : ¬ (g.1 < L ∧ tOp (b g.1) r)) : RP b L u (10 + r) dp g true g := by
  refine ⟨by unfold tBn; omega, fun hdp Q M hX ho hQ d => ⟨fun z => absurd z (by omega), fun _ hd => ?_⟩⟩
  refine RL_stop hr (fun c => (hX.at.2 (hX.at.1.mp c)).1) (fun c z => hs ⟨hX.at.1.mp c, ?_⟩) (hQ M hX (fun _ => ho) rfr_rfl)
  rw [← (hX.at.2 (hX.at.1.mp c)).2]
  exact z
theorem RP.opF {b : Nat → Int32} {L u r dp : Nat} {g g2 : tS} (hr : r < 5) (c : g.1 < L) (ho : tOp (b g.1) r) (ih : RP b L u (r + 1) dp (tNx g) false g2) : RP b L u (10 + r) dp g false g2 := by
  have b1 := ih.1
  refine ⟨by unfold tBn at *; dsimp only [tNx] at b1; omega, fun hdp Q M hX hp hQ d => ⟨fun z => absurd z (by omega), fun _ hd => ?_⟩⟩
  obtain ⟨e, rfl⟩ : ∃ e, d = e + 1 := ⟨d - 1, by omega⟩
  refine RL_op hr (hX.at.1.mpr c) (hX.at.2 c).1 (hX.at.2 c).2 ho ?_
  have hp2 : (zm_si M 82 5 (M.1 82 5 + 1)).1 82 6 = zon dp := by rw [zI_si, if_pos rfl, if_neg (by decide)]; exact hp
  exact (ih.2 hdp _ _ (hX.nx c) hp2 (fun M2 h2 _ f2 => ⟨fun _ => hQ M2 h2 (fun z => by cases z) (rfr_trans (rfr_si (by omega)) f2), fun z => absurd rfl z⟩) e).1 (by omega) (by omega)
theorem RP.op2 {b : Nat → Int32} {L u dp : Nat} {g g2 : tS} (c : g.1 < L) (ho : tOp (b g.1) 2) (ih : RP b L u 3 dp (tNx g) true g2) : RP b L u 12 dp g true (tAdd g2 3 (b g.1)) := by
  have b1 := ih.1
  refine ⟨by unfold tBn at *; dsimp only [tNx, tAdd] at *; omega, fun hdp Q M hX hp hQ d => ⟨fun z => absurd z (by omega), fun _ hd => ?_⟩⟩
  obtain ⟨e, rfl⟩ : ∃ e, d = e + 1 := ⟨d - 1, by omega⟩
  refine RL_op (r := 2) (by omega) (hX.at.1.mpr c) (hX.at.2 c).1 (hX.at.2 c).2 ho ?_
  have hp2 : (zm_si M 82 5 (M.1 82 5 + 1)).1 82 6 = zon dp := by rw [zI_si, if_pos rfl, if_neg (by decide)]; exact hp
  refine (ih.2 hdp _ _ (hX.nx c) hp2 (fun M2 h2 o2 f2 => ⟨fun z => absurd z (by decide), fun _ => ?_⟩) e).1 (by omega) (by omega)
  have hb := hX.2.1
  have lt : g2.2.1 < g2.1 := by unfold tBn at b1; dsimp only [tNx] at b1; omega
  have ly := h2.lay (a := 3) (x := b g.1) lt
  refine ⟨ly.1, fun _ => hQ _ ly.2 (fun _ => ?_) (rfr_trans (rfr_trans (rfr_si (by omega)) f2) rfr_lay), fun z => absurd rfl z⟩
  unfold rLay
  rw [zI_si, if_pos rfl, if_neg (by decide), zI_si_ne (by decide), zI_si_ne (by decide)]
  exact o2 rfl
theorem RP.opN {b : Nat → Int32} {L u r dp : Nat} {g g2 g3 : tS} {ok : Bool} (hr : r < 5) (hr2 : r ≠ 2) (c : g.1 < L) (ho : tOp (b g.1) r) (ih : RP b L u (r + 1) dp (tNx g) true g2) (ih2 : RP b L u (10 + r) dp (tAdd g2 3 (b g.1)) ok g3) : RP b L u (10 + r) dp g ok g3 := by
  have b1 := ih.1
  have b2 := ih2.1
  refine ⟨by unfold tBn at *; dsimp only [tNx, tAdd] at *; omega, fun hdp Q M hX hp hQ d => ⟨fun z => absurd z (by omega), fun _ hd => ?_⟩⟩
  obtain ⟨e, rfl⟩ : ∃ e, d = e + 1 := ⟨d - 1, by omega⟩
  refine RL_op hr (hX.at.1.mpr c) (hX.at.2 c).1 (hX.at.2 c).2 ho ?_
  have hp2 : (zm_si M 82 5 (M.1 82 5 + 1)).1 82 6 = zon dp := by rw [zI_si, if_pos rfl, if_neg (by decide)]; exact hp
  refine (ih.2 hdp _ _ (hX.nx c) hp2 (fun M2 h2 o2 f2 => ⟨fun z => absurd z (by decide), fun _ => ?_⟩) e).1 (by omega) (by omega)
  have hb := hX.2.1
  have lt : g2.2.1 < g2.1 := by unfold tBn at b1; dsimp only [tNx] at b1; omega
  have ly := h2.lay (a := 3) (x := b g.1) lt
  refine ⟨ly.1, fun z => absurd z hr2, fun _ => ?_⟩
  have hp3 : (rLay M2 3 (b g.1)).1 82 6 = zon dp := by
    unfold rLay
    rw [zI_si, if_pos rfl, if_neg (by decide), zI_si_ne (by decide), zI_si_ne (by decide)]
    exact o2 rfl
  exact (ih2.2 hdp Q _ ly.2 hp3 (fun M3 h3 o3 f3 => hQ M3 h3 o3 (rfr_trans (rfr_trans (rfr_trans (rfr_si (by omega)) f2) rfr_lay) f3)) (e + 1)).2 (by omega) (by omega)

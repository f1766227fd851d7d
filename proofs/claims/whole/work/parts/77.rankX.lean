/-! TEXTS: the class's ranks. -/
def XP (b : Nat → Int32) (L u k dp : Nat) (g : tS) (ok : Bool) (g2 : tS) : Prop := tBn L g g2 ∧ (dp ≤ 5 → ∀ (Q : Int32 → zm_M → Prop) (M : zm_M), XS b L u g M → (∀ M2, XS b L u g2 M2 → zfr [68, 69] M M2 → Q (cond ok 1 0) M2) → (k ≤ 5 → ∀ d, 12 * (5 - dp) + 11 ≤ d + k → zi d 24 [.ref 68, .int (zon k), .int (zon dp)] M Q) ∧ (k = 5 → ∀ d, 12 * (5 - dp) + 5 ≤ d → zi d 25 [.ref 68, .int (zon dp)] M Q) ∧ (10 ≤ k → ∀ d v3, v3 ≤ g.1 → 12 * (5 - dp) + 21 ≤ d + k → zt d 24 26 [some (.ref 68), some (.int (zon (k - 10))), some (.int (zon dp)), some (.int (zon v3)), none] [] M (zPi Q)))
theorem X_rank {d : Nat} {M : zm_M} {x : Int32} {r : Nat} {Q : Int32 → zm_M → Prop} (hr : r < 5) (h1 : tOp x r → Q (zon r) M) (h0 : ∀ y, ¬ y = zon r → ¬ tOp x r → Q y M) : zi d 31 [.int x] M Q := by
  apply zg_X4_rankOf
  have k : ∀ {q : Nat}, q < 5 → tOp x q → (q = r → tOp x r → Q (zon r) M) → Q (zon q) M := fun {q} hq h _ => by
    by_cases e : q = r
    · subst e
      exact h1 h
    · refine h0 _ (fun z => e ?_) (fun z => ?_)
      · rw [zon_inj (by omega) (by omega)] at z
        exact z
      · unfold tOp at h z
        rcases h with ⟨rfl, h⟩ | ⟨rfl, h⟩ | ⟨rfl, h⟩ | ⟨rfl, h⟩ | ⟨rfl, h⟩ <;> rcases z with ⟨rfl, z⟩ | ⟨rfl, z⟩ | ⟨rfl, z⟩ | ⟨rfl, z⟩ | ⟨rfl, z⟩ <;> first | exact e rfl | grind
  refine ⟨fun c => k (q := 4) (by omega) (Or.inr (Or.inr (Or.inr (Or.inr ⟨rfl, Or.inr (Or.inr c)⟩)))) (fun _ => h1), fun c1 => ⟨fun c => k (q := 1) (by omega) (Or.inr (Or.inl ⟨rfl, c⟩)) (fun _ => h1), fun c2 => ⟨fun c => k (q := 4) (by omega) (Or.inr (Or.inr (Or.inr (Or.inr ⟨rfl, Or.inl c⟩)))) (fun _ => h1), fun c3 => ⟨fun c => k (q := 3) (by omega) (Or.inr (Or.inr (Or.inr (Or.inl ⟨rfl, Or.inl c⟩)))) (fun _ => h1), fun c4 => ⟨fun c => k (q := 3) (by omega) (Or.inr (Or.inr (Or.inr (Or.inl ⟨rfl, Or.inr c⟩)))) (fun _ => h1), fun c5 => ⟨fun c => k (q := 4) (by omega) (Or.inr (Or.inr (Or.inr (Or.inr ⟨rfl, Or.inr (Or.inl c)⟩)))) (fun _ => h1), fun c6 => ⟨fun c => k (q := 2) (by omega) (Or.inr (Or.inr (Or.inl ⟨rfl, Or.inl c⟩))) (fun _ => h1), fun c7 => ⟨fun c => k (q := 2) (by omega) (Or.inr (Or.inr (Or.inl ⟨rfl, Or.inr (Or.inl c)⟩))) (fun _ => h1), fun c8 => ⟨fun c => k (q := 2) (by omega) (Or.inr (Or.inr (Or.inl ⟨rfl, Or.inr (Or.inr c)⟩))) (fun _ => h1), fun c9 => ⟨fun c => k (q := 0) (by omega) (Or.inl ⟨rfl, c⟩) (fun _ => h1), fun c10 => h0 _ (fun z => ?_) (fun z => ?_)⟩⟩⟩⟩⟩⟩⟩⟩⟩⟩
  · exact zon_nn (a := r) (by omega) (by rw [← z]; decide)
  · unfold tOp at z
    rcases z with ⟨-, z⟩ | ⟨-, z⟩ | ⟨-, z⟩ | ⟨-, z⟩ | ⟨-, z⟩
    · exact c10 z
    · exact c2 z
    · exact z.elim c7 (fun z => z.elim c8 c9)
    · exact z.elim c4 c5
    · exact z.elim c3 (fun z => z.elim c6 c1)
theorem XP.down {b : Nat → Int32} {L u r dp : Nat} {g g2 : tS} (hr : r < 5) (ih : XP b L u (r + 1) dp g false g2) : XP b L u r dp g false g2 := by
  refine ⟨ih.1, fun hdp Q M hX hQ => ⟨fun _ d hd => ?_, fun z => absurd z (by omega), fun z => absurd z (by omega)⟩⟩
  obtain ⟨e, rfl⟩ : ∃ e, d = e + 1 := ⟨d - 1, by omega⟩
  apply zg_X4_readRank
  rw [zon_ltl (b := 5) (by omega) rfl, zon_s (a := r)]
  refine ⟨fun _ => ?_, fun z => absurd hr z⟩
  exact (ih.2 hdp _ M hX (fun M2 h2 f2 => ⟨fun _ => hQ M2 h2 f2, fun z => absurd rfl z⟩)).1 (by omega) e (by omega)
theorem XP.up {b : Nat → Int32} {L u r dp : Nat} {g g2 g3 : tS} {ok : Bool} (hr : r < 5) (ih : XP b L u (r + 1) dp g true g2) (ih2 : XP b L u (10 + r) dp g2 ok g3) : XP b L u r dp g ok g3 := by
  have b1 := ih.1
  have b2 := ih2.1
  refine ⟨by unfold tBn at *; omega, fun hdp Q M hX hQ => ⟨fun _ d hd => ?_, fun z => absurd z (by omega), fun z => absurd z (by omega)⟩⟩
  obtain ⟨e, rfl⟩ : ∃ e, d = e + 1 := ⟨d - 1, by omega⟩
  apply zg_X4_readRank
  rw [zon_ltl (b := 5) (by omega) rfl, zon_s (a := r)]
  refine ⟨fun _ => ?_, fun z => absurd hr z⟩
  refine (ih.2 hdp _ M hX (fun M2 h2 f2 => ⟨fun z => absurd z (by decide), fun _ => ?_⟩)).1 (by omega) e (by omega)
  have t := (ih2.2 hdp Q M2 h2 (fun M3 h3 f3 => hQ M3 h3 (zfr_trans f2 f3))).2.2 (by omega) (e + 1) 0 (Nat.zero_le _) (by omega)
  rw [show 10 + r - 10 = r by omega] at t
  exact t
theorem XP.stop {b : Nat → Int32} {L u r dp : Nat} {g : tS} (hr : r < 5) (hs : ¬ (g.1 < L ∧ tOp (b g.1) r)) : XP b L u (10 + r) dp g true g := by
  refine ⟨by unfold tBn; omega, fun hdp Q M hX hQ => ⟨fun z => absurd z (by omega), fun z => absurd z (by omega), fun _ d v3 hv hd => ?_⟩⟩
  obtain ⟨e, rfl⟩ : ∃ e, d = e + 1 := ⟨d - 1, by omega⟩
  have hb := hX.2.1
  have q := hQ M hX zfr_rfl
  have h1 := hX.1.1
  have h4 := hX.1.2.2.1
  rw [show 10 + r - 10 = r by omega]
  apply zg_X4_readRank_p26
  rw [h1, h4, zon_lt (by omega) (by omega)]
  refine ⟨fun _ => ⟨fun c => ⟨by rw [zon_inb (by omega)]; omega, ?_⟩, fun c => ?_⟩, fun _ => q⟩
  · rw [zon_n (by omega), hX.2.2.1 _ (by omega)]
    exact X_rank hr (fun z => absurd ⟨c, z⟩ hs) (fun y hy _ => ⟨fun z => absurd z hy, fun _ => q⟩)
  · exact X_rank hr (fun z => by unfold tOp at z; rcases z with ⟨-, z⟩ | ⟨-, z⟩ | ⟨-, z⟩ | ⟨-, z⟩ | ⟨-, z⟩ <;> exact absurd z (by decide)) (fun y hy _ => ⟨fun z => absurd z hy, fun _ => q⟩)

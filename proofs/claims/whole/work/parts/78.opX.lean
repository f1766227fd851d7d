/-! TEXTS: the class's steps between. -/
theorem zstp_op {u r : Nat} {x : Int32} (h : tOp x r) : zstp u (10000 + x) 3 x := by
  refine Or.inr (Or.inr (Or.inr ⟨rfl, rfl, ?_⟩))
  unfold tOp at h
  rcases h with ⟨-, h⟩ | ⟨-, h⟩ | ⟨-, h⟩ | ⟨-, h⟩ | ⟨-, h⟩
  · exact Or.inl h
  · exact Or.inr (Or.inl h)
  · rcases h with h | h | h
    · exact Or.inr (Or.inr (Or.inl h))
    · exact Or.inr (Or.inr (Or.inr (Or.inl h)))
    · exact Or.inr (Or.inr (Or.inr (Or.inr (Or.inl h))))
  · rcases h with h | h
    · exact Or.inr (Or.inr (Or.inr (Or.inr (Or.inr (Or.inl h)))))
    · exact Or.inr (Or.inr (Or.inr (Or.inr (Or.inr (Or.inr (Or.inl h))))))
  · rcases h with h | h | h
    · exact Or.inr (Or.inr (Or.inr (Or.inr (Or.inr (Or.inr (Or.inr (Or.inl h)))))))
    · exact Or.inr (Or.inr (Or.inr (Or.inr (Or.inr (Or.inr (Or.inr (Or.inr (Or.inl h))))))))
    · exact Or.inr (Or.inr (Or.inr (Or.inr (Or.inr (Or.inr (Or.inr (Or.inr (Or.inr h))))))))
theorem X_opc {e L u r dp v3 : Nat} {b : Nat → Int32} {g : tS} {M : zm_M} {Q : Int32 → zm_M → Prop} (hr : r < 5) (hv : v3 ≤ g.1) (hX : XS b L u g M) (c : g.1 < L) (ho : tOp (b g.1) r) (hQ : zi e 24 [.ref 68, .int (zon (r + 1)), .int (zon dp)] (zm_si M 68 2 (M.1 68 2 + 1)) (fun x M2 => (x = (0 : Int32) → Q 0 M2) ∧ (¬ x = (0 : Int32) → ((M2.1 68 1) < (60 : Int32) → zm_inb (M2.1 68 1) 60 = true ∧ ((zon r = (2 : Int32) → Q 1 (zm_si (zm_si M2 69 ((M2.1 68 1).toNatClampNeg) (10000 + b g.1)) 68 1 ((M2.1 68 1) + 1))) ∧ (¬ zon r = (2 : Int32) → zt (e + 1) 24 26 [some (.ref 68), some (.int (zon r)), some (.int (zon dp)), some (.int (zon (v3 + 1))), none] [] (zm_si (zm_si M2 69 ((M2.1 68 1).toNatClampNeg) (10000 + b g.1)) 68 1 ((M2.1 68 1) + 1)) (zPi Q)))) ∧ (¬ (M2.1 68 1) < (60 : Int32) → (zon r = (2 : Int32) → Q 1 M2) ∧ (¬ zon r = (2 : Int32) → zt (e + 1) 24 26 [some (.ref 68), some (.int (zon r)), some (.int (zon dp)), some (.int (zon (v3 + 1))), none] [] M2 (zPi Q)))))) : zt (e + 1) 24 26 [some (.ref 68), some (.int (zon r)), some (.int (zon dp)), some (.int (zon v3)), none] [] M (zPi Q) := by
  have hb := hX.2.1
  have h1 := hX.1.1
  have h4 := hX.1.2.2.1
  have inb : zm_inb (zon g.1) 60 = true := by rw [zon_inb (by omega)]; omega
  rw [h1] at hQ
  apply zg_X4_readRank_p26
  rw [h1, h4, zon_lt (by omega) (by omega), zon_n (show g.1 < 2000 by omega), hX.2.2.1 _ (by omega), zon_ltl (b := 60) (by omega) rfl, zon_s (a := v3), zon_s (a := r)]
  refine ⟨fun _ => ⟨fun _ => ⟨inb, X_rank hr (fun _ => ⟨fun _ => ?_, fun z => absurd rfl z⟩) (fun y hy hn => absurd ho hn)⟩, fun z => absurd c z⟩, fun z => absurd (by omega) z⟩
  rw [h1, h4, zon_lt (by omega) (by omega)]
  refine ⟨fun _ => ⟨inb, ?_⟩, fun z => absurd c z⟩
  rw [zon_n (show g.1 < 2000 by omega), hX.2.2.1 _ (by omega)]
  exact hQ
theorem XP.opF {b : Nat → Int32} {L u r dp : Nat} {g g2 : tS} (hr : r < 5) (c : g.1 < L) (ho : tOp (b g.1) r) (ih : XP b L u (r + 1) dp (tNx g) false g2) : XP b L u (10 + r) dp g false g2 := by
  have b1 := ih.1
  refine ⟨by unfold tBn at *; dsimp only [tNx] at b1; omega, fun hdp Q M hX hQ => ⟨fun z => absurd z (by omega), fun z => absurd z (by omega), fun _ d v3 hv hd => ?_⟩⟩
  obtain ⟨e, rfl⟩ : ∃ e, d = e + 1 := ⟨d - 1, by omega⟩
  rw [show 10 + r - 10 = r by omega]
  refine X_opc hr hv hX c ho ?_
  exact (ih.2 hdp _ _ (hX.nx c) (fun M2 h2 f2 => ⟨fun _ => hQ M2 h2 (zfr_trans (zfr_si (by decide)) f2), fun z => absurd rfl z⟩)).1 (by omega) e (by omega)
theorem XP.op2 {b : Nat → Int32} {L u dp : Nat} {g g2 : tS} (c : g.1 < L) (ho : tOp (b g.1) 2) (ih : XP b L u 3 dp (tNx g) true g2) : XP b L u 12 dp g true (tAdd g2 3 (b g.1)) := by
  have b1 := ih.1
  refine ⟨by unfold tBn at *; dsimp only [tNx, tAdd] at *; omega, fun hdp Q M hX hQ => ⟨fun z => absurd z (by omega), fun z => absurd z (by omega), fun _ d v3 hv hd => ?_⟩⟩
  obtain ⟨e, rfl⟩ : ∃ e, d = e + 1 := ⟨d - 1, by omega⟩
  refine X_opc (r := 2) (by omega) hv hX c ho ?_
  refine (ih.2 hdp _ _ (hX.nx c) (fun M2 h2 f2 => ⟨fun z => absurd z (by decide), fun _ => ?_⟩)).1 (by omega) e (by omega)
  have hb := hX.2.1
  have hl : g2.2.1 < g2.1 := by unfold tBn at b1; dsimp only [tNx] at b1; omega
  exact h2.put hl (zstp_op ho) (Q := fun M3 => (zon 2 = (2 : Int32) → Q 1 M3) ∧ (¬ zon 2 = (2 : Int32) → zt (e + 1) 24 26 [some (.ref 68), some (.int (zon 2)), some (.int (zon dp)), some (.int (zon (v3 + 1))), none] [] M3 (zPi Q))) (fun M3 h3 f3 => ⟨fun _ => hQ M3 h3 (zfr_trans (zfr_trans (zfr_si (by decide)) f2) f3), fun z => absurd rfl z⟩)
theorem XP.opN {b : Nat → Int32} {L u r dp : Nat} {g g2 g3 : tS} {ok : Bool} (hr : r < 5) (r2 : r ≠ 2) (c : g.1 < L) (ho : tOp (b g.1) r) (ih : XP b L u (r + 1) dp (tNx g) true g2) (ih2 : XP b L u (10 + r) dp (tAdd g2 3 (b g.1)) ok g3) : XP b L u (10 + r) dp g ok g3 := by
  have b1 := ih.1
  have b2 := ih2.1
  refine ⟨by unfold tBn at *; dsimp only [tNx, tAdd] at *; omega, fun hdp Q M hX hQ => ⟨fun z => absurd z (by omega), fun z => absurd z (by omega), fun _ d v3 hv hd => ?_⟩⟩
  obtain ⟨e, rfl⟩ : ∃ e, d = e + 1 := ⟨d - 1, by omega⟩
  rw [show 10 + r - 10 = r by omega]
  refine X_opc hr hv hX c ho ?_
  refine (ih.2 hdp _ _ (hX.nx c) (fun M2 h2 f2 => ⟨fun z => absurd z (by decide), fun _ => ?_⟩)).1 (by omega) e (by omega)
  have hb := hX.2.1
  have hl : g2.2.1 < g2.1 := by unfold tBn at b1; dsimp only [tNx] at b1; omega
  have hv2 : v3 + 1 ≤ g2.1 := by unfold tBn at b1; dsimp only [tNx] at b1; omega
  refine h2.put hl (zstp_op ho) (Q := fun M3 => (zon r = (2 : Int32) → Q 1 M3) ∧ (¬ zon r = (2 : Int32) → zt (e + 1) 24 26 [some (.ref 68), some (.int (zon r)), some (.int (zon dp)), some (.int (zon (v3 + 1))), none] [] M3 (zPi Q))) (fun M3 h3 f3 => ⟨fun z => absurd ?_ r2, fun _ => ?_⟩)
  · have z2 : zon r = zon 2 := z
    rw [zon_inj (by omega) (by omega)] at z2
    exact z2
  · have t := (ih2.2 hdp Q M3 h3 (fun M4 h4 f4 => hQ M4 h4 (zfr_trans (zfr_trans (zfr_trans (zfr_si (by decide)) f2) f3) f4))).2.2 (by omega) (e + 1) (v3 + 1) hv2 (by omega)
    rw [show 10 + r - 10 = r by omega] at t
    exact t

/-! TEXTS: the class's reading, whole. -/
def tBy (b : Nat → Int32) (L : Nat) : Prop := ∀ k, k < L → ∃ n, n < 256 ∧ b k = zon n
theorem tDg_no {x : Int32} (h : tDg x) : ¬ (x = 33 ∨ x = 40) := by
  intro z
  rcases z with rfl | rfl <;> exact absurd h (by decide)
theorem tNm_no {u : Nat} {x : Int32} (h : tNm u x) : ¬ (x = 33 ∨ x = 40) ∧ ¬ tDg x := by
  unfold tNm at h
  rcases h with ⟨-, h⟩ | ⟨-, h⟩
  · rcases h with rfl | rfl | rfl | rfl | rfl <;> exact ⟨by decide, by decide⟩
  · rcases h with rfl | rfl | rfl <;> exact ⟨by decide, by decide⟩
theorem X_unit {e L u dp : Nat} {b : Nat → Int32} {g : tS} {M : zm_M} {Q : Int32 → zm_M → Prop} (hu : u ≤ 1) (he : 3 ≤ e) (hX : XS b L u g M) (hby : tBy b L) (hE : ¬ g.1 < L → Q 0 M) (hD : g.1 < L → tDg (b g.1) → zv e 27 [.ref 68] M (fun M81 => Q 1 M81)) (hB : g.1 < L → b g.1 = 33 ∨ b g.1 = 40 → (zon dp < (5 : Int32) → zi e 26 [.ref 68, .int (b g.1), .int (zon dp + 1)] M (fun x2 M1 => (x2 = (0 : Int32) → Q 0 M1) ∧ (¬ x2 = (0 : Int32) → Q 1 M1))) ∧ (¬ zon dp < (5 : Int32) → Q 0 M)) (hN : g.1 < L → tNm u (b g.1) → ∀ M2, XS b L u (tAdd (tNx g) 1 (b g.1)) M2 → zfr [68, 69] M M2 → Q 1 M2) (hZ : g.1 < L → ¬ tDg (b g.1) → ¬ b g.1 = 33 → ¬ b g.1 = 40 → ¬ tNm u (b g.1) → Q 0 M) : zi (e + 1) 25 [.ref 68, .int (zon dp)] M Q := by
  have u01 : u = 0 ∨ u = 1 := by omega
  rcases u01 with rfl | rfl
  · exact X_unit0 he hX (hby _) hE hD hB hN hZ
  · exact X_unit1 he hX (hby _) hE hD hB hN hZ
section XU
variable {b : Nat → Int32} {L u dp : Nat} {g g2 : tS}
theorem XP.fin (hu : u ≤ 1) (hby : tBy b L) (c : ¬ g.1 < L) : XP b L u 5 dp g false g := by
  refine XP.mk5 (by unfold tBn; omega) (fun hdp Q M hX hQ d hd => ?_)
  obtain ⟨e, rfl⟩ : ∃ e, d = e + 1 := ⟨d - 1, by omega⟩
  exact X_unit hu (by omega) hX hby (fun _ => hQ M hX zfr_rfl) (fun z => absurd z c) (fun z => absurd z c) (fun z => absurd z c) (fun z => absurd z c)
theorem XP.bad (hu : u ≤ 1) (hby : tBy b L) (c : g.1 < L) (h1 : ¬ tDg (b g.1)) (h2 : ¬ b g.1 = 33) (h3 : ¬ b g.1 = 40) (h4 : ¬ tNm u (b g.1)) : XP b L u 5 dp g false g := by
  refine XP.mk5 (by unfold tBn; omega) (fun hdp Q M hX hQ d hd => ?_)
  obtain ⟨e, rfl⟩ : ∃ e, d = e + 1 := ⟨d - 1, by omega⟩
  exact X_unit hu (by omega) hX hby (fun z => absurd c z) (fun _ z => absurd z h1) (fun _ z => absurd z (fun y => y.elim h2 h3)) (fun _ z => absurd z h4) (fun _ _ _ _ _ => hQ M hX zfr_rfl)
theorem XP.deep (hu : u ≤ 1) (hby : tBy b L) (c : g.1 < L) (h : b g.1 = 33 ∨ b g.1 = 40) : XP b L u 5 5 g false g := by
  refine XP.mk5 (by unfold tBn; omega) (fun hdp Q M hX hQ d hd => ?_)
  obtain ⟨e, rfl⟩ : ∃ e, d = e + 1 := ⟨d - 1, by omega⟩
  exact X_unit hu (by omega) hX hby (fun z => absurd c z) (fun _ z => absurd h (tDg_no z)) (fun _ _ => ⟨fun z => absurd z (by decide), fun _ => hQ M hX zfr_rfl⟩) (fun _ z => absurd h (tNm_no z).1) (fun _ _ a1 a2 _ => absurd h (fun y => y.elim a1 a2))
theorem XP.name (hu : u ≤ 1) (hby : tBy b L) (c : g.1 < L) (h : tNm u (b g.1)) : XP b L u 5 dp g true (tAdd (tNx g) 1 (b g.1)) := by
  refine XP.mk5 (by unfold tBn; dsimp only [tNx, tAdd]; omega) (fun hdp Q M hX hQ d hd => ?_)
  obtain ⟨e, rfl⟩ : ∃ e, d = e + 1 := ⟨d - 1, by omega⟩
  exact X_unit hu (by omega) hX hby (fun z => absurd c z) (fun _ z => absurd z (tNm_no h).2) (fun _ z => absurd z (tNm_no h).1) (fun _ _ => hQ) (fun _ _ _ _ z => absurd h z)
theorem XP.num (hu : u ≤ 1) (hby : tBy b L) (c : g.1 < L) (h : tDg (b g.1)) : XP b L u 5 dp g true (tNum b L 4 0 g) := by
  refine XP.mk5 (Rd.num (u := u) (dp := dp) c h).bn (fun hdp Q M hX hQ d hd => ?_)
  obtain ⟨e, rfl⟩ : ∃ e, d = e + 2 := ⟨d - 2, by omega⟩
  refine X_unit (e := e + 1) hu (by omega) hX hby (fun z => absurd c z) (fun _ _ => ?_) (fun _ z => absurd z (tDg_no h)) (fun _ z => absurd h (tNm_no z).2) (fun _ z => absurd h z)
  apply zg_X4_readNumber
  exact X_num 4 0 1 0 g M rfl (Or.inl ⟨rfl, rfl⟩) ⟨by decide, by decide⟩ (Or.inr ⟨by omega, c, h⟩) hX hQ
theorem XP.notF (hu : u ≤ 1) (hby : tBy b L) (hd5 : dp < 5) (c : g.1 < L) (h : b g.1 = 33) (ih : XP b L u 5 (dp + 1) (tNx g) false g2) : XP b L u 5 dp g false g2 := by
  have b1 := ih.1
  refine XP.mk5 (by unfold tBn at *; dsimp only [tNx] at b1; omega) (fun hdp Q M hX hQ d hd => ?_)
  obtain ⟨e, rfl⟩ : ∃ e, d = e + 2 := ⟨d - 2, by omega⟩
  refine X_unit (e := e + 1) hu (by omega) hX hby (fun z => absurd c z) (fun _ z => absurd (Or.inl h) (tDg_no z)) (fun _ _ => ⟨fun _ => ?_, fun z => absurd (by rw [zon_ltl (b := 5) (by omega) rfl]; exact hd5) z⟩) (fun _ z => absurd (Or.inl h) (tNm_no z).1) (fun _ _ z => absurd h z)
  apply zg_X4_readOpened
  rw [zon_s (a := dp)]
  refine ⟨fun _ => ?_, fun z => absurd h z⟩
  exact (ih.2 (by omega) _ _ (hX.nx c) (fun M2 h2 f2 => ⟨fun _ => ⟨fun _ => hQ M2 h2 (zfr_trans (zfr_si (by decide)) f2), fun z => absurd rfl z⟩, fun z => absurd rfl z⟩)).2.1 rfl e (by omega)
theorem XP.notT (hu : u ≤ 1) (hby : tBy b L) (hd5 : dp < 5) (c : g.1 < L) (h : b g.1 = 33) (ih : XP b L u 5 (dp + 1) (tNx g) true g2) : XP b L u 5 dp g true (tAdd g2 2 0) := by
  have b1 := ih.1
  refine XP.mk5 (by unfold tBn at *; dsimp only [tNx, tAdd] at *; omega) (fun hdp Q M hX hQ d hd => ?_)
  obtain ⟨e, rfl⟩ : ∃ e, d = e + 2 := ⟨d - 2, by omega⟩
  refine X_unit (e := e + 1) hu (by omega) hX hby (fun z => absurd c z) (fun _ z => absurd (Or.inl h) (tDg_no z)) (fun _ _ => ⟨fun _ => ?_, fun z => absurd (by rw [zon_ltl (b := 5) (by omega) rfl]; exact hd5) z⟩) (fun _ z => absurd (Or.inl h) (tNm_no z).1) (fun _ _ z => absurd h z)
  apply zg_X4_readOpened
  rw [zon_s (a := dp)]
  refine ⟨fun _ => ?_, fun z => absurd h z⟩
  have hb := hX.2.1
  have hl : g2.2.1 < g2.1 := by unfold tBn at b1; dsimp only [tNx] at b1; omega
  refine (ih.2 (by omega) _ _ (hX.nx c) (fun M2 h2 f2 => ⟨fun z => absurd z (by decide), fun _ => ?_⟩)).2.1 rfl e (by omega)
  exact h2.put hl (Or.inr (Or.inr (Or.inl ⟨rfl, rfl⟩))) (Q := fun M3 => ((1 : Int32) = (0 : Int32) → Q 0 M3) ∧ (¬ (1 : Int32) = (0 : Int32) → Q 1 M3)) (fun M3 h3 f3 => ⟨fun z => absurd z (by decide), fun _ => hQ M3 h3 (zfr_trans (zfr_trans (zfr_si (by decide)) f2) f3)⟩)
end XU

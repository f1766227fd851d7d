/-! TEXTS: the class's brackets; every reading. -/
section XV
variable {b : Nat → Int32} {L u dp : Nat} {g g2 : tS}
theorem X_par {e : Nat} {Q : Int32 → zm_M → Prop} {M : zm_M} (h40 : b g.1 = 40) (h : zi e 24 [.ref 68, .int 0, .int (zon (dp + 1))] (zm_si M 68 2 (M.1 68 2 + 1)) (fun x2 M1 => (x2 = (0 : Int32) → Q 0 M1) ∧ (¬ x2 = (0 : Int32) → ((M1.1 68 2) < (M1.1 68 4) → zm_inb (M1.1 68 2) 60 = true ∧ (((M1.1 70 ((M1.1 68 2).toNatClampNeg)) = (41 : Int32) → Q 1 (zm_si M1 68 2 ((M1.1 68 2) + 1))) ∧ (¬ (M1.1 70 ((M1.1 68 2).toNatClampNeg)) = (41 : Int32) → Q 0 M1))) ∧ (¬ (M1.1 68 2) < (M1.1 68 4) → Q 0 M1)))) : zi (e + 1) 26 [.ref 68, .int (b g.1), .int (zon dp + 1)] M Q := by
  apply zg_X4_readOpened
  rw [zon_s (a := dp)]
  exact ⟨fun z => absurd (h40.symm.trans z) (by decide), fun _ => h⟩
theorem XP.parF (hu : u ≤ 1) (hby : tBy b L) (hd5 : dp < 5) (c : g.1 < L) (h : b g.1 = 40) (ih : XP b L u 0 (dp + 1) (tNx g) false g2) : XP b L u 5 dp g false g2 := by
  have b1 := ih.1
  refine XP.mk5 (by unfold tBn at *; dsimp only [tNx] at b1; omega) (fun hdp Q M hX hQ d hd => ?_)
  obtain ⟨e, rfl⟩ : ∃ e, d = e + 2 := ⟨d - 2, by omega⟩
  refine X_unit (e := e + 1) hu (by omega) hX hby (fun z => absurd c z) (fun _ z => absurd (Or.inr h) (tDg_no z)) (fun _ _ => ⟨fun _ => ?_, fun z => absurd (by rw [zon_ltl (b := 5) (by omega) rfl]; exact hd5) z⟩) (fun _ z => absurd (Or.inr h) (tNm_no z).1) (fun _ _ _ z => absurd h z)
  refine X_par h ?_
  exact (ih.2 (by omega) _ _ (hX.nx c) (fun M2 h2 f2 => ⟨fun _ => ⟨fun _ => hQ M2 h2 (zfr_trans (zfr_si (by decide)) f2), fun z => absurd rfl z⟩, fun z => absurd rfl z⟩)).1 (by omega) e (by omega)
theorem XP.parX (hu : u ≤ 1) (hby : tBy b L) (hd5 : dp < 5) (c : g.1 < L) (h : b g.1 = 40) (ih : XP b L u 0 (dp + 1) (tNx g) true g2) (hn : ¬ (g2.1 < L ∧ b g2.1 = 41)) : XP b L u 5 dp g false g2 := by
  have b1 := ih.1
  refine XP.mk5 (by unfold tBn at *; dsimp only [tNx] at b1; omega) (fun hdp Q M hX hQ d hd => ?_)
  obtain ⟨e, rfl⟩ : ∃ e, d = e + 2 := ⟨d - 2, by omega⟩
  refine X_unit (e := e + 1) hu (by omega) hX hby (fun z => absurd c z) (fun _ z => absurd (Or.inr h) (tDg_no z)) (fun _ _ => ⟨fun _ => ?_, fun z => absurd (by rw [zon_ltl (b := 5) (by omega) rfl]; exact hd5) z⟩) (fun _ z => absurd (Or.inr h) (tNm_no z).1) (fun _ _ _ z => absurd h z)
  refine X_par h ?_
  refine (ih.2 (by omega) _ _ (hX.nx c) (fun M2 h2 f2 => ⟨fun z => absurd z (by decide), fun _ => ?_⟩)).1 (by omega) e (by omega)
  have hb := h2.2.1
  have q := hQ M2 h2 (zfr_trans (zfr_si (by decide)) f2)
  rw [h2.1.1, h2.1.2.2.1, zon_lt (by omega) (by omega)]
  refine ⟨fun y => ⟨by rw [zon_inb (by omega)]; omega, ?_⟩, fun _ => ⟨fun _ => q, fun z => absurd rfl z⟩⟩
  rw [zon_n (by omega), h2.2.2.1 _ (by omega)]
  exact ⟨fun z => absurd ⟨y, z⟩ hn, fun _ => ⟨fun _ => q, fun z => absurd rfl z⟩⟩
theorem XP.parT (hu : u ≤ 1) (hby : tBy b L) (hd5 : dp < 5) (c : g.1 < L) (h : b g.1 = 40) (ih : XP b L u 0 (dp + 1) (tNx g) true g2) (c2 : g2.1 < L) (h41 : b g2.1 = 41) : XP b L u 5 dp g true (tNx g2) := by
  have b1 := ih.1
  refine XP.mk5 (by unfold tBn at *; dsimp only [tNx] at *; omega) (fun hdp Q M hX hQ d hd => ?_)
  obtain ⟨e, rfl⟩ : ∃ e, d = e + 2 := ⟨d - 2, by omega⟩
  refine X_unit (e := e + 1) hu (by omega) hX hby (fun z => absurd c z) (fun _ z => absurd (Or.inr h) (tDg_no z)) (fun _ _ => ⟨fun _ => ?_, fun z => absurd (by rw [zon_ltl (b := 5) (by omega) rfl]; exact hd5) z⟩) (fun _ z => absurd (Or.inr h) (tNm_no z).1) (fun _ _ _ z => absurd h z)
  refine X_par h ?_
  refine (ih.2 (by omega) _ _ (hX.nx c) (fun M2 h2 f2 => ⟨fun z => absurd z (by decide), fun _ => ?_⟩)).1 (by omega) e (by omega)
  have hb := h2.2.1
  have q := hQ _ (h2.nx c2) (zfr_trans (zfr_trans (zfr_si (by decide)) f2) (zfr_si (by decide)))
  have x1 : M2.1 70 ((M2.1 68 2).toNatClampNeg) = 41 := by rw [h2.1.1, zon_n (by omega), h2.2.2.1 _ (by omega), h41]
  have lt : M2.1 68 2 < M2.1 68 4 := by rw [h2.1.1, h2.1.2.2.1, zon_lt (by omega) (by omega)]; exact c2
  exact ⟨fun _ => ⟨by rw [h2.1.1, zon_inb (by omega)]; omega, fun _ => ⟨fun z => absurd z (by decide), fun _ => q⟩, fun z => absurd x1 z⟩, fun z => absurd lt z⟩
end XV
theorem X_rd {b : Nat → Int32} {L u k dp : Nat} {g g2 : tS} {ok : Bool} (hu : u ≤ 1) (hby : tBy b L) (h : Rd b L u k dp g ok g2) : XP b L u k dp g ok g2 :=
  h (XP b L u) ⟨XP.down, XP.up, XP.stop, XP.opF, XP.op2, XP.opN, XP.fin hu hby, XP.bad hu hby, XP.deep hu hby, XP.notF hu hby, XP.notT hu hby, XP.parF hu hby, XP.parX hu hby, XP.parT hu hby, XP.name hu hby, XP.num hu hby⟩

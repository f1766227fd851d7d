/-! TEXTS: the reference's units, every rule; every reading. -/
section RU
variable {b : Nat → Int32} {L u dp : Nat} {g g2 : tS}
theorem RP.mk5 {ok : Bool} (hb : tBn L g g2) (h : dp ≤ 5 → ∀ (Q : Int32 → zm_M → Prop) (M : zm_M), RS b L u g M → M.1 82 6 = zon dp → (∀ M2, RS b L u g2 M2 → (ok = true → M2.1 82 6 = zon dp) → rfr M M2 → Q (cond ok 1 0) M2) → ∀ d, 6 * (5 - dp) ≤ d → zi (d + 1) 142 [.ref 82] M Q) : RP b L u 5 dp g ok g2 :=
  ⟨hb, fun hdp Q M hX ho hQ d => ⟨fun _ hd => h hdp Q M hX ho hQ d (by omega), fun z => absurd z (by omega)⟩⟩
theorem RP.fin (hu : u ≤ 1) (c : ¬ g.1 < L) : RP b L u 5 dp g false g := by
  refine RP.mk5 (by unfold tBn; omega) (fun hdp Q M hX ho hQ d hd => ?_)
  exact R_one hu hX (fun _ => hQ M hX (fun z => by cases z) rfr_rfl) (fun z => absurd z c) (fun z => absurd z c) (fun z => absurd z c) (fun z => absurd z c) (fun z => absurd z c)
theorem RP.bad (hu : u ≤ 1) (c : g.1 < L) (h1 : ¬ tDg (b g.1)) (h2 : ¬ b g.1 = 33) (h3 : ¬ b g.1 = 40) (h4 : ¬ tNm u (b g.1)) : RP b L u 5 dp g false g := by
  refine RP.mk5 (by unfold tBn; omega) (fun hdp Q M hX ho hQ d hd => ?_)
  exact R_one hu hX (fun z => absurd c z) (fun _ z => absurd z h1) (fun _ z => absurd z h2) (fun _ z => absurd z h3) (fun _ z => absurd z h4) (fun _ _ _ _ _ => hQ M hX (fun z => by cases z) rfr_rfl)
theorem RP.deep (hu : u ≤ 1) (c : g.1 < L) (h : b g.1 = 33 ∨ b g.1 = 40) : RP b L u 5 5 g false g := by
  refine RP.mk5 (by unfold tBn; omega) (fun hdp Q M hX ho hQ d hd => ?_)
  have q := hQ M hX (fun z => by cases z) rfr_rfl
  have o5 : M.1 82 6 = 5 := ho
  exact R_one hu hX (fun z => absurd c z) (fun _ z => absurd h (tDg_no z)) (fun _ _ => ⟨fun _ => q, fun z => absurd o5 z⟩) (fun _ _ => ⟨fun _ => q, fun z => absurd o5 z⟩) (fun _ z => absurd h (tNm_no z).1) (fun _ _ a1 a2 _ => absurd h (fun y => y.elim a1 a2))
theorem RP.name (hu : u ≤ 1) (c : g.1 < L) (h : tNm u (b g.1)) : RP b L u 5 dp g true (tAdd (tNx g) 1 (b g.1)) := by
  refine RP.mk5 (by unfold tBn; dsimp only [tNx, tAdd]; omega) (fun hdp Q M hX ho hQ d hd => ?_)
  refine R_one hu hX (fun z => absurd c z) (fun _ z => absurd z (tNm_no h).2) (fun _ z => absurd (Or.inl z) (tNm_no h).1) (fun _ z => absurd (Or.inr z) (tNm_no h).1) (fun _ _ => ?_) (fun _ _ _ _ z => absurd h z)
  have hb := hX.2.1
  have lt : (tNx g).2.1 < (tNx g).1 := by
    show g.2.1 < g.1 + 1
    omega
  have ly := (hX.nx c).rlay (a := 1) (x := b g.1) (Q := fun M2 => Q 1 M2) lt (fun M2 h2 o2 f2 => hQ M2 h2 (fun _ => o2.trans (by rw [zI_si, if_pos rfl, if_neg (by decide)]; exact ho)) (rfr_trans (rfr_si (by omega)) f2))
  have e7 : (zm_si M 82 5 (M.1 82 5 + 1)).1 82 7 = M.1 82 7 := by rw [zI_si, if_pos rfl, if_neg (by decide)]
  unfold rLay at ly
  rw [e7] at ly
  exact ⟨⟨ly.1, ly.2.1⟩, ly.2.2⟩
theorem RP.num (hu : u ≤ 1) (c : g.1 < L) (h : tDg (b g.1)) : RP b L u 5 dp g true (tNum b L 4 0 g) := by
  refine RP.mk5 (Rd.num (u := u) (dp := dp) c h).bn (fun hdp Q M hX ho hQ d hd => ?_)
  refine R_one hu hX (fun z => absurd c z) (fun _ _ => ?_) (fun _ z => absurd (Or.inl z) (fun y => tDg_no h y)) (fun _ z => absurd (Or.inr z) (fun y => tDg_no h y)) (fun _ z => absurd h (tNm_no z).2) (fun _ z => absurd h z)
  exact R_num 4 0 0 g M rfl (Or.inr ⟨by omega, c, h⟩) hX (fun M2 h2 o2 f2 => hQ M2 h2 (fun _ => o2.trans ho) f2)
theorem RS.opn {M : zm_M} (hX : RS b L u g M) (c : g.1 < L) (ho : M.1 82 6 = zon dp) : RS b L u (tNx g) (zm_si (zm_si M 82 6 ((M.1 82 6) + 1)) 82 5 ((M.1 82 5) + 1)) ∧ (zm_si (zm_si M 82 6 ((M.1 82 6) + 1)) 82 5 ((M.1 82 5) + 1)).1 82 6 = zon (dp + 1) ∧ rfr M (zm_si (zm_si M 82 6 ((M.1 82 6) + 1)) 82 5 ((M.1 82 5) + 1)) := by
  have h1 := (hX.op (v := M.1 82 6 + 1)).nx c
  rw [show (zm_si M 82 6 (M.1 82 6 + 1)).1 82 5 = M.1 82 5 by rw [zI_si, if_pos rfl, if_neg (by decide)]] at h1
  exact ⟨h1, by rw [zI_si, if_pos rfl, if_neg (by decide), zI_si_eq, ho, zon_s], rfr_trans (rfr_si (by omega)) (rfr_si (by omega))⟩
theorem zon_dn {n : Nat} (h : n < 1000) : zon (n + 1) - 1 = zon n := by
  apply Int32.toInt_inj.mp
  rw [Int32.toInt_sub, zon_i (by omega), zon_i (by omega), show (1 : Int32).toInt = 1 from rfl, Int.bmod]
  omega
theorem zon_5 {n : Nat} (h : n < 5) : ¬ zon n = (5 : Int32) := by
  intro z
  have : zon n = zon 5 := z
  rw [zon_inj (by omega) (by omega)] at this
  omega
theorem RP.notF (hu : u ≤ 1) (hd5 : dp < 5) (c : g.1 < L) (h : b g.1 = 33) (ih : RP b L u 5 (dp + 1) (tNx g) false g2) : RP b L u 5 dp g false g2 := by
  have b1 := ih.1
  refine RP.mk5 (by unfold tBn at *; dsimp only [tNx] at b1; omega) (fun hdp Q M hX ho hQ d hd => ?_)
  obtain ⟨e, rfl⟩ : ∃ e, d = e + 1 := ⟨d - 1, by omega⟩
  obtain ⟨x1, x2, x3⟩ := hX.opn c ho
  refine R_one hu hX (fun z => absurd c z) (fun _ z => absurd (Or.inl h) (tDg_no z)) (fun _ _ => ⟨fun z => absurd (ho.symm.trans z) (zon_5 hd5), fun _ => ?_⟩) (fun _ z => absurd (h.symm.trans z) (by decide)) (fun _ z => absurd (Or.inl h) (tNm_no z).1) (fun _ _ z => absurd h z)
  exact (ih.2 (by omega) _ _ x1 x2 (fun M2 h2 _ f2 => ⟨fun _ => hQ M2 h2 (fun z => by cases z) (rfr_trans x3 f2), fun z => absurd rfl z⟩) e).1 (by omega) (by omega)
theorem RP.notT (hu : u ≤ 1) (hd5 : dp < 5) (c : g.1 < L) (h : b g.1 = 33) (ih : RP b L u 5 (dp + 1) (tNx g) true g2) : RP b L u 5 dp g true (tAdd g2 2 0) := by
  have b1 := ih.1
  refine RP.mk5 (by unfold tBn at *; dsimp only [tNx, tAdd] at *; omega) (fun hdp Q M hX ho hQ d hd => ?_)
  obtain ⟨e, rfl⟩ : ∃ e, d = e + 1 := ⟨d - 1, by omega⟩
  obtain ⟨x1, x2, x3⟩ := hX.opn c ho
  have hb := hX.2.1
  have lt : g2.2.1 < g2.1 := by unfold tBn at b1; dsimp only [tNx] at b1; omega
  refine R_one hu hX (fun z => absurd c z) (fun _ z => absurd (Or.inl h) (tDg_no z)) (fun _ _ => ⟨fun z => absurd (ho.symm.trans z) (zon_5 hd5), fun _ => ?_⟩) (fun _ z => absurd (h.symm.trans z) (by decide)) (fun _ z => absurd (Or.inl h) (tNm_no z).1) (fun _ _ z => absurd h z)
  refine (ih.2 (by omega) _ _ x1 x2 (fun M2 h2 o2 f2 => ⟨fun z => absurd z (by decide), fun _ => ?_⟩) e).1 (by omega) (by omega)
  have ly := (h2.op (v := M2.1 82 6 - 1)).rlay (a := 2) (x := 0) (Q := fun M3 => Q 1 M3) lt (fun M3 h3 o3 f3 => hQ M3 h3 (fun _ => o3.trans (by rw [zI_si_eq, o2 rfl, zon_dn (by omega)])) (rfr_trans x3 (rfr_trans f2 (rfr_trans (rfr_si (by omega)) f3))))
  have e7 : (zm_si M2 82 6 (M2.1 82 6 - 1)).1 82 7 = M2.1 82 7 := by rw [zI_si, if_pos rfl, if_neg (by decide)]
  unfold rLay at ly
  rw [e7] at ly
  exact ly
theorem RP.parF (hu : u ≤ 1) (hd5 : dp < 5) (c : g.1 < L) (h : b g.1 = 40) (ih : RP b L u 0 (dp + 1) (tNx g) false g2) : RP b L u 5 dp g false g2 := by
  have b1 := ih.1
  refine RP.mk5 (by unfold tBn at *; dsimp only [tNx] at b1; omega) (fun hdp Q M hX ho hQ d hd => ?_)
  obtain ⟨e, rfl⟩ : ∃ e, d = e + 1 := ⟨d - 1, by omega⟩
  obtain ⟨x1, x2, x3⟩ := hX.opn c ho
  refine R_one hu hX (fun z => absurd c z) (fun _ z => absurd (Or.inr h) (tDg_no z)) (fun _ z => absurd (h.symm.trans z) (by decide)) (fun _ _ => ⟨fun z => absurd (ho.symm.trans z) (zon_5 hd5), fun _ => ?_⟩) (fun _ z => absurd (Or.inr h) (tNm_no z).1) (fun _ _ _ z => absurd h z)
  exact (ih.2 (by omega) _ _ x1 x2 (fun M2 h2 _ f2 => ⟨fun _ => hQ M2 h2 (fun z => by cases z) (rfr_trans x3 f2), fun z => absurd rfl z⟩) e).1 (by omega) (by omega)
theorem RP.parX (hu : u ≤ 1) (hd5 : dp < 5) (c : g.1 < L) (h : b g.1 = 40) (ih : RP b L u 0 (dp + 1) (tNx g) true g2) (hn : ¬ (g2.1 < L ∧ b g2.1 = 41)) : RP b L u 5 dp g false g2 := by
  have b1 := ih.1
  refine RP.mk5 (by unfold tBn at *; dsimp only [tNx] at b1; omega) (fun hdp Q M hX ho hQ d hd => ?_)
  obtain ⟨e, rfl⟩ : ∃ e, d = e + 1 := ⟨d - 1, by omega⟩
  obtain ⟨x1, x2, x3⟩ := hX.opn c ho
  refine R_one hu hX (fun z => absurd c z) (fun _ z => absurd (Or.inr h) (tDg_no z)) (fun _ z => absurd (h.symm.trans z) (by decide)) (fun _ _ => ⟨fun z => absurd (ho.symm.trans z) (zon_5 hd5), fun _ => ?_⟩) (fun _ z => absurd (Or.inr h) (tNm_no z).1) (fun _ _ _ z => absurd h z)
  refine (ih.2 (by omega) _ _ x1 x2 (fun M2 h2 o2 f2 => ⟨fun z => absurd z (by decide), fun _ => ?_⟩) e).1 (by omega) (by omega)
  have q := hQ M2 h2 (fun z => by cases z) (rfr_trans x3 f2)
  refine ⟨fun y => ⟨(h2.at.2 (h2.at.1.mp y)).1, fun z => absurd ⟨h2.at.1.mp y, (h2.at.2 (h2.at.1.mp y)).2.symm.trans z⟩ hn, fun _ => q⟩, fun _ => q⟩
theorem RP.parT (hu : u ≤ 1) (hd5 : dp < 5) (c : g.1 < L) (h : b g.1 = 40) (ih : RP b L u 0 (dp + 1) (tNx g) true g2) (c2 : g2.1 < L) (h41 : b g2.1 = 41) : RP b L u 5 dp g true (tNx g2) := by
  have b1 := ih.1
  refine RP.mk5 (by unfold tBn at *; dsimp only [tNx] at *; omega) (fun hdp Q M hX ho hQ d hd => ?_)
  obtain ⟨e, rfl⟩ : ∃ e, d = e + 1 := ⟨d - 1, by omega⟩
  obtain ⟨x1, x2, x3⟩ := hX.opn c ho
  refine R_one hu hX (fun z => absurd c z) (fun _ z => absurd (Or.inr h) (tDg_no z)) (fun _ z => absurd (h.symm.trans z) (by decide)) (fun _ _ => ⟨fun z => absurd (ho.symm.trans z) (zon_5 hd5), fun _ => ?_⟩) (fun _ z => absurd (Or.inr h) (tNm_no z).1) (fun _ _ _ z => absurd h z)
  refine (ih.2 (by omega) _ _ x1 x2 (fun M2 h2 o2 f2 => ⟨fun z => absurd z (by decide), fun _ => ?_⟩) e).1 (by omega) (by omega)
  have q := hQ _ ((h2.nx c2).op (v := M2.1 82 6 - 1)) (fun _ => by rw [zI_si_eq, o2 rfl, zon_dn (by omega)]) (rfr_trans x3 (rfr_trans f2 (rfr_trans (rfr_si (by omega)) (rfr_si (by omega)))))
  exact ⟨fun y => ⟨(h2.at.2 c2).1, fun _ => q, fun z => absurd ((h2.at.2 c2).2.trans h41) z⟩, fun z => absurd (h2.at.1.mpr c2) z⟩
end RU
theorem R_rd {b : Nat → Int32} {L u k dp : Nat} {g g2 : tS} {ok : Bool} (hu : u ≤ 1) (h : Rd b L u k dp g ok g2) : RP b L u k dp g ok g2 :=
  h (RP b L u) ⟨RP.down, RP.up, RP.stop, RP.opF, RP.op2, RP.opN, RP.fin hu, RP.bad hu, RP.deep hu, RP.notF hu, RP.notT hu, RP.parF hu, RP.parX hu, RP.parT hu, RP.name hu, RP.num hu⟩

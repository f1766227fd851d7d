/-! TEXTS: the class's units. -/
theorem XP.mk5 {b : Nat → Int32} {L u dp : Nat} {g g2 : tS} {ok : Bool} (hb : tBn L g g2) (h : dp ≤ 5 → ∀ (Q : Int32 → zm_M → Prop) (M : zm_M), XS b L u g M → (∀ M2, XS b L u g2 M2 → zfr [68, 69] M M2 → Q (cond ok 1 0) M2) → ∀ d, 12 * (5 - dp) + 5 ≤ d → zi d 25 [.ref 68, .int (zon dp)] M Q) : XP b L u 5 dp g ok g2 := by
  refine ⟨hb, fun hdp Q M hX hQ => ⟨fun _ d hd => ?_, fun _ d hd => h hdp Q M hX hQ d hd, fun z => absurd z (by omega)⟩⟩
  obtain ⟨e, rfl⟩ : ∃ e, d = e + 1 := ⟨d - 1, by omega⟩
  apply zg_X4_readRank
  refine ⟨fun z => absurd z (by decide), fun _ => ?_⟩
  refine h hdp (fun x M2 => (x = 0 ∨ x = 1) ∧ Q x M2) M hX (fun M2 h2 f2 => ⟨?_, hQ M2 h2 f2⟩) e (by omega)
  cases ok
  · exact Or.inl rfl
  · exact Or.inr rfl
theorem X_unit0 {e L dp : Nat} {b : Nat → Int32} {g : tS} {M : zm_M} {Q : Int32 → zm_M → Prop} (he : 3 ≤ e) (hX : XS b L 0 g M) (hby : g.1 < L → ∃ n, n < 256 ∧ b g.1 = zon n) (hE : ¬ g.1 < L → Q 0 M) (hD : g.1 < L → tDg (b g.1) → zv e 27 [.ref 68] M (fun M81 => Q 1 M81)) (hB : g.1 < L → b g.1 = 33 ∨ b g.1 = 40 → (zon dp < (5 : Int32) → zi e 26 [.ref 68, .int (b g.1), .int (zon dp + 1)] M (fun x2 M1 => (x2 = (0 : Int32) → Q 0 M1) ∧ (¬ x2 = (0 : Int32) → Q 1 M1))) ∧ (¬ zon dp < (5 : Int32) → Q 0 M)) (hN : g.1 < L → tNm 0 (b g.1) → ∀ M2, XS b L 0 (tAdd (tNx g) 1 (b g.1)) M2 → zfr [68, 69] M M2 → Q 1 M2) (hZ : g.1 < L → ¬ tDg (b g.1) → ¬ b g.1 = 33 → ¬ b g.1 = 40 → ¬ tNm 0 (b g.1) → Q 0 M) : zi (e + 1) 25 [.ref 68, .int (zon dp)] M Q := by
  have hb := hX.2.1
  have h1 := hX.1.1
  have h4 := hX.1.2.2.1
  apply zg_X4_readUnit_n110
  by_cases c : g.1 < L
  · have inb : zm_inb (zon g.1) 60 = true := by rw [zon_inb (by omega)]; omega
    obtain ⟨n, hn, en⟩ := hby c
    obtain ⟨e3, rfl⟩ : ∃ e3, e = e3 + 3 := ⟨e - 3, by omega⟩
    have nm := nmI_nm (u := 0) (x := b g.1) (by omega)
    have tl : ¬ tDg (b g.1) → ¬ b g.1 = 33 → ¬ b g.1 = 40 → (b g.1 < (0 : Int32) → Q 0 M) ∧ (¬ b g.1 < (0 : Int32) → M.2.2.1 = 110 ∧ (zi (e3 + 3) 205 [.ref 110, .int (((b g.1).toUInt32 % 65536).toInt32)] M (fun x13 M12 => (x13 < (0 : Int32) → Q 0 M12) ∧ (¬ x13 < (0 : Int32) → ((M12.1 68 1) < (60 : Int32) → zm_inb (M12.1 68 1) 60 = true ∧ (Q 1 (zm_si (zm_si (zm_si M12 68 2 ((M12.1 68 2) + 1)) 69 ((M12.1 68 1).toNatClampNeg) ((-1) - x13)) 68 1 ((M12.1 68 1) + 1)))) ∧ (¬ (M12.1 68 1) < (60 : Int32) → Q 1 (zm_si M12 68 2 ((M12.1 68 2) + 1))))))) := fun nd n33 n40 => by
      refine ⟨fun z => absurd z (by rw [en]; exact zon_nn (by omega)), fun _ => ⟨hX.1.2.2.2, ?_⟩⟩
      rw [show (((b g.1).toUInt32 % 65536).toInt32) = (((zon n).toUInt32 % 65536).toInt32) by rw [en]]
      refine X_idx0 hn ?_
      rw [← en]
      by_cases hm : tNm 0 (b g.1)
      · obtain ⟨m1, m2⟩ := nm.1 hm
        refine ⟨fun z => absurd z m1, fun _ => ?_⟩
        have hnx := hX.nx c
        have lt : (tNx g).2.1 < (tNx g).1 := by
          show g.2.1 < g.1 + 1
          omega
        have pt := hnx.put (Q := fun M2 => Q 1 M2) lt m2 (fun M2 h2 f2 => hN c hm M2 h2 (zfr_trans (zfr_si (by decide)) f2))
        rw [show (zm_si M 68 2 (M.1 68 2 + 1)).1 68 1 = M.1 68 1 by rw [zI_si, if_pos rfl, if_neg (by decide)]] at pt
        exact pt
      · exact ⟨fun _ => hZ c nd n33 n40 hm, fun z => absurd (nm.2 hm) z⟩
    have x1 : M.1 70 ((M.1 68 2).toNatClampNeg) = b g.1 := by rw [h1, zon_n (by omega)]; exact hX.2.2.1 _ (by omega)
    rw [x1]
    rw [show (M.1 68 2 < M.1 68 4) = (g.1 < L) by rw [h1, h4, zon_lt (by omega) (by omega)], show zm_inb (M.1 68 2) 60 = true from by rw [h1]; exact inb]
    have tr : ¬ tDg (b g.1) → (b g.1 = (33 : Int32) → (zon dp < (5 : Int32) → zi (e3 + 3) 26 [.ref 68, .int (b g.1), .int (zon dp + 1)] M (fun x2 M1 => (x2 = (0 : Int32) → Q 0 M1) ∧ (¬ x2 = (0 : Int32) → Q 1 M1))) ∧ (¬ zon dp < (5 : Int32) → Q 0 M)) ∧ (¬ b g.1 = (33 : Int32) → (b g.1 = (40 : Int32) → (zon dp < (5 : Int32) → zi (e3 + 3) 26 [.ref 68, .int (b g.1), .int (zon dp + 1)] M (fun x2 M1 => (x2 = (0 : Int32) → Q 0 M1) ∧ (¬ x2 = (0 : Int32) → Q 1 M1))) ∧ (¬ zon dp < (5 : Int32) → Q 0 M)) ∧ (¬ b g.1 = (40 : Int32) → (b g.1 < (0 : Int32) → Q 0 M) ∧ (¬ b g.1 < (0 : Int32) → M.2.2.1 = 110 ∧ (zi (e3 + 3) 205 [.ref 110, .int (((b g.1).toUInt32 % 65536).toInt32)] M (fun x13 M12 => (x13 < (0 : Int32) → Q 0 M12) ∧ (¬ x13 < (0 : Int32) → ((M12.1 68 1) < (60 : Int32) → zm_inb (M12.1 68 1) 60 = true ∧ (Q 1 (zm_si (zm_si (zm_si M12 68 2 ((M12.1 68 2) + 1)) 69 ((M12.1 68 1).toNatClampNeg) ((-1) - x13)) 68 1 ((M12.1 68 1) + 1)))) ∧ (¬ (M12.1 68 1) < (60 : Int32) → Q 1 (zm_si M12 68 2 ((M12.1 68 2) + 1))))))))) := fun nd => ⟨fun y => hB c (Or.inl y), fun y => ⟨fun y2 => hB c (Or.inr y2), fun y2 => tl nd y y2⟩⟩
    exact ⟨fun _ => ⟨rfl, fun z => tr (fun y => absurd y.1 (by grind)), fun z => ⟨fun z2 => tr (fun y => absurd y.2 (by grind)), fun z2 => hD c ⟨by grind, by grind⟩⟩⟩, fun z => absurd c z⟩
  · rw [h1, h4, zon_lt (by omega) (by omega)]
    exact ⟨fun z => absurd z c, fun _ => hE c⟩
theorem X_unit1 {e L dp : Nat} {b : Nat → Int32} {g : tS} {M : zm_M} {Q : Int32 → zm_M → Prop} (he : 3 ≤ e) (hX : XS b L 1 g M) (hby : g.1 < L → ∃ n, n < 256 ∧ b g.1 = zon n) (hE : ¬ g.1 < L → Q 0 M) (hD : g.1 < L → tDg (b g.1) → zv e 27 [.ref 68] M (fun M81 => Q 1 M81)) (hB : g.1 < L → b g.1 = 33 ∨ b g.1 = 40 → (zon dp < (5 : Int32) → zi e 26 [.ref 68, .int (b g.1), .int (zon dp + 1)] M (fun x2 M1 => (x2 = (0 : Int32) → Q 0 M1) ∧ (¬ x2 = (0 : Int32) → Q 1 M1))) ∧ (¬ zon dp < (5 : Int32) → Q 0 M)) (hN : g.1 < L → tNm 1 (b g.1) → ∀ M2, XS b L 1 (tAdd (tNx g) 1 (b g.1)) M2 → zfr [68, 69] M M2 → Q 1 M2) (hZ : g.1 < L → ¬ tDg (b g.1) → ¬ b g.1 = 33 → ¬ b g.1 = 40 → ¬ tNm 1 (b g.1) → Q 0 M) : zi (e + 1) 25 [.ref 68, .int (zon dp)] M Q := by
  have hb := hX.2.1
  have h1 := hX.1.1
  have h4 := hX.1.2.2.1
  apply zg_X4_readUnit_n111
  by_cases c : g.1 < L
  · have inb : zm_inb (zon g.1) 60 = true := by rw [zon_inb (by omega)]; omega
    obtain ⟨n, hn, en⟩ := hby c
    obtain ⟨e3, rfl⟩ : ∃ e3, e = e3 + 3 := ⟨e - 3, by omega⟩
    have nm := nmI_nm (u := 1) (x := b g.1) (by omega)
    have tl : ¬ tDg (b g.1) → ¬ b g.1 = 33 → ¬ b g.1 = 40 → (b g.1 < (0 : Int32) → Q 0 M) ∧ (¬ b g.1 < (0 : Int32) → M.2.2.1 = 111 ∧ (zi (e3 + 3) 205 [.ref 111, .int (((b g.1).toUInt32 % 65536).toInt32)] M (fun x13 M12 => (x13 < (0 : Int32) → Q 0 M12) ∧ (¬ x13 < (0 : Int32) → ((M12.1 68 1) < (60 : Int32) → zm_inb (M12.1 68 1) 60 = true ∧ (Q 1 (zm_si (zm_si (zm_si M12 68 2 ((M12.1 68 2) + 1)) 69 ((M12.1 68 1).toNatClampNeg) ((-1) - x13)) 68 1 ((M12.1 68 1) + 1)))) ∧ (¬ (M12.1 68 1) < (60 : Int32) → Q 1 (zm_si M12 68 2 ((M12.1 68 2) + 1))))))) := fun nd n33 n40 => by
      refine ⟨fun z => absurd z (by rw [en]; exact zon_nn (by omega)), fun _ => ⟨hX.1.2.2.2, ?_⟩⟩
      rw [show (((b g.1).toUInt32 % 65536).toInt32) = (((zon n).toUInt32 % 65536).toInt32) by rw [en]]
      refine X_idx1 hn ?_
      rw [← en]
      by_cases hm : tNm 1 (b g.1)
      · obtain ⟨m1, m2⟩ := nm.1 hm
        refine ⟨fun z => absurd z m1, fun _ => ?_⟩
        have hnx := hX.nx c
        have lt : (tNx g).2.1 < (tNx g).1 := by
          show g.2.1 < g.1 + 1
          omega
        have pt := hnx.put (Q := fun M2 => Q 1 M2) lt m2 (fun M2 h2 f2 => hN c hm M2 h2 (zfr_trans (zfr_si (by decide)) f2))
        rw [show (zm_si M 68 2 (M.1 68 2 + 1)).1 68 1 = M.1 68 1 by rw [zI_si, if_pos rfl, if_neg (by decide)]] at pt
        exact pt
      · exact ⟨fun _ => hZ c nd n33 n40 hm, fun z => absurd (nm.2 hm) z⟩
    have x1 : M.1 70 ((M.1 68 2).toNatClampNeg) = b g.1 := by rw [h1, zon_n (by omega)]; exact hX.2.2.1 _ (by omega)
    rw [x1]
    rw [show (M.1 68 2 < M.1 68 4) = (g.1 < L) by rw [h1, h4, zon_lt (by omega) (by omega)], show zm_inb (M.1 68 2) 60 = true from by rw [h1]; exact inb]
    have tr : ¬ tDg (b g.1) → (b g.1 = (33 : Int32) → (zon dp < (5 : Int32) → zi (e3 + 3) 26 [.ref 68, .int (b g.1), .int (zon dp + 1)] M (fun x2 M1 => (x2 = (0 : Int32) → Q 0 M1) ∧ (¬ x2 = (0 : Int32) → Q 1 M1))) ∧ (¬ zon dp < (5 : Int32) → Q 0 M)) ∧ (¬ b g.1 = (33 : Int32) → (b g.1 = (40 : Int32) → (zon dp < (5 : Int32) → zi (e3 + 3) 26 [.ref 68, .int (b g.1), .int (zon dp + 1)] M (fun x2 M1 => (x2 = (0 : Int32) → Q 0 M1) ∧ (¬ x2 = (0 : Int32) → Q 1 M1))) ∧ (¬ zon dp < (5 : Int32) → Q 0 M)) ∧ (¬ b g.1 = (40 : Int32) → (b g.1 < (0 : Int32) → Q 0 M) ∧ (¬ b g.1 < (0 : Int32) → M.2.2.1 = 111 ∧ (zi (e3 + 3) 205 [.ref 111, .int (((b g.1).toUInt32 % 65536).toInt32)] M (fun x13 M12 => (x13 < (0 : Int32) → Q 0 M12) ∧ (¬ x13 < (0 : Int32) → ((M12.1 68 1) < (60 : Int32) → zm_inb (M12.1 68 1) 60 = true ∧ (Q 1 (zm_si (zm_si (zm_si M12 68 2 ((M12.1 68 2) + 1)) 69 ((M12.1 68 1).toNatClampNeg) ((-1) - x13)) 68 1 ((M12.1 68 1) + 1)))) ∧ (¬ (M12.1 68 1) < (60 : Int32) → Q 1 (zm_si M12 68 2 ((M12.1 68 2) + 1))))))))) := fun nd => ⟨fun y => hB c (Or.inl y), fun y => ⟨fun y2 => hB c (Or.inr y2), fun y2 => tl nd y y2⟩⟩
    exact ⟨fun _ => ⟨rfl, fun z => tr (fun y => absurd y.1 (by grind)), fun z => ⟨fun z2 => tr (fun y => absurd y.2 (by grind)), fun z2 => hD c ⟨by grind, by grind⟩⟩⟩, fun z => absurd c z⟩
  · rw [h1, h4, zon_lt (by omega) (by omega)]
    exact ⟨fun z => absurd z c, fun _ => hE c⟩

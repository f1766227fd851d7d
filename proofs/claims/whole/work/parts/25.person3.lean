theorem pair_person {d : Nat} {M : zm_M} {a b c : Int32} (h : Inv M) : zi (d + 1) 62 [.ref 0, .int a, .int b, .int c] M (fun v M1 => zi (d + 2) 122 [.ref 82, .int a, .int b, .int c] M1 (fun w M2 => v = w ∧ Inv M2)) := by
  obtain ⟨hR, hW⟩ := h.1
  have b0 := hW.1
  have e0 : M.1 2 0 = M.1 83 0 := hR.1 0 2 0 rfl
  by_cases hb : ¬ a < 0 ∧ ¬ 699 < a ∧ ¬ b < 0 ∧ ¬ 99999 < b ∧ ¬ c < 0 ∧ ¬ 99999 < c
  · obtain ⟨c1, c2, c3, c4, c5, c6⟩ := id hb
    apply zg_X10_person
    rw [e0]
    refine ⟨fun z => absurd z c1, fun _ => ⟨fun _ => ⟨fun z => absurd z c3, fun _ => ⟨fun z => absurd z c4, fun _ => ⟨fun z => absurd z c5, fun _ => ⟨fun z => absurd z c6, fun _ => ⟨fun h12 => ?_, fun h12 => ?_⟩⟩⟩⟩⟩, fun z => by grind⟩⟩
    · have n1 : ¬ M.1 83 0 < 0 := by grind
      obtain ⟨p1, p2⟩ := km_parts c1 c2
      refine X_addPers hR n1 h12 (fun M1 r1 k1 _ => ?_)
      have k83 := k1 83 (by omega)
      refine R_person_good hb (by rw [k83]; exact n1) (by rw [k83]; exact h12) ?_
      rw [k83]
      refine ⟨rfl, h.town (s2 := sPers (M.1 83) (a / 100) (a - a / 100 * 100) b c) ?_ (hW.pers h12 p1 p2 (by grind) (by grind)) zI_sr_row (fun k hk => ?_) ?_ ?_⟩
      · exact r1.congr (fun k g1 g2 => by rw [zI_sr_rne (by omega)])
      · rw [zI_sr_rne (by omega), k1 k (by omega)]
      · rw [zI_sr_rne (by decide), k1 82 (by omega)]
      · rw [zI_sr_rne (by decide), k1 82 (by omega)]
    · apply zg_X11_person
      rw [zI_si_rne (show 83 ≠ 81 by decide)]
      have hi := h.err1 (k := 4) (by decide)
      exact ⟨fun z => absurd z c1, fun _ => ⟨fun z => absurd z c2, fun _ => ⟨fun z => absurd z c3, fun _ => ⟨fun z => absurd z c4, fun _ => ⟨fun z => absurd z c5, fun _ => ⟨fun z => absurd z c6, fun _ => ⟨fun _ => ⟨rfl, hi⟩, fun z => absurd (show M.1 83 0 = 12 by grind) z⟩⟩⟩⟩⟩⟩⟩
  · exact X_person_bad hb (R_person_bad hb ⟨rfl, h.err1 (by decide)⟩)

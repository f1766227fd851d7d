/-! Pair: debts. -/
abbrev okD (s : Nat → Int32) (x y z : Int32) : Prop := ¬ x < 0 ∧ x < s 0 ∧ ¬ y < 1 ∧ ¬ 99999 < y ∧ ¬ z < 0 ∧ ¬ 9999 < z
def dbL (nu : Nat → Int32) (S : Nat) : Nat → Nat → (Nat → Int32) → Nat × (Nat → Int32)
  | 0, n, s => (n, s)
  | f + 1, n, s => if 3 * n + 2 < S ∧ s 1 < 10 ∧ okD s (nu (3 * n)) (nu (3 * n + 1)) (nu (3 * n + 2)) then dbL nu S f (n + 1) (sDebt s (nu (3 * n)) (nu (3 * n + 1)) (nu (3 * n + 2))) else (n, s)
theorem WF.okd {s : Nat → Int32} (h : WF s) {a b c : Int32} (h1 : s 1 < 10) (ho : okD s a b c) : WF (sDebt s a b c) := by
  obtain ⟨o1, o2, o3, o4, o5, o6⟩ := ho
  exact h.debt h1 ⟨by grind, o2⟩ ⟨by grind, by grind⟩ ⟨by grind, by grind⟩
theorem dbL_ok {nu : Nat → Int32} {S : Nat} : ∀ (f n : Nat) (s : Nat → Int32), WF s → WF (dbL nu S f n s).2
  | 0, n, s, h => h
  | f + 1, n, s, h => by
    rw [dbL]
    split
    · rename_i hc
      exact dbL_ok f (n + 1) _ (h.okd hc.2.1 hc.2.2)
    · exact h
theorem X_dbL {d S k : Nat} {nu : Nat → Int32} {Q : Int32 → zm_M → Prop} (hk : k < 4) (hS : S ≤ 24) : ∀ (f n : Nat) (M : zm_M) (s : Nat → Int32), n + f = 9 → RT M 0 s → WF s → M.1 75 k = zon S → (∀ j, j < 24 → M.1 (77 + k) j = nu j) → (∀ M1, RT M1 0 (dbL nu S f n s).2 → (∀ c, c = 0 ∨ 29 < c → M1.1 c = M.1 c) → Q (zon (dbL nu S f n s).1) M1) → zt (d + 2) 90 49 [some (.ref 0), some (.int (zon k)), some (.ref (77 + k)), some (.int (zon n)), some (.int (zon (3 * n)))] [] M (zPi Q) := by
  intro f
  have ik : zm_inb (zon k) 4 = true := by rw [zon_inb (by omega)]; omega
  have e1 : ∀ n, zon n + 1 = zon (n + 1) := fun n => zon_s
  have e2 : ∀ n, zon n + 2 = zon (n + 2) := fun n => zon_add (b := 2)
  have e3 : ∀ n, zon n + 3 = zon (n + 3) := fun n => zon_add (b := 3)
  induction f with
  | zero =>
    intro n M s hn hR hW h75 h77 hQ
    apply zu_debts_p49 hk
    rw [zon_n (show k < 2000 by omega), h75, e2, zon_lt (by omega) (by omega)]
    exact ⟨ik, fun z => absurd z (by omega), fun _ => hQ M hR (fun _ _ => rfl)⟩
  | succ f ih =>
    intro n M s hn hR hW h75 h77 hQ
    have b0 := hW.1
    have b1 := hW.2.1
    apply zu_debts_p49 hk
    rw [zon_n (show k < 2000 by omega), h75, e2, zon_lt (by omega) (by omega), show M.1 12 0 = s 1 from hR.1 1 12 0 rfl, show M.1 2 0 = s 0 from hR.1 0 2 0 rfl, e1, zon_n (show 3 * n < 2000 by omega), zon_n (show 3 * n + 1 < 2000 by omega), zon_n (show 3 * n + 2 < 2000 by omega), e3, e1]
    rw [dbL] at hQ
    have bad : ¬ (3 * n + 2 < S ∧ s 1 < 10 ∧ okD s (nu (3 * n)) (nu (3 * n + 1)) (nu (3 * n + 2))) → Q (zon n) M := fun hc => by
      rw [if_neg hc] at hQ
      exact hQ M hR (fun _ _ => rfl)
    by_cases c1 : 3 * n + 2 < S
    · rw [h77 (3 * n) (by omega), h77 (3 * n + 1) (by omega), h77 (3 * n + 2) (by omega)]
      have i0 : zm_inb (zon (3 * n)) 24 = true := by rw [zon_inb (by omega)]; omega
      have i1 : zm_inb (zon (3 * n + 1)) 24 = true := by rw [zon_inb (by omega)]; omega
      have i2 : zm_inb (zon (3 * n + 2)) 24 = true := by rw [zon_inb (by omega)]; omega
      refine ⟨ik, fun _ => ⟨fun c2 => ⟨i0, i1, i2, fun y => bad (fun z => z.2.2.1 y), fun y1 => ⟨fun y2 => ⟨fun y => bad (fun z => z.2.2.2.2.1 y), fun y3 => ⟨fun y => bad (fun z => z.2.2.2.2.2.1 y), fun y4 => ⟨fun y => bad (fun z => z.2.2.2.2.2.2.1 y), fun y5 => ⟨fun y => bad (fun z => z.2.2.2.2.2.2.2 y), fun y6 => ⟨i0, i1, i2, ?_⟩⟩⟩⟩⟩, fun y => bad (fun z => y z.2.2.2.1)⟩⟩, fun y => bad (fun z => y z.2.1)⟩, fun y => absurd c1 y⟩
      have ok : okD s (nu (3 * n)) (nu (3 * n + 1)) (nu (3 * n + 2)) := ⟨y1, y2, y3, y4, y5, y6⟩
      rw [if_pos ⟨c1, c2, ok⟩] at hQ
      refine X_addDebt hR (by grind) c2 (fun M1 r1 k1 _ => ?_)
      exact ih (n + 1) M1 _ (by omega) r1 (hW.okd c2 ok) (by rw [k1 75 (by omega)]; exact h75) (fun j hj => by rw [k1 (77 + k) (by omega)]; exact h77 j hj) (fun M2 r2 k2 => hQ M2 r2 (fun c hc => by rw [k2 c hc, k1 c hc]))
    · exact ⟨ik, fun y => absurd y c1, fun _ => bad (fun z => c1 z.1)⟩
theorem R_dbL {d S k : Nat} {nu : Nat → Int32} {Q : Int32 → zm_M → Prop} (hk : k < 4) (hS : S ≤ 24) : ∀ (f n : Nat) (M : zm_M) (s : Nat → Int32), n + f = 9 → M.1 83 = s → WF s → M.1 94 k = zon S → (∀ j, j < 24 → M.1 95 (24 * k + j) = nu j) → (∀ M1, M1.1 83 = (dbL nu S f n s).2 → zfr [83] M M1 → Q (zon (dbL nu S f n s).1) M1) → zt (d + 3) 196 24 [some (.ref 82), some (.int (zon k)), none, some (.int (zon n)), some (.int (zon (24 * k)))] [] M (zPi Q) := by
  intro f
  have ik : zm_inb (zon k) 4 = true := by rw [zon_inb (by omega)]; omega
  have e1 : ∀ n, zon n + 1 = zon (n + 1) := fun n => zon_s
  have e2 : ∀ n, zon n + 2 = zon (n + 2) := fun n => zon_add (b := 2)
  have e3 : ∀ n, 3 * zon n = zon (3 * n) := fun n => zon_mul (a := 3)
  induction f with
  | zero =>
    intro n M s hn hs hW h75 h77 hQ
    apply zg_X11_debts_p24
    rw [zon_n (show k < 2000 by omega), h75, e3, e2, zon_lt (by omega) (by omega)]
    exact ⟨ik, fun z => absurd z (by omega), fun _ => hQ M hs zfr_rfl⟩
  | succ f ih =>
    intro n M s hn hs hW h75 h77 hQ
    have b0 := hW.1
    have b1 := hW.2.1
    apply zg_X11_debts_p24
    rw [zon_n (show k < 2000 by omega), h75, hs, e3, e2, zon_lt (by omega) (by omega), zon_add, e1, e2, zon_n (show 24 * k + 3 * n < 2000 by omega), zon_n (show 24 * k + 3 * n + 1 < 2000 by omega), zon_n (show 24 * k + 3 * n + 2 < 2000 by omega), e1]
    rw [dbL] at hQ
    have bad : ¬ (3 * n + 2 < S ∧ s 1 < 10 ∧ okD s (nu (3 * n)) (nu (3 * n + 1)) (nu (3 * n + 2))) → Q (zon n) M := fun hc => by
      rw [if_neg hc] at hQ
      exact hQ M hs zfr_rfl
    by_cases c1 : 3 * n + 2 < S
    · rw [h77 (3 * n) (by omega), show 24 * k + 3 * n + 1 = 24 * k + (3 * n + 1) by omega, show 24 * k + 3 * n + 2 = 24 * k + (3 * n + 2) by omega, h77 (3 * n + 1) (by omega), h77 (3 * n + 2) (by omega)]
      have i0 : zm_inb (zon (24 * k + 3 * n)) 96 = true := by rw [zon_inb (by omega)]; omega
      have i1 : zm_inb (zon (24 * k + (3 * n + 1))) 96 = true := by rw [zon_inb (by omega)]; omega
      have i2 : zm_inb (zon (24 * k + (3 * n + 2))) 96 = true := by rw [zon_inb (by omega)]; omega
      refine ⟨ik, fun _ => ⟨fun c2 => ⟨i0, i1, i2, fun y => bad (fun z => z.2.2.1 y), fun y1 => ⟨fun y => bad (fun z => absurd z.2.2.2.1 (by grind)), fun y2 => ⟨fun y => bad (fun z => z.2.2.2.2.1 y), fun y3 => ⟨fun y => bad (fun z => z.2.2.2.2.2.1 y), fun y4 => ⟨fun y => bad (fun z => z.2.2.2.2.2.2.1 y), fun y5 => ⟨fun y => bad (fun z => z.2.2.2.2.2.2.2 y), fun y6 => ⟨i0, i1, i2, ?_⟩⟩⟩⟩⟩⟩⟩, fun y => bad (fun z => y z.2.1)⟩, fun y => absurd c1 y⟩
      have ok : okD s (nu (3 * n)) (nu (3 * n + 1)) (nu (3 * n + 2)) := ⟨y1, by grind, y3, y4, y5, y6⟩
      rw [if_pos ⟨c1, c2, ok⟩] at hQ
      refine R_addDebt (by rw [hs]; grind) (by rw [hs]; exact c2) ?_
      rw [hs]
      exact ih (n + 1) _ _ (by omega) zI_sr_row (hW.okd c2 ok) (by rw [zI_sr_rne (by decide)]; exact h75) (fun j hj => by rw [zI_sr_rne (by decide)]; exact h77 j hj) (fun M2 r2 k2 => hQ M2 r2 (zfr_trans (zfr_sr (by decide)) k2))
    · exact ⟨ik, fun y => absurd y c1, fun _ => bad (fun z => c1 z.1)⟩
theorem pair_debts {d : Nat} {M : zm_M} {a : Int32} (h : Inv M) : zi (d + 2) 90 [.ref 0, .int a] M (fun v M1 => zi (d + 3) 196 [.ref 82, .int a] M1 (fun w M2 => v = w ∧ Inv M2)) := by
  obtain ⟨hR, hW⟩ := h.1
  have hS := h.2.2.1
  have r93 : ∀ j v, (zm_si M 81 j v).1 93 = M.1 93 := fun j v => zI_si_rne (by decide)
  rcases scase a with (s1 | ⟨s1, s2, s3⟩) | ⟨k, rfl, hk, ⟨s1, s2, s3⟩, ik⟩
  · apply zg_X10_debts_q0
    refine ⟨fun _ => ?_, fun z => absurd s1 z⟩
    apply zg_X11_debts
    exact ⟨fun _ => ⟨rfl, h.err1 (by decide)⟩, fun z => absurd s1 z⟩
  · apply zg_X10_debts_q0
    refine ⟨fun z => absurd z s1, fun _ => ⟨fun z => absurd z s2, fun _ => ?_⟩⟩
    apply zg_X11_debts
    exact ⟨fun z => absurd z s1, fun _ => ⟨fun _ => ⟨rfl, h.err1 (by decide)⟩, fun z => absurd s3 z⟩⟩
  · obtain ⟨t1, t2, t3, t4, t5⟩ := hS k hk
    obtain ⟨S, eS, hS24⟩ := zof2 (x := M.1 94 k) (m := 24) (n := 24) t4.1 t4.2 rfl
    apply zu_debts hk
    rw [zon_n (by omega), t1]
    refine ⟨fun z => absurd z s1, fun _ => ⟨fun _ => ⟨ik, fun b0 => ?_, fun b0 => ⟨ik, zrf_sheet hk, ?_⟩⟩, fun z => absurd s2 z⟩⟩
    · apply zg_X11_debts
      rw [r93, zon_n (by omega)]
      exact ⟨fun z => absurd z s1, fun _ => ⟨fun z => absurd z s3, fun _ => ⟨ik, fun _ => ⟨rfl, h.err1 (by decide)⟩, fun z => absurd b0 z⟩⟩⟩
    · refine X_dbL (nu := fun j => M.1 95 (24 * k + j)) hk hS24 9 0 M (M.1 83) (by omega) hR hW (by rw [t2, eS]) t5 (fun M4 r4 f4 => ?_)
      have e83 : M4.1 83 = M.1 83 := f4 83 (by omega)
      apply zg_X11_debts
      rw [f4 93 (by omega), zon_n (by omega), show 24 * zon k = zon (24 * k) from zon_mul (a := 24)]
      refine ⟨fun z => absurd z s1, fun _ => ⟨fun z => absurd z s3, fun _ => ⟨ik, fun z => absurd z b0, fun _ => ?_⟩⟩⟩
      refine R_dbL (nu := fun j => M.1 95 (24 * k + j)) hk hS24 9 0 M4 (M.1 83) (by omega) e83 hW (by rw [f4 94 (by omega), eS]) (fun j hj => by rw [f4 95 (by omega)]) (fun M1 e1 f1 => ⟨rfl, ?_⟩)
      refine h.town (s2 := (dbL (fun j => M.1 95 (24 * k + j)) S 9 0 (M.1 83)).2) (r4.congr (fun c g1 g2 => f1.1 c (by simp only [List.mem_cons, List.not_mem_nil, or_false]; omega))) (dbL_ok 9 0 _ hW) e1 (fun c hc => ?_) ?_ ?_
      · rw [f1.1 c (by simp only [List.mem_cons, List.not_mem_nil, or_false]; omega), f4 c (by omega)]
      · rw [f1.1 82 (by decide), f4 82 (by omega)]
      · rw [f1.1 82 (by decide), f4 82 (by omega)]

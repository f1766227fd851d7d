/-! Pairs: judge, sheet. -/
theorem zrf_sheet {k : Nat} (hk : k < 4) : zm_rf 76 k = some (77 + k) := by
  rcases (show k = 0 ∨ k = 1 ∨ k = 2 ∨ k = 3 by omega) with rfl | rfl | rfl | rfl <;> rfl
theorem zS {k p : Nat} : (24 * zon k) + zon p = zon (24 * k + p) := by
  show (zon 24 * zon k) + zon p = _
  rw [zon_mul, zon_add]
/-- a sheet's number -/
theorem scase (a : Int32) : (a < 0 ∨ (¬ a < 0 ∧ ¬ a < 4 ∧ 3 < a)) ∨ ∃ k, a = zon k ∧ k < 4 ∧ (¬ a < 0 ∧ a < 4 ∧ ¬ 3 < a) ∧ zm_inb a 4 = true := by
  by_cases c1 : a < 0
  · exact Or.inl (Or.inl c1)
  · by_cases c2 : a < 4
    · obtain ⟨k, rfl, hk⟩ := zof c1 c2 (n := 4) rfl
      exact Or.inr ⟨k, rfl, hk, ⟨c1, c2, by grind⟩, by rw [zon_inb (by omega)]; omega⟩
    · exact Or.inl (Or.inr ⟨c1, c2, by grind⟩)
def jdL (nu pu : Nat → Int32) (S : Nat) : Nat → Nat → Nat
  | 0, p => p
  | n + 1, p => if p < S ∧ nu p = pu p then jdL nu pu S n (p + 1) else p
theorem X_jdL {d N S k : Nat} {nu pu : Nat → Int32} {Q : Int32 → zm_M → Prop} {M : zm_M} (hk : k < 4) (hN : N ≤ 12) (hS : S ≤ 24) (h2 : M.1 2 0 = zon N) (h75 : M.1 75 k = zon S) (hn : ∀ j, j < 24 → M.1 (77 + k) j = nu j) (hp : ∀ p, p < 12 → M.1 63 p = pu p) : ∀ (n p : Nat), p + n = N → Q (zon (jdL nu pu S n p)) M → zt d 91 85 [some (.ref 0), some (.int (zon k)), none, some (.int (zon p))] [] M (zPi Q) := by
  intro n
  have ik : zm_inb (zon k) 4 = true := by rw [zon_inb (by omega)]; omega
  induction n with
  | zero =>
    intro p hi hQ
    apply zu_judge_p85 hk
    rw [h2, zon_lt (by omega) (by omega)]
    exact ⟨fun z => absurd z (by omega), fun _ => hQ⟩
  | succ n ih =>
    intro p hi hQ
    apply zu_judge_p85 hk
    rw [zon_n (show k < 2000 by omega), h2, h75, zon_lt (by omega) (by omega), zon_lt (by omega) (by omega), zon_n (show p < 2000 by omega), hp p (by omega), zon_s]
    rw [jdL] at hQ
    refine ⟨fun _ => ⟨ik, fun y => ⟨ik, zrf_sheet hk, by rw [zon_inb (by omega)]; omega, by rw [zon_inb (by omega)]; omega, ?_⟩, fun y => ?_⟩, fun z => absurd (by omega) z⟩
    · rw [hn p (by omega)]
      refine ⟨fun x => ?_, fun x => ?_⟩
      · rw [if_pos ⟨y, x⟩] at hQ
        exact ih (p + 1) (by omega) hQ
      · rw [if_neg (fun u => x u.2)] at hQ
        exact hQ
    · rw [if_neg (fun u => y u.1)] at hQ
      exact hQ
theorem R_jdL {d N S k : Nat} {nu pu : Nat → Int32} {Q : Int32 → zm_M → Prop} {M : zm_M} (hk : k < 4) (hN : N ≤ 12) (hS : S ≤ 24) (h2 : M.1 83 0 = zon N) (h75 : M.1 94 k = zon S) (hn : ∀ j, j < 24 → M.1 95 (24 * k + j) = nu j) (hp : ∀ p, p < 12 → M.1 83 (15 + 8 * p) = pu p) : ∀ (n p : Nat), p + n = N → zv d 115 [.ref 85, .ref 83] M (fun M7 => Q (zon (jdL nu pu S n p)) M7) → zt (d + 1) 197 73 [some (.ref 82), some (.int (zon k)), none, some (.int (zon p))] [] M (zPi Q) := by
  intro n
  have ik : zm_inb (zon k) 4 = true := by rw [zon_inb (by omega)]; omega
  induction n with
  | zero =>
    intro p hi hQ
    apply zg_X11_judge_p73
    rw [h2, zon_lt (by omega) (by omega)]
    exact ⟨fun z => absurd z (by omega), fun _ => hQ⟩
  | succ n ih =>
    intro p hi hQ
    apply zg_X11_judge_p73
    rw [zon_n (show k < 2000 by omega), h2, h75, zon_lt (by omega) (by omega), zon_lt (by omega) (by omega), zS, zP5, zon_n (show 24 * k + p < 2000 by omega), zon_n (show 15 + 8 * p < 2000 by omega), hp p (by omega), zon_s]
    rw [jdL] at hQ
    refine ⟨fun _ => ⟨ik, fun y => ⟨by rw [zon_inb (by omega)]; omega, by rw [zon_inb (by omega)]; omega, ?_⟩, fun y => ?_⟩, fun z => absurd (by omega) z⟩
    · rw [hn p (by omega)]
      refine ⟨fun x => ?_, fun x => ?_⟩
      · rw [if_pos ⟨y, x⟩] at hQ
        exact ih (p + 1) (by omega) hQ
      · rw [if_neg (fun u => x u.2)] at hQ
        exact hQ
    · rw [if_neg (fun u => y u.1)] at hQ
      exact hQ
theorem pair_judge {d : Nat} {M : zm_M} {a b : Int32} (h : Inv M) : zi (d + 26) 91 [.ref 0, .int a, .int b] M (fun v M1 => zi (d + 28) 197 [.ref 82, .int a, .int b] M1 (fun w M2 => v = w ∧ Inv M2)) := by
  have hR := h.1.1
  have hS := h.2.2.1
  have e12 : M.1 12 0 = M.1 83 1 := hR.1 1 12 0 rfl
  have r83 : ∀ j v, (zm_si M 81 j v).1 83 = M.1 83 := fun j v => zI_si_rne (by decide)
  have r93 : ∀ j v, (zm_si M 81 j v).1 93 = M.1 93 := fun j v => zI_si_rne (by decide)
  have er : ∀ k, k < 7 → Inv (zm_si (zm_si M 81 k (M.1 81 k + 1)) 86 k ((zm_si M 81 k (M.1 81 k + 1)).1 86 k + 1)) := fun k hk => h.err1 hk
  apply zg_X10_judge (d := d + 25)
  rw [e12]
  rcases scase a with (s1 | ⟨s1, s2, s3⟩) | ⟨k, rfl, hk, ⟨s1, s2, s3⟩, ik⟩
  · refine ⟨fun _ => ?_, fun z => absurd s1 z⟩
    apply zg_X11_judge (d := d + 26)
    exact ⟨fun _ => ⟨rfl, er 1 (by decide)⟩, fun z => absurd s1 z⟩
  · refine ⟨fun z => absurd z s1, fun _ => ⟨fun z => absurd z s2, fun _ => ?_⟩⟩
    apply zg_X11_judge (d := d + 26)
    exact ⟨fun z => absurd z s1, fun _ => ⟨fun _ => ⟨rfl, er 1 (by decide)⟩, fun z => absurd s3 z⟩⟩
  · obtain ⟨t1, t2, t3, t4, t5⟩ := hS k hk
    rcases h.dcase b with (c1 | ⟨c1, c2, c3⟩) | ⟨N, D, dd, who, rfl, hdd, ⟨c1, c2, c3⟩, hin, hE, hD, hb, h3, hw, ew, hs, e17, ho⟩
    · refine ⟨fun z => absurd z s1, fun _ => ⟨fun _ => ⟨fun _ => ?_, fun z => absurd c1 z⟩, fun z => absurd s2 z⟩⟩
      apply zg_X11_judge (d := d + 26)
      exact ⟨fun z => absurd z s1, fun _ => ⟨fun z => absurd z s3, fun _ => ⟨fun _ => ⟨rfl, er 1 (by decide)⟩, fun z => absurd c1 z⟩⟩⟩
    · refine ⟨fun z => absurd z s1, fun _ => ⟨fun _ => ⟨fun z => absurd z c1, fun _ => ⟨fun z => absurd z c2, fun _ => ?_⟩⟩, fun z => absurd s2 z⟩⟩
      apply zg_X11_judge (d := d + 26)
      rw [r83]
      exact ⟨fun z => absurd z s1, fun _ => ⟨fun z => absurd z s3, fun _ => ⟨fun z => absurd z c1, fun _ => ⟨fun _ => ⟨rfl, er 1 (by decide)⟩, fun z => absurd c3 z⟩⟩⟩⟩
    · have i9 : zm_inb (zon (109 + 4 * dd)) 480 = true := by rw [zon_inb (by omega)]; omega
      refine ⟨fun z => absurd z s1, fun _ => ⟨fun _ => ⟨fun z => absurd z c1, fun _ => ⟨fun _ => ⟨ik, ?_⟩, fun z => absurd c2 z⟩⟩, fun z => absurd s2 z⟩⟩
      rw [zon_n (show k < 2000 by omega), zon_n (show dd < 2000 by omega), t1, e17]
      refine ⟨fun b0 => ?_, fun b0 => ⟨hin, fun o1 => ?_, fun o1 => ?_⟩⟩
      · apply zg_X11_judge (d := d + 26)
        rw [r83, r93, zon_n (show k < 2000 by omega)]
        exact ⟨fun z => absurd z s1, fun _ => ⟨fun z => absurd z s3, fun _ => ⟨fun z => absurd z c1, fun _ => ⟨fun z => absurd z c3, fun _ => ⟨ik, fun _ => ⟨rfl, er 2 (by decide)⟩, fun z => absurd b0 z⟩⟩⟩⟩⟩
      · have hN := hE.1.1
        obtain ⟨S, eS, hS24⟩ := zof2 (x := M.1 94 k) (m := 24) (n := 24) t4.1 t4.2 rfl
        refine X_try (A := d) hR hE hw hdd ew rfl hb hs (fun M4 d4 f4 => ?_)
        refine X_jdL (N := N) (S := S) (nu := fun j => M.1 95 (24 * k + j)) (pu := (tDef (M.1 83) N (tIni (M.1 83)) who (M.1 83 (107 + 4 * dd))).1) hk hN hS24 ?_ ?_ (fun j hj => ?_) (fun p hp => (d4.1 p hp).1) N 0 (by omega) ?_
        · rw [f4.1 2 (by decide)]
          exact (hR.1 0 2 0 rfl).trans hE.1.2
        · rw [f4.1 75 (by decide), t2, eS]
        · rw [f4.1 (77 + k) (by simp only [List.mem_cons, List.not_mem_nil, or_false]; omega)]
          exact t5 j hj
        · have e83 : M4.1 83 = M.1 83 := f4.1 83 (by decide)
          apply zg_X11_judge (d := d + 26)
          rw [zD3, zon_n (show 109 + 4 * dd < 2000 by omega), zon_n (show k < 2000 by omega), e83, f4.1 93 (by decide)]
          refine ⟨fun z => absurd z s1, fun _ => ⟨fun z => absurd z s3, fun _ => ⟨fun z => absurd z c1, fun _ => ⟨fun z => absurd z c3, fun _ => ⟨ik, fun z => absurd z b0, fun _ => ⟨i9, fun z => absurd (z.symm.trans o1) (by decide), fun _ => ?_⟩⟩⟩⟩⟩⟩
          refine R_tryBeg e83 h3 (fun M5 r5 p5 h85 _ f5 g5 => ?_)
          refine R_default (A := d) hE h3 hw hdd ew rfl r5 hb hs (b32j hs) (fun M7 r7 f7 _ => ?_)
          have f95 : ∀ c, c = 94 ∨ c = 95 → M7.1 c = M.1 c := fun c hc => by
            rw [f7.1.1 c (by simp only [List.mem_cons, List.not_mem_nil, or_false]; omega), f5.1 c (by simp only [List.mem_cons, List.not_mem_nil, or_false]; omega), f4.1 c (by simp only [List.mem_cons, List.not_mem_nil, or_false]; omega)]
          refine R_jdL (N := N) (S := S) (nu := fun j => M.1 95 (24 * k + j)) (pu := (tDef (M.1 83) N (tIni (M.1 83)) who (M.1 83 (107 + 4 * dd))).1) hk hN hS24 ?_ ?_ (fun j hj => ?_) (fun p hp => (r7.2.1 p hp).1) N 0 (by omega) ?_
          · exact (r7.1 0 (by omega) (by omega)).trans hE.1.2
          · rw [f95 94 (by omega), eS]
          · rw [f95 95 (by omega)]
          · refine R_tryEnd e83 (fun j hj => ?_) (zfr_trans (zfr_sub f5 (by decide)) (zfr_sub f7.1 (by decide))) (fun j hj => ?_) r7 p5 (fun M1 f1 => ⟨rfl, h.tryEnd f4 f1⟩)
            · rw [f7.1.1 85 (by decide)]
              exact h85 j hj
            · rw [f7.2 j hj, g5 j hj]
      · have o0 : M.1 83 (109 + 4 * dd) = 0 := by rcases ho with z | z; exact z; exact absurd z o1
        apply zg_X11_judge (d := d + 26)
        rw [zD3, zon_n (show 109 + 4 * dd < 2000 by omega), r83, r93, zon_n (show k < 2000 by omega)]
        exact ⟨fun z => absurd z s1, fun _ => ⟨fun z => absurd z s3, fun _ => ⟨fun z => absurd z c1, fun _ => ⟨fun z => absurd z c3, fun _ => ⟨ik, fun z => absurd z b0, fun _ => ⟨i9, fun _ => ⟨rfl, er 3 (by decide)⟩, fun z => absurd o0 z⟩⟩⟩⟩⟩⟩

/-! What stands behind both constructors. -/
def zk_six (k j : Nat) : Bool := (Nat.beq k 1 && Nat.beq j 8) || ((Nat.beq k 29 && Nat.beq j 0) || ((Nat.beq k 30 && Nat.beq j 8) || ((Nat.beq k 58 && Nat.beq j 0) || (Nat.beq k 83 && (Nat.beq j 6 || Nat.beq j 7)))))
def zk_vals (w : zk_w) : Bool := w.2.2.2.1.all (fun q => decide (q.2.2 = 0) || zk_six q.1 q.2.1) && (decide (zk_iv w.2.2.2.1 1 8 = 1) && (decide (zk_iv w.2.2.2.1 29 0 = 9) && (decide (zk_iv w.2.2.2.1 83 6 = 1) && decide (zk_iv w.2.2.2.1 83 7 = 9))))
theorem zk_runA : (match zk_call 4 10 [.ref 0] (zk_new zk_w0 1 9) with
  | some w1 => Nat.beq w1.1 82 && (zk_lo w1 && (match zk_call 4 11 [.ref 82] (zk_new w1 1 23) with
    | some w2 => zk_good w2 && zk_vals w2
    | none => false))
  | none => false) = true := by decide +kernel
theorem zk_run_ex : ∃ w1 w2, zk_call 4 10 [.ref 0] (zk_new zk_w0 1 9) = some w1 ∧ w1.1 = 82 ∧ zk_lo w1 = true ∧ zk_call 4 11 [.ref 82] (zk_new w1 1 23) = some w2 ∧ zk_good w2 = true ∧ zk_vals w2 = true := by
  have h := zk_runA
  split at h
  · rename_i w1 h1
    simp only [Bool.and_eq_true] at h
    obtain ⟨h2, h3, h4⟩ := h
    split at h4
    · rename_i w2 h5
      simp only [Bool.and_eq_true] at h4
      exact ⟨w1, w2, h1, Nat.eq_of_beq_eq_true h2, h3, h5, h4.1, h4.2⟩
    · cases h4
  · cases h
def zk_M (w : zk_w) (S : Nat × (Nat → Int32)) : zm_M := (zk_iv w.2.2.2.1, zk_lv w.2.2.2.2, 110, S)
theorem zk_iv_no {k j : Nat} : ∀ (L : List (Nat × Nat × Int32)), (∀ q ∈ L, (decide (q.2.2 = 0) || zk_six q.1 q.2.1) = true) → zk_six k j = false → zk_iv L k j = 0 := by
  intro L
  induction L with
  | nil => intro _ _; rfl
  | cons q r ih =>
    intro h h6
    unfold zk_iv
    split
    · rename_i e
      have h1 := h q List.mem_cons_self
      rw [e.1, e.2, h6, Bool.or_false] at h1
      exact of_decide_eq_true h1
    · exact ih (fun q hq => h q (List.mem_cons_of_mem _ hq)) h6
theorem zk_nfA : ∀ k, k < 97 → zm_kd k < 12 → zm_nf (zm_kd k) ≤ 30 := by decide +kernel
theorem zk_goodW {ad : Nat → Nat} {cI cJ : ClassId} {w : zk_w} {S : Nat × (Nat → Int32)} (h : zk_good w = true) : w.1 = 97 ∧ w.2.1 ≤ 6000 ∧ zk_W ad cI cJ w = zm_W ad cI cJ (zk_M w S) := by
  unfold zk_good at h
  simp only [Bool.and_eq_true, decide_eq_true_eq] at h
  obtain ⟨h1, h2, h3⟩ := h
  refine ⟨h1, Nat.le_of_ble_eq_true h2, ?_⟩
  unfold zk_W zm_W
  rw [h1]
  apply List.map_congr_left
  intro k hk
  have hk : k < 97 := List.mem_range.mp hk
  congr 1
  unfold zk_C zm_C
  by_cases h20 : zm_kd k = 20
  · rw [if_pos h20, if_pos h20]
    rfl
  · rw [if_neg h20, if_neg h20]
    by_cases h21 : zm_kd k = 21
    · rw [if_pos h21, if_pos h21]
    · rw [if_neg h21, if_neg h21]
      congr 2
      have h12 : zm_kd k < 12 := by
        rcases zk_lt_all k hk with z | z | z
        · exact z
        · exact absurd z h20
        · exact absurd z h21
      apply List.map_congr_left
      intro j hj
      have hj : j < 30 := Nat.lt_of_lt_of_le (List.mem_range.mp hj) (zk_nfA k hk h12)
      have g := List.all_eq_true.mp (List.all_eq_true.mp h3 k (List.mem_range.mpr hk)) j (List.mem_range.mpr hj)
      simp only [Bool.and_eq_true] at g
      obtain ⟨g1, g2⟩ := g
      have hb : Nat.ble 20 (zm_kd k) = false := by
        cases hq : Nat.ble 20 (zm_kd k) with
        | true => exact absurd (Nat.le_of_ble_eq_true hq) (by omega)
        | false => rfl
      rw [hb, Bool.false_or] at g1
      unfold zk_cv zm_cv
      generalize zm_ft (zm_kd k) j = f at g2 ⊢
      split
      · rfl
      · cases hr : zm_rf k j with
        | none => split <;> rfl
        | some q =>
          rw [hr] at g1
          have g3 : zk_has w.2.2.1 k j = true := g1
          rw [if_pos g3]
          rfl
      · have g3 : zk_has w.2.2.1 k j = true := g2
        rw [if_pos g3]
        rfl
      · split <;> first | rfl | contradiction
theorem zk_six_zmap {k c j : Nat} (h : zmap k = some (c, j)) (h6 : k ≠ 6) (h7 : k ≠ 7) : zk_six c j = false := by
  obtain ⟨e, h1, h29⟩ := zmap_inv h
  cases hs : zk_six c j with
  | false => rfl
  | true =>
    exfalso
    unfold zk_six at hs
    simp only [Bool.or_eq_true, Bool.and_eq_true] at hs
    rcases hs with ⟨a, b⟩ | ⟨a, b⟩ | ⟨a, b⟩ | ⟨a, b⟩ | ⟨a, b⟩
    · cases Nat.eq_of_beq_eq_true a
      cases Nat.eq_of_beq_eq_true b
      exact h6 e.symm
    · cases Nat.eq_of_beq_eq_true a
      cases Nat.eq_of_beq_eq_true b
      exact h7 e.symm
    · have := Nat.eq_of_beq_eq_true a
      omega
    · have := Nat.eq_of_beq_eq_true a
      omega
    · have := Nat.eq_of_beq_eq_true a
      omega
theorem zk_six83 {k : Nat} (h6 : k ≠ 6) (h7 : k ≠ 7) : zk_six 83 k = false := by
  cases hs : zk_six 83 k with
  | false => rfl
  | true =>
    exfalso
    unfold zk_six at hs
    simp only [Bool.or_eq_true, Bool.and_eq_true] at hs
    rcases hs with ⟨a, b⟩ | ⟨a, b⟩ | ⟨a, b⟩ | ⟨a, b⟩ | ⟨a, b | b⟩
    · cases a
    · cases a
    · cases a
    · cases a
    · exact h6 (Nat.eq_of_beq_eq_true b)
    · exact h7 (Nat.eq_of_beq_eq_true b)
theorem zk_six_row {k j : Nat} (h : k ≠ 1 ∧ k ≠ 29 ∧ k ≠ 30 ∧ k ≠ 58 ∧ k ≠ 83) : zk_six k j = false := by
  cases hs : zk_six k j with
  | false => rfl
  | true =>
    exfalso
    unfold zk_six at hs
    simp only [Bool.or_eq_true, Bool.and_eq_true] at hs
    rcases hs with ⟨a, b⟩ | ⟨a, b⟩ | ⟨a, b⟩ | ⟨a, b⟩ | ⟨a, b⟩ <;> have := Nat.eq_of_beq_eq_true a <;> omega
theorem zk_Inv {w : zk_w} {S : Nat × (Nat → Int32)} (h : zk_vals w = true) : Inv (zk_M w S) := by
  unfold zk_vals at h
  simp only [Bool.and_eq_true, decide_eq_true_eq, List.all_eq_true] at h
  obtain ⟨h0, v1, v2, v3, v4⟩ := h
  have z : ∀ {k j : Nat}, zk_six k j = false → (zk_M w S).1 k j = 0 := fun hs => zk_iv_no _ h0 hs
  have z83 : ∀ k, k ≠ 6 → k ≠ 7 → (zk_M w S).1 83 k = 0 := fun k h6 h7 => z (zk_six83 h6 h7)
  have zr : ∀ k j, (k ≠ 1 ∧ k ≠ 29 ∧ k ≠ 30 ∧ k ≠ 58 ∧ k ≠ 83) → (zk_M w S).1 k j = 0 := fun k j hk => z (zk_six_row hk)
  have e7 : (zk_M w S).1 83 7 = 9 := v4
  refine ⟨⟨⟨fun k c j hk => ?_, ?_, ?_⟩, ?_⟩, ?_, ?_, ?_, ?_⟩
  · by_cases h6 : k = 6
    · subst h6
      cases (show some (1, 8) = some (c, j) from hk)
      exact v1.trans v3.symm
    · by_cases h7 : k = 7
      · subst h7
        cases (show some (29, 0) = some (c, j) from hk)
        exact v2.trans v4.symm
      · exact (z (zk_six_zmap hk h6 h7)).trans (z83 k h6 h7).symm
  · exact Or.inl ⟨zr 21 0 (by omega), z83 146 (by omega) (by omega)⟩
  · exact Or.inl ⟨zr 25 0 (by omega), z83 271 (by omega) (by omega)⟩
  · unfold WF
    rw [z83 0 (by omega) (by omega), z83 1 (by omega) (by omega), z83 2 (by omega) (by omega), z83 3 (by omega) (by omega), z83 4 (by omega) (by omega), z83 5 (by omega) (by omega), z83 8 (by omega) (by omega), z83 9 (by omega) (by omega), e7]
    refine ⟨by decide, by decide, by decide, by decide, by decide, by decide, by decide, fun p hp => ?_, fun p hp => ?_, fun p hp => ?_⟩
    · exact absurd hp (by show ¬ (p : Int) < 0; omega)
    · exact absurd hp (by show ¬ (p : Int) < 0; omega)
    · exact absurd hp (by show ¬ (p : Int) < 0; omega)
  · exact ⟨(zr 0 8 (by omega)).trans (zr 82 3 (by omega)).symm, fun q => absurd (zr 82 3 (by omega)) q⟩
  · intro k hk
    refine ⟨(zr 74 k (by omega)).trans (zr 93 k (by omega)).symm, (zr 75 k (by omega)).trans (zr 94 k (by omega)).symm, Or.inl (zr 93 k (by omega)), ?_, fun j hj => (zr (77 + k) j (by omega)).trans (zr 95 _ (by omega)).symm⟩
    rw [zr 94 k (by omega)]
    exact ⟨by decide, by decide⟩
  · intro k hk
    exact (zr 81 k (by omega)).trans (zr 86 k (by omega)).symm
  · refine ⟨(zr 71 1 (by omega)).trans (zr 82 16 (by omega)).symm, ?_, fun j hj => (zr 72 j (by omega)).trans (zr 92 j (by omega)).symm⟩
    rw [zr 82 16 (by omega)]
    exact ⟨by decide, by decide⟩

/-! A run leaves the script as it was. -/
theorem zm_pv_keep {M M2 : zm_M} {k ci sl : Nat} {v : Value} (h : zm_pv M k ci sl v = some M2) : M2.2.2.2 = M.2.2.2 := by
  unfold zm_pv at h
  split at h
  · cases h
    rfl
  · split at h
    · cases h
      rfl
    · cases h
  · cases h
    rfl
  · split at h
    · cases h
      rfl
    · cases h
  · cases h
theorem zm_pf_keep {M M2 : zm_M} {y idx k : Nat} {v : Value} (h : zm_pf y idx k v M = some M2) : M2.2.2.2 = M.2.2.2 := by
  unfold zm_pf at h
  split at h
  · split at h
    · exact zm_pv_keep h
    · cases h
  · cases h
theorem zm_sm_keep {M M2 : zm_M} {d y : Nat} {i : Instr} {st st2 : List Value} (h : zm_sm d y i st M = some (st2, M2)) : M2.2.2.2 = M.2.2.2 := by
  unfold zm_sm at h
  split at h
  · split at h
    · split at h
      · rename_i h2
        cases h
        exact zm_pf_keep h2
      · cases h
    · cases h
  · split at h
    · split at h
      · split at h
        · cases h
          rfl
        · cases h
      · cases h
    · cases h
  · split at h
    · cases h
    · split at h
      · split at h
        · cases h
          rfl
        · cases h
      · split at h
        · cases h
          rfl
        · cases h
      · split at h
        · cases h
          rfl
        · cases h
      · cases h
  · cases h
theorem zm_run_keep : ∀ (n d y pc : Nat) (ls : zm_L) (st : List Value) (M : zm_M) (v : Option Value) (M2 : zm_M), zm_run n d y pc ls st M = some (v, M2) → M2.2.2.2 = M.2.2.2 := by
  intro n
  induction n with
  | zero => intro d y pc ls st M v M2 h; cases h
  | succ n ih =>
    intro d y pc ls st M v M2 h
    unfold zm_run at h
    cases h1 : zm_at y pc with
    | none => rw [h1] at h; cases h
    | some qi =>
      obtain ⟨i, len⟩ := qi
      rw [h1] at h
      dsimp only at h
      cases h2 : zm_ret y i st with
      | some v => rw [h2] at h; cases h; rfl
      | none =>
        rw [h2] at h
        dsimp only at h
        cases h3 : zm_ss1 y i ls st M with
        | some st1 => rw [h3] at h; exact ih _ _ _ _ _ _ _ _ h
        | none =>
          rw [h3] at h
          dsimp only at h
          cases h4 : zm_sst i ls st with
          | some q4 => obtain ⟨ls1, st1⟩ := q4; rw [h4] at h; exact ih _ _ _ _ _ _ _ _ h
          | none =>
            rw [h4] at h
            dsimp only at h
            cases h5 : zm_sj pc i st with
            | some q5 => obtain ⟨pc1, st1⟩ := q5; rw [h5] at h; exact ih _ _ _ _ _ _ _ _ h
            | none =>
              rw [h5] at h
              dsimp only at h
              cases h6 : zm_sm d y i st M with
              | some q6 =>
                obtain ⟨st1, M1⟩ := q6
                rw [h6] at h
                exact (ih _ _ _ _ _ _ _ _ h).trans (zm_sm_keep h6)
              | none =>
                rw [h6] at h
                dsimp only at h
                cases d with
                | zero => cases h
                | succ d1 =>
                  cases h7 : zm_cal y i st with
                  | none => rw [h7] at h; cases h
                  | some q7 =>
                    obtain ⟨y1, as1, r1⟩ := q7
                    rw [h7] at h
                    dsimp only at h
                    split at h
                    · cases h8 : zm_run n d1 y1 0 (zm_ent as1 (zm_mx y1)) [] M with
                      | none => rw [h8] at h; cases h
                      | some q8 =>
                        obtain ⟨v8, M8⟩ := q8
                        rw [h8] at h
                        exact (ih _ _ _ _ _ _ _ _ h).trans (ih _ _ _ _ _ _ _ _ h8)
                    · cases h
theorem zi.keep {d y : Nat} {as : List Value} {M : zm_M} {Q : Int32 → zm_M → Prop} (h : zi d y as M Q) : zi d y as M (fun x M2 => Q x M2 ∧ M2.2.2.2 = M.2.2.2) := by
  obtain ⟨n, v, M2, h1, h2⟩ := h
  refine ⟨n, v, M2, h1, ?_⟩
  have k := zm_run_keep _ _ _ _ _ _ _ _ _ h1
  cases v with
  | none => exact h2
  | some v =>
    cases v <;> first | exact ⟨h2, k⟩ | exact h2
/-- a pair of calls, as the law's loop takes it -/
theorem zpair {d yX yR : Nat} {as1 as2 : List Value} {M : zm_M} {Q : Int32 → zm_M → Prop} (h : zi d yX as1 M (fun v M1 => zi d yR as2 M1 (fun w M2 => v = w ∧ Inv M2))) (hQ : ∀ (v : Int32) (M1 : zm_M), M1.2.2.2 = M.2.2.2 → zi d yR as2 M1 (fun w M2 => v = w ∧ Inv M2 ∧ M2.2.2.2 = M.2.2.2) → Q v M1) : zi d yX as1 M Q :=
  h.keep.mono (fun v M1 g => hQ v M1 g.2 (g.1.keep.mono (fun w M2 z => ⟨z.1.1, z.1.2, z.2.trans g.2⟩)))

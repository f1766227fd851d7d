/-! Locals that nobody reads may be forgotten. -/
def zle (ls ls' : zm_L) : Prop := ls.length = ls'.length ∧ ∀ (i : Nat) (v : Value), ls[i]? = some (some v) → ls'[i]? = some (some v)
theorem zle_get {ls ls' : zm_L} (h : zle ls ls') {i : Nat} {v : Value} (hv : zm_get ls i = some v) : zm_get ls' i = some v := by
  have h1 := h.2 i v (zm_gd hv)
  exact zm_gdl h1
theorem zle_set {ls ls' : zm_L} (h : zle ls ls') {i : Nat} {o : Option Value} : zle (ls.set i o) (ls'.set i o) := by
  refine ⟨by rw [List.length_set, List.length_set, h.1], fun j v hj => ?_⟩
  by_cases e : j = i
  · subst e
    by_cases hl : j < ls.length
    · rw [List.getElem?_set_self hl] at hj
      rw [List.getElem?_set_self (by rw [← h.1]; exact hl), hj]
    · rw [List.getElem?_eq_none (by rw [List.length_set]; omega)] at hj
      cases hj
  · rw [List.getElem?_set_ne (Ne.symm e)] at hj ⊢
    exact h.2 j v hj
theorem zle_set_none {ls : zm_L} {i : Nat} : zle (ls.set i none) ls := by
  refine ⟨by rw [List.length_set], fun j v hj => ?_⟩
  by_cases e : j = i
  · subst e
    by_cases hl : j < ls.length
    · rw [List.getElem?_set_self hl] at hj
      cases hj
    · rw [List.getElem?_eq_none (by rw [List.length_set]; omega)] at hj
      cases hj
  · rw [List.getElem?_set_ne (Ne.symm e)] at hj
    exact hj
theorem zle_rfl {ls : zm_L} : zle ls ls := ⟨rfl, fun _ _ h => h⟩
theorem zle_trans {a b c : zm_L} (h1 : zle a b) (h2 : zle b c) : zle a c := ⟨h1.1.trans h2.1, fun i v h => h2.2 i v (h1.2 i v h)⟩
theorem zle_kill {ls ls' : zm_L} (h : zle ls ls') {i : Nat} : zle (zm_kill ls i) (zm_kill ls' i) := by
  unfold zm_kill
  cases i with
  | zero => exact h
  | succ j =>
    dsimp only
    cases h1 : ls.getD j none with
    | none =>
      dsimp only
      cases h2 : ls'.getD j none with
      | none => exact h
      | some w =>
        dsimp only
        cases Nat.beq w.category 2 with
        | false => exact h
        | true =>
          refine ⟨by rw [cond_true, List.length_set, h.1], fun k v hk => ?_⟩
          rw [cond_true]
          by_cases e : k = j
          · subst e
            rw [zm_gdl hk] at h1
            cases h1
          · rw [List.getElem?_set_ne (Ne.symm e)]
            exact h.2 k v hk
    | some w =>
      have h2 : ls'.getD j none = some w := zle_get h h1
      rw [h2]
      dsimp only
      cases Nat.beq w.category 2 with
      | false => exact h
      | true => exact zle_set h
theorem zle_set1 {ls ls' : zm_L} (h : zle ls ls') {i : Nat} {v : Value} : zle (zm_set1 ls i v) (zm_set1 ls' i v) := zle_set (zle_kill h)
theorem zle_set2 {ls ls' : zm_L} (h : zle ls ls') {i : Nat} {v : Value} : zle (zm_set2 ls i v) (zm_set2 ls' i v) := zle_set (zle_set (zle_kill h))
theorem zle_ss1 {ls ls' : zm_L} (h : zle ls ls') {y : Nat} {i : Instr} {st st' : List Value} {M : zm_M} (hs : zm_ss1 y i ls st M = some st') : zm_ss1 y i ls' st M = some st' := by
  cases i <;> first | exact hs | (unfold zm_ss1 at hs ⊢; dsimp only at hs ⊢; split at hs <;> first | (rename_i hg9; rw [zle_get h hg9]; exact hs) | (cases hs; done))
theorem zle_ss1n {ls : zm_L} (ls' : zm_L) {d y pc : Nat} {i : Instr} {st : List Value} {M : zm_M} (hs : zm_ss1 y i ls st M = none) : zm_ss1 y i ls' st M = none ∨ (zm_sst i ls st = none ∧ zm_sj pc i st = none ∧ zm_sm d y i st M = none ∧ zm_cal y i st = none) := by
  cases i <;> first | exact Or.inl hs | exact Or.inr ⟨rfl, rfl, rfl, rfl⟩
theorem zle_sst {ls ls' ls1 : zm_L} (h : zle ls ls') {i : Instr} {st st' : List Value} (hs : zm_sst i ls st = some (ls1, st')) : ∃ ls2, zm_sst i ls' st = some (ls2, st') ∧ zle ls1 ls2 := by
  cases i <;> first | (exact absurd (show (none : Option (zm_L × List Value)) = some (ls1, st') from hs) (fun z => by cases z)) | skip
  case iinc k n =>
    unfold zm_sst at hs ⊢
    dsimp only at hs ⊢
    split at hs
    · rename_i hg9
      rw [zle_get h hg9]
      have hz9 := Prod.mk.inj (Option.some.inj hs)
      rw [← hz9.1, ← hz9.2]
      exact ⟨_, rfl, zle_set1 h⟩
    · cases hs
  all_goals
    unfold zm_sst at hs ⊢
    dsimp only at hs ⊢
    split at hs
    · split at hs
      · rename_i hi9
        have hz9 := Prod.mk.inj (Option.some.inj hs)
        rw [← hz9.1, ← hz9.2]
        rw [h.1] at hi9
        rw [if_pos hi9]
        first | exact ⟨_, rfl, zle_set1 h⟩ | exact ⟨_, rfl, zle_set2 h⟩
      · cases hs
    · cases hs
theorem zle_sstn {ls ls' : zm_L} (h : zle ls ls') {d y pc : Nat} {i : Instr} {st : List Value} {M : zm_M} (hs : zm_sst i ls st = none) : zm_sst i ls' st = none ∨ (zm_sj pc i st = none ∧ zm_sm d y i st M = none ∧ zm_cal y i st = none) := by
  cases i <;> first | exact Or.inl hs | exact Or.inr ⟨rfl, rfl, rfl⟩
theorem zm_run_le : ∀ (n d y pc : Nat) (ls : zm_L) (st : List Value) (M : zm_M) (q : Option Value × zm_M), zm_run n d y pc ls st M = some q → ∀ ls', zle ls ls' → zm_run n d y pc ls' st M = some q := by
  intro n
  induction n with
  | zero => intro d y pc ls st M q h; cases h
  | succ n ih =>
    intro d y pc ls st M q h ls' hle
    unfold zm_run at h ⊢
    cases h1 : zm_at y pc with
    | none => rw [h1] at h; cases h
    | some qi =>
      obtain ⟨i, len⟩ := qi
      rw [h1] at h
      dsimp only at h ⊢
      cases h2 : zm_ret y i st with
      | some v => rw [h2] at h; exact h
      | none =>
        rw [h2] at h
        dsimp only at h ⊢
        cases h3 : zm_ss1 y i ls st M with
        | some st1 => rw [h3] at h; rw [zle_ss1 hle h3]; exact ih _ _ _ _ _ _ _ h _ hle
        | none =>
          rw [h3] at h
          dsimp only at h
          rcases zle_ss1n (d := d) (pc := pc) ls' h3 with h3' | ⟨e1, e2, e3, e4⟩
          · rw [h3']
            dsimp only
            cases h4 : zm_sst i ls st with
            | some q4 =>
              obtain ⟨ls1, st1⟩ := q4
              rw [h4] at h
              obtain ⟨ls2, g1, g2⟩ := zle_sst hle h4
              rw [g1]
              exact ih _ _ _ _ _ _ _ h _ g2
            | none =>
              rw [h4] at h
              dsimp only at h
              rcases zle_sstn hle (d := d) (y := y) (pc := pc) (M := M) h4 with h4' | ⟨e2, e3, e4⟩
              · rw [h4']
                dsimp only
                cases h5 : zm_sj pc i st with
                | some q5 => obtain ⟨pc1, st1⟩ := q5; rw [h5] at h; exact ih _ _ _ _ _ _ _ h _ hle
                | none =>
                  rw [h5] at h
                  dsimp only at h ⊢
                  cases h6 : zm_sm d y i st M with
                  | some q6 => obtain ⟨st1, M1⟩ := q6; rw [h6] at h; exact ih _ _ _ _ _ _ _ h _ hle
                  | none =>
                    rw [h6] at h
                    dsimp only at h ⊢
                    cases d with
                    | zero => cases h
                    | succ d1 =>
                      cases h7 : zm_cal y i st with
                      | none => rw [h7] at h; cases h
                      | some q7 =>
                        obtain ⟨y1, as1, r1⟩ := q7
                        rw [h7] at h
                        dsimp only at h ⊢
                        split at h
                        · rename_i hle9
                          rw [if_pos hle9]
                          cases h8 : zm_run n d1 y1 0 (zm_ent as1 (zm_mx y1)) [] M with
                          | none => rw [h8] at h; cases h
                          | some q8 =>
                            obtain ⟨v8, M8⟩ := q8
                            rw [h8] at h
                            exact ih _ _ _ _ _ _ _ h _ hle
                        · cases h
              · rw [e2] at h
                dsimp only at h
                rw [e3] at h
                dsimp only at h
                rw [e4] at h
                cases d <;> cases h
          · rw [e1] at h
            dsimp only at h
            rw [e2] at h
            dsimp only at h
            rw [e3] at h
            dsimp only at h
            rw [e4] at h
            cases d <;> cases h
theorem zt.weak {d y pc : Nat} {ls ls' : zm_L} {st : List Value} {M : zm_M} {P : Option Value → zm_M → Prop} (h : zt d y pc ls st M P) (hle : zle ls ls') : zt d y pc ls' st M P := by
  obtain ⟨n, v, M', h1, h2⟩ := h
  exact ⟨n, v, M', zm_run_le _ _ _ _ _ _ _ _ h1 _ hle, h2⟩
def zfg : List Nat → zm_L → zm_L
  | [], ls => ls
  | i :: l, ls => (zfg l ls).set i none
theorem zfg_le : ∀ (l : List Nat) (ls : zm_L), zle (zfg l ls) ls
  | [], _ => zle_rfl
  | _ :: l, ls => zle_trans zle_set_none (zfg_le l ls)

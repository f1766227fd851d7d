/-! THE PURE LAYER: what is wanted of a run, as a predicate. -/
theorem zm_sm_pos {d d2 y : Nat} {i : Instr} {st : List Value} {M : zm_M} : zm_sm (d + 1) y i st M = zm_sm (d2 + 1) y i st M := by
  cases i <;> first | rfl | (unfold zm_sm; dsimp only; rw [if_neg (Nat.succ_ne_zero d), if_neg (Nat.succ_ne_zero d2)])
theorem zm_sm_dep {d y : Nat} {i : Instr} {st : List Value} {M : zm_M} {q : List Value × zm_M} (h : zm_sm d y i st M = some q) : zm_sm (d + 1) y i st M = some q := by
  cases d with
  | succ d => rw [zm_sm_pos (d2 := d)]; exact h
  | zero =>
    cases i <;> first | exact h | (exact absurd (show (none : Option (List Value × zm_M)) = some q from h) (fun z => by cases z))
theorem zm_run_mono : ∀ (n d y pc : Nat) (ls : zm_L) (st : List Value) (M : zm_M) (q : Option Value × zm_M), zm_run n d y pc ls st M = some q → ∀ (n2 d2 : Nat), n ≤ n2 → d ≤ d2 → zm_run n2 d2 y pc ls st M = some q := by
  intro n
  induction n with
  | zero => intro d y pc ls st M q h; cases h
  | succ n ih =>
    intro d y pc ls st M q h n2 d2 hn hd
    obtain ⟨n3, rfl⟩ : ∃ n3, n2 = n3 + 1 := ⟨n2 - 1, by omega⟩
    have hn3 : n ≤ n3 := by omega
    have hsm : ∀ {i : Instr} {q : List Value × zm_M}, zm_sm d y i st M = some q → zm_sm d2 y i st M = some q := fun {i} {q} hq => by
      induction hd with
      | refl => exact hq
      | step _ ih2 => exact zm_sm_dep ih2
    unfold zm_run at h ⊢
    cases h1 : zm_at y pc with
    | none => rw [h1] at h; cases h
    | some qi =>
      obtain ⟨i, len⟩ := qi
      rw [h1] at h
      dsimp only at h ⊢
      cases h2 : zm_ret y i st with
      | some v => rw [h2] at h; exact h
      | none =>
        rw [h2] at h
        dsimp only at h ⊢
        cases h3 : zm_ss1 y i ls st M with
        | some st1 => rw [h3] at h; exact ih _ _ _ _ _ _ _ h _ _ hn3 hd
        | none =>
          rw [h3] at h
          dsimp only at h ⊢
          cases h4 : zm_sst i ls st with
          | some q4 => obtain ⟨ls1, st1⟩ := q4; rw [h4] at h; exact ih _ _ _ _ _ _ _ h _ _ hn3 hd
          | none =>
            rw [h4] at h
            dsimp only at h ⊢
            cases h5 : zm_sj pc i st with
            | some q5 => obtain ⟨pc1, st1⟩ := q5; rw [h5] at h; exact ih _ _ _ _ _ _ _ h _ _ hn3 hd
            | none =>
              rw [h5] at h
              dsimp only at h ⊢
              cases h6 : zm_sm d y i st M with
              | some q6 =>
                obtain ⟨st1, M1⟩ := q6
                rw [h6] at h
                rw [hsm h6]
                exact ih _ _ _ _ _ _ _ h _ _ hn3 hd
              | none =>
                rw [h6] at h
                dsimp only at h
                cases d with
                | zero => cases h
                | succ d1 =>
                  cases d2 with
                  | zero => omega
                  | succ d3 =>
                    have h6' : zm_sm (d3 + 1) y i st M = none := by
                      have e9 : zm_sm (d3 + 1) y i st M = zm_sm (d1 + 1) y i st M := zm_sm_pos
                      rw [e9]
                      exact h6
                    rw [h6']
                    dsimp only
                    cases h7 : zm_cal y i st with
                    | none => rw [h7] at h; cases h
                    | some q7 =>
                      obtain ⟨y1, as1, r1⟩ := q7
                      rw [h7] at h
                      dsimp only at h ⊢
                      split at h
                      · rename_i hle
                        rw [if_pos hle]
                        cases h8 : zm_run n d1 y1 0 (zm_ent as1 (zm_mx y1)) [] M with
                        | none => rw [h8] at h; cases h
                        | some q8 =>
                          obtain ⟨v8, M8⟩ := q8
                          rw [h8] at h
                          rw [ih _ _ _ _ _ _ _ h8 n3 d3 hn3 (by omega)]
                          exact ih _ _ _ _ _ _ _ h _ _ hn3 hd
                      · cases h
/-- a run from here returns, and P holds of its answer and of the memory that it leaves -/
def zt (d y pc : Nat) (ls : zm_L) (st : List Value) (M : zm_M) (P : Option Value → zm_M → Prop) : Prop := ∃ (n : Nat) (v : Option Value) (M' : zm_M), zm_run n d y pc ls st M = some (v, M') ∧ P v M'
def zi (d y : Nat) (as : List Value) (M : zm_M) (Q : Int32 → zm_M → Prop) : Prop := zt d y 0 (zm_ent as (zm_mx y)) [] M (fun v M' => match v with
  | some (.int x) => Q x M'
  | _ => False)
def zv (d y : Nat) (as : List Value) (M : zm_M) (Q : zm_M → Prop) : Prop := zt d y 0 (zm_ent as (zm_mx y)) [] M (fun v M' => match v with
  | none => Q M'
  | _ => False)
def zl (d y : Nat) (as : List Value) (M : zm_M) (Q : Int64 → zm_M → Prop) : Prop := zt d y 0 (zm_ent as (zm_mx y)) [] M (fun v M' => match v with
  | some (.long x) => Q x M'
  | _ => False)
def zr (d y : Nat) (as : List Value) (M : zm_M) (Q : Nat → zm_M → Prop) : Prop := zt d y 0 (zm_ent as (zm_mx y)) [] M (fun v M' => match v with
  | some (.ref x) => Q x M'
  | _ => False)
def zq (rk d y : Nat) (as : List Value) (M : zm_M) (K : List Value → zm_M → Prop) : Prop := match rk with
  | 0 => zv d y as M (fun M' => K [] M')
  | 3 => zl d y as M (fun x M' => K [.long x] M')
  | 4 => zr d y as M (fun x M' => K [.ref x] M')
  | _ => zi d y as M (fun x M' => K [.int x] M')
section ZT
variable {d y pc pc' len : Nat} {i : Instr} {ls ls' : zm_L} {st st' : List Value} {M M' : zm_M} {P P' : Option Value → zm_M → Prop}
theorem zt.mono (h : zt d y pc ls st M P) (hp : ∀ v M', P v M' → P' v M') : zt d y pc ls st M P' := by
  obtain ⟨n, v, M', h1, h2⟩ := h
  exact ⟨n, v, M', h1, hp v M' h2⟩
theorem zt.dep {d2 : Nat} (h : zt d y pc ls st M P) (hd : d ≤ d2) : zt d2 y pc ls st M P := by
  obtain ⟨n, v, M', h1, h2⟩ := h
  exact ⟨n, v, M', zm_run_mono _ _ _ _ _ _ _ _ h1 _ _ (Nat.le_refl _) hd, h2⟩
theorem zt_ret {v : Option Value} (ha : zm_at y pc = some (i, len)) (h : zm_ret y i st = some v) (hp : P v M) : zt d y pc ls st M P := by
  refine ⟨1, v, M, ?_, hp⟩
  unfold zm_run
  rw [ha]
  dsimp only
  rw [h]
theorem zt_ss1 (ha : zm_at y pc = some (i, len)) (h0 : zm_ret y i st = none) (h : zm_ss1 y i ls st M = some st') (hp : zt d y (pc + len) ls st' M P) : zt d y pc ls st M P := by
  obtain ⟨n, v, M', h1, h2⟩ := hp
  refine ⟨n + 1, v, M', ?_, h2⟩
  unfold zm_run
  rw [ha]
  dsimp only
  rw [h0]
  dsimp only
  rw [h]
  exact h1
theorem zt_sst (ha : zm_at y pc = some (i, len)) (h0 : zm_ret y i st = none) (h00 : zm_ss1 y i ls st M = none) (h : zm_sst i ls st = some (ls', st')) (hp : zt d y (pc + len) ls' st' M P) : zt d y pc ls st M P := by
  obtain ⟨n, v, M', h1, h2⟩ := hp
  refine ⟨n + 1, v, M', ?_, h2⟩
  unfold zm_run
  rw [ha]
  dsimp only
  rw [h0]
  dsimp only
  rw [h00]
  dsimp only
  rw [h]
  exact h1
theorem zt_sj (ha : zm_at y pc = some (i, len)) (h0 : zm_ret y i st = none) (h00 : zm_ss1 y i ls st M = none) (h01 : zm_sst i ls st = none) (h : zm_sj pc i st = some (pc', st')) (hp : zt d y pc' ls st' M P) : zt d y pc ls st M P := by
  obtain ⟨n, v, M', h1, h2⟩ := hp
  refine ⟨n + 1, v, M', ?_, h2⟩
  unfold zm_run
  rw [ha]
  dsimp only
  rw [h0]
  dsimp only
  rw [h00]
  dsimp only
  rw [h01]
  dsimp only
  rw [h]
  exact h1
theorem zt_sm (ha : zm_at y pc = some (i, len)) (h0 : zm_ret y i st = none) (h00 : zm_ss1 y i ls st M = none) (h01 : zm_sst i ls st = none) (h02 : zm_sj pc i st = none) (h : zm_sm d y i st M = some (st', M')) (hp : zt d y (pc + len) ls st' M' P) : zt d y pc ls st M P := by
  obtain ⟨n, v, M9, h1, h2⟩ := hp
  refine ⟨n + 1, v, M9, ?_, h2⟩
  unfold zm_run
  rw [ha]
  dsimp only
  rw [h0]
  dsimp only
  rw [h00]
  dsimp only
  rw [h01]
  dsimp only
  rw [h02]
  dsimp only
  rw [h]
  exact h1
theorem zt_cal {y' : Nat} {as r : List Value} (ha : zm_at y pc = some (i, len)) (h0 : zm_ret y i st = none) (h00 : zm_ss1 y i ls st M = none) (h01 : zm_sst i ls st = none) (h02 : zm_sj pc i st = none) (h03 : zm_sm (d + 1) y i st M = none) (h : zm_cal y i st = some (y', as, r)) (hl : (zm_flat as).length ≤ zm_mx y')
    (hp : zt d y' 0 (zm_ent as (zm_mx y')) [] M (fun v M1 => zt (d + 1) y (pc + 3) ls (v.toList ++ r) M1 P)) : zt (d + 1) y pc ls st M P := by
  obtain ⟨n, v, M1, h1, n2, v2, M2, h2, h3⟩ := hp
  refine ⟨max n n2 + 1, v2, M2, ?_, h3⟩
  unfold zm_run
  rw [ha]
  dsimp only
  rw [h0]
  dsimp only
  rw [h00]
  dsimp only
  rw [h01]
  dsimp only
  rw [h02]
  dsimp only
  rw [h03]
  dsimp only
  rw [h]
  dsimp only
  rw [if_pos hl, zm_run_mono _ _ _ _ _ _ _ _ h1 (max n n2) d (Nat.le_max_left _ _) (Nat.le_refl _)]
  exact zm_run_mono _ _ _ _ _ _ _ _ h2 (max n n2) _ (Nat.le_max_right _ _) (Nat.le_refl _)
end ZT
theorem zq_cal {d y pc len y' : Nat} {i : Instr} {ls : zm_L} {st as r : List Value} {M : zm_M} {P : Option Value → zm_M → Prop} (rk : Nat) (ha : zm_at y pc = some (i, len)) (h0 : zm_ret y i st = none) (h00 : zm_ss1 y i ls st M = none) (h01 : zm_sst i ls st = none) (h02 : zm_sj pc i st = none) (h03 : zm_sm (d + 1) y i st M = none) (h : zm_cal y i st = some (y', as, r)) (hl : (zm_flat as).length ≤ zm_mx y')
    (hp : zq rk d y' as M (fun w M1 => zt (d + 1) y (pc + 3) ls (w ++ r) M1 P)) : zt (d + 1) y pc ls st M P := by
  refine zt_cal ha h0 h00 h01 h02 h03 h hl ?_
  unfold zq at hp
  split at hp
  · exact zt.mono hp (fun v M1 q => by
      cases v with
      | none => exact q
      | some w => exact q.elim)
  · exact zt.mono hp (fun v M1 q => by
      cases v with
      | none => exact q.elim
      | some w => cases w <;> first | exact q.elim | exact q)
  · exact zt.mono hp (fun v M1 q => by
      cases v with
      | none => exact q.elim
      | some w => cases w <;> first | exact q.elim | exact q)
  · exact zt.mono hp (fun v M1 q => by
      cases v with
      | none => exact q.elim
      | some w => cases w <;> first | exact q.elim | exact q)
theorem zq_mono {rk d y : Nat} {as : List Value} {M : zm_M} {K K' : List Value → zm_M → Prop} (h : zq rk d y as M K) (hk : ∀ w M', K w M' → K' w M') : zq rk d y as M K' := by
  unfold zq at h ⊢
  split at h
  · exact zt.mono h (fun v M1 q => by
      cases v with
      | none => exact hk _ _ q
      | some w => exact q.elim)
  · exact zt.mono h (fun v M1 q => by
      cases v with
      | none => exact q.elim
      | some w => cases w <;> first | exact q.elim | exact hk _ _ q)
  · exact zt.mono h (fun v M1 q => by
      cases v with
      | none => exact q.elim
      | some w => cases w <;> first | exact q.elim | exact hk _ _ q)
  · exact zt.mono h (fun v M1 q => by
      cases v with
      | none => exact q.elim
      | some w => cases w <;> first | exact q.elim | exact hk _ _ q)

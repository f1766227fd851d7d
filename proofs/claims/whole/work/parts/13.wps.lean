/-! The wanted, worked out, suffices. -/
theorem zw_dflt {d y pc len : Nat} {i : Instr} {ls : zm_L} {st : List Value} {M : zm_M} {P : Option Value → zm_M → Prop} {F : Nat → zm_L → List Value → Prop} (hat : zm_at y pc = some (i, len)) (h0 : zm_ret y i st = none)
    (hF : ∀ ls st, F (pc + len) ls st → zt d y (pc + len) ls st M P)
    (h : match zm_ss1 y i ls st M with
        | some st' => F (pc + len) ls st'
        | none => match zm_sst i ls st with
          | some (ls', st') => F (pc + len) ls' st'
          | none => False) : zt d y pc ls st M P := by
  cases hs : zm_ss1 y i ls st M with
  | some st' =>
    rw [hs] at h
    exact zt_ss1 hat h0 hs (hF _ _ h)
  | none =>
    rw [hs] at h
    dsimp only at h
    cases h4 : zm_sst i ls st with
    | some q4 =>
      obtain ⟨ls1, st1⟩ := q4
      rw [h4] at h
      exact zt_sst hat h0 hs h4 (hF _ _ h)
    | none =>
      rw [h4] at h
      exact h.elim
set_option maxHeartbeats 4000000 in
theorem zw_snd : ∀ (n : Nat) (cut : List (Nat × List Nat)) (d y pc : Nat) (ls : zm_L) (st : List Value) (M : zm_M) (P : Option Value → zm_M → Prop), zw n cut d y pc ls st M P → zt d y pc ls st M P := by
  intro n
  induction n with
  | zero => intro cut d y pc ls st M P h; exact h
  | succ n ih =>
    intro cut d y pc ls st M P h
    have K : ∀ (pc : Nat) (ls : zm_L) (st : List Value) (M : zm_M), zk cut d y pc ls st M P (zw n cut d y pc ls st M P) → zt d y pc ls st M P := fun pc ls st M h => zk_snd h (ih cut d y pc ls st M P)
    unfold zw at h
    split at h
    · exact h.elim
    rename_i i len hat
    cases i
    case ireturn =>
      dsimp only at h
      split at h
      · split at h
        · rename_i hk9
          exact zt_ret (v := some (.int _)) hat (by unfold zm_ret; rw [hk9] <;> rfl) h
        · rename_i hk9
          exact zt_ret (v := some (.int _)) hat (by unfold zm_ret; rw [hk9]; exact if_pos h.1) h.2
        · rename_i hk9
          exact zt_ret (v := some (.int _)) hat (by unfold zm_ret; rw [hk9]; exact if_pos h.1) h.2
        · exact h.elim
      · exact h.elim
    case lreturn =>
      dsimp only at h
      split at h
      · split at h
        · rename_i hk9
          exact zt_ret (v := some (.long _)) hat (by unfold zm_ret; rw [hk9] <;> rfl) h
        · exact h.elim
      · exact h.elim
    case areturn =>
      dsimp only at h
      split at h
      · split at h
        · rename_i hk9
          exact zt_ret (v := some (.ref _)) hat (by unfold zm_ret; rw [hk9] <;> rfl) h
        · exact h.elim
      · exact h.elim
    case return_ =>
      dsimp only at h
      split at h
      · split at h
        · rename_i hk9
          exact zt_ret (v := none) hat (by unfold zm_ret; rw [hk9] <;> rfl) h
        · exact h.elim
      · exact h.elim
    case ifCond c off =>
      cases zm_len_of hat (n := 2) rfl
      dsimp only at h
      split at h
      · rename_i x9 r9
        obtain ⟨t9, ht9, h⟩ := zj_inv h
        obtain ⟨ha9, hb9⟩ := zcb_snd h
        refine zt_sj (pc' := if zm_cmp c x9 0 = true then t9 else pc + 3) (st' := r9) hat rfl rfl rfl (by unfold zm_sj; dsimp only; rw [ht9] <;> rfl) ?_
        by_cases hc9 : zm_cmp c x9 0 = true
        · rw [if_pos hc9]
          exact K _ _ _ _ (ha9 hc9)
        · rw [if_neg hc9]
          exact K _ _ _ _ (hb9 hc9)
      · exact h.elim
    case if_icmp c off =>
      cases zm_len_of hat (n := 2) rfl
      dsimp only at h
      split at h
      · rename_i z9 x9 r9
        obtain ⟨t9, ht9, h⟩ := zj_inv h
        obtain ⟨ha9, hb9⟩ := zcb_snd h
        refine zt_sj (pc' := if zm_cmp c x9 z9 = true then t9 else pc + 3) (st' := r9) hat rfl rfl rfl (by unfold zm_sj; dsimp only; rw [ht9] <;> rfl) ?_
        by_cases hc9 : zm_cmp c x9 z9 = true
        · rw [if_pos hc9]
          exact K _ _ _ _ (ha9 hc9)
        · rw [if_neg hc9]
          exact K _ _ _ _ (hb9 hc9)
      · exact h.elim
    case goto off =>
      dsimp only at h
      obtain ⟨t9, ht9, h⟩ := zj_inv h
      exact zt_sj (pc' := t9) (st' := st) hat rfl rfl rfl (by unfold zm_sj; dsimp only; rw [ht9] <;> rfl) (K _ _ _ _ h)
    case tableswitch dflt lo hi offs =>
      dsimp only at h
      split at h
      · rename_i x9 r9
        cases hb9 : (decide (hi = lo + (offs.toList.length : Int) - 1) && (decide (-1000 ≤ lo) && decide (lo + (offs.toList.length : Int) ≤ 1000))) with
        | false => rw [hb9] at h; exact h.elim
        | true =>
          rw [hb9] at h
          simp only [Bool.and_eq_true, decide_eq_true_eq] at hb9
          have h7 := zsw_snd offs.toList lo dflt hb9.2.1 hb9.2.2 h
          obtain ⟨t9, ht9, h8⟩ := zj_inv h7
          exact zt_sj (pc' := t9) (st' := r9) hat rfl rfl rfl (by unfold zm_sj; dsimp only; rw [if_pos hb9.1, ht9] <;> rfl) (K _ _ _ _ h8)
      · exact h.elim
    case lookupswitch dflt ps =>
      dsimp only at h
      split at h
      · rename_i x9 r9
        cases hb9 : ((ps.toList.zip (ps.toList.drop 1)).all (fun (a, next) => a.1 < next.1) && ps.toList.all (fun p => decide (-1000 ≤ p.1 ∧ p.1 ≤ 1000))) with
        | false => rw [hb9] at h; exact h.elim
        | true =>
          rw [hb9] at h
          rw [Bool.and_eq_true] at hb9
          have h7 := zlw_snd ps.toList dflt hb9.2 h
          obtain ⟨t9, ht9, h8⟩ := zj_inv h7
          exact zt_sj (pc' := t9) (st' := r9) hat rfl rfl rfl (by unfold zm_sj; dsimp only; rw [if_pos hb9.1, ht9] <;> rfl) (K _ _ _ _ h8)
      · exact h.elim
    case idiv =>
      dsimp only at h
      split at h
      · exact zt_ss1 hat rfl (by unfold zm_ss1; dsimp only; rw [if_neg h.1] <;> rfl) (K _ _ _ _ h.2)
      · exact h.elim
    case irem =>
      dsimp only at h
      split at h
      · exact zt_ss1 hat rfl (by unfold zm_ss1; dsimp only; rw [if_neg h.1] <;> rfl) (K _ _ _ _ h.2)
      · exact h.elim
    case ldiv =>
      dsimp only at h
      split at h
      · exact zt_ss1 hat rfl (by unfold zm_ss1; dsimp only; rw [if_neg h.1] <;> rfl) (K _ _ _ _ h.2)
      · exact h.elim
    case lrem =>
      dsimp only at h
      split at h
      · exact zt_ss1 hat rfl (by unfold zm_ss1; dsimp only; rw [if_neg h.1] <;> rfl) (K _ _ _ _ h.2)
      · exact h.elim
    case iaload =>
      dsimp only at h
      split at h
      · rename_i j9 k9 r9
        split at h
        · rename_i hk9
          have e9 : zm_ald y k9 j9 M = some (.int (M.1 k9 j9.toNatClampNeg)) := by unfold zm_ald; rw [hk9]; exact if_pos h.1
          exact zt_ss1 hat rfl (by unfold zm_ss1; dsimp only; rw [e9] <;> rfl) (K _ _ _ _ h.2)
        · rename_i hk9
          have e9 : zm_ald y k9 j9 M = some (.int (zm_sv k9 j9.toNatClampNeg)) := by unfold zm_ald; rw [hk9]; exact if_pos h.1
          exact zt_ss1 hat rfl (by unfold zm_ss1; dsimp only; rw [e9] <;> rfl) (K _ _ _ _ h.2)
        · rename_i hk9
          split at h
          · have e9 : zm_ald 0 k9 j9 M = some (.int (M.2.2.2.2 j9.toNatClampNeg)) := by unfold zm_ald; rw [hk9]; exact if_pos ⟨rfl, h.1⟩
            exact zt_ss1 hat rfl (by unfold zm_ss1; dsimp only; rw [e9] <;> rfl) (K _ _ _ _ h.2)
          · exact h.elim
        · exact h.elim
      · exact h.elim
    case baload =>
      dsimp only at h
      split at h
      · split at h
        · rename_i hk9
          exact zt_ss1 hat rfl (by unfold zm_ss1; dsimp only; rw [hk9]; exact if_pos h.1) (K _ _ _ _ h.2)
        · exact h.elim
      · exact h.elim
    case aaload =>
      dsimp only at h
      split at h
      · split at h
        · rename_i hk9
          obtain ⟨hin9, a9, hr9, h⟩ := h
          exact zt_ss1 hat rfl (by unfold zm_ss1; dsimp only; rw [hk9]; exact (if_pos hin9).trans (by rw [hr9])) (K _ _ _ _ h)
        · exact h.elim
      · exact h.elim
    case iastore =>
      cases zm_len_of hat (n := 0) rfl
      dsimp only at h
      split at h
      · split at h
        · rename_i hk9
          exact zt_sm hat rfl rfl rfl rfl (by unfold zm_sm; dsimp only; rw [hk9]; exact if_pos h.1) (K _ _ _ _ h.2)
        · exact h.elim
      · exact h.elim
    case putfield idx =>
      dsimp only at h
      split at h
      · rename_i v9 k9 r9
        split at h
        · rename_i ci9 sl9 pos9 hfl9
          cases hb9 : Nat.beq (zm_kd k9) ci9 with
          | false => rw [hb9] at h; exact h.elim
          | true =>
            rw [hb9] at h
            have hb8 := Nat.eq_of_beq_eq_true hb9
            rw [cond_true] at h
            have hgo : ∀ {M9 : zm_M}, zm_pv M k9 ci9 sl9 v9 = some M9 → zm_sm d y (.putfield idx) (v9 :: .ref k9 :: r9) M = some (r9, M9) := fun {M9} e9 => by
              have e8 : zm_pf y idx k9 v9 M = some M9 := by unfold zm_pf; rw [hfl9]; exact (if_pos hb8).trans e9
              unfold zm_sm
              dsimp only
              rw [e8] <;> rfl
            split at h
            · rename_i hf9
              exact zt_sm hat rfl rfl rfl rfl (hgo (by unfold zm_pv; rw [hf9] <;> rfl)) (K _ _ _ _ h)
            · rename_i hf9
              exact zt_sm hat rfl rfl rfl rfl (hgo (by unfold zm_pv; rw [hf9]; exact if_pos h.1)) (K _ _ _ _ h.2)
            · rename_i hf9
              exact zt_sm hat rfl rfl rfl rfl (hgo (by unfold zm_pv; rw [hf9] <;> rfl)) (K _ _ _ _ h)
            · rename_i hf9
              exact zt_sm hat rfl rfl rfl rfl (hgo (by unfold zm_pv; rw [hf9]; exact if_pos h.1)) (K _ _ _ _ h.2)
            · exact h.elim
        · exact h.elim
      · exact h.elim
    case invokestatic idx =>
      dsimp only at h
      split at h
      · rename_i b9 pos9 hbi9
        split at h
        · rename_i d9 z9 x9 r9
          cases hb9 : zm_cs r9 with
          | false => rw [hb9] at h; exact h.elim
          | true =>
            rw [hb9] at h
            exact zt_sm hat rfl rfl rfl rfl (by unfold zm_sm; dsimp only; rw [if_neg (Nat.succ_ne_zero _), hbi9]; exact if_pos hb9) (K _ _ _ _ h)
        · rename_i d9 z9 x9 r9
          cases hb9 : zm_cs r9 with
          | false => rw [hb9] at h; exact h.elim
          | true =>
            rw [hb9] at h
            exact zt_sm hat rfl rfl rfl rfl (by unfold zm_sm; dsimp only; rw [if_neg (Nat.succ_ne_zero _), hbi9]; exact if_pos hb9) (K _ _ _ _ h)
        · rename_i d9 m9 dp9 g9 sp9 a9 r9
          cases hb9 : (zm_cs r9 && (Nat.beq (zm_kd a9) 20 && Nat.beq (zm_kd g9) 20)) with
          | false => rw [hb9] at h; exact h.elim
          | true =>
            rw [hb9] at h
            rw [cond_true] at h
            obtain ⟨⟨g1, g2, g3, g4, g5⟩, h⟩ := h
            simp only [Bool.and_eq_true] at hb9
            exact zt_sm hat rfl rfl rfl rfl (by unfold zm_sm; dsimp only; rw [if_neg (Nat.succ_ne_zero _), hbi9]; exact if_pos ⟨hb9.1, Nat.eq_of_beq_eq_true hb9.2.1, Nat.eq_of_beq_eq_true hb9.2.2, g1, g2, g3, g4, g5⟩) (K _ _ _ _ h)
        · exact h.elim
      · rename_i hbi9
        split at h
        · rename_i y9 as9 r9 hcal9
          split at h
          · rename_i d9
            cases hb9 : Nat.ble (zm_flat as9).length (zm_mx y9) with
            | false => rw [hb9] at h; exact h.elim
            | true =>
              rw [hb9] at h
              rw [cond_true] at h
              exact zq_cal _ hat rfl rfl rfl rfl (by unfold zm_sm; dsimp only; rw [if_neg (Nat.succ_ne_zero _), hbi9] <;> rfl) hcal9 (Nat.le_of_ble_eq_true hb9) (zq_mono h (fun w M1 h1 => K _ _ _ _ h1))
          · exact h.elim
        · exact h.elim
    case invokevirtual idx =>
      dsimp only at h
      split at h
      · rename_i y9 as9 r9 hcal9
        split at h
        · rename_i d9
          cases hb9 : Nat.ble (zm_flat as9).length (zm_mx y9) with
          | false => rw [hb9] at h; exact h.elim
          | true =>
            rw [hb9] at h
            rw [cond_true] at h
            exact zq_cal _ hat rfl rfl rfl rfl rfl hcal9 (Nat.le_of_ble_eq_true hb9) (zq_mono h (fun w M1 h1 => K _ _ _ _ h1))
        · exact h.elim
      · exact h.elim
    all_goals exact zw_dflt (F := fun pc ls st => zk cut d y pc ls st M P (zw n cut d y pc ls st M P)) hat rfl (fun ls st h9 => K _ _ _ _ h9) h
/-- what is wanted of an answer, by its kind -/
def zPi (Q : Int32 → zm_M → Prop) : Option Value → zm_M → Prop := fun v M' => match v with
  | some (.int x) => Q x M'
  | _ => False
def zPv (Q : zm_M → Prop) : Option Value → zm_M → Prop := fun v M' => match v with
  | none => Q M'
  | _ => False
def zPl (Q : Int64 → zm_M → Prop) : Option Value → zm_M → Prop := fun v M' => match v with
  | some (.long x) => Q x M'
  | _ => False
def zPr (Q : Nat → zm_M → Prop) : Option Value → zm_M → Prop := fun v M' => match v with
  | some (.ref x) => Q x M'
  | _ => False
section ZG
variable {d y pc : Nat} {as : List Value} {ls : zm_L} {st : List Value} {M : zm_M}
theorem zgi {Q : Int32 → zm_M → Prop} (n : Nat) (cut : List (Nat × List Nat)) (he : zm_ent as (zm_mx y) = ls) (h : zw n cut d y 0 ls [] M (zPi Q)) : zi d y as M Q := by
  subst he
  exact zw_snd _ _ _ _ _ _ _ _ _ h
theorem zgv {Q : zm_M → Prop} (n : Nat) (cut : List (Nat × List Nat)) (he : zm_ent as (zm_mx y) = ls) (h : zw n cut d y 0 ls [] M (zPv Q)) : zv d y as M Q := by
  subst he
  exact zw_snd _ _ _ _ _ _ _ _ _ h
theorem zgl {Q : Int64 → zm_M → Prop} (n : Nat) (cut : List (Nat × List Nat)) (he : zm_ent as (zm_mx y) = ls) (h : zw n cut d y 0 ls [] M (zPl Q)) : zl d y as M Q := by
  subst he
  exact zw_snd _ _ _ _ _ _ _ _ _ h
theorem zgr {Q : Nat → zm_M → Prop} (n : Nat) (cut : List (Nat × List Nat)) (he : zm_ent as (zm_mx y) = ls) (h : zw n cut d y 0 ls [] M (zPr Q)) : zr d y as M Q := by
  subst he
  exact zw_snd _ _ _ _ _ _ _ _ _ h
theorem zi.mono {Q Q' : Int32 → zm_M → Prop} (h : zi d y as M Q) (hq : ∀ x M', Q x M' → Q' x M') : zi d y as M Q' := zt.mono h (fun v M' q => by
  cases v with
  | none => exact q.elim
  | some w => cases w <;> first | exact q.elim | exact hq _ _ q)
theorem zv.mono {Q Q' : zm_M → Prop} (h : zv d y as M Q) (hq : ∀ M', Q M' → Q' M') : zv d y as M Q' := zt.mono h (fun v M' q => by
  cases v with
  | none => exact hq _ q
  | some w => exact q.elim)
theorem zi.dep {Q : Int32 → zm_M → Prop} {d2 : Nat} (h : zi d y as M Q) (hd : d ≤ d2) : zi d2 y as M Q := zt.dep h hd
theorem zv.dep {Q : zm_M → Prop} {d2 : Nat} (h : zv d y as M Q) (hd : d ≤ d2) : zv d2 y as M Q := zt.dep h hd
end ZG

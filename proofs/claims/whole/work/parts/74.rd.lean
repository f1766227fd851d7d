/-! TEXTS: how they are read, as a relation. -/
/-- where one stands, how many steps stand, their kinds, their values -/
abbrev tS : Type := Nat × Nat × (Nat → Int32) × (Nat → Int32)
def tAdd (g : tS) (a x : Int32) : tS := (g.1, g.2.1 + 1, upd g.2.2.1 g.2.1 a, upd g.2.2.2 g.2.1 x)
def tNx (g : tS) : tS := (g.1 + 1, g.2)
def tOp (x : Int32) (r : Nat) : Prop := (r = 0 ∧ x = 124) ∨ (r = 1 ∧ x = 38) ∨ (r = 2 ∧ (x = 60 ∨ x = 61 ∨ x = 62)) ∨ (r = 3 ∧ (x = 43 ∨ x = 45)) ∨ (r = 4 ∧ (x = 42 ∨ x = 47 ∨ x = 37))
abbrev tDg (x : Int32) : Prop := 48 ≤ x ∧ x ≤ 57
def tNm (u : Nat) (x : Int32) : Prop := (u = 0 ∧ (x = 99 ∨ x = 112 ∨ x = 104 ∨ x = 115 ∨ x = 109)) ∨ (u = 1 ∧ (x = 112 ∨ x = 104 ∨ x = 110))
def tNum (b : Nat → Int32) (L : Nat) : Nat → Int32 → tS → tS
  | 0, acc, g => tAdd g 0 acc
  | n + 1, acc, g => if g.1 < L ∧ tDg (b g.1) then tNum b L n (acc * 10 + b g.1 - 48) (tNx g) else tAdd g 0 acc
/-- what is closed under the rules of reading -/
def RdC (b : Nat → Int32) (L u : Nat) (P : Nat → Nat → tS → Bool → tS → Prop) : Prop :=
  (∀ {r dp : Nat} {g g2 : tS}, r < 5 → P (r + 1) dp g false g2 → P r dp g false g2) ∧
  (∀ {r dp : Nat} {g g2 : tS} {ok : Bool} {g3 : tS}, r < 5 → P (r + 1) dp g true g2 → P (10 + r) dp g2 ok g3 → P r dp g ok g3) ∧
  (∀ {r dp : Nat} {g : tS}, r < 5 → ¬ (g.1 < L ∧ tOp (b g.1) r) → P (10 + r) dp g true g) ∧
  (∀ {r dp : Nat} {g g2 : tS}, r < 5 → g.1 < L → tOp (b g.1) r → P (r + 1) dp (tNx g) false g2 → P (10 + r) dp g false g2) ∧
  (∀ {dp : Nat} {g g2 : tS}, g.1 < L → tOp (b g.1) 2 → P 3 dp (tNx g) true g2 → P 12 dp g true (tAdd g2 3 (b g.1))) ∧
  (∀ {r dp : Nat} {g g2 : tS} {ok : Bool} {g3 : tS}, r < 5 → r ≠ 2 → g.1 < L → tOp (b g.1) r → P (r + 1) dp (tNx g) true g2 → P (10 + r) dp (tAdd g2 3 (b g.1)) ok g3 → P (10 + r) dp g ok g3) ∧
  (∀ {dp : Nat} {g : tS}, ¬ g.1 < L → P 5 dp g false g) ∧
  (∀ {dp : Nat} {g : tS}, g.1 < L → ¬ tDg (b g.1) → ¬ b g.1 = 33 → ¬ b g.1 = 40 → ¬ tNm u (b g.1) → P 5 dp g false g) ∧
  (∀ {g : tS}, g.1 < L → (b g.1 = 33 ∨ b g.1 = 40) → P 5 5 g false g) ∧
  (∀ {dp : Nat} {g g2 : tS}, dp < 5 → g.1 < L → b g.1 = 33 → P 5 (dp + 1) (tNx g) false g2 → P 5 dp g false g2) ∧
  (∀ {dp : Nat} {g g2 : tS}, dp < 5 → g.1 < L → b g.1 = 33 → P 5 (dp + 1) (tNx g) true g2 → P 5 dp g true (tAdd g2 2 0)) ∧
  (∀ {dp : Nat} {g g2 : tS}, dp < 5 → g.1 < L → b g.1 = 40 → P 0 (dp + 1) (tNx g) false g2 → P 5 dp g false g2) ∧
  (∀ {dp : Nat} {g g2 : tS}, dp < 5 → g.1 < L → b g.1 = 40 → P 0 (dp + 1) (tNx g) true g2 → ¬ (g2.1 < L ∧ b g2.1 = 41) → P 5 dp g false g2) ∧
  (∀ {dp : Nat} {g g2 : tS}, dp < 5 → g.1 < L → b g.1 = 40 → P 0 (dp + 1) (tNx g) true g2 → g2.1 < L → b g2.1 = 41 → P 5 dp g true (tNx g2)) ∧
  (∀ {dp : Nat} {g : tS}, g.1 < L → tNm u (b g.1) → P 5 dp g true (tAdd (tNx g) 1 (b g.1))) ∧
  (∀ {dp : Nat} {g : tS}, g.1 < L → tDg (b g.1) → P 5 dp g true (tNum b L 4 0 g))
/-- the least that is closed so -/
def Rd (b : Nat → Int32) (L u k dp : Nat) (g : tS) (ok : Bool) (g2 : tS) : Prop := ∀ P : Nat → Nat → tS → Bool → tS → Prop, RdC b L u P → P k dp g ok g2
theorem Rd.down {b : Nat → Int32} {L u : Nat} {r dp : Nat} {g g2 : tS} (h0 : r < 5) (h1 : Rd b L u (r + 1) dp g false g2) : Rd b L u r dp g false g2 := fun P c => c.1 h0 (h1 P c)
theorem Rd.up {b : Nat → Int32} {L u : Nat} {r dp : Nat} {g g2 : tS} {ok : Bool} {g3 : tS} (h0 : r < 5) (h1 : Rd b L u (r + 1) dp g true g2) (h2 : Rd b L u (10 + r) dp g2 ok g3) : Rd b L u r dp g ok g3 := fun P c => c.2.1 h0 (h1 P c) (h2 P c)
theorem Rd.stop {b : Nat → Int32} {L u : Nat} {r dp : Nat} {g : tS} (h0 : r < 5) (h1 : ¬ (g.1 < L ∧ tOp (b g.1) r)) : Rd b L u (10 + r) dp g true g := fun P c => c.2.2.1 h0 h1
theorem Rd.opF {b : Nat → Int32} {L u : Nat} {r dp : Nat} {g g2 : tS} (h0 : r < 5) (h1 : g.1 < L) (h2 : tOp (b g.1) r) (h3 : Rd b L u (r + 1) dp (tNx g) false g2) : Rd b L u (10 + r) dp g false g2 := fun P c => c.2.2.2.1 h0 h1 h2 (h3 P c)
theorem Rd.op2 {b : Nat → Int32} {L u : Nat} {dp : Nat} {g g2 : tS} (h0 : g.1 < L) (h1 : tOp (b g.1) 2) (h2 : Rd b L u 3 dp (tNx g) true g2) : Rd b L u 12 dp g true (tAdd g2 3 (b g.1)) := fun P c => c.2.2.2.2.1 h0 h1 (h2 P c)
theorem Rd.opN {b : Nat → Int32} {L u : Nat} {r dp : Nat} {g g2 : tS} {ok : Bool} {g3 : tS} (h0 : r < 5) (h1 : r ≠ 2) (h2 : g.1 < L) (h3 : tOp (b g.1) r) (h4 : Rd b L u (r + 1) dp (tNx g) true g2) (h5 : Rd b L u (10 + r) dp (tAdd g2 3 (b g.1)) ok g3) : Rd b L u (10 + r) dp g ok g3 := fun P c => c.2.2.2.2.2.1 h0 h1 h2 h3 (h4 P c) (h5 P c)
theorem Rd.fin {b : Nat → Int32} {L u : Nat} {dp : Nat} {g : tS} (h0 : ¬ g.1 < L) : Rd b L u 5 dp g false g := fun P c => c.2.2.2.2.2.2.1 h0
theorem Rd.bad {b : Nat → Int32} {L u : Nat} {dp : Nat} {g : tS} (h0 : g.1 < L) (h1 : ¬ tDg (b g.1)) (h2 : ¬ b g.1 = 33) (h3 : ¬ b g.1 = 40) (h4 : ¬ tNm u (b g.1)) : Rd b L u 5 dp g false g := fun P c => c.2.2.2.2.2.2.2.1 h0 h1 h2 h3 h4
theorem Rd.deep {b : Nat → Int32} {L u : Nat} {g : tS} (h0 : g.1 < L) (h1 : (b g.1 = 33 ∨ b g.1 = 40)) : Rd b L u 5 5 g false g := fun P c => c.2.2.2.2.2.2.2.2.1 h0 h1
theorem Rd.notF {b : Nat → Int32} {L u : Nat} {dp : Nat} {g g2 : tS} (h0 : dp < 5) (h1 : g.1 < L) (h2 : b g.1 = 33) (h3 : Rd b L u 5 (dp + 1) (tNx g) false g2) : Rd b L u 5 dp g false g2 := fun P c => c.2.2.2.2.2.2.2.2.2.1 h0 h1 h2 (h3 P c)
theorem Rd.notT {b : Nat → Int32} {L u : Nat} {dp : Nat} {g g2 : tS} (h0 : dp < 5) (h1 : g.1 < L) (h2 : b g.1 = 33) (h3 : Rd b L u 5 (dp + 1) (tNx g) true g2) : Rd b L u 5 dp g true (tAdd g2 2 0) := fun P c => c.2.2.2.2.2.2.2.2.2.2.1 h0 h1 h2 (h3 P c)
theorem Rd.parF {b : Nat → Int32} {L u : Nat} {dp : Nat} {g g2 : tS} (h0 : dp < 5) (h1 : g.1 < L) (h2 : b g.1 = 40) (h3 : Rd b L u 0 (dp + 1) (tNx g) false g2) : Rd b L u 5 dp g false g2 := fun P c => c.2.2.2.2.2.2.2.2.2.2.2.1 h0 h1 h2 (h3 P c)
theorem Rd.parX {b : Nat → Int32} {L u : Nat} {dp : Nat} {g g2 : tS} (h0 : dp < 5) (h1 : g.1 < L) (h2 : b g.1 = 40) (h3 : Rd b L u 0 (dp + 1) (tNx g) true g2) (h4 : ¬ (g2.1 < L ∧ b g2.1 = 41)) : Rd b L u 5 dp g false g2 := fun P c => c.2.2.2.2.2.2.2.2.2.2.2.2.1 h0 h1 h2 (h3 P c) h4
theorem Rd.parT {b : Nat → Int32} {L u : Nat} {dp : Nat} {g g2 : tS} (h0 : dp < 5) (h1 : g.1 < L) (h2 : b g.1 = 40) (h3 : Rd b L u 0 (dp + 1) (tNx g) true g2) (h4 : g2.1 < L) (h5 : b g2.1 = 41) : Rd b L u 5 dp g true (tNx g2) := fun P c => c.2.2.2.2.2.2.2.2.2.2.2.2.2.1 h0 h1 h2 (h3 P c) h4 h5
theorem Rd.name {b : Nat → Int32} {L u : Nat} {dp : Nat} {g : tS} (h0 : g.1 < L) (h1 : tNm u (b g.1)) : Rd b L u 5 dp g true (tAdd (tNx g) 1 (b g.1)) := fun P c => c.2.2.2.2.2.2.2.2.2.2.2.2.2.2.1 h0 h1
theorem Rd.num {b : Nat → Int32} {L u : Nat} {dp : Nat} {g : tS} (h0 : g.1 < L) (h1 : tDg (b g.1)) : Rd b L u 5 dp g true (tNum b L 4 0 g) := fun P c => c.2.2.2.2.2.2.2.2.2.2.2.2.2.2.2 h0 h1
/-- one goes on, and stands no more steps than one has gone -/
def tBn (L : Nat) (g g2 : tS) : Prop := g2.2.1 + g.1 ≤ g.2.1 + g2.1 ∧ g.1 ≤ g2.1 ∧ (g.1 ≤ L → g2.1 ≤ L)
theorem tNum_bn {b : Nat → Int32} {L : Nat} : ∀ (n : Nat) (acc : Int32) (g : tS), (tNum b L n acc g).2.1 = g.2.1 + 1 ∧ g.1 ≤ (tNum b L n acc g).1 ∧ (g.1 ≤ L → (tNum b L n acc g).1 ≤ L) := by
  intro n
  induction n with
  | zero => intro acc g; exact ⟨rfl, Nat.le_refl _, fun h => h⟩
  | succ n ih =>
    intro acc g
    rw [tNum]
    split
    · rename_i h
      obtain ⟨h1, h2, h3⟩ := ih (acc * 10 + b g.1 - 48) (tNx g)
      have e : (tNx g).1 = g.1 + 1 := rfl
      rw [e] at h2 h3
      exact ⟨h1, by omega, fun _ => h3 (by omega)⟩
    · exact ⟨rfl, Nat.le_refl _, fun h => h⟩
theorem Rd.bn {b : Nat → Int32} {L u k dp : Nat} {g g2 : tS} {ok : Bool} (h : Rd b L u k dp g ok g2) : tBn L g g2 := by
  refine h (fun _ _ g _ g2 => tBn L g g2) ⟨fun _ ih => ih, fun _ ih1 ih2 => ?_, fun _ _ => ?_, fun _ _ _ ih => ?_, fun _ _ ih => ?_, fun _ _ _ _ ih1 ih2 => ?_, fun _ => ?_, fun _ _ _ _ _ => ?_, fun _ _ => ?_, fun _ _ _ ih => ?_, fun _ _ _ ih => ?_, fun _ _ _ ih => ?_, fun _ _ _ ih _ => ?_, fun _ _ _ ih _ _ => ?_, fun _ _ => ?_, fun {dp g} h1 h2 => ?_⟩
  case refine_15 =>
    rw [tNum, if_pos ⟨h1, h2⟩]
    have g1 := tNum_bn (b := b) (L := L) 3 (0 * 10 + b g.1 - 48) (tNx g)
    unfold tBn
    have e : (tNx g).1 = g.1 + 1 := rfl
    have e2 : (tNx g).2.1 = g.2.1 := rfl
    rw [e, e2] at g1
    omega
  all_goals (unfold tBn at *; try dsimp only [tNx, tAdd] at *; omega)
/-- every reading ends -/
theorem Rd.tot {b : Nat → Int32} {L u : Nat} (hu : u ≤ 1) : ∀ (m : Nat) (k dp : Nat) (g : tS), dp ≤ 5 → g.1 ≤ L → (L - g.1) * 12 + (if k < 10 then 11 - k else 5) ≤ m → (k ≤ 5 ∨ (10 ≤ k ∧ k < 15)) → ∃ ok g2, Rd b L u k dp g ok g2 := by
  intro m
  induction m with
  | zero =>
    intro k dp g hd hg hm hk
    exfalso
    split at hm <;> omega
  | succ m ih =>
    intro k dp g hd hg hm hk
    by_cases h5 : k < 5
    · rw [if_pos (by omega)] at hm
      obtain ⟨ok, g2, h1⟩ := ih (k + 1) dp g hd hg (by rw [if_pos (by omega)]; omega) (by omega)
      cases ok with
      | false => exact ⟨_, _, Rd.down h5 h1⟩
      | true =>
        have bn := h1.bn
        unfold tBn at bn
        obtain ⟨ok2, g3, h2⟩ := ih (10 + k) dp g2 hd (by omega) (by rw [if_neg (by omega)]; omega) (by omega)
        exact ⟨_, _, Rd.up h5 h1 h2⟩
    by_cases h10 : 10 ≤ k
    · obtain ⟨r, rfl⟩ : ∃ r, k = 10 + r := ⟨k - 10, by omega⟩
      rw [if_neg (by omega)] at hm
      by_cases ho : g.1 < L ∧ tOp (b g.1) r
      · obtain ⟨ok, g2, h1⟩ := ih (r + 1) dp (tNx g) hd (by show g.1 + 1 ≤ L; omega) (by rw [if_pos (by omega)]; show (L - (g.1 + 1)) * 12 + _ ≤ m; omega) (by omega)
        cases ok with
        | false => exact ⟨_, _, Rd.opF (by omega) ho.1 ho.2 h1⟩
        | true =>
          have bn := h1.bn
          unfold tBn tNx at bn
          dsimp only at bn
          by_cases r2 : r = 2
          · subst r2
            exact ⟨_, _, Rd.op2 ho.1 ho.2 h1⟩
          · obtain ⟨ok2, g3, h2⟩ := ih (10 + r) dp (tAdd g2 3 (b g.1)) hd (by show g2.1 ≤ L; omega) (by rw [if_neg (by omega)]; show (L - g2.1) * 12 + _ ≤ m; omega) (by omega)
            exact ⟨_, _, Rd.opN (by omega) r2 ho.1 ho.2 h1 h2⟩
      · exact ⟨_, _, Rd.stop (by omega) ho⟩
    · have k5 : k = 5 := by omega
      subst k5
      rw [if_pos (by omega)] at hm
      by_cases hL : g.1 < L
      · by_cases hdg : tDg (b g.1)
        · exact ⟨_, _, Rd.num hL hdg⟩
        by_cases h33 : b g.1 = 33
        · by_cases d5 : dp = 5
          · subst d5
            exact ⟨_, _, Rd.deep hL (Or.inl h33)⟩
          obtain ⟨ok, g2, h1⟩ := ih 5 (dp + 1) (tNx g) (by omega) (by show g.1 + 1 ≤ L; omega) (by rw [if_pos (by omega)]; show (L - (g.1 + 1)) * 12 + _ ≤ m; omega) (by omega)
          cases ok with
          | false => exact ⟨_, _, Rd.notF (by omega) hL h33 h1⟩
          | true => exact ⟨_, _, Rd.notT (by omega) hL h33 h1⟩
        by_cases h40 : b g.1 = 40
        · by_cases d5 : dp = 5
          · subst d5
            exact ⟨_, _, Rd.deep hL (Or.inr h40)⟩
          obtain ⟨ok, g2, h1⟩ := ih 0 (dp + 1) (tNx g) (by omega) (by show g.1 + 1 ≤ L; omega) (by rw [if_pos (by omega)]; show (L - (g.1 + 1)) * 12 + _ ≤ m; omega) (by omega)
          cases ok with
          | false => exact ⟨_, _, Rd.parF (by omega) hL h40 h1⟩
          | true =>
            by_cases hc : g2.1 < L ∧ b g2.1 = 41
            · exact ⟨_, _, Rd.parT (by omega) hL h40 h1 hc.1 hc.2⟩
            · exact ⟨_, _, Rd.parX (by omega) hL h40 h1 hc⟩
        by_cases hn : tNm u (b g.1)
        · exact ⟨_, _, Rd.name hL hn⟩
        · exact ⟨_, _, Rd.bad hL hdg h33 h40 hn⟩
      · exact ⟨_, _, Rd.fin hL⟩

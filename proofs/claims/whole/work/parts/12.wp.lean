/-! What must hold for a run from here to return with P: worked out along the instructions, to the next loop head. -/
def zcb (c : Jvm.ClassFile.Cond) (x y : Int32) (A B : Prop) : Prop := match c with
  | .eq => (x = y → A) ∧ (¬ x = y → B)
  | .ne => (x = y → B) ∧ (¬ x = y → A)
  | .lt => (x < y → A) ∧ (¬ x < y → B)
  | .ge => (x < y → B) ∧ (¬ x < y → A)
  | .gt => (y < x → A) ∧ (¬ y < x → B)
  | .le => (y < x → B) ∧ (¬ y < x → A)
theorem zcb_snd {c : Jvm.ClassFile.Cond} {x y : Int32} {A B : Prop} (h : zcb c x y A B) : (zm_cmp c x y = true → A) ∧ (¬ zm_cmp c x y = true → B) := by
  unfold zcb at h
  unfold zm_cmp
  cases c <;> dsimp only at h ⊢ <;> simp only [decide_eq_true_eq, Int32.not_lt] at h ⊢
  · exact h
  · exact ⟨h.2, fun q => h.1 (Classical.not_not.mp q)⟩
  · exact h
  · exact ⟨h.2, fun q => h.1 (Int32.not_le.mp q)⟩
  · exact h
  · exact ⟨h.2, fun q => h.1 (Int32.not_le.mp q)⟩
def zsw (K : Int → Prop) (x : Int32) : Int → List Int → Int → Prop
  | _, [], d => K d
  | lo, o :: l, d => (x = zm_lit lo → K o) ∧ (¬ x = zm_lit lo → zsw K x (lo + 1) l d)
theorem zsw_snd {K : Int → Prop} {x : Int32} : ∀ (l : List Int) (lo d : Int), -1000 ≤ lo → lo + (l.length : Int) ≤ 1000 → zsw K x lo l d → K (zm_ts x.toInt lo l d)
  | [], lo, d, _, _, h => h
  | o :: l, lo, d, h1, h2, h => by
    simp only [List.length_cons] at h2
    have e : (zm_lit lo).toInt = lo := by
      rw [← zm_lit_eq]
      exact Int32.toInt_ofInt_of_le (by omega) (by omega)
    unfold zm_ts
    by_cases q : x.toInt = lo
    · rw [if_pos q]
      exact h.1 (Int32.toInt_inj.mp (by rw [e, q]))
    · rw [if_neg q]
      exact zsw_snd l (lo + 1) d (by omega) (by omega) (h.2 (fun z => q (by rw [z, e])))
def zlw (K : Int → Prop) (x : Int32) : List (Int × Int) → Int → Prop
  | [], d => K d
  | p :: l, d => (x = zm_lit p.1 → K p.2) ∧ (¬ x = zm_lit p.1 → zlw K x l d)
theorem zlw_snd {K : Int → Prop} {x : Int32} : ∀ (l : List (Int × Int)) (d : Int), l.all (fun p => decide (-1000 ≤ p.1 ∧ p.1 ≤ 1000)) = true → zlw K x l d → K (Op.lookupswitch.offset l d x.toInt)
  | [], d, _, h => h
  | (a, o) :: l, d, hl, h => by
    rw [List.all_cons, Bool.and_eq_true, decide_eq_true_eq] at hl
    have e : (zm_lit a).toInt = a := by
      rw [← zm_lit_eq]
      exact Int32.toInt_ofInt_of_le (by have := hl.1.1; omega) (by have := hl.1.2; omega)
    rw [Op.lookupswitch.offset_cons]
    by_cases q : a = x.toInt
    · rw [if_pos q]
      exact h.1 (Int32.toInt_inj.mp (by rw [e, q]))
    · rw [if_neg q]
      exact zlw_snd l d hl.2 (h.2 (fun z => q (by rw [z, e])))
/-- at a loop head: the rest is another's; else on -/
def zk (cut : List (Nat × List Nat)) (d y pc : Nat) (ls : zm_L) (st : List Value) (M : zm_M) (P : Option Value → zm_M → Prop) (X : Prop) : Prop := match zm_la cut pc with
  | some fs => zt d y pc (zfg fs ls) st M P
  | none => X
theorem zk_snd {cut : List (Nat × List Nat)} {d y pc : Nat} {ls : zm_L} {st : List Value} {M : zm_M} {P : Option Value → zm_M → Prop} {X : Prop} (h : zk cut d y pc ls st M P X) (hx : X → zt d y pc ls st M P) : zt d y pc ls st M P := by
  unfold zk at h
  split at h
  · exact zt.weak h (zfg_le _ _)
  · exact hx h
def zj (pc : Nat) (off : Int) (K : Nat → Prop) : Prop := match zm_tg pc off with
  | some t => K t
  | none => False
def zw : Nat → List (Nat × List Nat) → Nat → Nat → Nat → zm_L → List Value → zm_M → (Option Value → zm_M → Prop) → Prop
  | 0, _, d, y, pc, ls, st, M, P => zt d y pc ls st M P
  | n + 1, cut, d, y, pc, ls, st, M, P => match zm_at y pc with
    | none => False
    | some (i, len) => match i with
      | .ireturn => match st with
        | [.int x] => match zm_rk y with
          | 1 => P (some (.int x)) M
          | 2 => (x = 0 ∨ x = 1) ∧ P (some (.int x)) M
          | 5 => x = 0 ∧ P (some (.int x)) M
          | _ => False
        | _ => False
      | .lreturn => match st with
        | [.long x] => match zm_rk y with
          | 3 => P (some (.long x)) M
          | _ => False
        | _ => False
      | .areturn => match st with
        | [.ref x] => match zm_rk y with
          | 4 => P (some (.ref x)) M
          | _ => False
        | _ => False
      | .return_ => match st with
        | [] => match zm_rk y with
          | 0 => P none M
          | _ => False
        | _ => False
      | .ifCond c off => match st with
        | .int x :: r => zj pc off (fun t => zcb c x 0 (zk cut d y t ls r M P (zw n cut d y t ls r M P)) (zk cut d y (pc + 3) ls r M P (zw n cut d y (pc + 3) ls r M P)))
        | _ => False
      | .if_icmp c off => match st with
        | .int z :: .int x :: r => zj pc off (fun t => zcb c x z (zk cut d y t ls r M P (zw n cut d y t ls r M P)) (zk cut d y (pc + 3) ls r M P (zw n cut d y (pc + 3) ls r M P)))
        | _ => False
      | .goto off => zj pc off (fun t => zk cut d y t ls st M P (zw n cut d y t ls st M P))
      | .tableswitch dflt lo hi offs => match st with
        | .int x :: r => bif decide (hi = lo + (offs.toList.length : Int) - 1) && (decide (-1000 ≤ lo) && decide (lo + (offs.toList.length : Int) ≤ 1000)) then zsw (fun off => zj pc off (fun t => zk cut d y t ls r M P (zw n cut d y t ls r M P))) x lo offs.toList dflt else False
        | _ => False
      | .lookupswitch dflt ps => match st with
        | .int x :: r => bif (ps.toList.zip (ps.toList.drop 1)).all (fun (a, next) => a.1 < next.1) && ps.toList.all (fun p => decide (-1000 ≤ p.1 ∧ p.1 ≤ 1000)) then zlw (fun off => zj pc off (fun t => zk cut d y t ls r M P (zw n cut d y t ls r M P))) x ps.toList dflt else False
        | _ => False
      | .idiv => match st with
        | .int z :: .int x :: r => ¬ z = 0 ∧ zk cut d y (pc + len) ls (.int (x / z) :: r) M P (zw n cut d y (pc + len) ls (.int (x / z) :: r) M P)
        | _ => False
      | .irem => match st with
        | .int z :: .int x :: r => ¬ z = 0 ∧ zk cut d y (pc + len) ls (.int (x - x / z * z) :: r) M P (zw n cut d y (pc + len) ls (.int (x - x / z * z) :: r) M P)
        | _ => False
      | .ldiv => match st with
        | .long z :: .long x :: r => ¬ z = 0 ∧ zk cut d y (pc + len) ls (.long (x / z) :: r) M P (zw n cut d y (pc + len) ls (.long (x / z) :: r) M P)
        | _ => False
      | .lrem => match st with
        | .long z :: .long x :: r => ¬ z = 0 ∧ zk cut d y (pc + len) ls (.long (x - x / z * z) :: r) M P (zw n cut d y (pc + len) ls (.long (x - x / z * z) :: r) M P)
        | _ => False
      | .iaload => match st with
        | .int j :: .ref k :: r => match zm_kd k with
          | 20 => zm_inb j (zm_ln k) = true ∧ zk cut d y (pc + len) ls (.int (M.1 k j.toNatClampNeg) :: r) M P (zw n cut d y (pc + len) ls (.int (M.1 k j.toNatClampNeg) :: r) M P)
          | 30 => zm_inb j (zm_ln k) = true ∧ zk cut d y (pc + len) ls (.int (zm_sv k j.toNatClampNeg) :: r) M P (zw n cut d y (pc + len) ls (.int (zm_sv k j.toNatClampNeg) :: r) M P)
          | 40 => match y with
            | 0 => zm_inb j M.2.2.2.1 = true ∧ zk cut d 0 (pc + len) ls (.int (M.2.2.2.2 j.toNatClampNeg) :: r) M P (zw n cut d 0 (pc + len) ls (.int (M.2.2.2.2 j.toNatClampNeg) :: r) M P)
            | _ => False
          | _ => False
        | _ => False
      | .baload => match st with
        | .int j :: .ref k :: r => match zm_kd k with
          | 32 => zm_inb j (zm_ln k) = true ∧ zk cut d y (pc + len) ls (.int (zm_sb k j.toNatClampNeg) :: r) M P (zw n cut d y (pc + len) ls (.int (zm_sb k j.toNatClampNeg) :: r) M P)
          | _ => False
        | _ => False
      | .aaload => match st with
        | .int j :: .ref k :: r => match zm_kd k with
          | 21 => zm_inb j (zm_ln k) = true ∧ ∃ a, zm_rf k j.toNatClampNeg = some a ∧ zk cut d y (pc + len) ls (.ref a :: r) M P (zw n cut d y (pc + len) ls (.ref a :: r) M P)
          | _ => False
        | _ => False
      | .iastore => match st with
        | .int x :: .int j :: .ref k :: r => match zm_kd k with
          | 20 => zm_inb j (zm_ln k) = true ∧ zk cut d y (pc + len) ls r (zm_si M k j.toNatClampNeg x) P (zw n cut d y (pc + len) ls r (zm_si M k j.toNatClampNeg x) P)
          | _ => False
        | _ => False
      | .putfield idx => match st with
        | v :: .ref k :: r => match zm_fl (zm_yc y) idx with
          | some (ci, sl, _) => bif Nat.beq (zm_kd k) ci then (match zm_ft ci sl, v with
            | 0, .int x => zk cut d y (pc + len) ls r (zm_si M k sl x) P (zw n cut d y (pc + len) ls r (zm_si M k sl x) P)
            | 4, .int x => (x = 0 ∨ x = 1) ∧ zk cut d y (pc + len) ls r (zm_si M k sl x) P (zw n cut d y (pc + len) ls r (zm_si M k sl x) P)
            | 1, .long x => zk cut d y (pc + len) ls r (zm_sl M k sl x) P (zw n cut d y (pc + len) ls r (zm_sl M k sl x) P)
            | 3, .ref q => (q = 110 ∨ q = 111) ∧ zk cut d y (pc + len) ls r (zm_ss M q) P (zw n cut d y (pc + len) ls r (zm_ss M q) P)
            | _, _ => False) else False
          | none => False
        | _ => False
      | .invokestatic idx => match zm_bi (zm_yc y) idx with
        | some (b, _) => match d, b, st with
          | _ + 1, 1, .int z :: .int x :: r => bif zm_cs r then zk cut d y (pc + len) ls (.int (if z < x then z else x) :: r) M P (zw n cut d y (pc + len) ls (.int (if z < x then z else x) :: r) M P) else False
          | _ + 1, 2, .int z :: .int x :: r => bif zm_cs r then zk cut d y (pc + len) ls (.int (if x < z then z else x) :: r) M P (zw n cut d y (pc + len) ls (.int (if x < z then z else x) :: r) M P) else False
          | _ + 1, 3, .int m :: .int dp :: .ref g :: .int sp :: .ref a :: r => bif zm_cs r && (Nat.beq (zm_kd a) 20 && Nat.beq (zm_kd g) 20) then
              (¬ sp < 0 ∧ ¬ dp < 0 ∧ ¬ m < 0 ∧ sp.toNatClampNeg + m.toNatClampNeg ≤ zm_ln a ∧ dp.toNatClampNeg + m.toNatClampNeg ≤ zm_ln g) ∧
              zk cut d y (pc + len) ls r (zm_sr M g (va_cpy (M.1 a) (M.1 g) sp.toNatClampNeg dp.toNatClampNeg m.toNatClampNeg)) P (zw n cut d y (pc + len) ls r (zm_sr M g (va_cpy (M.1 a) (M.1 g) sp.toNatClampNeg dp.toNatClampNeg m.toNatClampNeg)) P) else False
          | _, _, _ => False
        | none => match zm_cal y i st with
          | some (y', as, r) => match d with
            | d' + 1 => bif Nat.ble (zm_flat as).length (zm_mx y') then zq (zm_rk y') d' y' as M (fun w M1 => zk cut (d' + 1) y (pc + 3) ls (w ++ r) M1 P (zw n cut (d' + 1) y (pc + 3) ls (w ++ r) M1 P)) else False
            | 0 => False
          | none => False
      | .invokevirtual idx => match zm_cal y i st with
        | some (y', as, r) => match d with
          | d' + 1 => bif Nat.ble (zm_flat as).length (zm_mx y') then zq (zm_rk y') d' y' as M (fun w M1 => zk cut (d' + 1) y (pc + 3) ls (w ++ r) M1 P (zw n cut (d' + 1) y (pc + 3) ls (w ++ r) M1 P)) else False
          | 0 => False
        | none => False
      | _ => match zm_ss1 y i ls st M with
        | some st' => zk cut d y (pc + len) ls st' M P (zw n cut d y (pc + len) ls st' M P)
        | none => match zm_sst i ls st with
          | some (ls', st') => zk cut d y (pc + len) ls' st' M P (zw n cut d y (pc + len) ls' st' M P)
          | none => False
theorem zj_inv {pc : Nat} {off : Int} {K : Nat → Prop} (h : zj pc off K) : ∃ t, zm_tg pc off = some t ∧ K t := by
  unfold zj at h
  split at h
  · rename_i t9 ht9
    exact ⟨t9, ht9, h⟩
  · exact h.elim
theorem zm_ret_none {y : Nat} {i : Instr} {st : List Value} (h1 : i ≠ .ireturn) (h2 : i ≠ .lreturn) (h3 : i ≠ .areturn) (h4 : i ≠ .return_) : zm_ret y i st = none := by
  unfold zm_ret
  split <;> first | contradiction | rfl

/-! The constructors' machine: cells are made one behind another; what is written stands in lists. -/
/-- how many cells stand, how many slots they have, which reference fields are set, ints and longs as written -/
abbrev zk_w : Type := Nat × Nat × List (Nat × Nat) × List (Nat × Nat × Int32) × List (Nat × Nat × Int64)
def zk_iv : List (Nat × Nat × Int32) → Nat → Nat → Int32
  | [], _, _ => 0
  | q :: r, k, j => if q.1 = k ∧ q.2.1 = j then q.2.2 else zk_iv r k j
def zk_lv : List (Nat × Nat × Int64) → Nat → Nat → Int64
  | [], _, _ => 0
  | q :: r, k, j => if q.1 = k ∧ q.2.1 = j then q.2.2 else zk_lv r k j
def zk_has : List (Nat × Nat) → Nat → Nat → Bool
  | [], _, _ => false
  | q :: r, k, j => if q.1 = k ∧ q.2 = j then true else zk_has r k j
/-- all that is written belongs to cells that stand -/
def zk_lo (w : zk_w) : Bool := w.2.2.1.all (fun q => Nat.ble (q.1 + 1) w.1) && (w.2.2.2.1.all (fun q => Nat.ble (q.1 + 1) w.1) && w.2.2.2.2.all (fun q => Nat.ble (q.1 + 1) w.1))
def zk_new (w : zk_w) (n t : Nat) : zk_w := (w.1 + n, w.2.1 + t, w.2.2)
def zk_put (w : zk_w) (k j : Nat) (v : Value) : Option zk_w := match zm_ft (zm_kd k) j, v with
  | 0, .int x => some (w.1, w.2.1, w.2.2.1, (k, j, x) :: w.2.2.2.1, w.2.2.2.2)
  | 4, .int x => if x = 0 ∨ x = 1 then some (w.1, w.2.1, w.2.2.1, (k, j, x) :: w.2.2.2.1, w.2.2.2.2) else none
  | 1, .long x => some (w.1, w.2.1, w.2.2.1, w.2.2.2.1, (k, j, x) :: w.2.2.2.2)
  | 2, .ref q => if zm_rf k j = some q then some (w.1, w.2.1, (k, j) :: w.2.2.1, w.2.2.2) else none
  | 3, .ref q => if q = 110 then some (w.1, w.2.1, (k, j) :: w.2.2.1, w.2.2.2) else none
  | _, _ => none
/-- fields by the pool; one more than the methods use -/
def zk_fl (o k : Nat) : Option (Nat × Nat) := match zm_fl o k with
  | some (ci, sl, _) => some (ci, sl)
  | none => if o = 8 ∧ k = 38 then some (7, 0) else none
theorem zk_flA : zm_w 260 (.fieldLink (zm_cn 8) 38 (zm_T 7 0).1 (zm_T 7 0).2.1 (zm_T 7 0).2.2.1) = true := by decide +kernel
theorem zk_fl_ok {o k ci sl : Nat} (h : zk_fl o k = some (ci, sl)) : Jvm.Cond.fieldLink (zm_cn o) k (zm_T ci sl).1 (zm_T ci sl).2.1 (zm_T ci sl).2.2.1 ∈ zm_TT ∧ ci < 12 ∧ sl < zm_nf ci := by
  unfold zk_fl at h
  split at h
  · rename_i ci2 sl2 pos hfl
    cases h
    exact zm_fl_ok hfl
  · split at h
    · rename_i hc
      cases h
      rw [hc.1, hc.2]
      exact ⟨zm_inT zk_flA, by decide, by decide⟩
    · cases h
/-- an instruction that writes nothing: the stack behind it -/
def zk_ld (y : Nat) (ls : zm_L) (i : Instr) (st : List Value) (w : zk_w) : Option (List Value) := match i with
  | .iconst n => some (.int (zm_lit n) :: st)
  | .bipush n => some (.int (zm_lit n) :: st)
  | .sipush n => some (.int (zm_lit n) :: st)
  | .lconst n => some (.long (Int64.ofNat (n : Nat)) :: st)
  | .aload_n k => match zm_get ls (k : Nat) with
    | some (.ref x) => some (.ref x :: st)
    | _ => none
  | .dup => match st with
    | .ref x :: r => some (.ref x :: .ref x :: r)
    | _ => none
  | .getfield idx => match st with
    | .ref k :: r => match zk_fl y idx with
      | some (ci, sl) => if zm_kd k = ci ∧ k < w.1 ∧ zm_ft ci sl = 2 ∧ zk_has w.2.2.1 k sl = true then (match zm_rf k sl with
        | some q => some (.ref q :: r)
        | none => none) else none
      | none => none
    | _ => none
  | .aaload => match st with
    | .int j :: .ref k :: r => if zm_kd k = 21 ∧ k < w.1 ∧ zm_inb j (zm_ln k) = true then (match zm_rf k j.toNatClampNeg with
      | some q => some (.ref q :: r)
      | none => none) else none
    | _ => none
  | .getstatic idx => if y = 7 ∧ idx = 56 then some (.ref 103 :: st) else none
  | .iaload => match st with
    | .int j :: .ref k :: r => if k = 103 ∧ zm_inb j 3 = true then some (.int (zm_sv 103 j.toNatClampNeg) :: r) else none
    | _ => none
  | .ldc idx => if y = 4 ∧ idx = 28 then some (.ref 110 :: st) else none
  | _ => none
/-- rows of ints, and that they are the ones that the tables say -/
def zk_rows (y idx : Nat) (a b : Int32) (w : zk_w) : Bool := zk_mc.any (fun q => Nat.beq q.1 y && Nat.beq q.2.1 idx) && (decide (zm_kd w.1 = 21) && (decide (a = Int32.ofNat (zm_ln w.1)) && (decide (b = Int32.ofNat (zm_ln (w.1 + 1))) && (zk_lo w && (decide (zm_rfT.getD w.1 [] = (List.range (zm_ln w.1)).map (fun j => some (w.1 + 1 + j))) && (List.range (zm_ln w.1)).all (fun j => decide (zm_kd (w.1 + 1 + j) = 20) && decide (zm_ln (w.1 + 1 + j) = zm_ln (w.1 + 1))))))))
/-- an instruction that makes or writes: the stack and the cells behind it -/
def zk_mk (y : Nat) (i : Instr) (st : List Value) (w : zk_w) : Option (List Value × zk_w) := match i with
  | .new idx => match zk_cl y idx with
    | some (ci, _) => if zm_kd w.1 = ci ∧ zk_lo w = true then some (.ref w.1 :: st, zk_new w 1 (zm_nf ci)) else none
    | none => none
  | .newarray t => match t, st with
    | .int, .int x :: r => if zm_kd w.1 = 20 ∧ x = Int32.ofNat (zm_ln w.1) ∧ zk_lo w = true then some (.ref w.1 :: r, zk_new w 1 (zm_ln w.1)) else none
    | _, _ => none
  | .multianewarray idx n => match n, st with
    | 2, .int b :: .int a :: r => if zk_rows y idx a b w = true then some (.ref w.1 :: r, zk_new w (1 + zm_ln w.1) (zm_ln w.1 + zm_ln w.1 * zm_ln (w.1 + 1))) else none
    | _, _ => none
  | .putfield idx => match st with
    | v :: .ref k :: r => match zk_fl y idx with
      | some (ci, sl) => if zm_kd k = ci ∧ k < w.1 ∧ ci = y then (match zk_put w k sl v with
        | some w2 => some (r, w2)
        | none => none) else none
      | none => none
    | _ => none
  | .iastore => match st with
    | .int x :: .int j :: .ref k :: r => if zm_kd k = 20 ∧ k < w.1 ∧ zm_inb j (zm_ln k) = true then some (r, (w.1, w.2.1, w.2.2.1, (k, j.toNatClampNeg, x) :: w.2.2.2.1, w.2.2.2.2)) else none
    | _ => none
  | _ => none
/-- the constructor of an Object -/
def zk_oi (y : Nat) (i : Instr) (st : List Value) : Option (List Value) := match i with
  | .invokespecial idx => match zk_ml y idx with
    | some (12, _, _) => match st with
      | .ref _ :: r => if zm_cs r = true then some r else none
      | _ => none
    | _ => none
  | _ => none
/-- a constructor of the tables: which, its arguments, the stack below them -/
def zk_cc (y : Nat) (i : Instr) (st : List Value) : Option (Nat × List Value × List Value) := match i with
  | .invokespecial idx => match zk_ml y idx with
    | some (y2, _, _) => if y2 < 12 then (match st.drop (zk_na y2) with
      | .ref k :: r => if zk_na y2 ≤ st.length ∧ zm_cs r = true then some (y2, .ref k :: (st.take (zk_na y2)).reverse, r) else none
      | _ => none) else none
    | none => none
  | _ => none
def zk_rt (i : Instr) (st : List Value) : Bool := match i, st with
  | .return_, [] => true
  | _, _ => false
def zk_is (call : Nat → List Value → zk_w → Option zk_w) (y : Nat) (ls : zm_L) : List (Nat × Instr × Nat) → Nat → List Value → zk_w → Option zk_w
  | [], _, _, _ => none
  | q :: r, pc, st, w => if q.1 = pc then (match zk_rt q.2.1 st with
    | true => some w
    | false => match zk_ld y ls q.2.1 st w with
      | some st2 => zk_is call y ls r (pc + q.2.2) st2 w
      | none => match zk_mk y q.2.1 st w with
        | some (st2, w2) => zk_is call y ls r (pc + q.2.2) st2 w2
        | none => match zk_oi y q.2.1 st with
          | some st2 => zk_is call y ls r (pc + q.2.2) st2 w
          | none => match zk_cc y q.2.1 st with
            | some (y2, as2, st2) => match call y2 as2 w with
              | some w2 => zk_is call y ls r (pc + q.2.2) st2 w2
              | none => none
            | none => none) else none
def zk_call : Nat → Nat → List Value → zk_w → Option zk_w
  | 0, _, _, _ => none
  | d + 1, y, as, w => if y < 12 ∧ (zm_flat as).length ≤ zk_mx y then zk_is (zk_call d) y (zm_ent as (zk_mx y)) (zk_tb y) 0 [] w else none
/-- how long an instruction is -/
def zk_il (i : Instr) : Nat := match i with
  | .newarray _ => 2
  | .multianewarray _ _ => 4
  | i => zm_il i
theorem zk_ilA : (List.range 12).all (fun y => (zk_tb y).all (fun q => decide (zk_il q.2.1 = q.2.2) && zm_ltb q)) = true := by decide +kernel
def zk_w0 : zk_w := (0, 0, [], [], [])
/-- the run of both constructors -/
def zk_both : Option zk_w := match zk_call 4 10 [.ref 0] (zk_new zk_w0 1 9) with
  | some w => match zk_call 4 11 [.ref w.1] (zk_new w 1 23) with
    | some w2 => some w2
    | none => none
  | none => none
def zk_good (w : zk_w) : Bool := decide (w.1 = 97) && (Nat.ble w.2.1 6000 && ((List.range 97).all (fun k => (List.range 30).all (fun j => (Nat.beq (zm_rf k j).isSome.toNat 0 || (Nat.ble 20 (zm_kd k) || zk_has w.2.2.1 k j)) && ((!(Nat.beq (zm_ft (zm_kd k) j) 3) || zk_has w.2.2.1 k j)))))) 
theorem zk_bothA : (match zk_both with
  | some w => zk_good w
  | none => false) = true := by decide +kernel

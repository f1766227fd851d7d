/-! The abstract machine: a memory of numbers, cells by their numbers, one step an instruction, a run that returns. -/
/-- ints by cell and place; longs by cell and place; which String the reader holds; the script's length and ints -/
abbrev zm_M : Type := (Nat → Nat → Int32) × (Nat → Nat → Int64) × Nat × Nat × (Nat → Int32)
abbrev zm_L : Type := List (Option Value)
def zm_sr (M : zm_M) (k : Nat) (f : Nat → Int32) : zm_M := (fun a => if a = k then f else M.1 a, M.2)
def zm_si (M : zm_M) (k j : Nat) (v : Int32) : zm_M := zm_sr M k (upd (M.1 k) j v)
def zm_sl (M : zm_M) (k j : Nat) (v : Int64) : zm_M := (M.1, fun a b => if a = k ∧ b = j then v else M.2.1 a b, M.2.2)
def zm_ss (M : zm_M) (q : Nat) : zm_M := (M.1, M.2.1, q, M.2.2.2)
def zm_inb (i : Int32) (n : Nat) : Bool := decide (0 ≤ i.toInt) && decide (i.toInt < n)
def zm_cmp (c : Jvm.ClassFile.Cond) (x y : Int32) : Bool := match c with
  | .eq => decide (x = y)
  | .ne => decide (¬ x = y)
  | .lt => decide (x < y)
  | .ge => decide (y ≤ x)
  | .gt => decide (y < x)
  | .le => decide (x ≤ y)
def zm_tg (pc : Nat) (off : Int) : Option Nat := if 0 ≤ (pc : Int) + off then some ((pc : Int) + off).toNat else none
def zm_get (ls : zm_L) (i : Nat) : Option Value := ls.getD i none
def zm_kill (ls : zm_L) (i : Nat) : zm_L := match i with
  | 0 => ls
  | j + 1 => match ls.getD j none with
    | some v => bif Nat.beq v.category 2 then ls.set j none else ls
    | none => ls
def zm_set1 (ls : zm_L) (i : Nat) (v : Value) : zm_L := (zm_kill ls i).set i (some v)
def zm_set2 (ls : zm_L) (i : Nat) (v : Value) : zm_L := ((zm_kill ls i).set i (some v)).set (i + 1) none
def zm_fv (M : zm_M) (k ci sl : Nat) : Option Value := match zm_ft ci sl with
  | 0 => some (.int (M.1 k sl))
  | 4 => some (.int (M.1 k sl))
  | 1 => some (.long (M.2.1 k sl))
  | 2 => (zm_rf k sl).map .ref
  | 3 => some (.ref M.2.2.1)
  | _ => none
def zm_gf (y idx k : Nat) (M : zm_M) : Option Value := match zm_kd k with
  | 13 => if zm_yc y = 13 then (if idx = 9 then some (.ref (k + 2)) else if idx = 15 then some (.int 0) else none) else none
  | kk => match zm_fl (zm_yc y) idx with
    | some (ci, sl, _) => if kk = ci then zm_fv M k ci sl else none
    | none => none
def zm_pv (M : zm_M) (k ci sl : Nat) (v : Value) : Option zm_M := match zm_ft ci sl, v with
  | 0, .int x => some (zm_si M k sl x)
  | 4, .int x => if x = 0 ∨ x = 1 then some (zm_si M k sl x) else none
  | 1, .long x => some (zm_sl M k sl x)
  | 3, .ref q => if q = 110 ∨ q = 111 then some (zm_ss M q) else none
  | _, _ => none
def zm_pf (y idx k : Nat) (v : Value) (M : zm_M) : Option zm_M := match zm_fl (zm_yc y) idx with
  | some (ci, sl, _) => if zm_kd k = ci then zm_pv M k ci sl v else none
  | none => none
def zm_ald (y k : Nat) (i : Int32) (M : zm_M) : Option Value := match zm_kd k with
  | 20 => if zm_inb i (zm_ln k) = true then some (.int (M.1 k i.toNatClampNeg)) else none
  | 30 => if zm_inb i (zm_ln k) = true then some (.int (zm_sv k i.toNatClampNeg)) else none
  | 40 => if y = 0 ∧ zm_inb i M.2.2.2.1 = true then some (.int (M.2.2.2.2 i.toNatClampNeg)) else none
  | _ => none
def zm_alen (y k : Nat) (M : zm_M) : Option Int32 := match zm_kd k with
  | 20 => some (Int32.ofNat (zm_ln k))
  | 21 => some (Int32.ofNat (zm_ln k))
  | 30 => some (Int32.ofNat (zm_ln k))
  | 32 => some (Int32.ofNat (zm_ln k))
  | 40 => if y = 0 then some (Int32.ofNat M.2.2.2.1) else none
  | _ => none
def zm_ts (x : Int) : Int → List Int → Int → Int
  | _, [], d => d
  | lo, o :: l, d => if x = lo then o else zm_ts x (lo + 1) l d
def zm_cs (st : List Value) : Bool := Nat.ble ((st.map fun v => v.category).sum) 8
/-- a constant, as it is written -/
def zm_lit (n : Int) : Int32 := match n with
  | .ofNat k => Int32.ofNat k
  | .negSucc k => - Int32.ofNat (k + 1)
def zm_b2 (st : List Value) (f : Int32 → Int32 → Int32) : Option (List Value) := match st with
  | .int y :: .int x :: r => some (.int (f x y) :: r)
  | _ => none
def zm_b3 (st : List Value) (f : Int64 → Int64 → Int64) : Option (List Value) := match st with
  | .long y :: .long x :: r => some (.long (f x y) :: r)
  | _ => none
def zm_u1 (st : List Value) (f : Int32 → Value) : Option (List Value) := match st with
  | .int x :: r => some (f x :: r)
  | _ => none
/-- an instruction that neither moves locals nor memory nor jumps: the stack behind it -/
def zm_ss1 (y : Nat) (i : Instr) (ls : zm_L) (st : List Value) (M : zm_M) : Option (List Value) := match i with
  | .iconst n => some (.int (zm_lit n) :: st)
  | .bipush n => some (.int (zm_lit n) :: st)
  | .sipush n => some (.int (zm_lit n) :: st)
  | .lconst n => some (.long (Int64.ofNat (n : Nat)) :: st)
  | .iload_n k => match zm_get ls (k : Nat) with
    | some (.int x) => some (.int x :: st)
    | _ => none
  | .iload k => match zm_get ls k with
    | some (.int x) => some (.int x :: st)
    | _ => none
  | .aload_n k => match zm_get ls (k : Nat) with
    | some (.ref x) => some (.ref x :: st)
    | _ => none
  | .aload k => match zm_get ls k with
    | some (.ref x) => some (.ref x :: st)
    | _ => none
  | .lload_n k => match zm_get ls (k : Nat) with
    | some (.long x) => some (.long x :: st)
    | _ => none
  | .lload k => match zm_get ls k with
    | some (.long x) => some (.long x :: st)
    | _ => none
  | .iadd => zm_b2 st (fun x y => x + y)
  | .isub => zm_b2 st (fun x y => x - y)
  | .imul => zm_b2 st (fun x y => x * y)
  | .iand => zm_b2 st (fun x y => x &&& y)
  | .ior => zm_b2 st (fun x y => x ||| y)
  | .ixor => zm_b2 st (fun x y => x ^^^ y)
  | .ishl => zm_b2 st (fun x y => x <<< (y &&& 31))
  | .ishr => zm_b2 st (fun x y => x >>> (y &&& 31))
  | .iushr => zm_b2 st (fun x y => (x.toUInt32 >>> (y.toUInt32 &&& Int32.toUInt32 31)).toInt32)
  | .idiv => match st with
    | .int y :: .int x :: r => if y = 0 then none else some (.int (x / y) :: r)
    | _ => none
  | .irem => match st with
    | .int y :: .int x :: r => if y = 0 then none else some (.int (x - x / y * y) :: r)
    | _ => none
  | .ineg => zm_u1 st (fun x => .int (-x))
  | .i2l => zm_u1 st (fun x => .long x.toInt64)
  | .i2b => zm_u1 st (fun x => .int x.toInt8.toInt32)
  | .i2s => zm_u1 st (fun x => .int x.toInt16.toInt32)
  | .i2c => zm_u1 st (fun x => .int (x.toUInt32 % 65536).toInt32)
  | .l2i => match st with
    | .long x :: r => some (.int x.toInt32 :: r)
    | _ => none
  | .ladd => zm_b3 st (fun x y => x + y)
  | .lmul => zm_b3 st (fun x y => x * y)
  | .land => zm_b3 st (fun x y => x &&& y)
  | .lor => zm_b3 st (fun x y => x ||| y)
  | .ldiv => match st with
    | .long y :: .long x :: r => if y = 0 then none else some (.long (x / y) :: r)
    | _ => none
  | .lrem => match st with
    | .long y :: .long x :: r => if y = 0 then none else some (.long (x - x / y * y) :: r)
    | _ => none
  | .lshl => match st with
    | .int y :: .long x :: r => some (.long (x <<< (y.toInt64 &&& 63)) :: r)
    | _ => none
  | .lshr => match st with
    | .int y :: .long x :: r => some (.long (x >>> (y.toInt64 &&& 63)) :: r)
    | _ => none
  | .lushr => match st with
    | .int y :: .long x :: r => some (.long (x.toUInt64 >>> (y.toInt64.toUInt64 &&& Int64.toUInt64 63)).toInt64 :: r)
    | _ => none
  | .lcmp => match st with
    | .long y :: .long x :: r => some (.int (lg_cmp x y) :: r)
    | _ => none
  | .dup => match st with
    | .int x :: r => some (.int x :: .int x :: r)
    | .ref x :: r => some (.ref x :: .ref x :: r)
    | _ => none
  | .dup2 => match st with
    | .int x :: .ref a :: r => some (.int x :: .ref a :: .int x :: .ref a :: r)
    | _ => none
  | .pop => match st with
    | .int _ :: r => some r
    | _ => none
  | .getfield idx => match st with
    | .ref k :: r => match zm_gf y idx k M with
      | some v => some (v :: r)
      | none => none
    | _ => none
  | .getstatic idx => match zm_gs (zm_yc y) idx with
    | some (t, _, _) => if t = 9 then some (.int 1 :: st) else some (.ref (100 + t) :: st)
    | none => none
  | .ldc idx => match zm_ld (zm_yc y) idx with
    | some (v, _) => some (.int v :: st)
    | none => if zm_yc y = 10 ∧ idx = 209 then some (.ref 110 :: st) else if zm_yc y = 10 ∧ idx = 211 then some (.ref 111 :: st) else none
  | .ldc_w idx => match zm_ld (zm_yc y) idx with
    | some (v, _) => some (.int v :: st)
    | none => none
  | .ldc2_w idx => match zm_l2 (zm_yc y) idx with
    | some (v, _) => some (.long v :: st)
    | none => none
  | .iaload => match st with
    | .int j :: .ref k :: r => match zm_ald y k j M with
      | some v => some (v :: r)
      | none => none
    | _ => none
  | .baload => match st with
    | .int j :: .ref k :: r => match zm_kd k with
      | 32 => if zm_inb j (zm_ln k) = true then some (.int (zm_sb k j.toNatClampNeg) :: r) else none
      | _ => none
    | _ => none
  | .aaload => match st with
    | .int j :: .ref k :: r => match zm_kd k with
      | 21 => if zm_inb j (zm_ln k) = true then (match zm_rf k j.toNatClampNeg with
        | some a => some (.ref a :: r)
        | none => none) else none
      | _ => none
    | _ => none
  | .arraylength => match st with
    | .ref k :: r => match zm_alen y k M with
      | some v => some (.int v :: r)
      | none => none
    | _ => none
  | _ => none
/-- how long an instruction is (switches: 0, any length) -/
def zm_il (i : Instr) : Nat := match i with
  | .bipush _ | .iload _ | .aload _ | .lload _ | .istore _ | .astore _ | .lstore _ | .ldc _ => 2
  | .sipush _ | .ifCond _ _ | .if_icmp _ _ | .goto _ | .iinc _ _ | .getfield _ | .putfield _ | .getstatic _ | .invokevirtual _ | .invokestatic _ | .ldc_w _ | .ldc2_w _ | .invokespecial _ | .new _ => 3
  | .tableswitch _ _ _ _ | .lookupswitch _ _ => 0
  | _ => 1
def zm_lb (e : Nat × Instr × Nat) : Bool := match zm_il e.2.1 with
  | 0 => true
  | n => Nat.beq e.2.2 n
/-- stores: the locals behind it, and the stack -/
def zm_sst (i : Instr) (ls : zm_L) (st : List Value) : Option (zm_L × List Value) := match i with
  | .istore_n k => match st with
    | .int x :: r => if (k : Nat) < ls.length then some (zm_set1 ls (k : Nat) (.int x), r) else none
    | _ => none
  | .istore k => match st with
    | .int x :: r => if k < ls.length then some (zm_set1 ls k (.int x), r) else none
    | _ => none
  | .astore_n k => match st with
    | .ref x :: r => if (k : Nat) < ls.length then some (zm_set1 ls (k : Nat) (.ref x), r) else none
    | _ => none
  | .astore k => match st with
    | .ref x :: r => if k < ls.length then some (zm_set1 ls k (.ref x), r) else none
    | _ => none
  | .lstore_n k => match st with
    | .long x :: r => if (k : Nat) + 1 < ls.length then some (zm_set2 ls (k : Nat) (.long x), r) else none
    | _ => none
  | .lstore k => match st with
    | .long x :: r => if k + 1 < ls.length then some (zm_set2 ls k (.long x), r) else none
    | _ => none
  | .iinc k n => match zm_get ls k with
    | some (.int x) => some (zm_set1 ls k (.int (x + zm_lit n)), st)
    | _ => none
  | _ => none
/-- jumps: the place that is next, and the stack -/
def zm_sj (pc : Nat) (i : Instr) (st : List Value) : Option (Nat × List Value) := match i with
  | .ifCond c off => match st, zm_tg pc off with
    | .int x :: r, some t => some (if zm_cmp c x 0 = true then t else pc + 3, r)
    | _, _ => none
  | .if_icmp c off => match st, zm_tg pc off with
    | .int y :: .int x :: r, some t => some (if zm_cmp c x y = true then t else pc + 3, r)
    | _, _ => none
  | .goto off => match zm_tg pc off with
    | some t => some (t, st)
    | none => none
  | .tableswitch dflt lo hi offs => match st with
    | .int x :: r => if hi = lo + (offs.toList.length : Int) - 1 then (match zm_tg pc (zm_ts x.toInt lo offs.toList dflt) with
      | some t => some (t, r)
      | none => none) else none
    | _ => none
  | .lookupswitch dflt ps => match st with
    | .int x :: r => if (ps.toList.zip (ps.toList.drop 1)).all (fun (a, next) => a.1 < next.1) = true then (match zm_tg pc (Op.lookupswitch.offset ps.toList dflt x.toInt) with
      | some t => some (t, r)
      | none => none) else none
    | _ => none
  | _ => none
/-- what writes the memory, and the JDK's three: the stack and the memory behind it -/
def zm_sm (d y : Nat) (i : Instr) (st : List Value) (M : zm_M) : Option (List Value × zm_M) := match i with
  | .putfield idx => match st with
    | v :: .ref k :: r => match zm_pf y idx k v M with
      | some M' => some (r, M')
      | none => none
    | _ => none
  | .iastore => match st with
    | .int x :: .int j :: .ref k :: r => match zm_kd k with
      | 20 => if zm_inb j (zm_ln k) = true then some (r, zm_si M k j.toNatClampNeg x) else none
      | _ => none
    | _ => none
  | .invokestatic idx => if d = 0 then none else match zm_bi (zm_yc y) idx, st with
    | some (1, _), .int y :: .int x :: r => if zm_cs r = true then some (.int (if y < x then y else x) :: r, M) else none
    | some (2, _), .int y :: .int x :: r => if zm_cs r = true then some (.int (if x < y then y else x) :: r, M) else none
    | some (3, _), .int n :: .int dp :: .ref b :: .int sp :: .ref a :: r =>
      if zm_cs r = true ∧ zm_kd a = 20 ∧ zm_kd b = 20 ∧ ¬ sp < 0 ∧ ¬ dp < 0 ∧ ¬ n < 0 ∧ sp.toNatClampNeg + n.toNatClampNeg ≤ zm_ln a ∧ dp.toNatClampNeg + n.toNatClampNeg ≤ zm_ln b then
        some (r, zm_sr M b (va_cpy (M.1 a) (M.1 b) sp.toNatClampNeg dp.toNatClampNeg n.toNatClampNeg)) else none
    | _, _ => none
  | _ => none
/-- a return: the answer -/
def zm_ret (y : Nat) (i : Instr) (st : List Value) : Option (Option Value) := match i, st with
  | .ireturn, [.int x] => match zm_rk y with
    | 1 => some (some (.int x))
    | 2 => if x = 0 ∨ x = 1 then some (some (.int x)) else none
    | 5 => if x = 0 then some (some (.int x)) else none
    | _ => none
  | .lreturn, [.long x] => match zm_rk y with
    | 3 => some (some (.long x))
    | _ => none
  | .areturn, [.ref k] => match zm_rk y with
    | 4 => some (some (.ref k))
    | _ => none
  | .return_, [] => match zm_rk y with
    | 0 => some none
    | _ => none
  | _, _ => none
/-- a call of a method of the tables: which, its arguments, the stack below them -/
def zm_cal (y : Nat) (i : Instr) (st : List Value) : Option (Nat × List Value × List Value) := match i with
  | .invokestatic idx => match zm_ml (zm_yc y) idx with
    | some (y', _, _) => if zm_is y' = true ∧ zm_na y' ≤ st.length ∧ zm_cs (st.drop (zm_na y')) = true then some (y', (st.take (zm_na y')).reverse, st.drop (zm_na y')) else none
    | none => none
  | .invokevirtual idx => match zm_ml (zm_yc y) idx with
    | some (y', nest, _) => match st.drop (zm_na y') with
      | .ref k :: r => if zm_is y' = false ∧ nest = false ∧ zm_na y' ≤ st.length ∧ zm_cs r = true ∧ zm_kd k = zm_yc y' then some (y', .ref k :: (st.take (zm_na y')).reverse, r) else none
      | _ => none
    | none => none
  | _ => none
def zm_len (as : List Value) : Nat := (as.map fun v => v.category).sum
def zm_flat (as : List Value) : zm_L := as.flatMap fun v => bif Nat.beq v.category 2 then [some v, none] else [some v]
/-- the locals at a method's entry -/
def zm_ent (as : List Value) (n : Nat) : zm_L := zm_flat as ++ List.replicate (n - (zm_flat as).length) none
def zm_run : Nat → Nat → Nat → Nat → zm_L → List Value → zm_M → Option (Option Value × zm_M)
  | 0, _, _, _, _, _, _ => none
  | n + 1, d, y, pc, ls, st, M => match zm_at y pc with
    | none => none
    | some (i, len) => match zm_ret y i st with
      | some v => some (v, M)
      | none => match zm_ss1 y i ls st M with
        | some st' => zm_run n d y (pc + len) ls st' M
        | none => match zm_sst i ls st with
          | some (ls', st') => zm_run n d y (pc + len) ls' st' M
          | none => match zm_sj pc i st with
            | some (pc', st') => zm_run n d y pc' ls st' M
            | none => match zm_sm d y i st M with
              | some (st', M') => zm_run n d y (pc + len) ls st' M'
              | none => match d, zm_cal y i st with
                | d' + 1, some (y', as, r) => if (zm_flat as).length ≤ zm_mx y' then (match zm_run n d' y' 0 (zm_ent as (zm_mx y')) [] M with
                  | some (v, M') => zm_run n (d' + 1) y (pc + 3) ls (v.toList ++ r) M'
                  | none => none) else none
                | _, _ => none

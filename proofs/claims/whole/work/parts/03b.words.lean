/-- places of words: String.value, String.coder; static min, max, arraycopy; initialized Math, System; code of min, max; native arraycopy -/
def zm_wp : List Nat := [1489, 1488, 599, 616, 585, 88, 86, 600, 617, 586]
def zm_wq (n : Nat) : Jvm.Cond := match n with
  | 0 => .fieldLink "java/lang/String" 9 "java/lang/String" "value" "[B"
  | 1 => .fieldLink "java/lang/String" 15 "java/lang/String" "coder" "B"
  | 2 => .static Lib.Math.min.name
  | 3 => .static Lib.Math.max.name
  | 4 => .static arraycopyName
  | 5 => .initialized "java/lang/Math"
  | 6 => .initialized "java/lang/System"
  | 7 => .code Lib.Math.min.name Lib.Math.min.code 2 (some .int)
  | 8 => .code Lib.Math.max.name Lib.Math.max.code 2 (some .int)
  | _ => .native arraycopyName
theorem zm_wqA : (List.range 10).all (fun n => zm_w (zm_wp.getD n 0) (zm_wq n)) = true := by decide +kernel
theorem zm_wq_in {n : Nat} (h : n < 10) : zm_wq n ∈ zm_TT := zm_inT (List.all_eq_true.mp zm_wqA n (List.mem_range.mpr h))


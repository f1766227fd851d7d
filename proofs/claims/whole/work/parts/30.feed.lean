/-! Pairs of calls: feed. -/
theorem zmap_tape4 : zmap 4 = some (18, 2) := rfl
/-- one byte more on the tape -/
def fd1 (s : Nat → Int32) (x : Int32) : Nat → Int32 := upd (upd s (396 + (s 4).toNatClampNeg) x) 4 (s 4 + 1)
theorem RT.fd1 {M : zm_M} {b : Nat} {s : Nat → Int32} {x : Int32} (h : RT M b s) (h4 : 0 ≤ s 4 ∧ s 4 < 60) : RT (zm_si (zm_si M (19 + b) (s 4).toNatClampNeg x) (18 + b) 2 (s 4 + 1)) b (fd1 s x) := by
  have n1 : ¬ s 4 < 0 := by grind
  have hq := zcl_lt n1 h4.2 (n := 60) (by decide)
  exact (h.set (v := x) (zmap_tape hq) (by decide) (by omega)).set zmap_tape4 (by decide) (by omega)

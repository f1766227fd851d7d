/-! Segments by the number of a sheet. -/
theorem zu_judge_p85 {d : Nat} {M : zm_M} {Q : Int32 → zm_M → Prop} {k : Nat} {v3 : Int32} (hk : k < 4) (h : (v3 < (M.1 2 0) → zm_inb (zon k) 4 = true ∧ ((v3 < (M.1 75 (zon k).toNatClampNeg) → zm_inb (zon k) 4 = true ∧ zm_rf 76 (zon k).toNatClampNeg = some (77 + k) ∧ (zm_inb v3 24 = true ∧ (zm_inb v3 12 = true ∧ (((M.1 (77 + k) v3.toNatClampNeg) = (M.1 63 v3.toNatClampNeg) → zt d 91 85 [some (.ref 0), some (.int (zon k)), none, some (.int (v3 + 1))] [] M (zPi Q)) ∧ (¬ (M.1 (77 + k) v3.toNatClampNeg) = (M.1 63 v3.toNatClampNeg) → Q v3 M))))) ∧ (¬ v3 < (M.1 75 (zon k).toNatClampNeg) → Q v3 M))) ∧ (¬ v3 < (M.1 2 0) → Q v3 M)) : zt (d) 91 85 [some (.ref 0), some (.int (zon k)), none, some (.int v3)] [] M (zPi Q) := by
  rcases (show k = 0 ∨ k = 1 ∨ k = 2 ∨ k = 3 by omega) with rfl | rfl | rfl | rfl
  · exact zg_X10_judge_p85_q0 h
  · exact zg_X10_judge_p85_q1 h
  · exact zg_X10_judge_p85_q2 h
  · exact zg_X10_judge_p85_q3 h
theorem zu_put {d : Nat} {M : zm_M} {Q : Int32 → zm_M → Prop} {k : Nat} {b0 : Int32} {c0 : Int32} (hk : k < 4) (h : ((zon k) < (0 : Int32) → Q ((-1000000000) - 1) (zm_si M 81 1 ((M.1 81 1) + 1))) ∧ (¬ (zon k) < (0 : Int32) → ((zon k) < (4 : Int32) → zm_inb (zon k) 4 = true ∧ (((M.1 74 (zon k).toNatClampNeg) = (0 : Int32) → Q ((-1000000000) - 2) (zm_si M 81 2 ((M.1 81 2) + 1))) ∧ (¬ (M.1 74 (zon k).toNatClampNeg) = (0 : Int32) → (b0 < (0 : Int32) → Q ((-1000000000) - 1) (zm_si M 81 1 ((M.1 81 1) + 1))) ∧ (¬ b0 < (0 : Int32) → zm_inb (zon k) 4 = true ∧ ((b0 < (M.1 75 (zon k).toNatClampNeg) → zm_inb (zon k) 4 = true ∧ zm_rf 76 (zon k).toNatClampNeg = some (77 + k) ∧ (zm_inb (zon k) 4 = true ∧ (((M.1 74 (zon k).toNatClampNeg) = (8 : Int32) → zm_inb b0 24 = true ∧ (Q 1 (zm_si M (77 + k) b0.toNatClampNeg c0.toInt8.toInt32))) ∧ (¬ (M.1 74 (zon k).toNatClampNeg) = (8 : Int32) → ((M.1 74 (zon k).toNatClampNeg) = (16 : Int32) → zm_inb b0 24 = true ∧ (Q 1 (zm_si M (77 + k) b0.toNatClampNeg c0.toInt16.toInt32))) ∧ (¬ (M.1 74 (zon k).toNatClampNeg) = (16 : Int32) → zm_inb b0 24 = true ∧ (Q 1 (zm_si M (77 + k) b0.toNatClampNeg c0))))))) ∧ (¬ b0 < (M.1 75 (zon k).toNatClampNeg) → Q ((-1000000000) - 1) (zm_si M 81 1 ((M.1 81 1) + 1)))))))) ∧ (¬ (zon k) < (4 : Int32) → Q ((-1000000000) - 1) (zm_si M 81 1 ((M.1 81 1) + 1))))) : zi (d + 1) 88 [.ref 0, .int (zon k), .int b0, .int c0] M Q := by
  rcases (show k = 0 ∨ k = 1 ∨ k = 2 ∨ k = 3 by omega) with rfl | rfl | rfl | rfl
  · exact zg_X10_put_q0 h
  · exact zg_X10_put_q1 h
  · exact zg_X10_put_q2 h
  · exact zg_X10_put_q3 h
theorem zu_lay {d : Nat} {M : zm_M} {Q : zm_M → Prop} {k : Nat} {b0 : Int32} {c0 : Int32} (hk : k < 4) (h : zm_inb (zon k) 4 = true ∧ (zm_inb (zon k) 4 = true ∧ (zm_inb (zon k) 4 = true ∧ zm_rf 76 (zon k).toNatClampNeg = some (77 + k) ∧ (zv d 213 [.ref (77 + k), .int 0] (zm_si (zm_si M 74 (zon k).toNatClampNeg b0) 75 (zon k).toNatClampNeg c0) (fun M4 => Q M4))))) : zv (d + 1) 34 [.ref 73, .int (zon k), .int b0, .int c0] M Q := by
  rcases (show k = 0 ∨ k = 1 ∨ k = 2 ∨ k = 3 by omega) with rfl | rfl | rfl | rfl
  · exact zg_X5_lay_q0 h
  · exact zg_X5_lay_q1 h
  · exact zg_X5_lay_q2 h
  · exact zg_X5_lay_q3 h
theorem zu_debts {d : Nat} {M : zm_M} {Q : Int32 → zm_M → Prop} {k : Nat} (hk : k < 4) (h : ((zon k) < (0 : Int32) → Q ((-1000000000) - 1) (zm_si M 81 1 ((M.1 81 1) + 1))) ∧ (¬ (zon k) < (0 : Int32) → ((zon k) < (4 : Int32) → zm_inb (zon k) 4 = true ∧ (((M.1 74 (zon k).toNatClampNeg) = (0 : Int32) → Q ((-1000000000) - 2) (zm_si M 81 2 ((M.1 81 2) + 1))) ∧ (¬ (M.1 74 (zon k).toNatClampNeg) = (0 : Int32) → zm_inb (zon k) 4 = true ∧ zm_rf 76 (zon k).toNatClampNeg = some (77 + k) ∧ (zt (d + 1) 90 49 [some (.ref 0), some (.int (zon k)), some (.ref (77 + k)), some (.int 0), some (.int 0)] [] M (zPi Q))))) ∧ (¬ (zon k) < (4 : Int32) → Q ((-1000000000) - 1) (zm_si M 81 1 ((M.1 81 1) + 1))))) : zi (d + 1) 90 [.ref 0, .int (zon k)] M Q := by
  rcases (show k = 0 ∨ k = 1 ∨ k = 2 ∨ k = 3 by omega) with rfl | rfl | rfl | rfl
  · exact zg_X10_debts_q0 h
  · exact zg_X10_debts_q1 h
  · exact zg_X10_debts_q2 h
  · exact zg_X10_debts_q3 h
theorem zu_fill {d k : Nat} {M : zm_M} {Q : zm_M → Prop} {a0 : Int32} (hk : k < 4) (h : zt d 213 5 [some (.ref (77 + k)), some (.int a0), some (.int 0), some (.int 24)] [] M (zPv Q)) : zv (d) 213 [.ref (77 + k), .int a0] M Q := by
  rcases (show k = 0 ∨ k = 1 ∨ k = 2 ∨ k = 3 by omega) with rfl | rfl | rfl | rfl
  · exact zg_J7_fill_r77 h
  · exact zg_J7_fill_r78 h
  · exact zg_J7_fill_r79 h
  · exact zg_J7_fill_r80 h
theorem zu_fill_p5 {d k : Nat} {M : zm_M} {Q : zm_M → Prop} {v1 : Int32} {v2 : Int32} {v3 : Int32} (hk : k < 4) (h : (v2 < v3 → zm_inb v2 24 = true ∧ (zt d 213 5 [some (.ref (77 + k)), some (.int v1), some (.int (v2 + 1)), some (.int v3)] [] (zm_si M (77 + k) v2.toNatClampNeg v1) (zPv Q))) ∧ (¬ v2 < v3 → Q M)) : zt (d) 213 5 [some (.ref (77 + k)), some (.int v1), some (.int v2), some (.int v3)] [] M (zPv Q) := by
  rcases (show k = 0 ∨ k = 1 ∨ k = 2 ∨ k = 3 by omega) with rfl | rfl | rfl | rfl
  · exact zg_J7_fill_r77_p5 h
  · exact zg_J7_fill_r78_p5 h
  · exact zg_J7_fill_r79_p5 h
  · exact zg_J7_fill_r80_p5 h
theorem zu_debts_p49 {d k : Nat} {M : zm_M} {Q : Int32 → zm_M → Prop} {v1 : Int32} {v3 : Int32} {v4 : Int32} (hk : k < 4) (h : zm_inb v1 4 = true ∧ (((v4 + 2) < (M.1 75 v1.toNatClampNeg) → ((M.1 12 0) < (10 : Int32) → zm_inb v4 24 = true ∧ (zm_inb (v4 + 1) 24 = true ∧ (zm_inb (v4 + 2) 24 = true ∧ (((M.1 (77 + k) v4.toNatClampNeg) < (0 : Int32) → Q v3 M) ∧ (¬ (M.1 (77 + k) v4.toNatClampNeg) < (0 : Int32) → ((M.1 (77 + k) v4.toNatClampNeg) < (M.1 2 0) → ((M.1 (77 + k) ((v4 + 1).toNatClampNeg)) < (1 : Int32) → Q v3 M) ∧ (¬ (M.1 (77 + k) ((v4 + 1).toNatClampNeg)) < (1 : Int32) → ((99999 : Int32) < (M.1 (77 + k) ((v4 + 1).toNatClampNeg)) → Q v3 M) ∧ (¬ (99999 : Int32) < (M.1 (77 + k) ((v4 + 1).toNatClampNeg)) → ((M.1 (77 + k) ((v4 + 2).toNatClampNeg)) < (0 : Int32) → Q v3 M) ∧ (¬ (M.1 (77 + k) ((v4 + 2).toNatClampNeg)) < (0 : Int32) → ((9999 : Int32) < (M.1 (77 + k) ((v4 + 2).toNatClampNeg)) → Q v3 M) ∧ (¬ (9999 : Int32) < (M.1 (77 + k) ((v4 + 2).toNatClampNeg)) → zm_inb v4 24 = true ∧ (zm_inb (v4 + 1) 24 = true ∧ (zm_inb (v4 + 2) 24 = true ∧ (zi (d + 1) 3 [.ref 12, .int (M.1 (77 + k) v4.toNatClampNeg), .int (M.1 (77 + k) ((v4 + 1).toNatClampNeg)), .int (M.1 (77 + k) ((v4 + 2).toNatClampNeg))] M (fun x2 M1 => zt (d + 2) 90 49 [some (.ref 0), some (.int v1), some (.ref (77 + k)), some (.int (v3 + 1)), some (.int (v4 + 3))] [] M1 (zPi Q)))))))))) ∧ (¬ (M.1 (77 + k) v4.toNatClampNeg) < (M.1 2 0) → Q v3 M)))))) ∧ (¬ (M.1 12 0) < (10 : Int32) → Q v3 M)) ∧ (¬ (v4 + 2) < (M.1 75 v1.toNatClampNeg) → Q v3 M))) : zt (d + 2) 90 49 [some (.ref 0), some (.int v1), some (.ref (77 + k)), some (.int v3), some (.int v4)] [] M (zPi Q) := by
  rcases (show k = 0 ∨ k = 1 ∨ k = 2 ∨ k = 3 by omega) with rfl | rfl | rfl | rfl
  · exact zg_X10_debts_p49_s77 h
  · exact zg_X10_debts_p49_s78 h
  · exact zg_X10_debts_p49_s79 h
  · exact zg_X10_debts_p49_s80 h
theorem zu_move {d : Nat} {M : zm_M} {Q : Int32 → zm_M → Prop} {k : Nat} {b0 : Int32} {l : Nat} {e0 : Int32} {f0 : Int32} (hk : k < 4) (hl : l < 4) (h : ((zon k) < (0 : Int32) → Q ((-1000000000) - 1) (zm_si M 81 1 ((M.1 81 1) + 1))) ∧ (¬ (zon k) < (0 : Int32) → ((zon k) < (4 : Int32) → ((zon l) < (0 : Int32) → Q ((-1000000000) - 1) (zm_si M 81 1 ((M.1 81 1) + 1))) ∧ (¬ (zon l) < (0 : Int32) → ((zon l) < (4 : Int32) → zm_inb (zon k) 4 = true ∧ (((M.1 74 (zon k).toNatClampNeg) = (0 : Int32) → Q ((-1000000000) - 2) (zm_si M 81 2 ((M.1 81 2) + 1))) ∧ (¬ (M.1 74 (zon k).toNatClampNeg) = (0 : Int32) → zm_inb (zon l) 4 = true ∧ (((M.1 74 (zon l).toNatClampNeg) = (0 : Int32) → Q ((-1000000000) - 2) (zm_si M 81 2 ((M.1 81 2) + 1))) ∧ (¬ (M.1 74 (zon l).toNatClampNeg) = (0 : Int32) → zm_inb (zon k) 4 = true ∧ (zm_inb (zon l) 4 = true ∧ (((M.1 74 (zon k).toNatClampNeg) = (M.1 74 (zon l).toNatClampNeg) → (f0 < (0 : Int32) → Q ((-1000000000) - 1) (zm_si M 81 1 ((M.1 81 1) + 1))) ∧ (¬ f0 < (0 : Int32) → (b0 < (0 : Int32) → Q ((-1000000000) - 1) (zm_si M 81 1 ((M.1 81 1) + 1))) ∧ (¬ b0 < (0 : Int32) → zm_inb (zon k) 4 = true ∧ (((M.1 75 (zon k).toNatClampNeg) < f0 → Q ((-1000000000) - 1) (zm_si M 81 1 ((M.1 81 1) + 1))) ∧ (¬ (M.1 75 (zon k).toNatClampNeg) < f0 → zm_inb (zon k) 4 = true ∧ ((((M.1 75 (zon k).toNatClampNeg) - f0) < b0 → Q ((-1000000000) - 1) (zm_si M 81 1 ((M.1 81 1) + 1))) ∧ (¬ ((M.1 75 (zon k).toNatClampNeg) - f0) < b0 → (f0 < (0 : Int32) → Q ((-1000000000) - 1) (zm_si M 81 1 ((M.1 81 1) + 1))) ∧ (¬ f0 < (0 : Int32) → (e0 < (0 : Int32) → Q ((-1000000000) - 1) (zm_si M 81 1 ((M.1 81 1) + 1))) ∧ (¬ e0 < (0 : Int32) → zm_inb (zon l) 4 = true ∧ (((M.1 75 (zon l).toNatClampNeg) < f0 → Q ((-1000000000) - 1) (zm_si M 81 1 ((M.1 81 1) + 1))) ∧ (¬ (M.1 75 (zon l).toNatClampNeg) < f0 → zm_inb (zon l) 4 = true ∧ ((((M.1 75 (zon l).toNatClampNeg) - f0) < e0 → Q ((-1000000000) - 1) (zm_si M 81 1 ((M.1 81 1) + 1))) ∧ (¬ ((M.1 75 (zon l).toNatClampNeg) - f0) < e0 → zm_inb (zon k) 4 = true ∧ zm_rf 76 (zon k).toNatClampNeg = some (77 + k) ∧ (zm_inb (zon l) 4 = true ∧ zm_rf 76 (zon l).toNatClampNeg = some (77 + l) ∧ ((¬ b0 < 0 ∧ ¬ e0 < 0 ∧ ¬ f0 < 0 ∧ b0.toNatClampNeg + f0.toNatClampNeg ≤ 24 ∧ e0.toNatClampNeg + f0.toNatClampNeg ≤ 24) ∧ (Q f0 (zm_sr M (77 + l) (va_cpy (M.1 (77 + k)) (M.1 (77 + l)) b0.toNatClampNeg e0.toNatClampNeg f0.toNatClampNeg)))))))))))))))))) ∧ (¬ (M.1 74 (zon k).toNatClampNeg) = (M.1 74 (zon l).toNatClampNeg) → Q ((-1000000000) - 5) (zm_si M 81 5 ((M.1 81 5) + 1)))))))))) ∧ (¬ (zon l) < (4 : Int32) → Q ((-1000000000) - 1) (zm_si M 81 1 ((M.1 81 1) + 1))))) ∧ (¬ (zon k) < (4 : Int32) → Q ((-1000000000) - 1) (zm_si M 81 1 ((M.1 81 1) + 1))))) : zi (d + 1) 89 [.ref 0, .int (zon k), .int b0, .int (zon l), .int e0, .int f0] M Q := by
  rcases (show k = 0 ∨ k = 1 ∨ k = 2 ∨ k = 3 by omega) with rfl | rfl | rfl | rfl <;> rcases (show l = 0 ∨ l = 1 ∨ l = 2 ∨ l = 3 by omega) with rfl | rfl | rfl | rfl
  · exact zg_X10_move_q0_q0 h
  · exact zg_X10_move_q0_q1 h
  · exact zg_X10_move_q0_q2 h
  · exact zg_X10_move_q0_q3 h
  · exact zg_X10_move_q1_q0 h
  · exact zg_X10_move_q1_q1 h
  · exact zg_X10_move_q1_q2 h
  · exact zg_X10_move_q1_q3 h
  · exact zg_X10_move_q2_q0 h
  · exact zg_X10_move_q2_q1 h
  · exact zg_X10_move_q2_q2 h
  · exact zg_X10_move_q2_q3 h
  · exact zg_X10_move_q3_q0 h
  · exact zg_X10_move_q3_q1 h
  · exact zg_X10_move_q3_q2 h
  · exact zg_X10_move_q3_q3 h

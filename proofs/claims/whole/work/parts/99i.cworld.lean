/-! The world at the law's start. -/
def law_st (t : Nat) : Term := .static "FathersPay" (zm_sn.getD t "") "[I"
def law_tm (i : Nat) : Term := if i = 0 then .string "FathersPay" 209 else .string "FathersPay" 211
def law_vt (i : Nat) : Term := .field (law_tm i) "java/lang/String" "value" "[B"
def law_F : List Jvm.Cond := flatC (Jvm.Cond.and given_1 narrow_1)
theorem law_f1 : ∀ t, t < 5 → Jvm.Cond.arrayOf (law_st t) .int ∈ law_F := by decide +kernel
theorem law_f2 : ∀ t, t < 5 → Jvm.Cond.eq (.length (law_st t)) (.int (Int32.ofNat (zm_ln (100 + t)))) ∈ law_F := by decide +kernel
theorem law_f3 : ∀ t, t < 5 → ∀ j, j < zm_ln (100 + t) → Jvm.Cond.eq (.elem (law_st t) (.int (Int32.ofNat j))) (.int (zm_sv (100 + t) j)) ∈ law_F := by decide +kernel
theorem law_f4 : Jvm.Cond.eq (.static "java/lang/String" "COMPACT_STRINGS" "Z") (.int 1) ∈ law_F := by decide +kernel
theorem law_f5 : ∀ i, i < 2 → Jvm.Cond.exactly (law_tm i) "java/lang/String" ∈ law_F ∧ Jvm.Cond.eq (.field (law_tm i) "java/lang/String" "coder" "B") (.int 0) ∈ law_F ∧ Jvm.Cond.arrayOf (law_vt i) .byte ∈ law_F ∧ Jvm.Cond.eq (.length (law_vt i)) (.int (Int32.ofNat ([5, 3].getD i 0))) ∈ law_F := by decide +kernel
theorem law_f6 : ∀ i, i < 2 → ∀ j, j < [5, 3].getD i 0 → Jvm.Cond.eq (.elem (law_vt i) (.int (Int32.ofNat j))) (.int ((zm_sbT.getD i []).getD j 0)) ∈ law_F := by decide +kernel
theorem law_f7 : Jvm.Cond.not (.eq (law_tm 0) (law_tm 1)) ∈ law_F := by decide +kernel
theorem law_f8 : Jvm.Cond.eq (.string "FathersPay$Reader" 28) (law_tm 0) ∈ law_F := by decide +kernel
theorem law_w1 : ∀ t, t < 5 → Jvm.Cond.laysStatic "FathersPay" (zm_sn.getD t "") "[I" ∈ lw_tbl := by decide +kernel
theorem law_w2 : Jvm.Cond.initialized "FathersPay" ∈ lw_tbl ∧ Jvm.Cond.initialized "java/lang/String" ∈ lw_tbl ∧ Jvm.Cond.laysStatic "java/lang/String" "COMPACT_STRINGS" "Z" ∈ lw_tbl := by decide +kernel
theorem law_w3 : Jvm.Cond.stringRef "FathersPay" 209 "cphsm" ∈ lw_tbl ∧ Jvm.Cond.stringRef "FathersPay" 211 "phn" ∈ lw_tbl ∧ Jvm.Cond.stringRef "FathersPay$Reader" 28 "cphsm" ∈ lw_tbl := by decide +kernel
theorem va_eqr {args : Array Value} {s : State} {t u : Term} {a : Nat} (h : (Jvm.Cond.eq t u).before args s = true) (hu : u.eval args s none [] s = some (.ref a)) : t.eval args s none [] s = some (.ref a) := by
  cases hv : t.eval args s none [] s with
  | none => simp [Jvm.Cond.before, Jvm.Cond.holds, Jvm.Cond.value, hv] at h
  | some w =>
    simp only [Jvm.Cond.before, Jvm.Cond.holds, Jvm.Cond.value, hv, hu] at h
    cases w <;> simp_all
theorem law_world {args : Array Value} {s : State} (b : Nat) (hts : ∀ w ∈ lw_tbl, w.before args s = true) (hgv : (Jvm.Cond.and given_1 narrow_1).before args s = true) :
    ∃ (ad : Nat → Nat) (D : va_G) (cI cJ : ClassId), (∀ k, k < 97 → ad k = s.heap.size + k) ∧ ad 120 = b ∧ zk_Cx ad D cI cJ (zk_A s.heap.size) s s.heap ∧ zm_Cx ad D cI cJ (zk_A s.heap.size) s s.heap := by
  have hs : ∀ w ∈ law_F, w.before args s = true := flat_of_before _ hgv
  have hA : ∀ a : Nat, a < s.heap.size → ¬ zk_A s.heap.size a := fun a ha q => absurd (show s.heap.size ≤ a from q) (by omega)
  have hz := zm_hts hts
  have hD : ∀ ci : Nat, ∃ q : ClassId × (Nat → Nat), ci < 12 → u_Kn s (zm_cn ci) (zm_T ci) (zm_nf ci) q.1 q.2 := fun ci => by
    by_cases h : ci < 12
    · obtain ⟨c, iS, hk⟩ := u_known (C := zm_cn ci) (T := zm_T ci) (N := zm_nf ci) (n := zm_nf ci) hz (zm_fd_in h) (hz _ (zk_ps_ok h).1.2.2.2)
      exact ⟨(c, iS), fun _ => hk⟩
    · exact ⟨(0, fun _ => 0), fun q => absurd q h⟩
  obtain ⟨cJcomp, cJ, kJ, j1, j2, j3, j4⟩ := mz_over (hts _ (List.mem_of_getElem? zk_aoA))
  obtain ⟨cI, kI, comp, i1, i2, i3⟩ := Cond.arrayClass_spec (hz _ (zm_inT zk_acA))
  rw [zk_str1] at i1
  have ecI : cJcomp = cI := Option.some.inj (j1.symm.trans i1)
  subst ecI
  have hT : ∀ t : Nat, ∃ a : Nat, t < 5 → va_Z "FathersPay" (zm_sn.getD t "") "[I" (.ref a) (zk_A s.heap.size) s s.heap ∧ va_T .int a (zm_ln (100 + t)) (fun j => .int (zm_sv (100 + t) j)) (zk_A s.heap.size) s s.heap := fun t => by
    by_cases h : t < 5
    · have hN : zm_ln (100 + t) < 2 ^ 31 := by
        have g : ∀ t, t < 5 → zm_ln (100 + t) < 2 ^ 31 := by decide +kernel
        exact g t h
      obtain ⟨a, ha, hT⟩ := va_Tof (tm := law_st t) (ty := .int) (N := zm_ln (100 + t)) (f := fun j => .int (zm_sv (100 + t) j)) (A := zk_A s.heap.size) hN (hs _ (law_f1 t h)) (va_eqt (hs _ (law_f2 t h))) (fun j hj => va_eqt (hs _ (law_f3 t h j hj))) hA
      exact ⟨a, fun _ => ⟨va_Zref (hts _ (law_w1 t h)) (hts _ law_w2.1) ha hA, hT⟩⟩
    · exact ⟨0, fun q => absurd q h⟩
  obtain ⟨adK, adV, hS, hE⟩ := vk_Sof (args := args) (s := s) (N := 2) (tm := law_tm) (len := [5, 3]) (byt := zm_sbT) (A := zk_A s.heap.size) (by decide) (fun i hi => hs _ (law_f5 i hi).1) (fun i hi => hs _ (law_f5 i hi).2.1) (fun i hi => hs _ (law_f5 i hi).2.2.1) (fun i hi => hs _ (law_f5 i hi).2.2.2) (fun i hi j hj => hs _ (law_f6 i hi j hj)) (fun i j hi hj hij => by
    rcases (show (i = 0 ∧ j = 1) ∨ (i = 1 ∧ j = 0) by omega) with ⟨rfl, rfl⟩ | ⟨rfl, rfl⟩
    · exact Or.inl (hs _ law_f7)
    · exact Or.inr (hs _ law_f7)) hA
  obtain ⟨fD, hfD⟩ := Classical.axiomOfChoice hD
  obtain ⟨fT, hfT⟩ := Classical.axiomOfChoice hT
  let ad : Nat → Nat := fun k => if k < 97 then s.heap.size + k else if k < 110 then fT (k - 100) else if k < 112 then adK (k - 110) else if k < 120 then adV (k - 112) else b
  have a1 : ∀ k, k < 97 → ad k = s.heap.size + k := fun k hk => if_pos hk
  have a2 : ∀ t, t < 5 → ad (100 + t) = fT t := fun t ht => by
    show (if 100 + t < 97 then s.heap.size + (100 + t) else if 100 + t < 110 then fT (100 + t - 100) else if 100 + t < 112 then adK (100 + t - 110) else if 100 + t < 120 then adV (100 + t - 112) else b) = fT t
    rw [if_neg (by omega), if_pos (by omega), Nat.add_sub_cancel_left]
  have a3 : ∀ i, i < 2 → ad (110 + i) = adK i := fun t ht => by
    show (if 110 + t < 97 then s.heap.size + (110 + t) else if 110 + t < 110 then fT (110 + t - 100) else if 110 + t < 112 then adK (110 + t - 110) else if 110 + t < 120 then adV (110 + t - 112) else b) = adK t
    rw [if_neg (by omega), if_neg (by omega), if_pos (by omega), Nat.add_sub_cancel_left]
  have a4 : ∀ i, i < 2 → ad (112 + i) = adV i := fun t ht => by
    show (if 112 + t < 97 then s.heap.size + (112 + t) else if 112 + t < 110 then fT (112 + t - 100) else if 112 + t < 112 then adK (112 + t - 110) else if 112 + t < 120 then adV (112 + t - 112) else b) = adV t
    rw [if_neg (by omega), if_neg (by omega), if_neg (by omega), if_pos (by omega), Nat.add_sub_cancel_left]
  have a5 : ad 120 = b := rfl
  have hK : va_K (fun ci => (fD ci).1, fun ci => (fD ci).2) zm_CL [(cJcomp, .int), (cJ, .array .int)] s := by
    refine ⟨fun c q hq => ?_, fun k q hq => ?_⟩
    · by_cases h : c < 12
      · rw [zm_CL_get h] at hq
        cases hq
        exact hfD c h
      · rw [List.getElem?_eq_none (by unfold zm_CL; rw [List.length_map, List.length_range]; omega)] at hq
        cases hq
    · match k, hq with
      | 0, hq =>
        cases hq
        exact ⟨fun n z => ⟨fun k h => (by cases h), kI, i2, comp, i3⟩, by show s.vm.findClass ("[" ++ (FieldType.int).toString) = _; rw [zk_str1]; exact i1⟩
      | 1, hq =>
        cases hq
        exact ⟨fun n z => ⟨fun k h => (by cases h), kJ, j2, cJcomp, j3⟩, by show s.vm.findClass ("[" ++ (FieldType.array FieldType.int).toString) = _; rw [zk_str2]; exact j4⟩
      | k + 2, hq => cases hq
  have hSt : ∀ t, t < 5 → va_Z "FathersPay" (zm_sn.getD t "") "[I" (.ref (ad (100 + t))) (zk_A s.heap.size) s s.heap ∧ va_T .int (ad (100 + t)) (zm_ln (100 + t)) (fun j => .int (zm_sv (100 + t) j)) (zk_A s.heap.size) s s.heap := fun t ht => by
    rw [a2 t ht]
    exact hfT t ht
  have hS2 : vk_S 2 [5, 3] zm_sbT (fun i => ad (110 + i)) (fun i => ad (112 + i)) (zk_A s.heap.size) s s.heap := by
    refine ⟨fun i hi => ?_, fun i j hi hj e => hS.2 i j hi hj (by rw [← a3 i hi, ← a3 j hj]; exact e)⟩
    show va_O _ (ad (110 + i)) _ _ _ ∧ va_OF _ _ _ _ (ad (110 + i)) _ _ _ ∧ va_OF _ _ _ (.ref (ad (112 + i))) (ad (110 + i)) _ _ _ ∧ va_T .byte (ad (112 + i)) _ _ _ _ _
    rw [a3 i hi, a4 i hi]
    exact hS.1 i hi
  have e0 : (Term.string "FathersPay" 209).eval args s none [] s = some (.ref (ad 110)) := by
    rw [show ad 110 = adK 0 from a3 0 (by omega)]
    exact hE 0 (by omega)
  have e1 : (Term.string "FathersPay" 211).eval args s none [] s = some (.ref (ad 111)) := by
    rw [show ad 111 = adK 1 from a3 1 (by omega)]
    exact hE 1 (by omega)
  have e2 : (Term.string "FathersPay$Reader" 28).eval args s none [] s = some (.ref (ad 110)) := va_eqr (hs _ law_f8) e0
  refine ⟨ad, (fun ci => (fD ci).1, fun ci => (fD ci).2), cJcomp, cJ, a1, a5, ⟨⟨hK, kJ, j2, j3⟩, hSt, vk_R.of (hts _ law_w3.2.2) e2, fun q hq => ?_, ?_⟩, ⟨hK, ⟨fun i hi => ?_, fun i j hi hj e => ?_⟩, hSt, ?_, hS2, ⟨vk_R.of (hts _ law_w3.1) e0, vk_R.of (hts _ law_w3.2.1) e1⟩, fun q hq => ?_, fun q hq => ?_⟩⟩
  · exact va_Nw.of rfl (hts _ (List.mem_of_getElem? (of_decide_eq_true (List.all_eq_true.mp zk_nwA q hq))))
  · exact va_Nw.of rfl (hts _ (List.mem_of_getElem? zk_fnA))
  · show s.heap.size ≤ ad i
    rw [a1 i hi]
    omega
  · rw [a1 i hi, a1 j hj] at e
    omega
  · exact va_Zof (hts _ law_w2.2.2) (hts _ law_w2.2.1) (va_eqt (hs _ law_f4)) hA
  · exact va_Nw.of rfl (hts _ (List.mem_of_getElem? (of_decide_eq_true (List.all_eq_true.mp zm_nwmA q hq))))
  · exact va_Nw.of rfl (hts _ (List.mem_of_getElem? (of_decide_eq_true (List.all_eq_true.mp zm_nwfA q hq))))

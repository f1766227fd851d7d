/-! The constructors' steps: what makes cells, what writes. -/
theorem zk_dcA : (List.range 12).all (fun i => (List.range (zm_nf i)).all (fun j => decide ((zm_T i j).1 = zm_cn i))) = true := by decide +kernel
theorem zk_lnA : ∀ k, k < 97 → zm_ln k ≤ 480 := by decide +kernel
theorem zk_cl_ok {o k ci pos : Nat} (ho : o < 13) (h : zk_cl o k = some (ci, pos)) : Jvm.Cond.classLink (zm_cn o) k (zm_cn ci) ∈ zm_TT ∧ ci < 12 := by
  have h1 := zm_tabs zk_clA (by decide) (zm_la_mem h)
  unfold zk_bcl at h1
  simp only [Bool.and_eq_true, decide_eq_true_eq] at h1
  exact ⟨zm_inT h1.1, h1.2⟩
theorem zk_ps_ok {y : Nat} (hy : y < 12) : (Jvm.Cond.code (zk_nm y) (zk_cd y) (zk_mx y) none ∈ zm_TT ∧ Jvm.Cond.initialized (zm_cn y) ∈ zm_TT ∧ Jvm.Cond.instanceMethod (zk_nm y) ∈ zm_TT ∧ Jvm.Cond.instantiable (zm_cn y) (zm_nf y) ∈ zm_TT) ∧ (zk_nm y).cls = zm_cn y ∧ ((zk_nm y).cls ≠ "java/lang/invoke/MethodHandle" ∧ (zk_nm y).cls ≠ "java/lang/invoke/VarHandle") ∧ plainName (zk_nm y).cls = true ∧ (parseMethodDescriptor (zk_nm y).desc).map (fun d => d.parameters.length) = some (zk_na y) ∧ zk_mx y ≤ 3 ∧ (zk_nm y).name = "<init>" := by
  have h1 := List.all_eq_true.mp zk_psA y (List.mem_range.mpr hy)
  unfold zk_bps at h1
  simp only [Bool.and_eq_true, decide_eq_true_eq] at h1
  obtain ⟨h1, h2, h3, h4, h5, h6, h7, h8, h9, h10, h11⟩ := h1
  exact ⟨⟨zm_inT h1, zm_inT h2, zm_inT h3, zm_inT h4⟩, h5, ⟨h6, h7⟩, h8, h9, Nat.le_of_ble_eq_true h10, h11⟩
theorem zk_put_same {w w2 : zk_w} {k j : Nat} {v : Value} (h : zk_put w k j v = some w2) : w2.1 = w.1 ∧ w2.2.1 = w.2.1 := by
  unfold zk_put at h
  split at h
  · cases h
    exact ⟨rfl, rfl⟩
  · split at h
    · cases h
      exact ⟨rfl, rfl⟩
    · cases h
  · cases h
    exact ⟨rfl, rfl⟩
  · split at h
    · cases h
      exact ⟨rfl, rfl⟩
    · cases h
  · split at h
    · cases h
      exact ⟨rfl, rfl⟩
    · cases h
  · cases h
theorem zk_rows_ok {y idx : Nat} {a b : Int32} {w : zk_w} (h : zk_rows y idx a b w = true) : (∃ pos, (y, idx, pos) ∈ zk_mc) ∧ zm_kd w.1 = 21 ∧ a = Int32.ofNat (zm_ln w.1) ∧ b = Int32.ofNat (zm_ln (w.1 + 1)) ∧ zk_lo w = true ∧ zm_rfT.getD w.1 [] = (List.range (zm_ln w.1)).map (fun j => some (w.1 + 1 + j)) ∧ ∀ j, j < zm_ln w.1 → zm_kd (w.1 + 1 + j) = 20 ∧ zm_ln (w.1 + 1 + j) = zm_ln (w.1 + 1) := by
  unfold zk_rows at h
  simp only [Bool.and_eq_true, decide_eq_true_eq] at h
  obtain ⟨h1, h2, h3, h4, h5, h6, h7⟩ := h
  refine ⟨?_, h2, h3, h4, h5, h6, fun j hj => ?_⟩
  · obtain ⟨q, hq, hb⟩ := List.any_eq_true.mp h1
    simp only [Bool.and_eq_true] at hb
    have e1 := Nat.eq_of_beq_eq_true hb.1
    have e2 := Nat.eq_of_beq_eq_true hb.2
    subst e1
    subst e2
    exact ⟨q.2.2, hq⟩
  · have h8 := List.all_eq_true.mp h7 j (List.mem_range.mpr hj)
    simp only [Bool.and_eq_true, decide_eq_true_eq] at h8
    exact h8
theorem zk_mk_le {y : Nat} {i : Instr} {st st2 : List Value} {w w2 : zk_w} (h : zk_mk y i st w = some (st2, w2)) (hw : w.1 ≤ 97) : w.1 ≤ w2.1 ∧ w.2.1 ≤ w2.2.1 ∧ w2.1 ≤ 97 := by
  unfold zk_mk at h
  split at h
  · split at h
    · rename_i ci pos hcl
      split at h
      · rename_i hc
        cases h
        have h12 := (zm_tabs zk_clA (by decide) (zm_la_mem hcl))
        unfold zk_bcl at h12
        simp only [Bool.and_eq_true, decide_eq_true_eq] at h12
        have h97 : w.1 < 97 := zm_kd_lt (Or.inl (by rw [hc.1]; exact h12.2))
        exact ⟨Nat.le_add_right _ _, Nat.le_add_right _ _, h97⟩
      · cases h
    · cases h
  · split at h
    · split at h
      · rename_i hc
        cases h
        have h97 : w.1 < 97 := zm_kd_lt (Or.inr (Or.inl hc.1))
        exact ⟨Nat.le_add_right _ _, Nat.le_add_right _ _, h97⟩
      · cases h
    · cases h
  · split at h
    · split at h
      · rename_i hc
        cases h
        obtain ⟨-, h2, -, -, -, -, h7⟩ := zk_rows_ok hc
        have h97 : w.1 < 97 := zm_kd_lt (Or.inr (Or.inr h2))
        refine ⟨Nat.le_add_right _ _, Nat.le_add_right _ _, ?_⟩
        show w.1 + (1 + zm_ln w.1) ≤ 97
        by_cases e : zm_ln w.1 = 0
        · omega
        · have := zm_kd_lt (Or.inr (Or.inl (h7 (zm_ln w.1 - 1) (by omega)).1))
          omega
      · cases h
    · cases h
  · split at h
    · split at h
      · split at h
        · split at h
          · rename_i w3 hp
            cases h
            obtain ⟨e1, e2⟩ := zk_put_same hp
            omega
          · cases h
        · cases h
      · cases h
    · cases h
  · split at h
    · split at h
      · cases h
        exact ⟨Nat.le_refl _, Nat.le_refl _, hw⟩
      · cases h
    · cases h
  · cases h
theorem zk_def {ad : Nat → Nat} {w : zk_w} {n ci j : Nat} (hci : ci < 12) (hj : j < zm_nf ci) (h : zk_lo w = true) (hn : w.1 ≤ n) : defaultValue (zm_ty ci j) = zk_cv ad w n ci j := by
  obtain ⟨g1, g2, g3⟩ := zk_no h hn
  have hft := zm_fd_ft hci hj
  have hr : zm_ft ci j = 2 → (zm_ty ci j).isReference = true := fun hf => by
    have h1 := List.all_eq_true.mp (List.all_eq_true.mp zk_tyA ci (List.mem_range.mpr hci)) j (List.mem_range.mpr hj)
    rw [hf] at h1
    exact h1
  unfold zk_cv
  rw [g1, g2, g3]
  generalize zm_ty ci j = t at hft hr
  cases t
  case int => rw [show zm_ft ci j = 0 from hft]; rfl
  case long => rw [show zm_ft ci j = 1 from hft]; rfl
  case boolean => rw [show zm_ft ci j = 4 from hft]; rfl
  case object n =>
    have h23 : zm_ft ci j = 3 ∨ zm_ft ci j = 2 := by
      rw [hft]
      split <;> simp_all
    rcases h23 with e | e <;> rw [e] <;> rfl
  case array t => rw [show zm_ft ci j = 2 from hft]; rfl
  all_goals exact absurd (hr hft) (by simp [FieldType.isReference])

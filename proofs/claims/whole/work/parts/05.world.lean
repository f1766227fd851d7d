/-! The world of the abstract memory, and what stays beside it. -/
theorem zm_chk_mi {y : Nat} (h0 : 0 < y) (h : y < zm_N) : zm_bmi y (zm_i y) = true := zm_miA y h0 h
def zm_zc (ad : Nat → Nat) (v : Value) : Value := match v with
  | .ref k => .ref (ad k)
  | w => w
theorem zm_zc_cat {ad : Nat → Nat} {v : Value} : (zm_zc ad v).category = v.category := by cases v <;> rfl
def zm_cv (ad : Nat → Nat) (M : zm_M) (k ci j : Nat) : Value := match zm_ft ci j with
  | 1 => .long (M.2.1 k j)
  | 2 => va_rf ((zm_rf k j).map ad)
  | 3 => .ref (ad M.2.2.1)
  | _ => .int (M.1 k j)
def zm_C (ad : Nat → Nat) (cI cJ : ClassId) (M : zm_M) (k : Nat) : va_E :=
  if zm_kd k = 20 then .inl (cI, zm_ln k, .inl (M.1 k))
  else if zm_kd k = 21 then .inl (cJ, zm_ln k, .inr (.inr (.inr (.inr (fun j => (zm_rf k j).map ad)))))
  else .inr (zm_kd k, (List.range (zm_nf (zm_kd k))).map (zm_cv ad M k (zm_kd k)))
def zm_W (ad : Nat → Nat) (cI cJ : ClassId) (M : zm_M) : va_W := (List.range 97).map (fun k => (ad k, zm_C ad cI cJ M k))
section ZW
variable {ad : Nat → Nat} {cI cJ : ClassId} {M M' : zm_M} {k : Nat}
theorem zm_W_get (h : k < 97) : (zm_W ad cI cJ M)[k]? = some (ad k, zm_C ad cI cJ M k) := by
  unfold zm_W
  rw [List.getElem?_map, List.getElem?_range h]
  rfl
theorem zm_W_lt {q : Nat × va_E} (h : (zm_W ad cI cJ M)[k]? = some q) : k < 97 ∧ q.1 = ad k := by
  by_cases hk : k < 97
  · rw [zm_W_get hk] at h
    cases h
    exact ⟨hk, rfl⟩
  · rw [List.getElem?_eq_none (by unfold zm_W; rw [List.length_map, List.length_range]; omega)] at h
    cases h
theorem zm_W_set {x : va_E} (h : k < 97) (hx : zm_C ad cI cJ M' k = x) (hs : ∀ j, j < 97 → j ≠ k → zm_C ad cI cJ M' j = zm_C ad cI cJ M j) : (zm_W ad cI cJ M).set k (ad k, x) = zm_W ad cI cJ M' := by
  apply List.ext_getElem?
  intro i
  by_cases hi : i < 97
  · by_cases e : i = k
    · subst e
      rw [List.getElem?_set_self (by unfold zm_W; rw [List.length_map, List.length_range]; exact hi), zm_W_get hi, hx]
    · rw [List.getElem?_set_ne (Ne.symm e), zm_W_get hi, zm_W_get hi, hs i hi e]
  · rw [List.getElem?_eq_none (by rw [List.length_set]; unfold zm_W; rw [List.length_map, List.length_range]; omega), List.getElem?_eq_none (by unfold zm_W; rw [List.length_map, List.length_range]; omega)]
theorem zm_D_of {A : Nat → Prop} (hA : ∀ i, i < 97 → A (ad i)) (hi : ∀ i j, i < 97 → j < 97 → ad i = ad j → i = j) : va_D A (zm_W ad cI cJ M) := by
  refine ⟨fun i j p q h1 h2 e => ?_, fun k q h => ?_⟩
  · obtain ⟨a1, b1⟩ := zm_W_lt h1
    obtain ⟨a2, b2⟩ := zm_W_lt h2
    exact hi i j a1 a2 (by rw [← b1, ← b2, e])
  · obtain ⟨a1, b1⟩ := zm_W_lt h
    rw [b1]
    exact hA k a1
theorem zm_kd_lt (h : zm_kd k < 12 ∨ zm_kd k = 20 ∨ zm_kd k = 21) : k < 97 := by
  by_cases hk : k < 121
  · have h1 : ∀ k, k < 121 → (decide (zm_kd k < 12 ∨ zm_kd k = 20 ∨ zm_kd k = 21) && Nat.ble 97 k) = false := by decide +kernel
    have h2 := h1 k hk
    rw [decide_eq_true h, Bool.true_and] at h2
    exact Nat.not_le.mp (fun q => by rw [Nat.ble_eq_true_of_le q] at h2; cases h2)
  · have h1 : zm_kd k = 99 := by
      unfold zm_kd
      rw [List.getD_eq_getElem?_getD, List.getElem?_eq_none (by show 121 ≤ k; omega)]
      rfl
    omega
theorem zm_C_obj (h : zm_kd k < 12) : zm_C ad cI cJ M k = .inr (zm_kd k, (List.range (zm_nf (zm_kd k))).map (zm_cv ad M k (zm_kd k))) := by
  unfold zm_C
  rw [if_neg (by omega), if_neg (by omega)]
theorem zm_C_arr (h : zm_kd k = 20) : zm_C ad cI cJ M k = .inl (cI, zm_ln k, .inl (M.1 k)) := by
  unfold zm_C
  rw [if_pos h]
theorem zm_C_row (h : zm_kd k = 21) : zm_C ad cI cJ M k = .inl (cJ, zm_ln k, .inr (.inr (.inr (.inr (fun j => (zm_rf k j).map ad))))) := by
  unfold zm_C
  rw [if_neg (by omega), if_pos h]
theorem zm_C_congr (h1 : M'.1 k = M.1 k) (h2 : M'.2.1 k = M.2.1 k) (h3 : M'.2.2.1 = M.2.2.1) : zm_C ad cI cJ M' k = zm_C ad cI cJ M k := by
  have hc : zm_cv ad M' k (zm_kd k) = zm_cv ad M k (zm_kd k) := by
    funext j
    unfold zm_cv
    rw [h1, h2, h3]
  unfold zm_C
  rw [h1, hc]
theorem zm_sr_ne {f : Nat → Int32} {j : Nat} (h : j ≠ k) : (zm_sr M k f).1 j = M.1 j := if_neg h
theorem zm_sr_eq {f : Nat → Int32} : (zm_sr M k f).1 k = f := if_pos rfl
theorem zm_W_sr {f : Nat → Int32} (h : zm_kd k = 20) : (zm_W ad cI cJ M).set k (ad k, .inl (cI, zm_ln k, .inl f)) = zm_W ad cI cJ (zm_sr M k f) :=
  zm_W_set (zm_kd_lt (Or.inr (Or.inl h))) (by rw [zm_C_arr h, zm_sr_eq]) (fun j _ hj => zm_C_congr (zm_sr_ne hj) rfl rfl)
theorem zm_map_set {n j : Nat} {f g : Nat → Value} {v : Value} (hv : g j = v) (hg : ∀ i, i ≠ j → g i = f i) : ((List.range n).map f).set j v = (List.range n).map g := by
  apply List.ext_getElem?
  intro i
  by_cases hi : i < n
  · by_cases e : i = j
    · subst e
      rw [List.getElem?_set_self (by rw [List.length_map, List.length_range]; exact hi), List.getElem?_map, List.getElem?_range hi, ← hv]
      rfl
    · rw [List.getElem?_set_ne (Ne.symm e), List.getElem?_map, List.getElem?_map, List.getElem?_range hi]
      show some (f i) = some (g i)
      rw [hg i e]
  · rw [List.getElem?_eq_none (by rw [List.length_set, List.length_map, List.length_range]; omega), List.getElem?_eq_none (by rw [List.length_map, List.length_range]; omega)]
theorem zm_W_si {j : Nat} {x : Int32} (h : zm_kd k < 12) (hf : zm_ft (zm_kd k) j = 0 ∨ zm_ft (zm_kd k) j = 4) : (zm_W ad cI cJ M).set k (ad k, .inr (zm_kd k, ((List.range (zm_nf (zm_kd k))).map (zm_cv ad M k (zm_kd k))).set j (.int x))) = zm_W ad cI cJ (zm_si M k j x) := by
  refine zm_W_set (zm_kd_lt (Or.inl h)) ?_ (fun i _ hi => zm_C_congr (zm_sr_ne hi) rfl rfl)
  rw [zm_C_obj h]
  congr 2
  symm
  apply zm_map_set
  · unfold zm_cv
    rcases hf with hf | hf <;> rw [hf] <;> simp [zm_si, zm_sr, upd]
  · intro i hi
    unfold zm_cv
    simp [zm_si, zm_sr, upd, hi]
theorem zm_W_sl {j : Nat} {x : Int64} (h : zm_kd k < 12) (hf : zm_ft (zm_kd k) j = 1) : (zm_W ad cI cJ M).set k (ad k, .inr (zm_kd k, ((List.range (zm_nf (zm_kd k))).map (zm_cv ad M k (zm_kd k))).set j (.long x))) = zm_W ad cI cJ (zm_sl M k j x) := by
  refine zm_W_set (zm_kd_lt (Or.inl h)) ?_ (fun i _ hi => zm_C_congr rfl (by funext b; simp [zm_sl, hi]) rfl)
  rw [zm_C_obj h]
  congr 2
  symm
  apply zm_map_set
  · unfold zm_cv
    rw [hf]
    simp [zm_sl]
  · intro i hi
    unfold zm_cv
    simp [zm_sl, hi]
theorem zm_ft3 : ∀ k, k < 97 → ∀ j, j < 30 → zm_kd k < 12 → zm_ft (zm_kd k) j = 3 → k = 68 ∧ j = 5 := by decide +kernel
theorem zm_ft3' {j : Nat} (h : k < 97) (hk : zm_kd k < 12) (hf : zm_ft (zm_kd k) j = 3) : k = 68 ∧ j = 5 := by
  by_cases hj : j < 30
  · exact zm_ft3 k h j hj hk hf
  · exfalso
    have h1 : ∀ c, c < 12 → (zm_ftT.getD c []).length ≤ 30 := by decide +kernel
    unfold zm_ft at hf
    rw [List.getD_eq_getElem?_getD, List.getElem?_eq_none (by have := h1 _ hk; omega)] at hf
    cases hf
theorem zm_W_ss {q : Nat} (h : zm_kd k < 12) {j : Nat} (hf : zm_ft (zm_kd k) j = 3) : (zm_W ad cI cJ M).set k (ad k, .inr (zm_kd k, ((List.range (zm_nf (zm_kd k))).map (zm_cv ad M k (zm_kd k))).set j (.ref (ad q)))) = zm_W ad cI cJ (zm_ss M q) := by
  have hk := zm_kd_lt (Or.inl h)
  obtain ⟨e1, e2⟩ := zm_ft3' hk h hf
  refine zm_W_set hk ?_ (fun i hi97 hi => ?_)
  · rw [zm_C_obj h]
    congr 2
    symm
    apply zm_map_set
    · unfold zm_cv
      rw [hf]
      rfl
    · intro i hi
      unfold zm_cv
      by_cases hf3 : zm_ft (zm_kd k) i = 3
      · exact absurd ((zm_ft3' hk h hf3).2.trans e2.symm) hi
      · split <;> first | rfl | (exact absurd (by assumption) hf3)
  · unfold zm_C
    by_cases h20 : zm_kd i = 20
    · rw [if_pos h20, if_pos h20]
      rfl
    · rw [if_neg h20, if_neg h20]
      by_cases h21 : zm_kd i = 21
      · rw [if_pos h21, if_pos h21]
      · rw [if_neg h21, if_neg h21]
        congr 2
        apply List.map_congr_left
        intro b _
        unfold zm_cv
        by_cases hk12 : zm_kd i < 12
        · by_cases hf3 : zm_ft (zm_kd i) b = 3
          · exact absurd ((zm_ft3' hi97 hk12 hf3).1.trans e1.symm) hi
          · split <;> first | rfl | (exact absurd (by assumption) hf3)
        · exfalso
          have h9 : ∀ i, i < 97 → zm_kd i = 20 ∨ zm_kd i = 21 ∨ zm_kd i < 12 := by decide +kernel
          rcases h9 i hi97 with z | z | z <;> contradiction
end ZW
/-- what stays: the loaded classes, the addresses, static tables, Strings, links by nest mates -/
def zm_Cx (ad : Nat → Nat) (D : va_G) (cI cJ : ClassId) (A : Nat → Prop) (U : State) (H : Heap) : Prop :=
  va_K D zm_CL [(cI, .int), (cJ, .array .int)] U
  ∧ ((∀ i, i < 97 → A (ad i)) ∧ (∀ i j, i < 97 → j < 97 → ad i = ad j → i = j))
  ∧ (∀ t, t < 5 → va_Z "FathersPay" (zm_sn.getD t "") "[I" (.ref (ad (100 + t))) A U H ∧ va_T .int (ad (100 + t)) (zm_ln (100 + t)) (fun j => .int (zm_sv (100 + t) j)) A U H)
  ∧ va_Z "java/lang/String" "COMPACT_STRINGS" "Z" (.int 1) A U H
  ∧ vk_S 2 [5, 3] zm_sbT (fun i => ad (110 + i)) (fun i => ad (112 + i)) A U H
  ∧ (vk_R "FathersPay" 209 "cphsm" (ad 110) U ∧ vk_R "FathersPay" 211 "phn" (ad 111) U)
  ∧ ((∀ q ∈ zm_nwm, va_Nw (.methodLinkNest (zm_cn q.1) q.2.1 (zm_nm q.2.2.1) "FathersPay") U) ∧ ∀ q ∈ zm_nwf, va_Nw (.fieldLinkNest (zm_cn q.1) q.2.1 "FathersPay" (zm_sn.getD q.2.2.1 "") "[I" "FathersPay") U)
section ZC
variable {ad : Nat → Nat} {D : va_G} {cI cJ : ClassId} {A B : Nat → Prop} {u U : State} {H H1 : Heap}
theorem zm_Cx.same (hv : u.vm = U.vm) (h : zm_Cx ad D cI cJ A u H) : zm_Cx ad D cI cJ A U H := by
  have ha : u.vm.Alike U.vm := hv ▸ Vm.Alike.refl u.vm
  obtain ⟨h1, h2, h3, h4, h5, ⟨h6, h7⟩, h8, h9⟩ := h
  exact ⟨h1.moved ha, h2, fun t ht => ⟨(h3 t ht).1.moved ha, (h3 t ht).2.moved ha⟩, h4.moved ha, h5.moved ha, ⟨h6.same hv.symm, h7.same hv.symm⟩, fun q hq => va_Nw.same rfl hv (h8 q hq), fun q hq => va_Nw.same rfl hv (h9 q hq)⟩
theorem zm_Cx.warm (hW : u.WarmedH U.vm) (h : zm_Cx ad D cI cJ A u H) : zm_Cx ad D cI cJ A U H := by
  have ha : u.vm.Alike U.vm := hW.alike
  obtain ⟨h1, h2, h3, h4, h5, ⟨h6, h7⟩, h8, h9⟩ := h
  exact ⟨h1.moved ha, h2, fun t ht => ⟨(h3 t ht).1.moved ha, (h3 t ht).2.moved ha⟩, h4.moved ha, h5.moved ha, ⟨h6.warm hW, h7.warm hW⟩, fun q hq => va_Nw.warmM hW (h8 q hq), fun q hq => va_Nw.warmF hW (h9 q hq)⟩
theorem zm_Cx.kept (hq : ∀ a : Nat, a < H.size → ¬ A a → H1[a]? = H[a]?) (h : zm_Cx ad D cI cJ A U H) : zm_Cx ad D cI cJ A U H1 := by
  obtain ⟨h1, h2, h3, h4, h5, h6, h8⟩ := h
  exact ⟨h1, h2, fun t ht => ⟨(h3 t ht).1.kept hq, (h3 t ht).2.kept hq⟩, h4.kept hq, h5.kept hq, h6, h8⟩
theorem zm_Cx.narrow (hAB : ∀ q, B q → A q) (hB : ∀ i, i < 97 → B (ad i)) (h : zm_Cx ad D cI cJ A U H) : zm_Cx ad D cI cJ B U H := by
  obtain ⟨h1, h2, h3, h4, h5, h6, h8⟩ := h
  exact ⟨h1, ⟨hB, h2.2⟩, fun t ht => ⟨(h3 t ht).1.narrow hAB, (h3 t ht).2.narrow hAB⟩, h4.narrow hAB, h5.narrow hAB, h6, h8⟩
theorem zm_Cx.toD {M : zm_M} (h : zm_Cx ad D cI cJ A U H) : va_D A (zm_W ad cI cJ M) := zm_D_of h.2.1.1 h.2.1.2
end ZC
/-- the addresses of the world -/
def zm_Ad (ad : Nat → Nat) : Nat → Prop := fun q => ∃ k, k < 97 ∧ q = ad k
/-! locals -/
def zm_Lh (ad : Nat → Nat) (lsA : Array Slot) (n : Nat) (ls : zm_L) : Prop := ls.length = n ∧ lsA.size = n ∧ lv_wf lsA ∧ ∀ (i : Nat) (v : Value), ls[i]? = some (some v) → lsA[i]? = some (.val (zm_zc ad v))
def zm_al (ad : Nat → Nat) (ls : zm_L) : List (Nat × Value) := (List.range ls.length).filterMap (fun j => (ls.getD j none).map (fun v => (j, zm_zc ad v)))
section ZL
variable {ad : Nat → Nat} {lsA ls' : Array Slot} {n i : Nat} {ls : zm_L} {v : Value}
theorem zm_gd (h : zm_get ls i = some v) : ls[i]? = some (some v) := by
  unfold zm_get at h
  rw [List.getD_eq_getElem?_getD] at h
  cases hc : ls[i]? with
  | none => rw [hc] at h; cases h
  | some w => rw [hc] at h; exact congrArg some h
theorem zm_gdl (h : ls[i]? = some (some v)) : ls.getD i none = some v := by rw [List.getD_eq_getElem?_getD, h]; rfl
theorem zm_al_mem (h : ls[i]? = some (some v)) : (i, zm_zc ad v) ∈ zm_al ad ls := by
  have hl : i < ls.length := (List.getElem?_eq_some_iff.mp h).1
  refine List.mem_filterMap.mpr ⟨i, List.mem_range.mpr hl, ?_⟩
  rw [zm_gdl h]
  rfl
theorem zm_al_of {q : Nat × Value} (h : q ∈ zm_al ad ls) : ∃ w, ls[q.1]? = some (some w) ∧ q.2 = zm_zc ad w := by
  obtain ⟨j, hj, h⟩ := List.mem_filterMap.mp h
  cases hc : ls.getD j none with
  | none => rw [hc] at h; cases h
  | some w =>
    rw [hc] at h
    cases h
    exact ⟨w, zm_gd hc, rfl⟩
theorem zm_Lh.has (h : zm_Lh ad lsA n ls) : lv_has lsA n (zm_al ad ls) := by
  refine ⟨h.2.1, h.2.2.1, fun q hq => ?_⟩
  obtain ⟨w, h1, h2⟩ := zm_al_of hq
  rw [h2]
  exact h.2.2.2 _ _ h1
theorem zm_kill_len : (zm_kill ls i).length = ls.length := by
  unfold zm_kill
  split
  · rfl
  · split
    · cases Nat.beq _ 2
      · rfl
      · exact List.length_set
    · rfl
theorem zm_kill_of {j : Nat} {w : Value} (h : (zm_kill ls i)[j]? = some (some w)) : ls[j]? = some (some w) ∧ ¬ (j + 1 = i ∧ w.category = 2) := by
  unfold zm_kill at h
  split at h
  · exact ⟨h, fun q => by omega⟩
  · rename_i i0
    split at h
    · rename_i x0 hx0
      cases hb : Nat.beq x0.category 2 with
      | true =>
        rw [hb] at h
        have h : (ls.set i0 none)[j]? = some (some w) := h
        by_cases e : j = i0
        · subst e
          by_cases hl : j < ls.length
          · rw [List.getElem?_set_self hl] at h
            cases h
          · rw [List.getElem?_eq_none (by rw [List.length_set]; omega)] at h
            cases h
        · rw [List.getElem?_set_ne (Ne.symm e)] at h
          exact ⟨h, fun q => e (by omega)⟩
      | false =>
        rw [hb] at h
        have h : ls[j]? = some (some w) := h
        refine ⟨h, fun q => ?_⟩
        have e : j = i0 := by omega
        subst e
        have h2 : ls.getD j none = some w := zm_gdl h
        rw [h2] at hx0
        cases hx0
        rw [q.2] at hb
        cases hb
    · rename_i hx0
      refine ⟨h, fun q => ?_⟩
      have e : j = i0 := by omega
      subst e
      rw [zm_gdl h] at hx0
      cases hx0
theorem zm_Lh.st1 (hl : ls.length = n) (hi : i < n) (hc : v.category = 1) (h : lv_has ls' n ((i, zm_zc ad v) :: (zm_al ad ls).filter (fun q => !(q.1 == i) && !(q.1 + 1 == i && q.2.category == 2)))) : zm_Lh ad ls' n (zm_set1 ls i v) := by
  refine ⟨by unfold zm_set1; rw [List.length_set, zm_kill_len, hl], h.1, h.2.1, fun j w hj => ?_⟩
  unfold zm_set1 at hj
  by_cases e : j = i
  · subst e
    rw [List.getElem?_set_self (by rw [zm_kill_len, hl]; exact hi)] at hj
    cases hj
    exact h.2.2 _ List.mem_cons_self
  · rw [List.getElem?_set_ne (Ne.symm e)] at hj
    obtain ⟨h1, h2⟩ := zm_kill_of hj
    refine h.2.2 (j, zm_zc ad w) (List.mem_cons_of_mem _ (List.mem_filter.mpr ⟨zm_al_mem h1, ?_⟩))
    simp only [Bool.and_eq_true, Bool.not_eq_true', beq_eq_false_iff_ne, ne_eq, Bool.and_eq_false_iff, zm_zc_cat]
    refine ⟨e, ?_⟩
    by_cases q : j + 1 = i
    · exact Or.inr (fun z => h2 ⟨q, z⟩)
    · exact Or.inl q
theorem zm_Lh.st2 (hl : ls.length = n) (hi : i + 1 < n) (h : lv_has ls' n ((i, zm_zc ad v) :: (zm_al ad ls).filter (fun q => !(q.1 == i) && (!(q.1 == i + 1) && !(q.1 + 1 == i && q.2.category == 2))))) : zm_Lh ad ls' n (zm_set2 ls i v) := by
  refine ⟨by unfold zm_set2; rw [List.length_set, List.length_set, zm_kill_len, hl], h.1, h.2.1, fun j w hj => ?_⟩
  unfold zm_set2 at hj
  by_cases e1 : j = i + 1
  · subst e1
    rw [List.getElem?_set_self (by rw [List.length_set, zm_kill_len, hl]; exact hi)] at hj
    cases hj
  · rw [List.getElem?_set_ne (Ne.symm e1)] at hj
    by_cases e : j = i
    · subst e
      rw [List.getElem?_set_self (by rw [zm_kill_len, hl]; omega)] at hj
      cases hj
      exact h.2.2 _ List.mem_cons_self
    · rw [List.getElem?_set_ne (Ne.symm e)] at hj
      obtain ⟨h1, h2⟩ := zm_kill_of hj
      refine h.2.2 (j, zm_zc ad w) (List.mem_cons_of_mem _ (List.mem_filter.mpr ⟨zm_al_mem h1, ?_⟩))
      simp only [Bool.and_eq_true, Bool.not_eq_true', beq_eq_false_iff_ne, ne_eq, Bool.and_eq_false_iff, zm_zc_cat]
      refine ⟨e, e1, ?_⟩
      by_cases q : j + 1 = i
      · exact Or.inr (fun z => h2 ⟨q, z⟩)
      · exact Or.inl q
def zm_so (ad : Nat → Nat) (o : Option Value) : Slot := match o with
  | some v => .val (zm_zc ad v)
  | none => .second
theorem zm_flat_sl (as : List Value) : lg_sl (as.map (zm_zc ad)) = (zm_flat as).map (zm_so ad) := by
  induction as with
  | nil => rfl
  | cons v t ih =>
    unfold lg_sl zm_flat at ih ⊢
    rw [List.map_cons, List.flatMap_cons, List.flatMap_cons, List.map_append, ih]
    congr 1
    rw [zm_zc_cat]
    by_cases h : v.category = 2
    · rw [if_pos h, h]
      rfl
    · rw [if_neg h]
      have : Nat.beq v.category 2 = false := by
        cases hb : Nat.beq v.category 2 with
        | true => exact absurd (Nat.eq_of_beq_eq_true hb) h
        | false => rfl
      rw [this]
      rfl
theorem zm_Lh.ent {as : List Value} (h : (zm_flat as).length ≤ n) : zm_Lh ad ((lg_sl (as.map (zm_zc ad)) ++ List.replicate (n - (lg_sl (as.map (zm_zc ad))).length) Slot.unset).toArray) n (zm_ent as n) := by
  have e := zm_flat_sl (ad := ad) as
  have hle : (lg_sl (as.map (zm_zc ad))).length ≤ n := by rw [e, List.length_map]; exact h
  have hl := lv_entry (as.map (zm_zc ad)) hle
  refine ⟨by unfold zm_ent; rw [List.length_append, List.length_replicate]; omega, hl.1, hl.2.1, fun i v hv => ?_⟩
  unfold zm_ent at hv
  by_cases hi : i < (zm_flat as).length
  · rw [List.getElem?_append_left hi] at hv
    rw [List.getElem?_toArray, List.getElem?_append_left (by rw [e, List.length_map]; exact hi), e, List.getElem?_map, hv]
    rfl
  · rw [List.getElem?_append_right (by omega)] at hv
    have h1 := List.eq_of_mem_replicate (List.mem_of_getElem? hv)
    cases h1
end ZL

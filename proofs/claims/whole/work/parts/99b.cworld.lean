/-! The constructors' world. -/
def zk_cv (ad : Nat → Nat) (w : zk_w) (k ci j : Nat) : Value := match zm_ft ci j with
  | 1 => .long (zk_lv w.2.2.2.2 k j)
  | 2 => if zk_has w.2.2.1 k j = true then va_rf ((zm_rf k j).map ad) else .null
  | 3 => if zk_has w.2.2.1 k j = true then .ref (ad 110) else .null
  | _ => .int (zk_iv w.2.2.2.1 k j)
def zk_C (ad : Nat → Nat) (cI cJ : ClassId) (w : zk_w) (k : Nat) : va_E :=
  if zm_kd k = 20 then .inl (cI, zm_ln k, .inl (zk_iv w.2.2.2.1 k))
  else if zm_kd k = 21 then .inl (cJ, zm_ln k, .inr (.inr (.inr (.inr (fun j => (zm_rf k j).map ad)))))
  else .inr (zm_kd k, (List.range (zm_nf (zm_kd k))).map (zk_cv ad w k (zm_kd k)))
def zk_W (ad : Nat → Nat) (cI cJ : ClassId) (w : zk_w) : va_W := (List.range w.1).map (fun k => (ad k, zk_C ad cI cJ w k))
section ZKW
variable {ad : Nat → Nat} {cI cJ : ClassId} {w w2 : zk_w} {k : Nat}
theorem zk_W_get (h : k < w.1) : (zk_W ad cI cJ w)[k]? = some (ad k, zk_C ad cI cJ w k) := by
  unfold zk_W
  rw [List.getElem?_map, List.getElem?_range h]
  rfl
theorem zk_W_lt {q : Nat × va_E} (h : (zk_W ad cI cJ w)[k]? = some q) : k < w.1 ∧ q.1 = ad k := by
  by_cases hk : k < w.1
  · rw [zk_W_get hk] at h
    cases h
    exact ⟨hk, rfl⟩
  · rw [List.getElem?_eq_none (by unfold zk_W; rw [List.length_map, List.length_range]; omega)] at h
    cases h
theorem zk_W_set {x : va_E} (h : k < w.1) (hn : w2.1 = w.1) (hx : zk_C ad cI cJ w2 k = x) (hs : ∀ j, j ≠ k → zk_C ad cI cJ w2 j = zk_C ad cI cJ w j) : (zk_W ad cI cJ w).set k (ad k, x) = zk_W ad cI cJ w2 := by
  apply List.ext_getElem?
  intro i
  by_cases hi : i < w.1
  · by_cases e : i = k
    · subst e
      rw [List.getElem?_set_self (by unfold zk_W; rw [List.length_map, List.length_range]; exact hi), zk_W_get (by omega), hx]
    · rw [List.getElem?_set_ne (Ne.symm e), zk_W_get hi, zk_W_get (by omega), hs i e]
  · rw [List.getElem?_eq_none (by rw [List.length_set]; unfold zk_W; rw [List.length_map, List.length_range]; omega), List.getElem?_eq_none (by unfold zk_W; rw [List.length_map, List.length_range]; omega)]
theorem zk_W_app (hn : w2.1 = w.1 + 1) (hs : ∀ j, j < w.1 → zk_C ad cI cJ w2 j = zk_C ad cI cJ w j) : zk_W ad cI cJ w ++ [(ad w.1, zk_C ad cI cJ w2 w.1)] = zk_W ad cI cJ w2 := by
  unfold zk_W
  rw [hn, List.range_succ, List.map_append]
  congr 1
  apply List.map_congr_left
  intro j hj
  rw [hs j (List.mem_range.mp hj)]
theorem zk_C_obj (h : zm_kd k < 12) : zk_C ad cI cJ w k = .inr (zm_kd k, (List.range (zm_nf (zm_kd k))).map (zk_cv ad w k (zm_kd k))) := by
  unfold zk_C
  rw [if_neg (by omega), if_neg (by omega)]
theorem zk_C_arr (h : zm_kd k = 20) : zk_C ad cI cJ w k = .inl (cI, zm_ln k, .inl (zk_iv w.2.2.2.1 k)) := by
  unfold zk_C
  rw [if_pos h]
theorem zk_C_row (h : zm_kd k = 21) : zk_C ad cI cJ w k = .inl (cJ, zm_ln k, .inr (.inr (.inr (.inr (fun j => (zm_rf k j).map ad))))) := by
  unfold zk_C
  rw [if_neg (by omega), if_pos h]
theorem zk_C_cg (h1 : zk_iv w2.2.2.2.1 k = zk_iv w.2.2.2.1 k) (h2 : zk_lv w2.2.2.2.2 k = zk_lv w.2.2.2.2 k) (h3 : zk_has w2.2.2.1 k = zk_has w.2.2.1 k) : zk_C ad cI cJ w2 k = zk_C ad cI cJ w k := by
  have hc : zk_cv ad w2 k (zm_kd k) = zk_cv ad w k (zm_kd k) := by
    funext j
    unfold zk_cv
    rw [h1, h2, h3]
  unfold zk_C
  rw [h1, hc]
theorem zk_C_new {n t : Nat} : zk_C ad cI cJ (zk_new w n t) k = zk_C ad cI cJ w k := rfl
/-- where nothing was written -/
theorem zk_no (h : zk_lo w = true) (hk : w.1 ≤ k) : (∀ j, zk_iv w.2.2.2.1 k j = 0) ∧ (∀ j, zk_lv w.2.2.2.2 k j = 0) ∧ ∀ j, zk_has w.2.2.1 k j = false := by
  unfold zk_lo at h
  simp only [Bool.and_eq_true, List.all_eq_true] at h
  obtain ⟨h1, h2, h3⟩ := h
  have g1 : ∀ (l : List (Nat × Nat × Int32)), (∀ q, q ∈ l → Nat.ble (q.1 + 1) w.1 = true) → ∀ j, zk_iv l k j = 0 := by
    intro l
    induction l with
    | nil => intro _ j; rfl
    | cons q r ih =>
      intro hl j
      have := Nat.le_of_ble_eq_true (hl q List.mem_cons_self)
      unfold zk_iv
      rw [if_neg (by omega)]
      exact ih (fun q hq => hl q (List.mem_cons_of_mem _ hq)) j
  have g2 : ∀ (l : List (Nat × Nat × Int64)), (∀ q, q ∈ l → Nat.ble (q.1 + 1) w.1 = true) → ∀ j, zk_lv l k j = 0 := by
    intro l
    induction l with
    | nil => intro _ j; rfl
    | cons q r ih =>
      intro hl j
      have := Nat.le_of_ble_eq_true (hl q List.mem_cons_self)
      unfold zk_lv
      rw [if_neg (by omega)]
      exact ih (fun q hq => hl q (List.mem_cons_of_mem _ hq)) j
  have g3 : ∀ (l : List (Nat × Nat)), (∀ q, q ∈ l → Nat.ble (q.1 + 1) w.1 = true) → ∀ j, zk_has l k j = false := by
    intro l
    induction l with
    | nil => intro _ j; rfl
    | cons q r ih =>
      intro hl j
      have := Nat.le_of_ble_eq_true (hl q List.mem_cons_self)
      unfold zk_has
      rw [if_neg (by omega)]
      exact ih (fun q hq => hl q (List.mem_cons_of_mem _ hq)) j
  exact ⟨g1 _ h2, g2 _ h3, g3 _ h1⟩
end ZKW
/-- the heap from b0 on is ours -/
def zk_A (b0 : Nat) : Nat → Prop := fun q => b0 ≤ q
/-- what stays -/
def zk_Cx (ad : Nat → Nat) (D : va_G) (cI cJ : ClassId) (A : Nat → Prop) (U : State) (H : Heap) : Prop :=
  (va_K D zm_CL [(cI, .int), (cJ, .array .int)] U ∧ mz_JA cI cJ U)
  ∧ (∀ t, t < 5 → va_Z "FathersPay" (zm_sn.getD t "") "[I" (.ref (ad (100 + t))) A U H ∧ va_T .int (ad (100 + t)) (zm_ln (100 + t)) (fun j => .int (zm_sv (100 + t) j)) A U H)
  ∧ vk_R "FathersPay$Reader" 28 "cphsm" (ad 110) U
  ∧ ((∀ q ∈ zk_nw, va_Nw (.methodLinkNest (zm_cn q.1) q.2.1 (zk_nm q.2.2.1) "FathersPay") U) ∧ va_Nw (.fieldLinkNest "FathersPay$Town" 56 "FathersPay" "MOST_LAW" "[I" "FathersPay") U)
section ZKC
variable {ad : Nat → Nat} {D : va_G} {cI cJ : ClassId} {A : Nat → Prop} {u U : State} {H H1 : Heap}
theorem zk_Cx.same (hv : u.vm = U.vm) (h : zk_Cx ad D cI cJ A u H) : zk_Cx ad D cI cJ A U H := by
  have ha : u.vm.Alike U.vm := hv ▸ Vm.Alike.refl u.vm
  obtain ⟨⟨h1, h2⟩, h3, h4, h5, h6⟩ := h
  exact ⟨⟨h1.moved ha, h2.moved ha⟩, fun t ht => ⟨(h3 t ht).1.moved ha, (h3 t ht).2.moved ha⟩, h4.same hv.symm, fun q hq => va_Nw.same rfl hv (h5 q hq), va_Nw.same rfl hv h6⟩
theorem zk_Cx.warm (hW : u.WarmedH U.vm) (h : zk_Cx ad D cI cJ A u H) : zk_Cx ad D cI cJ A U H := by
  have ha : u.vm.Alike U.vm := hW.alike
  obtain ⟨⟨h1, h2⟩, h3, h4, h5, h6⟩ := h
  exact ⟨⟨h1.moved ha, h2.moved ha⟩, fun t ht => ⟨(h3 t ht).1.moved ha, (h3 t ht).2.moved ha⟩, h4.warm hW, fun q hq => va_Nw.warmM hW (h5 q hq), va_Nw.warmF hW h6⟩
theorem zk_Cx.kept (hq : ∀ a : Nat, a < H.size → ¬ A a → H1[a]? = H[a]?) (h : zk_Cx ad D cI cJ A U H) : zk_Cx ad D cI cJ A U H1 := by
  obtain ⟨h1, h3, h4, h5⟩ := h
  exact ⟨h1, fun t ht => ⟨(h3 t ht).1.kept hq, (h3 t ht).2.kept hq⟩, h4, h5⟩
end ZKC
section ZKD
variable {ad : Nat → Nat} {cI cJ : ClassId} {w w2 : zk_w} {b0 : Nat}
theorem zk_D (had : ∀ k, k < 97 → ad k = b0 + k) (hw : w.1 ≤ 97) : va_D (zk_A b0) (zk_W ad cI cJ w) := by
  refine ⟨fun i j p q h1 h2 e => ?_, fun k q h => ?_⟩
  · obtain ⟨a1, b1⟩ := zk_W_lt h1
    obtain ⟨a2, b2⟩ := zk_W_lt h2
    rw [b1, b2, had i (by omega), had j (by omega)] at e
    omega
  · obtain ⟨a1, b1⟩ := zk_W_lt h
    show b0 ≤ q.1
    rw [b1, had k (by omega)]
    omega
/-- the one place that is free -/
theorem zk_fresh {q : Nat} {x : va_E} (had : ∀ k, k < 97 → ad k = b0 + k) (hw : w.1 < 97) (hD : va_D (zk_A b0) (zk_W ad cI cJ w ++ [(q, x)])) (hq : q < b0 + w.1 + 1) : q = ad w.1 := by
  have hl : (zk_W ad cI cJ w).length = w.1 := by unfold zk_W; rw [List.length_map, List.length_range]
  have g : (zk_W ad cI cJ w ++ [(q, x)])[w.1]? = some (q, x) := by
    rw [List.getElem?_append_right (by omega), hl, Nat.sub_self]
    rfl
  have h1 : b0 ≤ q := hD.2 w.1 (q, x) g
  rw [had _ hw]
  by_cases e : q = b0 + w.1
  · exact e
  · exfalso
    have g2 : (zk_W ad cI cJ w ++ [(q, x)])[q - b0]? = some (ad (q - b0), zk_C ad cI cJ w (q - b0)) := by
      rw [List.getElem?_append_left (by omega)]
      exact zk_W_get (by omega)
    have := hD.1 (q - b0) w.1 _ _ g2 g (by show ad (q - b0) = q; rw [had _ (by omega)]; omega)
    omega
theorem zk_below {D : va_G} {H : Heap} (had : ∀ k, k < 97 → ad k = b0 + k) (hw : w.1 ≤ 97) (hP : va_P D zm_CL (zk_W ad cI cJ w) H) (hb : b0 ≤ H.size) : b0 + w.1 ≤ H.size := by
  by_cases e : w.1 = 0
  · omega
  · have h1 := (hP (w.1 - 1) _ (zk_W_get (by omega))).lt
    have h2 : ad (w.1 - 1) = b0 + (w.1 - 1) := had _ (by omega)
    have h3 : ad (w.1 - 1) < H.size := h1
    omega
end ZKD
section ZKS
variable {p : Program} {l : Launch} {e : Env} {R : Room} {s : State} {m : MethodId} {args : Array Value} {below : List Frame} {meth : Method} {c : Code} {H : Heap} {locs : List Loc} {cells slots : Nat} {Q : State → Prop} {g : JFrame}
/-- how large the heap is at most -/
theorem W.size (h : H.size ≤ s.heap.size + cells → W p l e R s m args below meth c H locs cells slots Q g) : W p l e R s m args below meth c H locs cells slots Q g := fun T hT X => h (by rw [← hT]; exact X.heapSize) T hT X
end ZKS

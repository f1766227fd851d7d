/-! New rows of ints: the row. -/
theorem mz_over {args : Array Value} {s : State} (h : (Cond.arrayOver (.array .int)).before args s = true) : ∃ comp c k, s.vm.findClass "[I" = some comp ∧ s.vm.classes[c]? = some k ∧ k.kind = .array comp (.array .int) ∧ s.vm.findClass "[[I" = some c := by
  have e1 : (FieldType.array FieldType.int).toString = "[I" := by decide
  have e2 : "[" ++ (FieldType.array FieldType.int).toString = "[[I" := by decide
  simp only [Cond.before, Cond.holds, Cond.value, beq_iff_eq] at h
  cases hc : s.vm.findClass (FieldType.array FieldType.int).toString with
  | none => simp [hc] at h
  | some comp =>
    simp only [hc, Option.bind_some, Option.bind_eq_some_iff, Option.map_eq_some_iff] at h
    obtain ⟨c, hi, k, hk, hb⟩ := h
    obtain ⟨hlt, hp, -⟩ := Array.findIdx?_eq_some_iff_getElem.mp hi
    have hkk : s.vm.classes[c] = k := (Array.getElem?_eq_some_iff.mp hk).2
    rw [hkk] at hp
    cases hkind : k.kind with
    | array component ty =>
      rw [hkind] at hb hp
      simp at hb hp
      refine ⟨comp, c, k, by rw [← e1]; exact hc, hk, by rw [hkind, hp, hb.1], by rw [← e2]; exact hb.2⟩
    | _ => rw [hkind] at hb; simp at hb
/-- what the tables say of rows of ints -/
def mz_JA (cI cJ : ClassId) (U : State) : Prop := ∃ k : Class, U.vm.classes[cJ]? = some k ∧ k.kind = .array cI (.array .int)
theorem mz_JA.moved {cI cJ : ClassId} {u U : State} (hvm : u.vm.Alike U.vm) (h : mz_JA cI cJ u) : mz_JA cI cJ U := by
  obtain ⟨k, h1, h2⟩ := h
  obtain ⟨k1, h3, h4⟩ := hvm.2.2 _ _ h1
  exact ⟨k1, h3, by rw [h4]; exact h2⟩
section MZ
variable {p : Program} {l : Launch} {e : Env} {R : Room} {s : State} {m : MethodId} {args : Array Value} {below : List Frame} {meth : Method} {c : Code} {T : State} {locs : List Loc} {cells slots : Nat}
theorem mz_stand (X : Stand p l e R s m args below meth c T locs cells slots) (cA cI : ClassId) (N K : Nat) : ∀ i, Stand p l e R s m args below meth c (mzT T cA cI N K i) (locs ++ (List.range i).map (fun j => (⟨T.heap.size, j⟩ : Loc))) (cells + 1 + i) (slots + N + i * K) := by
  intro i
  induction i with
  | zero =>
    have h := X.pushed (mzO cA N T.heap.size 0)
    rw [show (mzO cA N T.heap.size 0).slots.size = N by simp [mzO, arrV_size]] at h
    simpa [mzT] using h
  | succ i ih =>
    obtain ⟨f1, f2, f3, f4, f5, f6⟩ := mzT_is T cA cI N K i
    have lt0 : T.heap.size < (mzT T cA cI N K i).heap.size := by rw [f1]; omega
    have c0 : ((mzT T cA cI N K i).pushCell (mzI cI K)).heap[T.heap.size]? = some (mzO cA N T.heap.size i) := by
      rw [State.heap_pushCell_of_lt (h := lt0)]
      exact f2
    have h := (ih.pushed (mzI cI K)).stored c0 i (.ref (T.heap.size + 1 + i))
    rw [show (mzI cI K).slots.size = K by simp [mzI, arrV_size], mzO_set] at h
    have e2 : (locs ++ (List.range (i + 1)).map (fun j => (⟨T.heap.size, j⟩ : Loc))) = (locs ++ (List.range i).map (fun j => (⟨T.heap.size, j⟩ : Loc))) ++ [⟨T.heap.size, i⟩] := by simp [List.range_succ, List.append_assoc]
    have e3 : slots + N + (i + 1) * K = slots + N + i * K + K := by rw [Nat.succ_mul]; omega
    rw [e2, e3]
    exact h
variable {H : Heap} {Q : State → Prop} {cc : ByteArray} {pc : Nat} {ls : Array Slot} {rest : List Value}
theorem W.mz (hexec : p.tables.exec = Jvm.exec) (hb : c.code = cc) {own : String} {index : Nat} (hown : s.vm.findClass own = some m.cls) (hclink : (Cond.classLink own index "[[I").before args s = true) {cI cJ : ClassId} (hJ : mz_JA cI cJ s) (hI : ArrOfT s cI .int) (hfI : s.vm.findClass "[I" = some cI) (hfJ : s.vm.findClass "[[I" = some cJ) {n k : Int32} {N K : Nat} (hn : ¬ n < 0) (hk : ¬ k < 0) (hN : n.toNatClampNeg = N) (hK : k.toNatClampNeg = K) (hN1 : N ≤ 100000) (hK1 : K ≤ 100000) (hcells : cells + (1 + N) ≤ R.cells) (hslots : slots + (N + N * K) ≤ R.slots) (hdg : decode cc pc = .ok (.multianewarray index 2, 4))
    (kk : ∀ H1 : Heap, H1.size = H.size + 1 + N → (∀ q : Nat, q < H.size → H1[q]? = H[q]?) → H1[H.size]? = some (mzO cJ N H.size N) → (∀ j, j < N → H1[H.size + 1 + j]? = some (mzI cI K)) → W p l e R s m args below meth c H1 locs (cells + 1 + N) (slots + N + N * K) Q (F0 m (pc + 4) ls (.ref H.size :: rest))) : W p l e R s m args below meth c H locs cells slots Q (F0 m pc ls (.int k :: .int n :: rest)) := by
  subst hN
  subst hK
  intro T hT X
  have hpl : e.platform.magicAccessors = ({} : Platform).magicAccessors := by rw [X.admits.platform]
  obtain ⟨kA, q2, q3⟩ := hJ
  obtain ⟨-, kC, hkC, cm, hkindC⟩ := hI 0 (fun _ => .null)
  obtain ⟨c0, hfc0, hcl⟩ := Cond.classLink_spec hown hclink e.platform hpl
  cases hfJ.symm.trans hfc0
  obtain ⟨hg1, hwarm1, hready1⟩ := State.classEntry (e := e) X.warmed hcl
  generalize T.vm.noted m.cls index (.cls cJ) = vm1 at hg1 hwarm1 hready1
  have hal : s.vm.Alike vm1 := hwarm1.alike
  obtain ⟨kA1, hkA1, heA⟩ := hal.2.2 _ _ q2
  obtain ⟨kC1, hkC1, heC⟩ := hal.2.2 _ _ hkC
  have hkindA1 : kA1.kind = .array cI (.array .int) := by rw [heA]; exact q3
  have hkindC1 : kC1.kind = .array cm .int := by rw [heC]; exact hkindC
  have X1 := X.noted hwarm1
  obtain ⟨hr1, hr2⟩ := X.roomAbove hcells hslots
  have XF := mz_stand X1 cJ cI n.toNatClampNeg k.toNatClampNeg n.toNatClampNeg
  have XG := Stand.forget XF (fun y hy => by
    obtain ⟨j, -, rfl⟩ := List.mem_map.mp hy
    show s.heap.size ≤ T.heap.size
    exact X.same.2.1)
  obtain ⟨f1, f2, f3, f4, f5, f6⟩ := mzT_is (T.setVm vm1) cJ cI n.toNatClampNeg k.toNatClampNeg n.toNatClampNeg
  have hTh : (T.setVm vm1).heap = H := hT
  rw [hTh] at f1 f2 f5 f6
  obtain ⟨t2, a1, b1⟩ := kk _ f1 f5 f2 f6 _ rfl XG
  refine ⟨t2, ?_, b1⟩
  have hl1 : ¬ n.toNatClampNeg > e.platform.arrayLengthLimit := by rw [Launch.admits_arrayLengthLimit X.admits]; omega
  have hh1 : ¬ n.toNatClampNeg * componentBytes (.array .int) > e.platform.maxHeapBytes := by
    rw [Launch.admits_maxHeapBytes X.admits]
    show ¬ n.toNatClampNeg * 4 > 536870912
    omega
  have hl2 : ¬ k.toNatClampNeg > e.platform.arrayLengthLimit := by rw [Launch.admits_arrayLengthLimit X.admits]; omega
  have hh2 : ¬ k.toNatClampNeg * componentBytes .int > e.platform.maxHeapBytes := by
    rw [Launch.admits_maxHeapBytes X.admits]
    show ¬ k.toNatClampNeg * 4 > 536870912
    omega
  have hdg2 : decode c.code pc = .ok (.multianewarray index 2, 4) := by rw [hb]; exact hdg
  jvm_step X.here [hexec, hdg2]
  simp only [multianewarray.sem, wp_bind', W.resolveClassAt_links (State.method?_setTop (F0 m pc ls (.int k :: .int n :: rest)) X.here.top) hg1]
  rw [W.popN, if_neg (by decide)]
  refine ⟨F0 m pc ls (.int k :: .int n :: rest), State.topJava?_setTop' (s := T.setVm vm1) (F0 m pc ls (.int k :: .int n :: rest)) X.here.top, [.int n, .int k], rest, rfl, rfl, ?_⟩
  simp only [List.mapM_cons, List.mapM_nil, wp_bind', wp_pure']
  refine mz_make hkA1 hkindA1 hkC1 hkindC1 hn hk rfl rfl hl1 hh1 hl2 hh2 (by show T.heap.size + 1 + _ ≤ _; omega) (by show T.slotsUsed + _ + _ ≤ _; omega) (fun d2 acts2 => ?_)
  have eS : ((T.setTop (F0 m pc ls (.int k :: .int n :: rest))).setVm vm1).setTop { F0 m pc ls (.int k :: .int n :: rest) with stack := rest } = (T.setVm vm1).setTop { F0 m pc ls (.int k :: .int n :: rest) with stack := rest } := by
    show ((T.setVm vm1).setTop (F0 m pc ls (.int k :: .int n :: rest))).setTop _ = _
    rw [State.setTop_setTop]
  rw [eS, mzT_top]
  simp only [wp_bind', W.mark, W.pushRef, State.topJava?_setTop' _ XF.here.top, Option.some.injEq, exists_eq_left', State.setTop_setTop, State.heap_setTop]
  intro acts
  simp [jvm, XF.here.top]
  rw [hT]
  exact a1
end MZ

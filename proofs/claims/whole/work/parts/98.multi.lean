/-! Rows of ints, all made at once: what the instruction does to a heap, and its row. -/
def mzO (cA : ClassId) (N b i : Nat) : Cell := arrV cA N (fun j => va_rf (if j < i then some (b + 1 + j) else none))
def mzI (cI : ClassId) (K : Nat) : Cell := arrV cI K (fun _ => .int 0)
theorem mzO_set (cA : ClassId) (N b i : Nat) : (mzO cA N b i).setSlot i (.ref (b + 1 + i)) = mzO cA N b (i + 1) := by
  unfold mzO
  rw [arrV_store]
  refine congrArg (arrV cA N) (funext fun j => ?_)
  by_cases e : j = i
  · subst e
    simp [updV, va_rf]
  · by_cases h : j < i
    · simp [updV, e, h, Nat.lt_succ_of_lt h]
    · simp [updV, e, h, show ¬ j < i + 1 by omega]
/-- the state when i rows stand -/
def mzT (T : State) (cA cI : ClassId) (N K : Nat) : Nat → State
  | 0 => T.pushCell (mzO cA N T.heap.size 0)
  | i + 1 => ((mzT T cA cI N K i).pushCell (mzI cI K)).setCell T.heap.size (mzO cA N T.heap.size (i + 1))
theorem mzT_top (T : State) (f : JFrame) (cA cI : ClassId) (N K : Nat) : ∀ i, mzT (T.setTop f) cA cI N K i = (mzT T cA cI N K i).setTop f := by
  intro i
  induction i with
  | zero => rfl
  | succ i ih => simp only [mzT, ih, State.heap_setTop, State.pushCell_setTop, State.setCell_setTop]
theorem mzT_is (T : State) (cA cI : ClassId) (N K : Nat) : ∀ i, (mzT T cA cI N K i).heap.size = T.heap.size + 1 + i ∧ (mzT T cA cI N K i).heap[T.heap.size]? = some (mzO cA N T.heap.size i) ∧ (mzT T cA cI N K i).vm = T.vm ∧ (mzT T cA cI N K i).slotsUsed = T.slotsUsed + N + i * K ∧ (∀ a : Nat, a < T.heap.size → (mzT T cA cI N K i).heap[a]? = T.heap[a]?) ∧ ∀ j, j < i → (mzT T cA cI N K i).heap[T.heap.size + 1 + j]? = some (mzI cI K) := by
  intro i
  induction i with
  | zero => exact ⟨by simp [mzT], by simp [mzT], rfl, by simp [mzT, mzO, arrV_size], fun a ha => State.heap_pushCell_of_lt _ _ ha, fun j hj => absurd hj (Nat.not_lt_zero _)⟩
  | succ i ih =>
    obtain ⟨a1, a2, a3, a4, a5, a6⟩ := ih
    have lt : ∀ a : Nat, a < T.heap.size + 1 + i → ((mzT T cA cI N K i).pushCell (mzI cI K)).heap[a]? = (mzT T cA cI N K i).heap[a]? := fun a ha => State.heap_pushCell_of_lt _ _ (by rw [a1]; exact ha)
    have h0 : ((mzT T cA cI N K i).pushCell (mzI cI K)).heap[T.heap.size]? = some (mzO cA N T.heap.size i) := (lt _ (by omega)).trans a2
    refine ⟨?_, State.heap_setCell_self h0, by simp [mzT, a3], ?_, fun a ha => ?_, fun j hj => ?_⟩
    · simp [mzT, State.setCell, a1]
      omega
    · simp [mzT, a4, mzI, arrV_size, Nat.succ_mul]
      omega
    · show (((mzT T cA cI N K i).pushCell (mzI cI K)).setCell T.heap.size _).heap[a]? = _
      rw [State.heap_setCell_other (Nat.ne_of_gt ha), lt a (by omega)]
      exact a5 a ha
    · show (((mzT T cA cI N K i).pushCell (mzI cI K)).setCell T.heap.size _).heap[_]? = _
      rw [State.heap_setCell_other (show T.heap.size ≠ T.heap.size + 1 + j by omega)]
      by_cases e : j < i
      · rw [lt _ (by omega)]
        exact a6 j e
      · have ej : T.heap.size + 1 + j = (mzT T cA cI N K i).heap.size := by omega
        rw [ej]
        exact State.heap_pushCell_size _ _
section MZ
variable {E : CtlPost} {e : Env} {d : Bool} {acts : List Action} {s : State}
theorem mz_arr {c comp : ClassId} {k : Class} {type : FieldType} {len : Nat} {init : Value} (hk : s.vm.classes[c]? = some k) (hkind : k.kind = .array comp type) (h1 : ¬ len > e.platform.arrayLengthLimit) (h2 : ¬ len * componentBytes type > e.platform.maxHeapBytes) (hfit : fits type init = true) (hdef : init.isDefault = true) {Q : Addr → Pre} (h3 : s.heap.size < e.platform.maxCells) (h4 : s.slotsUsed + len ≤ e.platform.maxSlots) (hq : Q s.heap.size d acts (s.pushCell (arrV c len (fun _ => init)))) : wp (Jvm.newArray c len init) Q E e d acts s := by
  rw [← arrV_new] at hq
  have g1 : ∀ i v, (Array.replicate len init)[i]? = some v → s.fitsSlot c .none i v = true := by
    intro i v hv
    simp only [Array.getElem?_replicate] at hv
    split at hv
    · cases hv
      simp [State.fitsSlot, State.slotType?, hk, hkind, hfit]
    · cases hv
  have g2 : allocActs (Array.replicate len init) s.heap.size acts = acts := by
    have g3 : ((Array.replicate len init).all (·.isDefault)) = true := by
      rw [Array.all_replicate]
      split <;> simp [hdef]
    unfold allocActs
    rw [if_pos g3]
  simp only [Jvm.newArray, Jvm.arrayFits, wp_bind', W.ask, W.ite, h1, if_false, wp_pure', W.theClass, hk, hkind, h2, W.alloc, W.stop, Option.some.injEq, exists_eq_left', Array.size_replicate, g2]
  rw [if_neg (by omega)]
  exact ⟨h3, h4, g1, hq⟩
theorem mz_row {cI cc : ClassId} {kc : Class} {m : Int32} {K : Nat} (hk : s.vm.classes[cI]? = some kc) (hkind : kc.kind = .array cc .int) (hm : ¬ m < 0) (hK : m.toNatClampNeg = K) (h1 : ¬ K > e.platform.arrayLengthLimit) (h2 : ¬ K * componentBytes .int > e.platform.maxHeapBytes) (h3 : s.heap.size < e.platform.maxCells) (h4 : s.slotsUsed + K ≤ e.platform.maxSlots) {Q : Addr → Pre} (hq : Q s.heap.size d acts (s.pushCell (mzI cI K))) : wp (multianewarray.make cI [m]) Q E e d acts s := by
  subst hK
  rw [multianewarray.make]
  simp only [wp_bind', W.ite, hm, if_false, wp_pure', W.theClass, hk, hkind, Option.some.injEq, exists_eq_left']
  exact mz_arr hk hkind h1 h2 rfl rfl h3 h4 hq
theorem mz_make {cA cI cc : ClassId} {kA kc : Class} {n m : Int32} {N K : Nat} (hA : s.vm.classes[cA]? = some kA) (hkA : kA.kind = .array cI (.array .int)) (hI : s.vm.classes[cI]? = some kc) (hkI : kc.kind = .array cc .int) (hn : ¬ n < 0) (hm : ¬ m < 0) (hN : n.toNatClampNeg = N) (hK : m.toNatClampNeg = K) (h1 : ¬ N > e.platform.arrayLengthLimit) (h2 : ¬ N * componentBytes (.array .int) > e.platform.maxHeapBytes) (h3 : ¬ K > e.platform.arrayLengthLimit) (h4 : ¬ K * componentBytes .int > e.platform.maxHeapBytes) (hc : s.heap.size + 1 + N ≤ e.platform.maxCells) (hs : s.slotsUsed + N + N * K ≤ e.platform.maxSlots) {Q : Addr → Pre} (hq : ∀ d2 acts2, Q s.heap.size d2 acts2 (mzT s cA cI N K N)) : wp (multianewarray.make cA [n, m]) Q E e d acts s := by
  subst hN
  have hfind : ([m].find? (· < 0)) = none := by simp [hm]
  rw [multianewarray.make]
  simp only [wp_bind', W.ite, hn, if_false, wp_pure', W.theClass, hA, hkA, Option.some.injEq, exists_eq_left']
  refine mz_arr hA hkA h1 h2 rfl rfl (by omega) (by have := Nat.zero_le (n.toNatClampNeg * K); omega) ?_
  simp only [hfind]
  rw [ite_self, wp_bind', Std.Legacy.Range.forIn_eq_forIn_range']
  have hsz : ([:n.toNatClampNeg] : Std.Legacy.Range).size = n.toNatClampNeg := by simp [Std.Legacy.Range.size]
  rw [hsz]
  show wp (forIn (List.range' 0 n.toNatClampNeg 1) PUnit.unit _) _ E e d acts _
  have start : s.pushCell (arrV cA n.toNatClampNeg (fun _ => .null)) = mzT s cA cI n.toNatClampNeg K 0 := rfl
  refine wp_forIn_inv (fun rest s2 => ∃ i, i ≤ n.toNatClampNeg ∧ rest = List.range' i (n.toNatClampNeg - i) ∧ s2 = mzT s cA cI n.toNatClampNeg K i) _ _ ⟨0, Nat.zero_le _, rfl, start⟩ ?_ ?_
  · rintro x rest s2 d2 acts2 Q2 ⟨i, hi, hl, rfl⟩ hnext
    have hlt : i < n.toNatClampNeg := by
      rcases Nat.lt_or_ge i n.toNatClampNeg with h | h
      · exact h
      · rw [show n.toNatClampNeg - i = 0 by omega] at hl
        simp at hl
    rw [show n.toNatClampNeg - i = (n.toNatClampNeg - (i + 1)) + 1 by omega, List.range'_succ] at hl
    obtain ⟨rfl, hrest⟩ := List.cons.inj hl
    obtain ⟨f1, f2, f3, f4, f5, f6⟩ := mzT_is s cA cI n.toNatClampNeg K x
    have hmul : x * K + K ≤ n.toNatClampNeg * K := by
      have := Nat.mul_le_mul_right K (show x + 1 ≤ n.toNatClampNeg from hlt)
      rw [Nat.succ_mul] at this
      exact this
    simp only [wp_bind']
    refine mz_row (by rw [f3]; exact hI) hkI hm hK h3 h4 (by rw [f1]; omega) (by rw [f4]; omega) ?_
    have lt0 : s.heap.size < (mzT s cA cI n.toNatClampNeg K x).heap.size := by rw [f1]; omega
    have cell0 : ((mzT s cA cI n.toNatClampNeg K x).pushCell (mzI cI K)).heap[s.heap.size]? = some (mzO cA n.toNatClampNeg s.heap.size x) := by
      rw [State.heap_pushCell_of_lt (h := lt0)]
      exact f2
    simp only [wp_bind', W.writeLoc, wp_pure']
    refine ⟨mzO cA n.toNatClampNeg s.heap.size x, cell0, by simp [mzO, arrV], by simp only [mzO, arrV_size]; exact hlt, ?_, hnext _ _ _ ⟨x + 1, hlt, hrest, ?_⟩⟩
    · simp [mzO, arrV, State.fitsSlot, State.slotType?, f3, hA, hkA]
      rfl
    · rw [f1]
      show ((mzT s cA cI n.toNatClampNeg K x).pushCell (mzI cI K)).setCell s.heap.size ((mzO cA n.toNatClampNeg s.heap.size x).setSlot x (.ref (s.heap.size + 1 + x))) = _
      rw [mzO_set]
      rfl
  · rintro s2 d2 acts2 ⟨i, hi, hl, rfl⟩
    have hiN : i = n.toNatClampNeg := by
      rcases Nat.lt_or_ge i n.toNatClampNeg with h | h
      · rw [show n.toNatClampNeg - i = (n.toNatClampNeg - (i + 1)) + 1 by omega, List.range'_succ] at hl
        cases hl
      · omega
    subst hiN
    simp only [wp_pure']
    exact hq _ _
end MZ

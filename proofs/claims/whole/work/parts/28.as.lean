/-! Pairs of calls: one kind as another. -/
theorem X_und0 {d : Nat} {M : zm_M} {Q : Int32 → zm_M → Prop} {v1 v3 : Int32} (h1 : 0 = v1 → Q 1 M) (h0 : ¬ 0 = v1 → Q 0 M) : zt d 104 4 [none, some (.int v1), some (.int 0), some (.int v3)] [] M (zPi Q) := by
  apply zg_X10_isUnder_p4
  exact ⟨fun _ => ⟨fun z => ⟨fun _ => h1 z, fun y => absurd z y⟩, fun z => ⟨fun y => absurd y (by decide), fun _ => ⟨fun y => absurd y z, fun _ => h0 z⟩⟩⟩, fun _ => ⟨h1, h0⟩⟩
theorem X_undS {d : Nat} {M : zm_M} {Q : Int32 → zm_M → Prop} {v1 v2 v3 : Int32} (w : Int32) (h3 : v3 < 7) (hp : 0 < v2) (hin : zm_inb v2 7 = true) (hw : zm_sv 100 v2.toNatClampNeg = w) (h1 : v2 = v1 → Q 1 M) (h0 : ¬ v2 = v1 → zt d 104 4 [none, some (.int v1), some (.int w), some (.int (v3 + 1))] [] M (zPi Q)) : zt d 104 4 [none, some (.int v1), some (.int v2), some (.int v3)] [] M (zPi Q) := by
  apply zg_X10_isUnder_p4
  rw [hw]
  exact ⟨fun _ => ⟨fun z => ⟨fun _ => h1 z, fun y => absurd z y⟩, fun z => ⟨fun _ => ⟨hin, h0 z⟩, fun y => absurd hp y⟩⟩, fun y => absurd h3 y⟩
def zUnd (a b : Int32) : Prop := b = 0 ∨ a = b ∨ (b = 1 ∧ a = 4) ∨ (b = 3 ∧ a = 5)
theorem X_under {d : Nat} {M : zm_M} {Q : Int32 → zm_M → Prop} {a b : Int32} (ha : 0 ≤ a ∧ a ≤ 6) (h1 : zUnd a b → Q 1 M) (h0 : ¬ zUnd a b → Q 0 M) : zi d 104 [.int a, .int b] M Q := by
  apply zg_X10_isUnder
  unfold zUnd at h1 h0
  have h3 : a = 0 ∨ a = 1 ∨ a = 2 ∨ a = 3 ∨ a = 4 ∨ a = 5 ∨ a = 6 := by grind
  rcases h3 with rfl | rfl | rfl | rfl | rfl | rfl | rfl
  · exact X_und0 (fun z => h1 (by grind)) (fun z => h0 (by grind))
  · exact X_undS 0 (by decide) (by decide) (by decide) rfl (fun z => h1 (by grind)) (fun y => X_und0 (fun z => h1 (by grind)) (fun z => h0 (by grind)))
  · exact X_undS 0 (by decide) (by decide) (by decide) rfl (fun z => h1 (by grind)) (fun y => X_und0 (fun z => h1 (by grind)) (fun z => h0 (by grind)))
  · exact X_undS 0 (by decide) (by decide) (by decide) rfl (fun z => h1 (by grind)) (fun y => X_und0 (fun z => h1 (by grind)) (fun z => h0 (by grind)))
  · exact X_undS 1 (by decide) (by decide) (by decide) rfl (fun z => h1 (by grind)) (fun y => X_undS 0 (by decide) (by decide) (by decide) rfl (fun z => h1 (by grind)) (fun y => X_und0 (fun z => h1 (by grind)) (fun z => h0 (by grind))))
  · exact X_undS 3 (by decide) (by decide) (by decide) rfl (fun z => h1 (by grind)) (fun y => X_undS 0 (by decide) (by decide) (by decide) rfl (fun z => h1 (by grind)) (fun y => X_und0 (fun z => h1 (by grind)) (fun z => h0 (by grind))))
  · exact X_undS 0 (by decide) (by decide) (by decide) rfl (fun z => h1 (by grind)) (fun y => X_und0 (fun z => h1 (by grind)) (fun z => h0 (by grind)))

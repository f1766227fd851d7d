/-! TEXTS: the class's names. -/
def nmI (u : Nat) (x : Int32) : Int32 := if u = 0 then (if x = 99 then 0 else if x = 112 then 1 else if x = 104 then 2 else if x = 115 then 3 else if x = 109 then 4 else -1) else (if x = 112 then 0 else if x = 104 then 1 else if x = 110 then 2 else -1)
theorem chr_id : ∀ k, k < 256 → (((zon k).toUInt32 % 65536).toInt32) = zon k := by decide +kernel
theorem sb_0 : ∀ k, k < 256 → (zm_sb 112 0 = (zon k).toInt8.toInt32 ↔ zon k = 99) ∧ (zm_sb 112 1 = (zon k).toInt8.toInt32 ↔ zon k = 112) ∧ (zm_sb 112 2 = (zon k).toInt8.toInt32 ↔ zon k = 104) ∧ (zm_sb 112 3 = (zon k).toInt8.toInt32 ↔ zon k = 115) ∧ (zm_sb 112 4 = (zon k).toInt8.toInt32 ↔ zon k = 109) := by decide +kernel
theorem sb_1 : ∀ k, k < 256 → (zm_sb 113 0 = (zon k).toInt8.toInt32 ↔ zon k = 112) ∧ (zm_sb 113 1 = (zon k).toInt8.toInt32 ↔ zon k = 104) ∧ (zm_sb 113 2 = (zon k).toInt8.toInt32 ↔ zon k = 110) := by decide +kernel
theorem X_idx0 {d k : Nat} {Q : Int32 → zm_M → Prop} {M : zm_M} (hk : k < 256) (hQ : Q (nmI 0 (zon k)) M) : zi (d + 3) 205 [.ref 110, .int (((zon k).toUInt32 % 65536).toInt32)] M Q := by
  rw [chr_id k hk]
  apply zg_J0_indexOf_r110
  rw [if_neg (show ¬ (0 : Int32) < 0 by decide), show ((5 : Int32) >>> ((0 : Int32) &&& 31)) = 5 from by decide, if_neg (show ¬ (5 : Int32) < 5 by decide)]
  refine ⟨fun z => absurd z (zon_nn (by omega)), fun _ => ⟨fun z => absurd z ?_, fun _ => ⟨fun _ => ?_, fun z => absurd (by decide) z⟩⟩⟩
  · rw [Int32.lt_iff_toInt_lt, zon_i (by omega), show (255 : Int32).toInt = 255 from rfl]
    omega
  · have sb := sb_0 k hk
    unfold nmI at hQ
    rw [if_pos rfl] at hQ
    apply zg_J1_indexOfChar_r112
    apply zg_J1_indexOfChar_r112_p7
    refine ⟨fun _ => ⟨by decide, fun e => ?_, fun e0 => ?_⟩, fun z => absurd (by decide) z⟩
    · rw [if_pos (sb.1.mp e)] at hQ
      exact hQ
    rw [if_neg (fun z => e0 (sb.1.mpr z))] at hQ
    apply zg_J1_indexOfChar_r112_p7
    refine ⟨fun _ => ⟨by decide, fun e => ?_, fun e1 => ?_⟩, fun z => absurd (by decide) z⟩
    · rw [if_pos (sb.2.1.mp e)] at hQ
      exact hQ
    rw [if_neg (fun z => e1 (sb.2.1.mpr z))] at hQ
    apply zg_J1_indexOfChar_r112_p7
    refine ⟨fun _ => ⟨by decide, fun e => ?_, fun e2 => ?_⟩, fun z => absurd (by decide) z⟩
    · rw [if_pos (sb.2.2.1.mp e)] at hQ
      exact hQ
    rw [if_neg (fun z => e2 (sb.2.2.1.mpr z))] at hQ
    apply zg_J1_indexOfChar_r112_p7
    refine ⟨fun _ => ⟨by decide, fun e => ?_, fun e3 => ?_⟩, fun z => absurd (by decide) z⟩
    · rw [if_pos (sb.2.2.2.1.mp e)] at hQ
      exact hQ
    rw [if_neg (fun z => e3 (sb.2.2.2.1.mpr z))] at hQ
    apply zg_J1_indexOfChar_r112_p7
    refine ⟨fun _ => ⟨by decide, fun e => ?_, fun e4 => ?_⟩, fun z => absurd (by decide) z⟩
    · rw [if_pos (sb.2.2.2.2.mp e)] at hQ
      exact hQ
    rw [if_neg (fun z => e4 (sb.2.2.2.2.mpr z))] at hQ
    apply zg_J1_indexOfChar_r112_p7
    exact ⟨fun z => absurd z (by decide), fun _ => hQ⟩
theorem X_idx1 {d k : Nat} {Q : Int32 → zm_M → Prop} {M : zm_M} (hk : k < 256) (hQ : Q (nmI 1 (zon k)) M) : zi (d + 3) 205 [.ref 111, .int (((zon k).toUInt32 % 65536).toInt32)] M Q := by
  rw [chr_id k hk]
  apply zg_J0_indexOf_r111
  rw [if_neg (show ¬ (0 : Int32) < 0 by decide), show ((3 : Int32) >>> ((0 : Int32) &&& 31)) = 3 from by decide, if_neg (show ¬ (3 : Int32) < 3 by decide)]
  refine ⟨fun z => absurd z (zon_nn (by omega)), fun _ => ⟨fun z => absurd z ?_, fun _ => ⟨fun _ => ?_, fun z => absurd (by decide) z⟩⟩⟩
  · rw [Int32.lt_iff_toInt_lt, zon_i (by omega), show (255 : Int32).toInt = 255 from rfl]
    omega
  · have sb := sb_1 k hk
    unfold nmI at hQ
    rw [if_neg (by decide)] at hQ
    apply zg_J1_indexOfChar_r113
    apply zg_J1_indexOfChar_r113_p7
    refine ⟨fun _ => ⟨by decide, fun e => ?_, fun e0 => ?_⟩, fun z => absurd (by decide) z⟩
    · rw [if_pos (sb.1.mp e)] at hQ
      exact hQ
    rw [if_neg (fun z => e0 (sb.1.mpr z))] at hQ
    apply zg_J1_indexOfChar_r113_p7
    refine ⟨fun _ => ⟨by decide, fun e => ?_, fun e1 => ?_⟩, fun z => absurd (by decide) z⟩
    · rw [if_pos (sb.2.1.mp e)] at hQ
      exact hQ
    rw [if_neg (fun z => e1 (sb.2.1.mpr z))] at hQ
    apply zg_J1_indexOfChar_r113_p7
    refine ⟨fun _ => ⟨by decide, fun e => ?_, fun e2 => ?_⟩, fun z => absurd (by decide) z⟩
    · rw [if_pos (sb.2.2.mp e)] at hQ
      exact hQ
    rw [if_neg (fun z => e2 (sb.2.2.mpr z))] at hQ
    apply zg_J1_indexOfChar_r113_p7
    exact ⟨fun z => absurd z (by decide), fun _ => hQ⟩
theorem nmI_nm {u : Nat} {x : Int32} (hu : u ≤ 1) : (tNm u x → ¬ nmI u x < 0 ∧ zstp u ((-1) - nmI u x) 1 x) ∧ (¬ tNm u x → nmI u x < 0) := by
  have u01 : u = 0 ∨ u = 1 := by omega
  rcases u01 with rfl | rfl
  · refine ⟨fun h => ?_, fun h => ?_⟩
    · rcases h with ⟨-, h⟩ | ⟨z, -⟩
      · rcases h with rfl | rfl | rfl | rfl | rfl
        · exact ⟨by decide, Or.inr (Or.inl ⟨rfl, Or.inl ⟨rfl, Or.inl ⟨rfl, rfl⟩⟩⟩)⟩
        · exact ⟨by decide, Or.inr (Or.inl ⟨rfl, Or.inl ⟨rfl, Or.inr (Or.inl ⟨rfl, rfl⟩)⟩⟩)⟩
        · exact ⟨by decide, Or.inr (Or.inl ⟨rfl, Or.inl ⟨rfl, Or.inr (Or.inr (Or.inl ⟨rfl, rfl⟩))⟩⟩)⟩
        · exact ⟨by decide, Or.inr (Or.inl ⟨rfl, Or.inl ⟨rfl, Or.inr (Or.inr (Or.inr (Or.inl ⟨rfl, rfl⟩)))⟩⟩)⟩
        · exact ⟨by decide, Or.inr (Or.inl ⟨rfl, Or.inl ⟨rfl, Or.inr (Or.inr (Or.inr (Or.inr ⟨rfl, rfl⟩)))⟩⟩)⟩
      · exact absurd z (by decide)
    · unfold nmI
      rw [if_pos rfl, if_neg (fun z => h (Or.inl ⟨rfl, Or.inl z⟩)), if_neg (fun z => h (Or.inl ⟨rfl, Or.inr (Or.inl z)⟩)), if_neg (fun z => h (Or.inl ⟨rfl, Or.inr (Or.inr (Or.inl z))⟩)), if_neg (fun z => h (Or.inl ⟨rfl, Or.inr (Or.inr (Or.inr (Or.inl z)))⟩)), if_neg (fun z => h (Or.inl ⟨rfl, Or.inr (Or.inr (Or.inr (Or.inr z)))⟩))]
      decide
  · refine ⟨fun h => ?_, fun h => ?_⟩
    · rcases h with ⟨z, -⟩ | ⟨-, h⟩
      · exact absurd z (by decide)
      · rcases h with rfl | rfl | rfl
        · exact ⟨by decide, Or.inr (Or.inl ⟨rfl, Or.inr ⟨rfl, Or.inl ⟨rfl, rfl⟩⟩⟩)⟩
        · exact ⟨by decide, Or.inr (Or.inl ⟨rfl, Or.inr ⟨rfl, Or.inr (Or.inl ⟨rfl, rfl⟩)⟩⟩)⟩
        · exact ⟨by decide, Or.inr (Or.inl ⟨rfl, Or.inr ⟨rfl, Or.inr (Or.inr ⟨rfl, rfl⟩)⟩⟩)⟩
    · unfold nmI
      rw [if_neg (by decide), if_neg (fun z => h (Or.inr ⟨rfl, Or.inl z⟩)), if_neg (fun z => h (Or.inr ⟨rfl, Or.inr (Or.inl z)⟩)), if_neg (fun z => h (Or.inr ⟨rfl, Or.inr (Or.inr z)⟩))]
      decide

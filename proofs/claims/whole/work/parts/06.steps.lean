/-! Every step of the abstract machine is a step of the real one: instructions that move the stack alone. -/
theorem zm_lbA : zm_tb.all (fun l => l.all zm_lb) = true := by decide +kernel
theorem zm_len_of {y pc len : Nat} {i : Instr} (h : zm_at y pc = some (i, len)) {n : Nat} (hn : zm_il i = n + 1) : len = n + 1 := by
  have hm := zm_lk_mem h
  have h1 : zm_lb (pc, i, len) = true := by
    by_cases hy : y < zm_tb.length
    · have h2 := List.all_eq_true.mp zm_lbA (zm_tb.getD y []) (by rw [List.getD_eq_getElem?_getD, List.getElem?_eq_getElem hy]; exact List.getElem_mem hy)
      exact List.all_eq_true.mp h2 _ hm
    · rw [List.getD_eq_getElem?_getD, List.getElem?_eq_none (by omega)] at hm
      cases hm
  unfold zm_lb at h1
  simp only [hn] at h1
  exact Nat.eq_of_beq_eq_true h1
theorem zm_lit_eq (n : Int) : Int32.ofInt n = zm_lit n := by
  cases n with
  | ofNat k => rfl
  | negSucc k =>
    show Int32.ofInt (Int.negSucc k) = - Int32.ofNat (k + 1)
    rw [Int.negSucc_eq, Int32.ofInt_neg]
    rfl
def zm_ltb (e : Nat × Instr × Nat) : Bool := match e.2.1 with
  | .bipush n => decide ((Int8.ofInt n).toInt32 = zm_lit n)
  | .sipush n => decide ((Int16.ofInt n).toInt32 = zm_lit n)
  | _ => true
theorem zm_ltA : zm_tb.all (fun l => l.all zm_ltb) = true := by decide +kernel
theorem zm_lt_of {y pc len : Nat} {i : Instr} (h : zm_at y pc = some (i, len)) : zm_ltb (pc, i, len) = true := by
  have hm := zm_lk_mem h
  by_cases hy : y < zm_tb.length
  · have h2 := List.all_eq_true.mp zm_ltA (zm_tb.getD y []) (by rw [List.getD_eq_getElem?_getD, List.getElem?_eq_getElem hy]; exact List.getElem_mem hy)
    exact List.all_eq_true.mp h2 _ hm
  · rw [List.getD_eq_getElem?_getD, List.getElem?_eq_none (by omega)] at hm
    cases hm
theorem zm_b2_inv {st st' : List Value} {f : Int32 → Int32 → Int32} (h : zm_b2 st f = some st') : ∃ x y r, st = .int y :: .int x :: r ∧ st' = .int (f x y) :: r := by
  unfold zm_b2 at h
  split at h
  · cases h
    exact ⟨_, _, _, rfl, rfl⟩
  · cases h
theorem zm_b3_inv {st st' : List Value} {f : Int64 → Int64 → Int64} (h : zm_b3 st f = some st') : ∃ x y r, st = .long y :: .long x :: r ∧ st' = .long (f x y) :: r := by
  unfold zm_b3 at h
  split at h
  · cases h
    exact ⟨_, _, _, rfl, rfl⟩
  · cases h
theorem zm_u1_inv {st st' : List Value} {f : Int32 → Value} (h : zm_u1 st f = some st') : ∃ x r, st = .int x :: r ∧ st' = f x :: r := by
  unfold zm_u1 at h
  split at h
  · cases h
    exact ⟨_, _, rfl, rfl⟩
  · cases h
theorem zm_inb_in {i : Int32} {n : Nat} (h : zm_inb i n = true) : vp_in i n := by
  unfold zm_inb at h
  rw [Bool.and_eq_true, decide_eq_true_eq, decide_eq_true_eq] at h
  exact vp_in_iff.mpr h
theorem zm_CL_get {ci : Nat} (h : ci < 12) : zm_CL[ci]? = some (zm_cn ci, zm_T ci, zm_nf ci) := by
  unfold zm_CL
  rw [List.getElem?_map, List.getElem?_range h]
  rfl
theorem zm_fd_ok {ci sl : Nat} (h : ci < 12) (hs : sl < zm_nf ci) : zm_bfd ci sl = true := List.all_eq_true.mp (List.all_eq_true.mp zm_fdA ci (List.mem_range.mpr h)) sl (List.mem_range.mpr hs)
theorem zm_fd_in {ci : Nat} (h : ci < 12) : ∀ w ∈ u_ws (zm_cn ci) (zm_T ci) (zm_nf ci), w ∈ zm_TT := by
  intro w hw
  unfold u_ws at hw
  obtain ⟨k, hk, rfl⟩ := List.mem_map.mp hw
  have h1 := zm_fd_ok h (List.mem_range.mp hk)
  unfold zm_bfd at h1
  rw [Bool.and_eq_true] at h1
  exact zm_inT h1.1
theorem zm_fd_ty {ci : Nat} (h : ci < 12) : ∀ k, k < zm_nf ci → parseFieldDescriptor (zm_T ci k).2.2.1 = some (zm_ty ci k) := by
  intro k hk
  have h1 := zm_fd_ok h hk
  unfold zm_bfd at h1
  simp only [Bool.and_eq_true, decide_eq_true_eq] at h1
  exact h1.2.1.1
theorem zm_fd_fin {ci k : Nat} (h : ci < 12) (hk : k < zm_nf ci) (hf : zm_ft ci k ≠ 2) : (zm_T ci k).2.2.2 = false := by
  have h1 := zm_fd_ok h hk
  unfold zm_bfd at h1
  simp only [Bool.and_eq_true, decide_eq_true_eq] at h1
  have h2 := h1.2.1.2
  rw [show (zm_ft ci k == 2) = false from beq_eq_false_iff_ne.mpr hf] at h2
  exact eq_of_beq h2
theorem zm_fd_ft {ci k : Nat} (h : ci < 12) (hk : k < zm_nf ci) : zm_ft ci k = (match zm_ty ci k with | .int => 0 | .long => 1 | .boolean => 4 | .object "java/lang/String" => 3 | _ => 2) := by
  have h1 := zm_fd_ok h hk
  unfold zm_bfd at h1
  simp only [Bool.and_eq_true, decide_eq_true_eq] at h1
  exact h1.2.2
theorem zm_fd_nm {ci : Nat} (h : ci < 12) : ∀ a, a < zm_nf ci → ∀ b, b < zm_nf ci → a ≠ b → (zm_T ci a).2.1 ≠ (zm_T ci b).2.1 := by
  intro a ha b hb hne
  have h1 := List.all_eq_true.mp (List.all_eq_true.mp (List.all_eq_true.mp zm_fnA ci (List.mem_range.mpr h)) a (List.mem_range.mpr ha)) b (List.mem_range.mpr hb)
  rw [Bool.or_eq_true, decide_eq_true_eq] at h1
  rcases h1 with h1 | h1
  · exact absurd (Nat.eq_of_beq_eq_true h1) hne
  · exact h1
theorem zm_fl_ok {o k ci sl pos : Nat} (h : zm_fl o k = some (ci, sl, pos)) : Jvm.Cond.fieldLink (zm_cn o) k (zm_T ci sl).1 (zm_T ci sl).2.1 (zm_T ci sl).2.2.1 ∈ zm_TT ∧ ci < 12 ∧ sl < zm_nf ci := by
  have h1 := zm_tabs zm_flA (by decide) (zm_la_mem h)
  unfold zm_bfl at h1
  simp only [Bool.and_eq_true, decide_eq_true_eq] at h1
  exact ⟨zm_inT h1.1, h1.2.1, h1.2.2⟩
theorem zm_kd_ge {k : Nat} (h : 121 ≤ k) : zm_kd k = 99 := by
  unfold zm_kd
  rw [List.getD_eq_getElem?_getD, List.getElem?_eq_none (by show 121 ≤ k; omega)]
  rfl
theorem zm_k30 {k : Nat} (hk : zm_kd k = 30) : ∃ t : Nat, t < 5 ∧ k = 100 + t := by
  have h9 : ∀ k, k < 121 → zm_kd k = 30 → 100 ≤ k ∧ k < 105 := by decide +kernel
  by_cases h121 : k < 121
  · have := h9 k h121 hk
    exact ⟨k - 100, by omega, by omega⟩
  · have := zm_kd_ge (show 121 ≤ k by omega)
    omega
theorem zm_k32 {k : Nat} (hk : zm_kd k = 32) : ∃ t : Nat, t < 2 ∧ k = 112 + t := by
  have h9 : ∀ k, k < 121 → zm_kd k = 32 → 112 ≤ k ∧ k < 114 := by decide +kernel
  by_cases h121 : k < 121
  · have := h9 k h121 hk
    exact ⟨k - 112, by omega, by omega⟩
  · have := zm_kd_ge (show 121 ≤ k by omega)
    omega
theorem zm_k40 {k : Nat} (hk : zm_kd k = 40) : k = 120 := by
  have h9 : ∀ k, k < 121 → zm_kd k = 40 → k = 120 := by decide +kernel
  by_cases h121 : k < 121
  · exact h9 k h121 hk
  · have := zm_kd_ge (show 121 ≤ k by omega)
    omega
theorem zm_k13 {k : Nat} (hk : zm_kd k = 13) : ∃ t : Nat, t < 2 ∧ k = 110 + t := by
  have h9 : ∀ k, k < 121 → zm_kd k = 13 → 110 ≤ k ∧ k < 112 := by decide +kernel
  by_cases h121 : k < 121
  · have := h9 k h121 hk
    exact ⟨k - 110, by omega, by omega⟩
  · have := zm_kd_ge (show 121 ≤ k by omega)
    omega
section ZS
variable {p : Program} {l : Launch} {e : Env} {R : Room} {s : State} {m : MethodId} {args : Array Value} {below : List Frame} {meth : Method} {c : Code} {H : Heap} {locs : List Loc} {cells slots : Nat} {Q : State → Prop}
variable {ad : Nat → Nat} {D : va_G} {cI cJ : ClassId} {A : Nat → Prop} {y pc len d : Nat} {i : Instr} {lsA : Array Slot} {ls ls' : zm_L} {st st' : List Value} {M M' : zm_M}
/-- what holds at a frame of a method of the tables -/
def zm_Fx (p : Program) (s : State) (m : MethodId) (args : Array Value) (c : Code) (ad : Nat → Nat) (D : va_G) (cI cJ : ClassId) (A : Nat → Prop) (y : Nat) : Prop :=
  p.tables.exec = Jvm.exec ∧ c.code = zm_cd y ∧ c.maxLocals = zm_mx y ∧ s.vm.findClass (zm_cn (zm_yc y)) = some m.cls ∧ (∀ w ∈ zm_TT, w.before args s = true) ∧ zm_Cx ad D cI cJ A s s.heap
/-- the script, for the law alone -/
def zm_Sx (s : State) (ad : Nat → Nat) (A : Nat → Prop) (y : Nat) (M : zm_M) : Prop := y = 0 → va_X (ad 120) M.2.2.2.1 M.2.2.2.2 s s.heap ∧ ad 120 < s.heap.size ∧ ¬ A (ad 120)
theorem zm_gf_snd {idx k : Nat} {v : Value} {rest : List Value} (F : zm_Fx p s m args c ad D cI cJ A y) (hP : va_P D zm_CL (zm_W ad cI cJ M) H) (hS : va_S A s.heap H locs) (hdg : decode (zm_cd y) pc = .ok (.getfield idx, 3)) (h : zm_gf y idx k M = some v)
    (kk : W p l e R s m args below meth c H locs cells slots Q (F0 m (pc + 3) lsA (zm_zc ad v :: rest))) : W p l e R s m args below meth c H locs cells slots Q (F0 m pc lsA (.ref (ad k) :: rest)) := by
  obtain ⟨hx, hb, hml, hown, hts, hC⟩ := F
  unfold zm_gf at h
  split at h
  · rename_i hk
    split at h
    · rename_i hy
      obtain ⟨t, ht, rfl⟩ := zm_k13 hk
      rw [hy] at hown
      have hE := hC.2.2.2.2.1
      have hE0 := hE.1 t ht
      have e1 : (fun i => ad (112 + i)) t = ad (110 + t + 2) := by show ad (112 + t) = ad (110 + t + 2); congr 1; omega
      split at h
      · rename_i h9
        subst h9
        cases h
        have h1 := hE0.2.2.1
        rw [e1] at h1
        exact vk_getf hx hb h1 hS hown (hts _ (zm_wq_in (n := 0) (by decide))) (fun _ q => q) hdg kk
      · split at h
        · rename_i h15
          subst h15
          cases h
          have h1 := hE0.2.1
          exact vk_getf hx hb h1 hS hown (hts _ (zm_wq_in (n := 1) (by decide))) (fun _ q => q) hdg kk
        · cases h
    · cases h
  · split at h
    · rename_i ci sl pos hfl
      obtain ⟨h1, h2, h3⟩ := zm_fl_ok hfl
      split at h
      · rename_i hkc
        subst hkc
        have hk97 := zm_kd_lt (Or.inl h2)
        have he := zm_W_get (ad := ad) (cI := cI) (cJ := cJ) (M := M) hk97
        rw [zm_C_obj h2] at he
        refine va_get (D := D) (ci := zm_kd k) (v := zm_zc ad v) (C := zm_cn (zm_kd k)) (T := zm_T (zm_kd k)) (N := zm_nf (zm_kd k)) hx hb hts (zm_fd_in h2) hown hC.1 hP k he (zm_CL_get h2) sl h3 (hts _ h1) (fun _ q => q) ?_ hdg kk
        rw [List.getElem?_map, List.getElem?_range h3]
        unfold zm_fv at h
        show some (zm_cv ad M k (zm_kd k) sl) = _
        unfold zm_cv
        split at h
        · rename_i hf
          cases h
          rw [hf]
          rfl
        · rename_i hf
          cases h
          rw [hf]
          rfl
        · rename_i hf
          cases h
          rw [hf]
          rfl
        · rename_i hf
          rw [hf]
          cases hr : zm_rf k sl with
          | none => rw [hr] at h; cases h
          | some r => rw [hr] at h; cases h; rfl
        · rename_i hf
          cases h
          rw [hf]
          rfl
        · cases h
      · cases h
    · cases h
set_option maxHeartbeats 4000000 in
theorem zm_ss1_snd (F : zm_Fx p s m args c ad D cI cJ A y) (S : zm_Sx s ad A y M) (hP : va_P D zm_CL (zm_W ad cI cJ M) H) (hS : va_S A s.heap H locs) (hL : zm_Lh ad lsA (zm_mx y) ls) (hd : zm_at y pc = some (i, len)) (h : zm_ss1 y i ls st M = some st')
    (kk : W p l e R s m args below meth c H locs cells slots Q (F0 m (pc + len) lsA (st'.map (zm_zc ad)))) : W p l e R s m args below meth c H locs cells slots Q (F0 m pc lsA (st.map (zm_zc ad))) := by
  obtain ⟨hx, hb, hml, hown, hts, hC⟩ := F
  have hdg := zm_dec hd
  cases i
  case iconst =>
    cases zm_len_of hd (n := 0) rfl
    cases h
    exact lv_iconst hx hb hdg (zm_lit_eq _) kk
  case bipush =>
    cases zm_len_of hd (n := 1) rfl
    cases h
    exact lv_bipush hx hb hdg (of_decide_eq_true (zm_lt_of hd)) kk
  case sipush =>
    cases zm_len_of hd (n := 2) rfl
    cases h
    exact lv_sipush hx hb hdg (of_decide_eq_true (zm_lt_of hd)) kk
  case lconst =>
    cases zm_len_of hd (n := 0) rfl
    cases h
    exact lv_lconst hx hb hdg rfl kk
  case iload_n =>
    cases zm_len_of hd (n := 0) rfl
    unfold zm_ss1 at h
    dsimp only at h
    split at h
    · rename_i x hg
      cases h
      exact lv_iload_n hx hb hdg rfl (hL.2.2.2 _ _ (zm_gd hg)) kk
    · cases h
  case iload =>
    cases zm_len_of hd (n := 1) rfl
    unfold zm_ss1 at h
    dsimp only at h
    split at h
    · rename_i x hg
      cases h
      exact lv_iload hx hb hdg (hL.2.2.2 _ _ (zm_gd hg)) kk
    · cases h
  case aload_n =>
    cases zm_len_of hd (n := 0) rfl
    unfold zm_ss1 at h
    dsimp only at h
    split at h
    · rename_i x hg
      cases h
      exact lv_aload_n hx hb hdg rfl (hL.2.2.2 _ _ (zm_gd hg)) kk
    · cases h
  case aload =>
    cases zm_len_of hd (n := 1) rfl
    unfold zm_ss1 at h
    dsimp only at h
    split at h
    · rename_i x hg
      cases h
      exact lv_aload hx hb hdg (hL.2.2.2 _ _ (zm_gd hg)) kk
    · cases h
  case lload_n =>
    cases zm_len_of hd (n := 0) rfl
    unfold zm_ss1 at h
    dsimp only at h
    split at h
    · rename_i x hg
      cases h
      exact lv_lload_n hx hb hdg rfl (hL.2.2.2 _ _ (zm_gd hg)) kk
    · cases h
  case lload =>
    cases zm_len_of hd (n := 1) rfl
    unfold zm_ss1 at h
    dsimp only at h
    split at h
    · rename_i x hg
      cases h
      exact lv_lload hx hb hdg (hL.2.2.2 _ _ (zm_gd hg)) kk
    · cases h
  case iadd =>
    cases zm_len_of hd (n := 0) rfl
    obtain ⟨x, y', r, rfl, rfl⟩ := zm_b2_inv h
    exact lv_iadd hx hb hdg kk
  case isub =>
    cases zm_len_of hd (n := 0) rfl
    obtain ⟨x, y', r, rfl, rfl⟩ := zm_b2_inv h
    exact lv_isub hx hb hdg kk
  case imul =>
    cases zm_len_of hd (n := 0) rfl
    obtain ⟨x, y', r, rfl, rfl⟩ := zm_b2_inv h
    exact lv_imul hx hb hdg kk
  case iand =>
    cases zm_len_of hd (n := 0) rfl
    obtain ⟨x, y', r, rfl, rfl⟩ := zm_b2_inv h
    exact lv_iand hx hb hdg kk
  case ior =>
    cases zm_len_of hd (n := 0) rfl
    obtain ⟨x, y', r, rfl, rfl⟩ := zm_b2_inv h
    exact lv_ior hx hb hdg kk
  case ixor =>
    cases zm_len_of hd (n := 0) rfl
    obtain ⟨x, y', r, rfl, rfl⟩ := zm_b2_inv h
    exact lv_ixor hx hb hdg kk
  case ishl =>
    cases zm_len_of hd (n := 0) rfl
    obtain ⟨x, y', r, rfl, rfl⟩ := zm_b2_inv h
    exact lv_ishl hx hb hdg kk
  case ishr =>
    cases zm_len_of hd (n := 0) rfl
    obtain ⟨x, y', r, rfl, rfl⟩ := zm_b2_inv h
    exact lv_ishr hx hb hdg kk
  case iushr =>
    cases zm_len_of hd (n := 0) rfl
    obtain ⟨x, y', r, rfl, rfl⟩ := zm_b2_inv h
    exact lv_iushr hx hb hdg rfl kk
  case idiv =>
    cases zm_len_of hd (n := 0) rfl
    unfold zm_ss1 at h
    dsimp only at h
    split at h
    · split at h
      · cases h
      · rename_i hne
        cases h
        exact lv_idiv hx hb hdg hne kk
    · cases h
  case irem =>
    cases zm_len_of hd (n := 0) rfl
    unfold zm_ss1 at h
    dsimp only at h
    split at h
    · split at h
      · cases h
      · rename_i hne
        cases h
        exact lv_irem hx hb hdg hne kk
    · cases h
  case ldiv =>
    cases zm_len_of hd (n := 0) rfl
    unfold zm_ss1 at h
    dsimp only at h
    split at h
    · split at h
      · cases h
      · rename_i hne
        cases h
        exact lv_ldiv hx hb hdg hne kk
    · cases h
  case lrem =>
    cases zm_len_of hd (n := 0) rfl
    unfold zm_ss1 at h
    dsimp only at h
    split at h
    · split at h
      · cases h
      · rename_i hne
        cases h
        exact lv_lrem hx hb hdg hne kk
    · cases h
  case ineg =>
    cases zm_len_of hd (n := 0) rfl
    obtain ⟨x, r, rfl, rfl⟩ := zm_u1_inv h
    exact lv_ineg hx hb hdg kk
  case i2l =>
    cases zm_len_of hd (n := 0) rfl
    obtain ⟨x, r, rfl, rfl⟩ := zm_u1_inv h
    exact lv_i2l hx hb hdg rfl kk
  case i2b =>
    cases zm_len_of hd (n := 0) rfl
    obtain ⟨x, r, rfl, rfl⟩ := zm_u1_inv h
    exact lv_i2b hx hb hdg rfl kk
  case i2s =>
    cases zm_len_of hd (n := 0) rfl
    obtain ⟨x, r, rfl, rfl⟩ := zm_u1_inv h
    exact lv_i2s hx hb hdg rfl kk
  case i2c =>
    cases zm_len_of hd (n := 0) rfl
    obtain ⟨x, r, rfl, rfl⟩ := zm_u1_inv h
    exact lv_i2c hx hb hdg rfl kk
  case l2i =>
    cases zm_len_of hd (n := 0) rfl
    unfold zm_ss1 at h
    dsimp only at h
    split at h
    · cases h
      exact lv_l2i hx hb hdg rfl kk
    · cases h
  case ladd =>
    cases zm_len_of hd (n := 0) rfl
    obtain ⟨x, y', r, rfl, rfl⟩ := zm_b3_inv h
    exact lv_ladd hx hb hdg kk
  case lmul =>
    cases zm_len_of hd (n := 0) rfl
    obtain ⟨x, y', r, rfl, rfl⟩ := zm_b3_inv h
    exact lv_lmul hx hb hdg kk
  case land =>
    cases zm_len_of hd (n := 0) rfl
    obtain ⟨x, y', r, rfl, rfl⟩ := zm_b3_inv h
    exact lv_land hx hb hdg kk
  case lor =>
    cases zm_len_of hd (n := 0) rfl
    obtain ⟨x, y', r, rfl, rfl⟩ := zm_b3_inv h
    exact lv_lor hx hb hdg kk
  case lshl =>
    cases zm_len_of hd (n := 0) rfl
    unfold zm_ss1 at h
    dsimp only at h
    split at h
    · cases h
      exact lv_lshl hx hb hdg rfl kk
    · cases h
  case lshr =>
    cases zm_len_of hd (n := 0) rfl
    unfold zm_ss1 at h
    dsimp only at h
    split at h
    · cases h
      exact lv_lshr hx hb hdg rfl kk
    · cases h
  case lushr =>
    cases zm_len_of hd (n := 0) rfl
    unfold zm_ss1 at h
    dsimp only at h
    split at h
    · cases h
      exact lv_lushr hx hb hdg rfl kk
    · cases h
  case lcmp =>
    cases zm_len_of hd (n := 0) rfl
    unfold zm_ss1 at h
    dsimp only at h
    split at h
    · cases h
      exact W.lcmp hx hb hdg kk
    · cases h
  case dup =>
    cases zm_len_of hd (n := 0) rfl
    unfold zm_ss1 at h
    dsimp only at h
    split at h
    · cases h
      exact lv_dup hx hb hdg rfl kk
    · cases h
      exact lv_dup hx hb hdg rfl kk
    · cases h
  case dup2 =>
    cases zm_len_of hd (n := 0) rfl
    unfold zm_ss1 at h
    dsimp only at h
    split at h
    · cases h
      exact lv_dup2_11 hx hb hdg rfl rfl kk
    · cases h
  case pop =>
    cases zm_len_of hd (n := 0) rfl
    unfold zm_ss1 at h
    dsimp only at h
    split at h
    · cases h
      exact lv_pop hx hb hdg rfl kk
    · cases h
  case getfield idx =>
    cases zm_len_of hd (n := 2) rfl
    unfold zm_ss1 at h
    dsimp only at h
    split at h
    · split at h
      · rename_i v hg
        cases h
        exact zm_gf_snd ⟨hx, hb, hml, hown, hts, hC⟩ hP hS hdg hg kk
      · cases h
    · cases h
  case getstatic idx =>
    cases zm_len_of hd (n := 2) rfl
    unfold zm_ss1 at h
    dsimp only at h
    split at h
    · rename_i t nest pos hg
      have h1 := zm_tabs zm_gsA (by decide) (zm_la_mem hg)
      unfold zm_bgs at h1
      dsimp only at h1
      split at h
      · rename_i h9
        subst h9
        cases h
        simp only [show Nat.beq 9 9 = true from rfl, cond_true, Bool.and_eq_true] at h1
        exact va_gets hx hb hC.2.2.2.1 hS hown (hts _ (zm_inT h1.2)) (fun _ q => q) hdg kk
      · rename_i h9
        cases h
        have hb9 : Nat.beq t 9 = false := by
          cases hq : Nat.beq t 9 with
          | true => exact absurd (Nat.eq_of_beq_eq_true hq) h9
          | false => rfl
        rw [hb9] at h1
        simp only [cond_false, Bool.and_eq_true, decide_eq_true_eq] at h1
        have hZ := (hC.2.2.1 t h1.1).1
        cases nest with
        | false =>
          exact va_gets hx hb hZ hS hown (hts _ (zm_inT h1.2)) (fun _ q => q) hdg kk
        | true =>
          obtain ⟨q, hq, hqb⟩ := List.any_eq_true.mp h1.2
          simp only [Bool.and_eq_true] at hqb
          have e1 := Nat.eq_of_beq_eq_true hqb.1
          have e2 := Nat.eq_of_beq_eq_true hqb.2.1
          have e3 := Nat.eq_of_beq_eq_true hqb.2.2
          have hN := hC.2.2.2.2.2.2.2 q hq
          rw [e1, e2, e3] at hN
          exact va_getsN hx hb hZ hS hown (va_Nw.use rfl hN) (fun _ q => q) hdg kk
    · cases h
  case ldc idx =>
    cases zm_len_of hd (n := 1) rfl
    unfold zm_ss1 at h
    dsimp only at h
    split at h
    · rename_i v pos hg
      cases h
      have h1 := zm_tabs zm_ldA (by decide) (zm_la_mem hg)
      exact lv_ldc hx hb hown (hts _ (zm_inT h1)) hdg kk
    · split at h
      · rename_i hq
        cases h
        rw [hq.1] at hown
        rw [hq.2] at hdg
        exact va_ldcS hx hb hown hC.2.2.2.2.2.1.1 hdg kk
      · split at h
        · rename_i hq
          cases h
          rw [hq.1] at hown
          rw [hq.2] at hdg
          exact va_ldcS hx hb hown hC.2.2.2.2.2.1.2 hdg kk
        · cases h
  case ldc_w idx =>
    cases zm_len_of hd (n := 2) rfl
    unfold zm_ss1 at h
    dsimp only at h
    split at h
    · rename_i v pos hg
      cases h
      have h1 := zm_tabs zm_ldA (by decide) (zm_la_mem hg)
      exact lv_ldcw hx hb hown (hts _ (zm_inT h1)) hdg kk
    · cases h
  case ldc2_w idx =>
    cases zm_len_of hd (n := 2) rfl
    unfold zm_ss1 at h
    dsimp only at h
    split at h
    · rename_i v pos hg
      cases h
      have h1 := zm_tabs zm_l2A (by decide) (zm_la_mem hg)
      exact lv_ldc2 hx hb hown (hts _ (zm_inT h1)) hdg kk
    · cases h
  case iaload =>
    cases zm_len_of hd (n := 0) rfl
    unfold zm_ss1 at h
    dsimp only at h
    split at h
    · rename_i j k r
      split at h
      · rename_i v hg
        cases h
        unfold zm_ald at hg
        split at hg
        · rename_i hk
          split at hg
          · rename_i hin
            cases hg
            have he := zm_W_get (ad := ad) (cI := cI) (cJ := cJ) (M := M) (zm_kd_lt (Or.inr (Or.inl hk)))
            rw [zm_C_arr hk] at he
            exact va_iald hx hb hC.1 hP k 0 he rfl (zm_inb_in hin) hdg kk
          · cases hg
        · rename_i hk
          split at hg
          · rename_i hin
            cases hg
            have hk2 := zm_k30 hk
            obtain ⟨t, ht, rfl⟩ := hk2
            exact va_ti hx hb (hC.2.2.1 t ht).2 hS (zm_inb_in hin) rfl hdg kk
          · cases hg
        · split at hg
          · rename_i hk hin
            cases hg
            obtain ⟨hy, hin⟩ := hin
            have hk2 := zm_k40 hk
            subst hk2
            obtain ⟨hX, hbl, hbA⟩ := S hy
            exact va_sld hx hb hX hbl hbA hS (zm_inb_in hin) hdg kk
          · cases hg
        · cases hg
      · cases h
    · cases h
  case baload =>
    cases zm_len_of hd (n := 0) rfl
    unfold zm_ss1 at h
    dsimp only at h
    split at h
    · rename_i j k r
      split at h
      · rename_i hk
        split at h
        · rename_i hin
          cases h
          have hk2 := zm_k32 hk
          obtain ⟨t, ht, rfl⟩ := hk2
          have hT := ((hC.2.2.2.2.1).1 t ht).2.2.2
          have e : zm_ln (112 + t) = [5, 3].getD t 0 := by
            rcases (show t = 0 ∨ t = 1 by omega) with rfl | rfl <;> rfl
          rw [e] at hin
          refine va_tb hx hb hT hS (zm_inb_in hin) (v := .int (zm_sb (112 + t) j.toNatClampNeg)) ?_ hdg kk
          show Value.int _ = Value.int _
          unfold zm_sb
          rw [Nat.add_sub_cancel_left]
        · cases h
      · cases h
    · cases h
  case aaload =>
    cases zm_len_of hd (n := 0) rfl
    unfold zm_ss1 at h
    dsimp only at h
    split at h
    · rename_i j k r
      split at h
      · rename_i hk
        split at h
        · rename_i hin
          split at h
          · rename_i a hr
            cases h
            have he := zm_W_get (ad := ad) (cI := cI) (cJ := cJ) (M := M) (zm_kd_lt (Or.inr (Or.inr hk)))
            rw [zm_C_row hk] at he
            have hin := zm_inb_in hin
            have hlt : j.toNatClampNeg < zm_ln k := Nat.not_le.mp fun q => hin (Or.inr q)
            exact W.aald (v := .ref (ad a)) (ty := .array .int) hx hb (hP k _ he) ((hC.1.2 1 _ rfl).1 (zm_ln k) (fun j => va_rf ((zm_rf k j).map ad))) rfl (fun q => by cases q) (by show ¬ (j < 0 ∨ (arrV _ _ _).slots.size ≤ _); rw [arrV_size]; exact hin) (by show (arrV _ _ _).slots[_]? = _; rw [arrV_read _ _ hlt]; show some (va_rf ((zm_rf k j.toNatClampNeg).map ad)) = _; rw [hr]; rfl) rfl rfl hdg kk
          · cases h
        · cases h
      · cases h
    · cases h
  case arraylength =>
    cases zm_len_of hd (n := 0) rfl
    unfold zm_ss1 at h
    dsimp only at h
    split at h
    · rename_i k r
      split at h
      · rename_i v hg
        cases h
        unfold zm_alen at hg
        split at hg
        · rename_i hk
          cases hg
          have he := zm_W_get (ad := ad) (cI := cI) (cJ := cJ) (M := M) (zm_kd_lt (Or.inr (Or.inl hk)))
          rw [zm_C_arr hk] at he
          exact va_alen hx hb hC.1 hP k 0 he rfl rfl hdg kk
        · rename_i hk
          cases hg
          have he := zm_W_get (ad := ad) (cI := cI) (cJ := cJ) (M := M) (zm_kd_lt (Or.inr (Or.inr hk)))
          rw [zm_C_row hk] at he
          exact va_alen hx hb hC.1 hP k 1 he rfl rfl hdg kk
        · rename_i hk
          cases hg
          have hk2 := zm_k30 hk
          obtain ⟨t, ht, rfl⟩ := hk2
          exact va_tlen hx hb (hC.2.2.1 t ht).2 hS rfl hdg kk
        · rename_i hk
          cases hg
          have hk2 := zm_k32 hk
          obtain ⟨t, ht, rfl⟩ := hk2
          have hT := ((hC.2.2.2.2.1).1 t ht).2.2.2
          have e : zm_ln (112 + t) = [5, 3].getD t 0 := by
            rcases (show t = 0 ∨ t = 1 by omega) with rfl | rfl <;> rfl
          rw [e] at kk
          exact va_tlen hx hb hT hS rfl hdg kk
        · split at hg
          · rename_i hk hy
            cases hg
            have hk2 := zm_k40 hk
            subst hk2
            obtain ⟨hX, hbl, hbA⟩ := S hy
            exact va_slen hx hb hX hbl hbA hS hdg kk
          · cases hg
        · cases hg
      · cases h
    · cases h
  all_goals exact absurd (show (none : Option (List Value)) = some st' from h) (fun q => by cases q)
end ZS

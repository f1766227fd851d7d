/-! The constructors' steps. -/
def zk_Fx (p : Program) (s : State) (m : MethodId) (args : Array Value) (meth : Method) (c : Code) (ad : Nat → Nat) (D : va_G) (cI cJ : ClassId) (b0 y : Nat) : Prop :=
  (p.tables.exec = Jvm.exec ∧ c.code = zk_cd y ∧ c.maxLocals = zk_mx y ∧ s.vm.findClass (zm_cn y) = some m.cls) ∧ (∀ w ∈ zm_TT, w.before args s = true) ∧ zk_Cx ad D cI cJ (zk_A b0) s s.heap ∧ meth.name = "<init>" ∧ (y < 12 ∧ b0 ≤ s.heap.size) ∧ ∀ k, k < 97 → ad k = b0 + k
theorem zk_lt_all : ∀ k, k < 97 → zm_kd k < 12 ∨ zm_kd k = 20 ∨ zm_kd k = 21 := by decide +kernel
theorem zk_tyA : (List.range 12).all (fun i => (List.range (zm_nf i)).all (fun j => !(Nat.beq (zm_ft i j) 2) || (zm_ty i j).isReference)) = true := by decide +kernel
theorem zk_refty {i j : Nat} (hi : i < 12) (hj : j < zm_nf i) (hf : zm_ft i j = 2) (a : Nat) : narrow (zm_ty i j) (.ref a) = .ref a ∧ fits (zm_ty i j) (.ref a) = true := by
  have h1 := List.all_eq_true.mp (List.all_eq_true.mp zk_tyA i (List.mem_range.mpr hi)) j (List.mem_range.mpr hj)
  rw [hf] at h1
  have h2 : (zm_ty i j).isReference = true := h1
  generalize zm_ty i j = t at h2
  cases t <;> first | exact ⟨rfl, rfl⟩ | (simp [FieldType.isReference] at h2; done)
section ZKS
variable {p : Program} {l : Launch} {e : Env} {R : Room} {s : State} {m : MethodId} {args : Array Value} {below : List Frame} {meth : Method} {c : Code} {H : Heap} {locs : List Loc} {cells slots : Nat} {Q : State → Prop}
variable {ad : Nat → Nat} {D : va_G} {cI cJ : ClassId} {b0 y pc len : Nat} {i : Instr} {lsA : Array Slot} {ls : zm_L} {st st2 : List Value} {w w2 : zk_w}
theorem zk_len (hy : y < 12) (hd : (pc, i, len) ∈ zk_tb y) : zk_il i = len ∧ zm_ltb (pc, i, len) = true := by
  have h1 := List.all_eq_true.mp (List.all_eq_true.mp zk_ilA y (List.mem_range.mpr hy)) _ hd
  simp only [Bool.and_eq_true, decide_eq_true_eq] at h1
  exact h1
theorem zk_ld_snd (F : zk_Fx p s m args meth c ad D cI cJ b0 y) (hP : va_P D zm_CL (zk_W ad cI cJ w) H) (hS : va_S (zk_A b0) s.heap H locs) (hL : zm_Lh ad lsA (zk_mx y) ls) (hd : (pc, i, len) ∈ zk_tb y) (h : zk_ld y ls i st w = some st2)
    (kk : W p l e R s m args below meth c H locs cells slots Q (F0 m (pc + len) lsA (st2.map (zm_zc ad)))) : W p l e R s m args below meth c H locs cells slots Q (F0 m pc lsA (st.map (zm_zc ad))) := by
  obtain ⟨⟨hx, hb, hml, hown⟩, hts, hC, hin, ⟨hy, hb0⟩, had⟩ := F
  have hdg := zk_dec hy hd
  dsimp only at hdg
  obtain ⟨hl, hlt⟩ := zk_len hy hd
  cases i
  case iconst =>
    cases hl
    cases h
    exact lv_iconst hx hb hdg (zm_lit_eq _) kk
  case bipush =>
    cases hl
    cases h
    exact lv_bipush hx hb hdg (of_decide_eq_true hlt) kk
  case sipush =>
    cases hl
    cases h
    exact lv_sipush hx hb hdg (of_decide_eq_true hlt) kk
  case lconst =>
    cases hl
    cases h
    exact lv_lconst hx hb hdg rfl kk
  case aload_n =>
    cases hl
    unfold zk_ld at h
    dsimp only at h
    split at h
    · rename_i x hg
      cases h
      exact lv_aload_n hx hb hdg rfl (hL.2.2.2 _ _ (zm_gd hg)) kk
    · cases h
  case dup =>
    cases hl
    unfold zk_ld at h
    dsimp only at h
    split at h
    · cases h
      exact lv_dup hx hb hdg rfl kk
    · cases h
  case getfield idx =>
    cases hl
    unfold zk_ld at h
    dsimp only at h
    split at h
    · rename_i k r
      split at h
      · rename_i ci sl hfl
        obtain ⟨h1, h2, h3⟩ := zk_fl_ok hfl
        split at h
        · rename_i hc
          obtain ⟨rfl, hk, hf, hs⟩ := hc
          split at h
          · rename_i q hr
            cases h
            have he := zk_W_get (ad := ad) (cI := cI) (cJ := cJ) hk
            rw [zk_C_obj h2] at he
            refine va_get (D := D) (ci := zm_kd k) (v := .ref (ad q)) (C := zm_cn (zm_kd k)) (T := zm_T (zm_kd k)) (N := zm_nf (zm_kd k)) hx hb hts (zm_fd_in h2) hown hC.1.1 hP k he (zm_CL_get h2) sl h3 (hts _ h1) (fun _ q => q) ?_ hdg kk
            rw [List.getElem?_map, List.getElem?_range h3]
            show some (zk_cv ad w k (zm_kd k) sl) = _
            unfold zk_cv
            rw [hf]
            show some (if zk_has w.2.2.1 k sl = true then va_rf ((zm_rf k sl).map ad) else .null) = _
            rw [if_pos hs, hr]
            rfl
          · cases h
        · cases h
      · cases h
    · cases h
  case aaload =>
    cases hl
    unfold zk_ld at h
    dsimp only at h
    split at h
    · rename_i j k r
      split at h
      · rename_i hc
        obtain ⟨hk, hkn, hi⟩ := hc
        split at h
        · rename_i a hr
          cases h
          have he := zk_W_get (ad := ad) (cI := cI) (cJ := cJ) hkn
          rw [zk_C_row hk] at he
          have hi := zm_inb_in hi
          have hlt2 : j.toNatClampNeg < zm_ln k := Nat.not_le.mp fun q => hi (Or.inr q)
          exact W.aald (v := .ref (ad a)) (ty := .array .int) hx hb (hP k _ he) ((hC.1.1.2 1 _ rfl).1 (zm_ln k) (fun j => va_rf ((zm_rf k j).map ad))) rfl (fun q => by cases q) (by show ¬ (j < 0 ∨ (arrV _ _ _).slots.size ≤ _); rw [arrV_size]; exact hi) (by show (arrV _ _ _).slots[_]? = _; rw [arrV_read _ _ hlt2]; show some (va_rf ((zm_rf k j.toNatClampNeg).map ad)) = _; rw [hr]; rfl) rfl rfl hdg kk
        · cases h
      · cases h
    · cases h
  case getstatic idx =>
    cases hl
    unfold zk_ld at h
    dsimp only at h
    split at h
    · rename_i hc
      obtain ⟨rfl, rfl⟩ := hc
      cases h
      exact va_getsN hx hb (hC.2.1 3 (by decide)).1 hS hown (va_Nw.use rfl hC.2.2.2.2) (fun _ q => q) hdg kk
    · cases h
  case iaload =>
    cases hl
    unfold zk_ld at h
    dsimp only at h
    split at h
    · rename_i j k r
      split at h
      · rename_i hc
        obtain ⟨rfl, hi⟩ := hc
        cases h
        exact va_ti hx hb (hC.2.1 3 (by decide)).2 hS (zm_inb_in hi) rfl hdg kk
      · cases h
    · cases h
  case ldc idx =>
    cases hl
    unfold zk_ld at h
    dsimp only at h
    split at h
    · rename_i hc
      obtain ⟨rfl, rfl⟩ := hc
      cases h
      exact va_ldcS hx hb hown hC.2.2.1 hdg kk
    · cases h
  all_goals exact absurd (show (none : Option (List Value)) = some st2 from h) (fun q => by cases q)
/-- a field is set -/
theorem zk_put_snd {idx k ci sl : Nat} {v : Value} {rest : List Value} (F : zk_Fx p s m args meth c ad D cI cJ b0 y) (hw : w.1 ≤ 97) (hP : va_P D zm_CL (zk_W ad cI cJ w) H) (hS : va_S (zk_A b0) s.heap H locs) (hdg : decode (zk_cd y) pc = .ok (.putfield idx, 3)) (hfl : zk_fl y idx = some (ci, sl)) (hown2 : zm_T ci sl = zm_T ci sl → (zm_T ci sl).1 = zm_cn y) (hkc : zm_kd k = ci) (hk : k < w.1) (h : zk_put w k sl v = some w2)
    (kk : ∀ (H1 : Heap) (locs1 : List Loc), va_P D zm_CL (zk_W ad cI cJ w2) H1 → va_S (zk_A b0) s.heap H1 locs1 → W p l e R s m args below meth c H1 locs1 cells slots Q (F0 m (pc + 3) lsA rest)) : W p l e R s m args below meth c H locs cells slots Q (F0 m pc lsA (zm_zc ad v :: .ref (ad k) :: rest)) := by
  obtain ⟨⟨hx, hb, hml, hown⟩, hts, hC, hin, ⟨hy, hb0⟩, had⟩ := F
  obtain ⟨h1, h2, h3⟩ := zk_fl_ok hfl
  subst hkc
  have he := zk_W_get (ad := ad) (cI := cI) (cJ := cJ) hk
  rw [zk_C_obj h2] at he
  have hft := zm_fd_ft h2 h3
  have hD := zk_D (cI := cI) (cJ := cJ) had hw
  have hln : sl < ((List.range (zm_nf (zm_kd k))).map (zk_cv ad w k (zm_kd k))).length := by rw [List.length_map, List.length_range]; exact h3
  have setW : ∀ (v0 : Value), w2.1 = w.1 → zk_cv ad w2 k (zm_kd k) sl = v0 → (∀ j, j ≠ sl → zk_cv ad w2 k (zm_kd k) j = zk_cv ad w k (zm_kd k) j) → (∀ j, j ≠ k → zk_C ad cI cJ w2 j = zk_C ad cI cJ w j) → (zk_W ad cI cJ w).set k (ad k, .inr (zm_kd k, ((List.range (zm_nf (zm_kd k))).map (zk_cv ad w k (zm_kd k))).set sl v0)) = zk_W ad cI cJ w2 := fun v0 e1 e2 e3 e4 => by
    refine zk_W_set hk e1 ?_ e4
    rw [zk_C_obj h2]
    congr 2
    symm
    exact zm_map_set e2 e3
  have nf : ∀ {ty : FieldType}, zm_ft (zm_kd k) sl ≠ 2 → zm_ty (zm_kd k) sl = ty → ∀ v0, narrow ty v0 = v0 → fits ty v0 = true → (zk_W ad cI cJ w).set k (ad k, .inr (zm_kd k, ((List.range (zm_nf (zm_kd k))).map (zk_cv ad w k (zm_kd k))).set sl v0)) = zk_W ad cI cJ w2 → W p l e R s m args below meth c H locs cells slots Q (F0 m pc lsA (v0 :: .ref (ad k) :: rest)) := fun {ty} h2f hty v0 hn hf hW => by
    refine va_put (D := D) (ci := zm_kd k) (v := v0) (ty := ty) (C := zm_cn (zm_kd k)) (T := zm_T (zm_kd k)) (N := zm_nf (zm_kd k)) hx hb hts (zm_fd_in h2) (zm_ty (zm_kd k)) (zm_fd_ty h2) (zm_fd_nm h2) hown hC.1.1 hP hD hS k he (zm_CL_get h2) sl h3 (hts _ h1) (fun _ q => q) (zm_fd_fin h2 h3 h2f) (by rw [zm_fd_ty h2 sl h3, hty]) hn hf hln hdg (fun H1 locs1 hP1 _ hS1 => ?_)
    rw [hW] at hP1
    exact kk H1 locs1 hP1 hS1
  have fin2 : zm_ft (zm_kd k) sl = 2 → (zm_T (zm_kd k) sl).2.2.2 = true := fun hf => by
    have g1 := zm_fd_ok h2 h3
    unfold zm_bfd at g1
    simp only [Bool.and_eq_true, decide_eq_true_eq] at g1
    have g2 := g1.2.1.2
    rw [hf] at g2
    exact eq_of_beq g2
  unfold zk_put at h
  split at h
  · rename_i hf
    cases h
    refine nf (ty := .int) (by rw [hf]; decide) ?_ _ rfl rfl (setW _ rfl ?_ (fun j hj => ?_) (fun j hj => zk_C_cg ?_ rfl rfl))
    · rw [hf] at hft
      cases hty : zm_ty (zm_kd k) sl <;> rw [hty] at hft <;> first | rfl | (simp at hft; done) | (split at hft <;> first | (cases hft; done) | contradiction | rfl)
    · unfold zk_cv
      rw [hf]
      show Value.int (zk_iv _ k sl) = _
      unfold zk_iv
      rw [if_pos ⟨rfl, rfl⟩]
      rfl
    · unfold zk_cv
      dsimp only
      rw [show ∀ L x, zk_iv ((k, sl, x) :: L) k j = zk_iv L k j from fun L x => if_neg (fun z => hj z.2.symm)]
    · funext q
      exact if_neg (fun z => hj z.1.symm)
  · rename_i hf
    split at h
    · rename_i h01
      cases h
      refine nf (ty := .boolean) (by rw [hf]; decide) ?_ _ (by rcases h01 with rfl | rfl <;> rfl) (by rcases h01 with rfl | rfl <;> rfl) (setW _ rfl ?_ (fun j hj => ?_) (fun j hj => zk_C_cg ?_ rfl rfl))
      · rw [hf] at hft
        cases hty : zm_ty (zm_kd k) sl <;> rw [hty] at hft <;> first | rfl | (simp at hft; done) | (split at hft <;> first | (cases hft; done) | contradiction | rfl)
      · unfold zk_cv
        rw [hf]
        show Value.int (zk_iv _ k sl) = _
        unfold zk_iv
        rw [if_pos ⟨rfl, rfl⟩]
        rfl
      · unfold zk_cv
        dsimp only
        rw [show ∀ L x, zk_iv ((k, sl, x) :: L) k j = zk_iv L k j from fun L x => if_neg (fun z => hj z.2.symm)]
      · funext q
        exact if_neg (fun z => hj z.1.symm)
    · cases h
  · rename_i hf
    cases h
    refine nf (ty := .long) (by rw [hf]; decide) ?_ _ rfl rfl (setW _ rfl ?_ (fun j hj => ?_) (fun j hj => zk_C_cg rfl ?_ rfl))
    · rw [hf] at hft
      cases hty : zm_ty (zm_kd k) sl <;> rw [hty] at hft <;> first | rfl | (simp at hft; done) | (split at hft <;> first | (cases hft; done) | contradiction | rfl)
    · unfold zk_cv
      rw [hf]
      show Value.long (zk_lv _ k sl) = _
      unfold zk_lv
      rw [if_pos ⟨rfl, rfl⟩]
      rfl
    · unfold zk_cv
      dsimp only
      rw [show ∀ L x, zk_lv ((k, sl, x) :: L) k j = zk_lv L k j from fun L x => if_neg (fun z => hj z.2.symm)]
    · funext q
      exact if_neg (fun z => hj z.1.symm)
  · rename_i q hf
    split at h
    · rename_i hr
      cases h
      obtain ⟨hn, hfit⟩ := zk_refty h2 h3 hf (ad q)
      refine va_putF (D := D) (ci := zm_kd k) (v := .ref (ad q)) (ty := zm_ty (zm_kd k) sl) (C := zm_cn (zm_kd k)) (T := zm_T (zm_kd k)) (N := zm_nf (zm_kd k)) hx hb hts (zm_fd_in h2) (zm_ty (zm_kd k)) (zm_fd_ty h2) (zm_fd_nm h2) hown hC.1.1 hP hD hS k he (zm_CL_get h2) sl h3 (hts _ h1) (fun _ q => q) (fin2 hf) hin (hown2 rfl) (zm_fd_ty h2 sl h3) hn hfit hln hdg (fun H1 locs1 hP1 _ hS1 => ?_)
      rw [setW (.ref (ad q)) rfl ?_ (fun j hj => ?_) (fun j hj => zk_C_cg rfl rfl ?_)] at hP1
      · exact kk H1 locs1 hP1 hS1
      · unfold zk_cv
        rw [hf]
        show (if zk_has ((k, sl) :: w.2.2.1) k sl = true then va_rf ((zm_rf k sl).map ad) else .null) = _
        rw [if_pos (show zk_has ((k, sl) :: w.2.2.1) k sl = true from if_pos ⟨rfl, rfl⟩), hr]
        rfl
      · unfold zk_cv
        dsimp only
        rw [show ∀ L, zk_has ((k, sl) :: L) k j = zk_has L k j from fun L => if_neg (fun z => hj z.2.symm)]
      · funext q
        exact if_neg (fun z => hj z.1.symm)
    · cases h
  · rename_i q hf
    split at h
    · rename_i h110
      subst h110
      cases h
      refine nf (ty := .object "java/lang/String") (by rw [hf]; decide) ?_ _ rfl rfl (setW _ rfl ?_ (fun j hj => ?_) (fun j hj => zk_C_cg rfl rfl ?_))
      · rw [hf] at hft
        cases hty : zm_ty (zm_kd k) sl <;> rw [hty] at hft <;> first | rfl | (simp at hft; done) | (split at hft <;> first | (cases hft; done) | contradiction | (simp_all; done) | rfl)
      · unfold zk_cv
        rw [hf]
        show (if zk_has ((k, sl) :: w.2.2.1) k sl = true then Value.ref (ad 110) else .null) = _
        rw [if_pos (show zk_has ((k, sl) :: w.2.2.1) k sl = true from if_pos ⟨rfl, rfl⟩)]
        rfl
      · unfold zk_cv
        dsimp only
        rw [show ∀ L, zk_has ((k, sl) :: L) k j = zk_has L k j from fun L => if_neg (fun z => hj z.2.symm)]
      · funext q
        exact if_neg (fun z => hj z.1.symm)
    · cases h
  · cases h
end ZKS

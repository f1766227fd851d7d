/-! What writes the memory; calls; the run of the abstract machine is a run of the real one. -/
theorem zm_ml_ok {o k y' pos : Nat} {nest : Bool} (h : zm_ml o k = some (y', nest, pos)) : (nest = false → Jvm.Cond.methodLink (zm_cn o) k (zm_nm y') ∈ zm_TT) ∧ (nest = true → ∃ q ∈ zm_nwm, q.1 = o ∧ q.2.1 = k ∧ q.2.2.1 = y') ∧ 0 < y' ∧ y' < zm_N ∧ (nest = true → zm_is y' = true) := by
  have h1 := zm_tabs zm_mlA (by decide) (zm_la_mem h)
  unfold zm_bml at h1
  simp only [Bool.and_eq_true, decide_eq_true_eq] at h1
  obtain ⟨h1, ⟨h2, h3⟩, h4⟩ := h1
  refine ⟨fun hn => ?_, fun hn => ?_, h2, h3, fun hn => ?_⟩
  · subst hn
    exact zm_inT h1
  · subst hn
    obtain ⟨q, hq, hqb⟩ := List.any_eq_true.mp h1
    simp only [Bool.and_eq_true] at hqb
    exact ⟨q, hq, Nat.eq_of_beq_eq_true hqb.1, Nat.eq_of_beq_eq_true hqb.2.1, Nat.eq_of_beq_eq_true hqb.2.2⟩
  · subst hn
    simpa using h4
theorem zm_mi_ok {y : Nat} (h0 : 0 < y) (h : y < zm_N) : Jvm.Cond.code (zm_nm y) (zm_cd y) (zm_mx y) (zm_rt y) ∈ zm_TT ∧ Jvm.Cond.initialized (zm_nm y).cls ∈ zm_TT ∧ (zm_is y = true → Jvm.Cond.static (zm_nm y) ∈ zm_TT) ∧ (zm_is y = false → Jvm.Cond.instanceMethod (zm_nm y) ∈ zm_TT ∧ Jvm.Cond.selects (zm_nm y).cls (zm_nm y) (zm_nm y) ∈ zm_TT)
    ∧ (zm_nm y).cls = zm_cn (zm_yc y) ∧ ((zm_nm y).cls ≠ "java/lang/invoke/MethodHandle" ∧ (zm_nm y).cls ≠ "java/lang/invoke/VarHandle") ∧ plainName (zm_nm y).cls = true ∧ (parseMethodDescriptor (zm_nm y).desc).map (fun d => d.parameters.length) = some (zm_na y) ∧ zm_mx y ≤ 40 := by
  have h1 := zm_chk_mi h0 h
  unfold zm_bmi at h1
  simp only [Bool.and_eq_true, decide_eq_true_eq] at h1
  obtain ⟨h1, h2, h3, h4, h5, h6, h7, h8, h9⟩ := h1
  refine ⟨zm_inT h1, zm_inT h2, fun hs => ?_, fun hs => ?_, h4, ⟨h5, h6⟩, h7, h8, h9⟩
  · have hs : (zm_i y).2.2.1 = true := hs
    rw [hs] at h3
    exact zm_inT h3
  · have hs : (zm_i y).2.2.1 = false := hs
    rw [hs] at h3
    simp only [cond_false, Bool.and_eq_true] at h3
    exact ⟨zm_inT h3.1, zm_inT h3.2⟩
theorem zm_goodIn {y : Nat} (h0 : 0 < y) (h : y < zm_N) : GoodIn zm_TT (zm_ws y) := by
  intro w hw
  rcases List.mem_cons.mp hw with rfl | hw
  · have h1 := (zm_mi_ok h0 h).1
    exact ⟨h1, good_of_word (List.mem_filter.mp h1).2⟩
  · exact ⟨hw, good_of_word (List.mem_filter.mp hw).2⟩
/-- the room that a method wants by the depth of its calls -/
def zm_rm (d : Nat) : Room := { frames := d, cells := 0, slots := 0, locals := 60 * d }
/-- a method's start, its end -/
def zm_Pc (ad : Nat → Nat) (D : va_G) (cI cJ : ClassId) (as : List Value) (M : zm_M) : Array Value → State → Prop := va_Pc (as.map (zm_zc ad)) (fun U => zm_Cx ad D cI cJ (zm_Ad ad) U U.heap ∧ va_P D zm_CL (zm_W ad cI cJ M) U.heap)
def zm_Qc (ad : Nat → Nat) (D : va_G) (cI cJ : ClassId) (v : Option Value) (M' : zm_M) : Array Value → State → Outcome → State → Prop := fun _ st oc t => (oc = .returned (v.map (zm_zc ad)) ∧ va_P D zm_CL (zm_W ad cI cJ M') t.heap) ∧ va_F (zm_Ad ad) st t
/-- a method's contract: from this memory it answers v and leaves that memory -/
def zm_Met (l : Launch) (ad : Nat → Nat) (D : va_G) (cI cJ : ClassId) (d y : Nat) (as : List Value) (M : zm_M) (v : Option Value) (M' : zm_M) : Prop := Met l (zm_nm y) (zm_ws y) (zm_rm d) (zm_Pc ad D cI cJ as M) (zm_Qc ad D cI cJ v M') 0 0 (zm_Ad ad)
theorem zm_Pc_blind {ad : Nat → Nat} {D : va_G} {cI cJ : ClassId} {as : List Value} {M : zm_M} : FrameBlind (zm_Pc ad D cI cJ as M) := by
  intro a U g mk hq
  exact ⟨hq.1, zm_Cx.same (u := U) (U := U.calling g mk a) rfl hq.2.1, hq.2.2⟩
section ZS
variable {p : Program} {l : Launch} {e : Env} {R : Room} {s : State} {m : MethodId} {args : Array Value} {below : List Frame} {meth : Method} {c : Code} {H : Heap} {locs : List Loc} {cells slots : Nat} {Q : State → Prop}
variable {ad : Nat → Nat} {D : va_G} {cI cJ : ClassId} {A : Nat → Prop} {y pc pc' len d : Nat} {i : Instr} {lsA : Array Slot} {ls ls' : zm_L} {st st' : List Value} {M M' : zm_M}
/-- behind a call, any answer -/
theorem zm_call {ls9 : Array Slot} {rest st0 : List Value} {a : Array Value} {v : Option Value} {M1 : zm_M} (hr : va_Run p l e R s m args below meth c H locs cells slots 0 0 (F0 m pc ls9 st0) rest (zm_Qc ad D cI cJ v M1 a) (zm_Ad ad)) (hS : va_S A s.heap H locs) (hAd : ∀ k, k < 97 → A (ad k))
    (kk : ∀ (H1 : Heap) (locs1 : List Loc), va_P D zm_CL (zm_W ad cI cJ M1) H1 → va_S A s.heap H1 locs1 → W p l e R s m args below meth c H1 locs1 cells slots Q (F0 m (pc + 3) ls9 ((v.map (zm_zc ad)).toList ++ rest))) : W p l e R s m args below meth c H locs cells slots Q (F0 m pc ls9 st0) := by
  intro T hT X
  obtain ⟨v9, st9, t, T', L, h0, X', hL, e1, e2, ⟨⟨hv, hb⟩, hz, hk⟩, hst⟩ := hr T hT X
  cases hv
  rw [h0] at hz hk
  have hA : ∀ q, zm_Ad ad q → A q := fun q hq => by
    obtain ⟨k, hk97, rfl⟩ := hq
    exact hAd k hk97
  obtain ⟨t2, a1, b1⟩ := kk T'.heap (locs ++ L) (by rw [e1]; exact hb)
    ⟨Nat.le_trans hS.1 (by rw [e1]; exact hz), fun q h1 h2 => by rw [e1, hk q (Nat.lt_of_lt_of_le h1 hS.1) (fun z => h2 (hA q z))]; exact hS.2.1 q h1 h2, fun q hq => by
      rcases List.mem_append.mp hq with h | h
      · exact hS.2.2 q h
      · exact hA _ (hL q h)⟩ T' rfl X'
  exact ⟨t2, hst t2 a1, b1⟩
theorem zm_sm_snd (F : zm_Fx p s m args c ad D cI cJ A y) (hP : va_P D zm_CL (zm_W ad cI cJ M) H) (hS : va_S A s.heap H locs) (hL : zm_Lh ad lsA (zm_mx y) ls) (hR : d ≤ R.frames ∧ 60 * d ≤ R.locals) (hc9 : cells ≤ R.cells) (hs9 : slots ≤ R.slots) (hd : zm_at y pc = some (i, len)) (h : zm_sm d y i st M = some (st', M'))
    (kk : ∀ (H1 : Heap) (locs1 : List Loc), va_P D zm_CL (zm_W ad cI cJ M') H1 → va_S A s.heap H1 locs1 → W p l e R s m args below meth c H1 locs1 cells slots Q (F0 m (pc + len) lsA (st'.map (zm_zc ad)))) : W p l e R s m args below meth c H locs cells slots Q (F0 m pc lsA (st.map (zm_zc ad))) := by
  have F0' := F
  obtain ⟨hx, hb, hml, hown, hts, hC⟩ := F
  have hdg := zm_dec hd
  have hmls : c.maxLocals = lsA.size := by rw [hml, hL.2.1]
  cases i
  case putfield idx =>
    cases zm_len_of hd (n := 2) rfl
    unfold zm_sm at h
    dsimp only at h
    split at h
    · split at h
      · rename_i M9 hpf
        have hz9 := Prod.mk.inj (Option.some.inj h)
        rw [← hz9.1, ← hz9.2] at kk
        exact zm_pf_snd F0' hP hS hdg hpf kk
      · cases h
    · cases h
  case iastore =>
    cases zm_len_of hd (n := 0) rfl
    unfold zm_sm at h
    dsimp only at h
    split at h
    · rename_i zx zj zk zr
      split at h
      · rename_i hk
        split at h
        · rename_i hin
          have hz9 := Prod.mk.inj (Option.some.inj h)
          rw [← hz9.1, ← hz9.2] at kk
          have he := zm_W_get (ad := ad) (cI := cI) (cJ := cJ) (M := M) (zm_kd_lt (Or.inr (Or.inl hk)))
          rw [zm_C_arr hk] at he
          refine va_iast hx hb hC.1 hP (zm_Cx.toD hC) hS zk 0 he rfl (zm_inb_in hin) hdg (fun H1 locs1 hP1 _ hS1 => ?_)
          rw [zm_W_sr hk] at hP1
          exact kk H1 locs1 hP1 hS1
        · cases h
      · cases h
    · cases h
  case invokestatic idx =>
    cases zm_len_of hd (n := 2) rfl
    unfold zm_sm at h
    dsimp only at h
    split at h
    · cases h
    rename_i hd0
    split at h
    · rename_i pos zy zx zr hbi
      split at h
      · rename_i hcs
        have hz9 := Prod.mk.inj (Option.some.inj h)
        rw [← hz9.1, ← hz9.2] at kk
        have h1 := zm_tabs zm_biA (by decide) (zm_la_mem hbi)
        unfold zm_bbi at h1
        rw [Bool.and_eq_true] at h1
        have hcs := zm_cs_of (ad := ad) hcs
        exact va_mmin hx hb hmls hown (hts _ (zm_inT h1.1)) (hts _ (zm_wq_in (n := 2) (by decide))) (hts _ (zm_wq_in (n := 5) (by decide))) (hts _ (zm_wq_in (n := 7) (by decide))) (by omega) (by omega) hc9 hs9 hdg (kk H locs hP hS)
      · cases h
    · rename_i pos zy zx zr hbi
      split at h
      · rename_i hcs
        have hz9 := Prod.mk.inj (Option.some.inj h)
        rw [← hz9.1, ← hz9.2] at kk
        have h1 := zm_tabs zm_biA (by decide) (zm_la_mem hbi)
        unfold zm_bbi at h1
        rw [Bool.and_eq_true] at h1
        have hcs := zm_cs_of (ad := ad) hcs
        exact va_mmax hx hb hmls hown (hts _ (zm_inT h1.1)) (hts _ (zm_wq_in (n := 3) (by decide))) (hts _ (zm_wq_in (n := 5) (by decide))) (hts _ (zm_wq_in (n := 8) (by decide))) (by omega) (by omega) hc9 hs9 hdg (kk H locs hP hS)
      · cases h
    · rename_i pos zn zdp zb zsp za zr hbi
      split at h
      · rename_i hq9
        obtain ⟨hcs, hka, hkb, g1, g2, g3, g4, g5⟩ := hq9
        have hz9 := Prod.mk.inj (Option.some.inj h)
        rw [← hz9.1, ← hz9.2] at kk
        have h1 := zm_tabs zm_biA (by decide) (zm_la_mem hbi)
        unfold zm_bbi at h1
        rw [Bool.and_eq_true] at h1
        have hcs := zm_cs_of (ad := ad) hcs
        have hea := zm_W_get (ad := ad) (cI := cI) (cJ := cJ) (M := M) (zm_kd_lt (Or.inr (Or.inl hka)))
        rw [zm_C_arr hka] at hea
        have heb := zm_W_get (ad := ad) (cI := cI) (cJ := cJ) (M := M) (zm_kd_lt (Or.inr (Or.inl hkb)))
        rw [zm_C_arr hkb] at heb
        have hnf := zm_nfw
        refine va_copyi hx hb hmls hown (hts _ (zm_inT h1.1)) (hts _ (zm_wq_in (n := 9) (by decide))) (hts _ (zm_wq_in (n := 4) (by decide))) (hts _ (zm_wq_in (n := 6) (by decide))) hC.1 hP (zm_Cx.toD hC) hS za zb 0 0 hea heb rfl rfl rfl g1 g2 g3 g4 g5 (fun _ _ => rfl) (by omega) (by omega) hdg (fun H1 locs1 hP1 _ hS1 => ?_)
        rw [zm_W_sr hkb] at hP1
        exact kk H1 locs1 hP1 hS1
      · cases h
    · cases h
  all_goals exact absurd (show (none : Option (List Value × zm_M)) = some (st', M') from h) (fun q => by cases q)
end ZS

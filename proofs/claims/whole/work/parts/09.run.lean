/-! Calls and returns; the run of the abstract machine is a run of the real one. -/
theorem zm_sm_scr {d y : Nat} {i : Instr} {st st' : List Value} {M M' : zm_M} (h : zm_sm d y i st M = some (st', M')) : M'.2.2.2 = M.2.2.2 := by
  unfold zm_sm at h
  split at h
  · split at h
    · split at h
      · rename_i M9 hpf
        have hz9 := Prod.mk.inj (Option.some.inj h)
        rw [← hz9.2]
        unfold zm_pf at hpf
        split at hpf
        · split at hpf
          · unfold zm_pv at hpf
            split at hpf
            · cases hpf
              rfl
            · split at hpf
              · cases hpf
                rfl
              · cases hpf
            · cases hpf
              rfl
            · split at hpf
              · cases hpf
                rfl
              · cases hpf
            · cases hpf
          · cases hpf
        · cases hpf
      · cases h
    · cases h
  · split at h
    · split at h
      · split at h
        · have hz9 := Prod.mk.inj (Option.some.inj h)
          rw [← hz9.2]
          rfl
        · cases h
      · cases h
    · cases h
  · split at h
    · cases h
    split at h
    · split at h
      · have hz9 := Prod.mk.inj (Option.some.inj h)
        rw [← hz9.2]
      · cases h
    · split at h
      · have hz9 := Prod.mk.inj (Option.some.inj h)
        rw [← hz9.2]
      · cases h
    · split at h
      · have hz9 := Prod.mk.inj (Option.some.inj h)
        rw [← hz9.2]
        rfl
      · cases h
    · cases h
  · cases h
theorem zm_run_scr : ∀ (n d y pc : Nat) (ls : zm_L) (st : List Value) (M : zm_M) (v : Option Value) (M' : zm_M), zm_run n d y pc ls st M = some (v, M') → M'.2.2.2 = M.2.2.2 := by
  intro n
  induction n with
  | zero => intro d y pc ls st M v M' h; cases h
  | succ n ih =>
    intro d y pc ls st M v M' h
    unfold zm_run at h
    split at h
    · cases h
    · split at h
      · have hz9 := Prod.mk.inj (Option.some.inj h)
        rw [← hz9.2]
      · split at h
        · exact ih _ _ _ _ _ _ _ _ h
        · split at h
          · exact ih _ _ _ _ _ _ _ _ h
          · split at h
            · exact ih _ _ _ _ _ _ _ _ h
            · split at h
              · rename_i st9 M9 hsm
                rw [ih _ _ _ _ _ _ _ _ h]
                exact zm_sm_scr hsm
              · split at h
                · split at h
                  · split at h
                    · rename_i v9 M9 hr9
                      rw [ih _ _ _ _ _ _ _ _ h]
                      exact ih _ _ _ _ _ _ _ _ hr9
                    · cases h
                  · cases h
                · cases h
theorem zm_tb_len : zm_tb.length = zm_N := by decide +kernel
theorem zm_at_lt {y pc : Nat} {q : Instr × Nat} (h : zm_at y pc = some q) : y < zm_N := by
  have hm := zm_lk_mem h
  by_cases hy : y < zm_N
  · exact hy
  · rw [List.getD_eq_getElem?_getD, List.getElem?_eq_none (by rw [zm_tb_len]; omega)] at hm
    cases hm
theorem zm_rt_of {y : Nat} (h : y < zm_N) : zm_rt y = (match zm_rk y with | 0 => none | 1 => some .int | 2 => some .boolean | 3 => some .long | 5 => some .byte | _ => some (.object "FathersPay$Text")) := of_decide_eq_true (List.all_eq_true.mp zm_mtA y (List.mem_range.mpr h))
section ZS
variable {p : Program} {l : Launch} {e : Env} {R : Room} {s : State} {m : MethodId} {args : Array Value} {below : List Frame} {meth : Method} {c : Code} {H : Heap} {locs : List Loc} {cells slots : Nat} {Q : State → Prop}
variable {ad : Nat → Nat} {D : va_G} {cI cJ : ClassId} {A : Nat → Prop} {y pc pc' len d : Nat} {i : Instr} {lsA : Array Slot} {ls ls' : zm_L} {st st' : List Value} {M M' : zm_M}
/-- a method's own end -/
theorem zm_ret_snd {v : Option Value} (hx : p.tables.exec = Jvm.exec) (hb : c.code = zm_cd y) (hr : meth.sig.returnType = zm_rt y) (hlocks : meth.locks = false) (hP : va_P D zm_CL (zm_W ad cI cJ M) H) (hS : va_S (zm_Ad ad) s.heap H locs) (hd : zm_at y pc = some (i, len)) (h : zm_ret y i st = some v) :
    W p l e R s m args below meth c H locs 0 0 (MQ below (zm_Qc ad D cI cJ v M) args s 0 0 (zm_Ad ad)) (F0 m pc lsA (st.map (zm_zc ad))) := by
  have hdg := zm_dec hd
  have hrt := zm_rt_of (zm_at_lt hd)
  rw [hrt] at hr
  have hq : ∀ (w : Option Value) (t : State), t.heap = H → w = v.map (zm_zc ad) → zm_Qc ad D cI cJ v M args s (.returned w) t := fun w t ht hw => ⟨⟨by rw [hw], by rw [ht]; exact hP⟩, hS.F ht⟩
  unfold zm_ret at h
  split at h
  · cases zm_len_of hd (n := 0) rfl
    split at h
    · rename_i hk
      cases h
      rw [hk] at hr
      exact W.iret hx hb hr (fun t ht _ => hq _ t ht rfl) hS.2.2 hdg hlocks
    · rename_i hk
      split at h
      · rename_i h01
        cases h
        rw [hk] at hr
        exact W.zret (ty := .boolean) hx hb hr (by rcases h01 with rfl | rfl <;> rfl) (fun t ht _ => hq _ t ht rfl) hS.2.2 hdg hlocks
      · cases h
    · rename_i hk
      split at h
      · rename_i h0
        subst h0
        cases h
        rw [hk] at hr
        exact W.zret (ty := .byte) hx hb hr rfl (fun t ht _ => hq _ t ht rfl) hS.2.2 hdg hlocks
      · cases h
    · cases h
  · cases zm_len_of hd (n := 0) rfl
    split at h
    · rename_i hk
      cases h
      rw [hk] at hr
      exact W.lret hx hb hr (fun t ht _ => hq _ t ht rfl) hS.2.2 hdg hlocks
    · cases h
  · cases zm_len_of hd (n := 0) rfl
    split at h
    · rename_i hk
      cases h
      rw [hk] at hr
      exact W.aret hx hb hr (Or.inl ⟨_, rfl⟩) (Or.inr ⟨_, rfl⟩) (fun t ht _ => hq _ t ht rfl) hS.2.2 hdg hlocks
    · cases h
  · cases zm_len_of hd (n := 0) rfl
    split at h
    · rename_i hk
      cases h
      rw [hk] at hr
      exact W.vret hx hb hr (fun t ht _ => hq _ t ht rfl) hS.2.2 hdg hlocks
    · cases h
  · cases h
end ZS
theorem zm_cal_st {y y' : Nat} {i : Instr} {st as r : List Value} {ad : Nat → Nat} (h : zm_cal y i st = some (y', as, r)) :
    (∃ (idx pos : Nat) (nest : Bool), i = .invokestatic idx ∧ zm_ml (zm_yc y) idx = some (y', nest, pos) ∧ zm_is y' = true ∧ as.length = zm_na y' ∧ zm_cs r = true ∧ st = as.reverse ++ r) ∨
    (∃ (idx pos k : Nat) (as9 : List Value), i = .invokevirtual idx ∧ zm_ml (zm_yc y) idx = some (y', false, pos) ∧ zm_is y' = false ∧ as = .ref k :: as9 ∧ as9.length = zm_na y' ∧ zm_cs r = true ∧ st = as9.reverse ++ .ref k :: r ∧ zm_kd k = zm_yc y') := by
  unfold zm_cal at h
  split at h
  · rename_i idx
    split at h
    · rename_i y9 nest pos hml
      split at h
      · rename_i hq9
        obtain ⟨h1, h2, h3⟩ := hq9
        have hz9 := Prod.mk.inj (Option.some.inj h)
        have hz8 := Prod.mk.inj hz9.2
        left
        rw [hz9.1] at hml h1 h2 h3 hz8
        refine ⟨idx, pos, nest, rfl, hml, h1, ?_, ?_, ?_⟩
        · rw [← hz8.1, List.length_reverse, List.length_take]
          omega
        · rw [← hz8.2]
          exact h3
        · rw [← hz8.1, ← hz8.2, List.reverse_reverse, List.take_append_drop]
      · cases h
    · cases h
  · rename_i idx
    split at h
    · rename_i y9 nest pos hml
      split at h
      · rename_i k9 r9 hdr
        split at h
        · rename_i hq9
          obtain ⟨h1, h2, h3, h4, h5⟩ := hq9
          have hz9 := Prod.mk.inj (Option.some.inj h)
          have hz8 := Prod.mk.inj hz9.2
          right
          rw [hz9.1] at hml h1 h3 h5 hz8 hdr
          subst h2
          refine ⟨idx, pos, k9, (st.take (zm_na y')).reverse, rfl, hml, h1, hz8.1.symm, ?_, ?_, ?_, h5⟩
          · rw [List.length_reverse, List.length_take]
            omega
          · rw [← hz8.2]
            exact h4
          · rw [List.reverse_reverse, ← hz8.2, ← hdr, List.take_append_drop]
        · cases h
      · cases h
    · cases h
  · cases h
set_option maxHeartbeats 4000000 in
/-- THE RUN: what the abstract machine does, the real one does -/
theorem zm_snd (l : Launch) (ad : Nat → Nat) (D : va_G) (cI cJ : ClassId) : ∀ (n d y pc : Nat) (ls : zm_L) (st : List Value) (M : zm_M) (v : Option Value) (M' : zm_M), zm_run n d y pc ls st M = some (v, M') →
    ∀ {p : Program} {e : Env} {R : Room} {s : State} {m : MethodId} {args : Array Value} {below : List Frame} {meth : Method} {c : Code} {H : Heap} {locs : List Loc} {cells slots : Nat} {Q : State → Prop} {A : Nat → Prop} {lsA : Array Slot},
    zm_Fx p s m args c ad D cI cJ A y → zm_Sx s ad A y M → (d ≤ R.frames ∧ 60 * d ≤ R.locals) → cells ≤ R.cells → slots ≤ R.slots → va_P D zm_CL (zm_W ad cI cJ M) H → va_S A s.heap H locs → zm_Lh ad lsA (zm_mx y) ls →
    (∀ (pc9 len9 : Nat) (i9 : Instr) (lsA9 : Array Slot) (st9 : List Value) (H9 : Heap) (locs9 : List Loc), zm_at y pc9 = some (i9, len9) → zm_ret y i9 st9 = some v → va_P D zm_CL (zm_W ad cI cJ M') H9 → va_S A s.heap H9 locs9 →
      W p l e R s m args below meth c H9 locs9 cells slots Q (F0 m pc9 lsA9 (st9.map (zm_zc ad)))) →
    W p l e R s m args below meth c H locs cells slots Q (F0 m pc lsA (st.map (zm_zc ad))) := by
  intro n
  induction n with
  | zero => intro d y pc ls st M v M' h; cases h
  | succ n ih =>
    intro d y pc ls st M v M' h p e R s m args below meth c H locs cells slots Q A lsA F S hR hc9 hs9 hP hS hL hret
    unfold zm_run at h
    split at h
    · cases h
    · rename_i i len hat
      split at h
      · rename_i v9 hv9
        have hz9 := Prod.mk.inj (Option.some.inj h)
        rw [hz9.1] at hv9
        rw [hz9.2] at hP
        exact hret pc len i lsA st H locs hat hv9 hP hS
      · split at h
        · rename_i st9 h9
          exact zm_ss1_snd F S hP hS hL hat h9 (ih _ _ _ _ _ _ _ _ h F S hR hc9 hs9 hP hS hL hret)
        · split at h
          · rename_i ls9 st9 h9
            exact zm_sst_snd F hL hat h9 (fun lsA' hL' => ih _ _ _ _ _ _ _ _ h F S hR hc9 hs9 hP hS hL' hret)
          · split at h
            · rename_i pc9 st9 h9
              exact zm_sj_snd F hat h9 (ih _ _ _ _ _ _ _ _ h F S hR hc9 hs9 hP hS hL hret)
            · split at h
              · rename_i st9 M9 h9
                have hscr := zm_sm_scr h9
                have S9 : zm_Sx s ad A y M9 := fun h0 => by rw [hscr]; exact S h0
                exact zm_sm_snd F hP hS hL hR hc9 hs9 hat h9 (fun H1 locs1 hP1 hS1 => ih _ _ _ _ _ _ _ _ h F S9 hR hc9 hs9 hP1 hS1 hL hret)
              · split at h
                · rename_i d9 y9 as9 r9 hcal hsm9
                  split at h
                  · rename_i hlen
                    split at h
                    · rename_i v1 M1 hr1
                      have hscr := zm_run_scr _ _ _ _ _ _ _ _ _ hr1
                      have S9 : zm_Sx s ad A y M1 := fun h0 => by rw [hscr]; exact S h0
                      have goon : ∀ (H1 : Heap) (locs1 : List Loc), va_P D zm_CL (zm_W ad cI cJ M1) H1 → va_S A s.heap H1 locs1 → W p l e R s m args below meth c H1 locs1 cells slots Q (F0 m (pc + 3) lsA ((v1.map (zm_zc ad)).toList ++ List.map (zm_zc ad) r9)) := fun H1 locs1 hP1 hS1 => by
                        have h8 := ih _ _ _ _ _ _ _ _ h F S9 hR hc9 hs9 hP1 hS1 hL hret
                        rw [List.map_append] at h8
                        cases v1 <;> exact h8
                      have hy9 : 0 < y9 ∧ y9 < zm_N := by
                        rcases zm_cal_st (ad := ad) hcal with ⟨idx, pos, nest, -, hml, -⟩ | ⟨idx, pos, k, as8, -, hml, -⟩
                        · exact ⟨(zm_ml_ok hml).2.2.1, (zm_ml_ok hml).2.2.2.1⟩
                        · exact ⟨(zm_ml_ok hml).2.2.1, (zm_ml_ok hml).2.2.2.1⟩
                      obtain ⟨k1, k2, k3, k4, k5, k6, k7, k8, k9⟩ := zm_mi_ok hy9.1 hy9.2
                      have hM : zm_Met l ad D cI cJ d9 y9 as9 M v1 M1 := by
                        refine Met.ofW (cc := zm_cd y9) (maxL := zm_mx y9) (ret := zm_rt y9) k7 rfl ?_
                        intro p e s m args below meth c s1 B hml hv
                        obtain ⟨rfl, hCx, hP0⟩ := hv
                        have hts0 := atoms_spec (ws := zm_ws y9) B.pre
                        have hown : s.vm.findClass (zm_nm y9).cls = some m.cls := findClass_of_methodNamed B.named
                        rw [k5] at hown
                        rw [lg_entry_eq]
                        exact ih d9 y9 0 _ [] M v1 M1 hr1 ⟨B.exec, B.bytes, hml, hown, fun w hw => hts0 w (List.mem_cons_of_mem _ hw), hCx⟩ (fun h0 => absurd h0 (by omega)) ⟨Nat.le_refl _, Nat.le_refl _⟩ (Nat.le_refl _) (Nat.le_refl _) hP0 va_S.rf (zm_Lh.ent hlen)
                          (fun pc9 len9 i9 lsA9 st9 H9 locs9 g1 g2 g3 g4 => zm_ret_snd B.exec B.bytes B.returns B.notSynchronized g3 g4 g1 g2)
                      obtain ⟨hx, hb, hml, hown, hts, hC⟩ := F
                      have hAd : ∀ k, k < 97 → A (ad k) := hC.2.1.1
                      have hAB : ∀ q, zm_Ad ad q → A q := fun q hq => by
                        obtain ⟨k, hk97, rfl⟩ := hq
                        exact hAd k hk97
                      have hpc : ∀ U : State, U.heap = H → s.WarmedH U.vm → zm_Pc ad D cI cJ as9 M ((as9.map (zm_zc ad)).toArray) U := fun U hU hW => by
                        refine ⟨rfl, ?_, by rw [hU]; exact hP⟩
                        rw [hU]
                        exact zm_Cx.narrow hAB (fun i hi => ⟨i, hi, rfl⟩) (zm_Cx.kept (fun a ha hna => hS.2.1 a ha hna) (zm_Cx.warm hW hC))
                      have hfr : (zm_rm d9).frames + 1 ≤ R.frames := hR.1
                      have hlo : 8 + (zm_mx y9 + 11) + (zm_rm d9).locals ≤ R.locals := by
                        have := hR.2
                        show 8 + (zm_mx y9 + 11) + 60 * d9 ≤ R.locals
                        omega
                      have hgi := zm_goodIn hy9.1 hy9.2
                      have hwarm : ∀ w ∈ zm_ws y9, ∀ (a' : Array Value) (U : State), s.WarmedH U.vm → w.before a' U = true := pay_in hts hgi
                      have hlenp : ∀ sig, parseMethodDescriptor (zm_nm y9).desc = some sig → zm_na y9 = sig.parameters.length := fun sig h7 => by
                        rw [h7] at k8
                        exact (Option.some.inj k8).symm
                      have hd9 := zm_dec hat
                      rcases zm_cal_st (ad := ad) hcal with ⟨idx, pos, nest, rfl, hmlk, his, hal, hcs, hst⟩ | ⟨idx, pos, k, as8, rfl, hmlk, his, has, hal, hcs, hst, hkd⟩
                      · cases zm_len_of hat (n := 2) rfl
                        obtain ⟨l1, l2, -⟩ := zm_ml_ok hmlk
                        have hstk : st.map (zm_zc ad) = (as9.map (zm_zc ad)).reverse ++ r9.map (zm_zc ad) := by rw [hst, List.map_append, List.map_reverse]
                        cases nest with
                        | false =>
                          exact zm_call (va_runS (nL := zm_mx y) (ws := zm_ws y9) (rm := zm_rm d9) (n := zm_na y9) (Ts := zm_TT) ⟨hx, hb, hml, hown, hts⟩ hM ⟨⟨rfl, rfl, hfr, hlo, hwarm, List.mem_cons_self, hts _ k1, hts _ k2, k6, hlenp, hts _ (l1 rfl)⟩, hts _ (k3 his)⟩ ⟨zm_Pc_blind, hpc⟩ rfl (by rw [List.length_map]; exact hal) hL.2.1 hstk (lv_room (zm_cs_of hcs)) hd9 ⟨hc9, hs9⟩) hS hAd goon
                        | true =>
                          obtain ⟨q, hq, q1, q2, q3⟩ := l2 rfl
                          have hN := hC.2.2.2.2.2.2.1 q hq
                          rw [q1, q2, q3] at hN
                          exact zm_call (va_runSN (nL := zm_mx y) (ws := zm_ws y9) (rm := zm_rm d9) (n := zm_na y9) (Ts := zm_TT) ⟨hx, hb, hml, hown, hts⟩ hM ⟨⟨⟨rfl, rfl, hfr, hlo, hwarm, List.mem_cons_self⟩, hts _ k1, hts _ k2, k6, hlenp, va_Nw.use rfl hN⟩, hts _ (k3 his), trivial⟩ ⟨zm_Pc_blind, hpc⟩ rfl (by rw [List.length_map]; exact hal) hL.2.1 hstk (lv_room (zm_cs_of hcs)) hd9 ⟨hc9, hs9⟩) hS hAd goon
                      · cases zm_len_of hat (n := 2) rfl
                        obtain ⟨l1, -⟩ := zm_ml_ok hmlk
                        subst has
                        have hstk : st.map (zm_zc ad) = (as8.map (zm_zc ad)).reverse ++ .ref (ad k) :: r9.map (zm_zc ad) := by rw [hst, List.map_append, List.map_reverse]; rfl
                        have hrecv : ∃ cell : Cell, H[ad k]? = some cell ∧ cell.vm.isStatics = false ∧ s.vm.findClass (zm_nm y9).cls = some cell.cls := by
                          rw [k5]
                          by_cases h12 : zm_kd k < 12
                          · have he := zm_W_get (ad := ad) (cI := cI) (cJ := cJ) (M := M) (zm_kd_lt (Or.inl h12))
                            rw [zm_C_obj h12] at he
                            rw [← hkd]
                            exact va_recv hC.1 hP (zm_CL_get h12) he
                          · have h13 : zm_kd k = 13 := by
                              have g1 : ∀ y, y < zm_N → zm_is y = false → zm_yc y < 12 ∨ zm_yc y = 13 := by decide +kernel
                              rcases g1 y9 hy9.2 his with z | z <;> omega
                            obtain ⟨t, ht, rfl⟩ := zm_k13 h13
                            rw [← hkd, h13]
                            exact vk_recv (adK := fun i => ad (110 + i)) hC.2.2.2.2.1 ht hS
                        exact zm_call (va_runV (nL := zm_mx y) (ws := zm_ws y9) (rm := zm_rm d9) (n := zm_na y9) (Ts := zm_TT) (C := (zm_nm y9).cls) (As := as8.map (zm_zc ad)) ⟨hx, hb, hml, hown, hts⟩ hM ⟨⟨rfl, rfl, hfr, hlo, hwarm, List.mem_cons_self, hts _ k1, hts _ k2, k6, hlenp, hts _ (l1 rfl)⟩, hts _ (k4 his).1, hts _ (k4 his).2⟩ ⟨zm_Pc_blind, hrecv, hpc⟩ rfl (by rw [List.length_map]; exact hal) hL.2.1 hstk (lv_room (zm_cs_of hcs)) hd9 ⟨hc9, hs9⟩) hS hAd goon
                    · cases h
                  · cases h
                · cases h

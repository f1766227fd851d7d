/-! The law from its entry. -/
theorem zm_ret1 {y : Nat} {i : Instr} {st : List Value} (h : zm_ret y i st = some (some (.int 1))) : i = .ireturn ∧ st = [.int 1] := by
  unfold zm_ret at h
  split at h
  · rename_i x
    have hx : x = 1 := by
      split at h
      · cases h
        rfl
      · split at h
        · cases h
          rfl
        · cases h
      · split at h
        · cases h
          rfl
        · cases h
      · cases h
    rw [hx]
    exact ⟨rfl, rfl⟩
  · split at h <;> cases h
  · split at h <;> cases h
  · split at h <;> cases h
  · cases h
section LAW
variable {p : Program} {l : Launch} {e : Env} {R : Room} {s : State} {m : MethodId} {args : Array Value} {below : List Frame} {meth : Method} {c : Code} {H : Heap} {locs : List Loc} {cells slots : Nat} {Q : State → Prop}
variable {ad : Nat → Nat} {D : va_G} {cI cJ : ClassId}
theorem law_fin {b pc len : Nat} {i : Instr} {lsA : Array Slot} {st : List Value} (hx : p.tables.exec = Jvm.exec) (hb : c.code = code) (hr : meth.sig.returnType = ret) (hlocks : meth.locks = false) (hat : zm_at 0 pc = some (i, len)) (h : zm_ret 0 i st = some (some (.int 1))) (hS : va_S (zk_A s.heap.size) s.heap H locs) (hc : cells ≤ 600000) (hs : slots ≤ 7302250) :
    W p l e room_1 s m #[Value.ref b] below meth c H locs cells slots (lw_Z below #[Value.ref b] s) (F0 m pc lsA (st.map (zm_zc ad))) := by
  obtain ⟨rfl, rfl⟩ := zm_ret1 h
  have hdg := zm_dec hat
  cases zm_len_of hat (n := 0) rfl
  refine va_forget (fun q hq => hS.2.2 q hq) (W.widen hc hs ?_)
  exact lw_ret hx hb hr hlocks hdg
theorem law_mk {y2 idx1 idx2 pc : Nat} {w w2 : zk_w} {ls : zm_L} {lsA : Array Slot} (hx : p.tables.exec = Jvm.exec) (hb : c.code = code) (hml : c.maxLocals = 4) (hown : s.vm.findClass R_law = some m.cls) (hts : ∀ w ∈ zm_TT, w.before args s = true) (hC : zk_Cx ad D cI cJ (zk_A s.heap.size) s s.heap) (had : ∀ k, k < 97 → ad k = s.heap.size + k) (h12 : y2 < 12) (hna : zk_na y2 = 0) (hl1 : (Jvm.Cond.classLink R_law idx1 (zm_cn y2)).before args s = true) (hl2 : (Jvm.Cond.methodLink R_law idx2 (zk_nm y2)).before args s = true) (hkd : zm_kd w.1 = y2) (hlow : zk_lo w = true) (hc : zk_call 4 y2 [.ref w.1] (zk_new w 1 (zm_nf y2)) = some w2)
    (d0 : decode code pc = .ok (.new idx1, 3)) (d3 : decode code (pc + 3) = .ok (.dup, 1)) (d4 : decode code (pc + 4) = .ok (.invokespecial idx2, 3)) (hR : 5 ≤ R.frames ∧ 300 ≤ R.locals) (hcR : w2.1 ≤ R.cells) (hsR : w2.2.1 ≤ R.slots) (hP : va_P D zm_CL (zk_W ad cI cJ w) H) (hS : va_S (zk_A s.heap.size) s.heap H locs) (hL : zm_Lh ad lsA 4 ls)
    (kk : ∀ (H1 : Heap) (locs1 : List Loc), va_P D zm_CL (zk_W ad cI cJ w2) H1 → va_S (zk_A s.heap.size) s.heap H1 locs1 → W p l e R s m args below meth c H1 locs1 w2.1 w2.2.1 Q (F0 m (pc + 7) lsA [.ref (ad w.1)])) : W p l e R s m args below meth c H locs w.1 w.2.1 Q (F0 m pc lsA []) := by
  obtain ⟨⟨k1, k2, k3, k4⟩, k5, k6, k7, k8, k9, k10⟩ := zk_ps_ok h12
  have h97 : w.1 < 97 := zm_kd_lt (Or.inl (by rw [hkd]; exact h12))
  have e1 : (zk_new w 1 (zm_nf y2)).1 = w.1 + 1 := rfl
  have e2 : (zk_new w 1 (zm_nf y2)).2.1 = w.2.1 + zm_nf y2 := rfl
  obtain ⟨⟨g1, g2, g3⟩, hM⟩ := zk_callS (l := l) (D := D) (cI := cI) (cJ := cJ) had 4 y2 [.ref w.1] (zk_new w 1 (zm_nf y2)) w2 hc (by omega)
  have hD := zk_D (cI := cI) (cJ := cJ) had (show w.1 ≤ 97 by omega)
  have hA : ∀ q, s.heap.size ≤ q → zk_A s.heap.size q := fun q hq => hq
  refine va_new hx hb hts (zm_fd_in h12) (zm_ty y2) (zm_fd_ty h12) hown hl1 (hts _ k4) (hts _ k2) hC.1.1 hP hD hS hA (zm_CL_get h12) (fs := (List.range (zm_nf y2)).map (zk_cv ad w w.1 y2)) (fun j hj => ?_) (by omega) (by omega) d0 (fun q H1 hP1 hD1 hS1 => ?_)
  · rw [zk_def h12 hj hlow (Nat.le_refl _)]
    unfold vp_V
    rw [List.getD_eq_getElem?_getD, List.getElem?_map, List.getElem?_range hj]
    rfl
  · refine W.size (fun hz => ?_)
    have hq : q < H1.size := (hP1 w.1 _ zk_app_get).lt
    have eq := zk_fresh had h97 hD1 (by omega)
    subst eq
    have hobj : zk_C ad cI cJ (zk_new w 1 (zm_nf y2)) w.1 = .inr (y2, (List.range (zm_nf y2)).map (zk_cv ad w w.1 y2)) := by
      rw [zk_C_new, zk_C_obj (by rw [hkd]; exact h12), hkd]
    rw [← hobj, zk_W_app (w2 := zk_new w 1 (zm_nf y2)) rfl (fun j _ => rfl)] at hP1
    have hbe := zk_below had (show (zk_new w 1 (zm_nf y2)).1 ≤ 97 by omega) hP1 hS1.1
    have hH : H1.size = s.heap.size + (zk_new w 1 (zm_nf y2)).1 := by omega
    refine lv_dup hx hb d3 rfl ?_
    have hwarm : ∀ q ∈ zk_ws y2, ∀ (a' : Array Value) (U : State), s.WarmedH U.vm → q.before a' U = true := pay_in hts (zk_goodIn h12)
    have hlenp : ∀ sig, parseMethodDescriptor (zk_nm y2).desc = some sig → zk_na y2 = sig.parameters.length := fun sig h7 => by
      rw [h7] at k8
      exact (Option.some.inj k8).symm
    have hpc : ∀ U : State, U.heap = H1 → s.WarmedH U.vm → zk_Pc ad D cI cJ s.heap.size [.ref w.1] (zk_new w 1 (zm_nf y2)) (([.ref w.1].map (zm_zc ad)).toArray) U := fun U hU hW => by
      refine ⟨rfl, by rw [hU, hH], ?_, by rw [hU]; exact hP1⟩
      rw [hU]
      exact zk_Cx.kept (fun a ha hna => hS1.2.1 a ha hna) (zk_Cx.warm hW hC)
    have hfr : (zk_rm 4 (w2.1 - (zk_new w 1 (zm_nf y2)).1) (w2.2.1 - (zk_new w 1 (zm_nf y2)).2.1)).frames + 1 ≤ R.frames := hR.1
    have hlo : 8 + (zk_mx y2 + 11) + (zk_rm 4 (w2.1 - (zk_new w 1 (zm_nf y2)).1) (w2.2.1 - (zk_new w 1 (zm_nf y2)).2.1)).locals ≤ R.locals := by
      have := hR.2
      show 8 + (zk_mx y2 + 11) + 60 * 4 ≤ R.locals
      omega
    have hini : (Cond.initialized (zk_nm y2).cls).before args s = true := by
      rw [k5]
      exact hts _ k2
    refine zk_cont (va_runI (nL := 4) (ws := zk_ws y2) (rm := zk_rm 4 (w2.1 - (zk_new w 1 (zm_nf y2)).1) (w2.2.1 - (zk_new w 1 (zm_nf y2)).2.1)) (n := zk_na y2) (Ts := zm_TT) (b := ad w.1) (As := []) (rest := [.ref (ad w.1)]) ⟨hx, hb, hml, hown, hts⟩ hM ⟨⟨rfl, rfl, hfr, hlo, hwarm, List.mem_cons_self, hts _ k1, hini, k6, hlenp, hl2⟩, k10, hts _ k3⟩ ⟨zk_Pc_blind, hpc⟩ rfl hna.symm hL.2.1 rfl (lv_room (Nat.le_of_ble_eq_true rfl)) d4 ⟨by omega, by omega⟩) hS1 (fun H2 locs2 hP2 hS2 => ?_)
    have q1 : w.1 + 1 + (w2.1 - (zk_new w 1 (zm_nf y2)).1) = w2.1 := by omega
    have q2 : w.2.1 + zm_nf y2 + (w2.2.1 - (zk_new w 1 (zm_nf y2)).2.1) = w2.2.1 := by omega
    rw [q1, q2]
    exact kk H2 locs2 hP2 hS2
end LAW
theorem d_law_0 : decode code 0 = .ok (.new 7, 3) := by decide +kernel
theorem d_law_3 : decode code 3 = .ok (.dup, 1) := by decide +kernel
theorem d_law_4 : decode code 4 = .ok (.invokespecial 9, 3) := by decide +kernel
theorem d_law_7 : decode code 7 = .ok (.astore_n 1, 1) := by decide +kernel
theorem d_law_8 : decode code 8 = .ok (.new 10, 3) := by decide +kernel
theorem d_law_11 : decode code 11 = .ok (.dup, 1) := by decide +kernel
theorem d_law_12 : decode code 12 = .ok (.invokespecial 12, 3) := by decide +kernel
theorem d_law_15 : decode code 15 = .ok (.astore_n 2, 1) := by decide +kernel
theorem d_law_16 : decode code 16 = .ok (.iconst 0, 1) := by decide +kernel
theorem d_law_17 : decode code 17 = .ok (.istore_n 3, 1) := by decide +kernel
theorem law_wA : Jvm.Cond.classLink R_law 7 (zm_cn 10) ∈ lw_tbl ∧ Jvm.Cond.methodLink R_law 9 (zk_nm 10) ∈ lw_tbl ∧ Jvm.Cond.classLink R_law 10 (zm_cn 11) ∈ lw_tbl ∧ Jvm.Cond.methodLink R_law 12 (zk_nm 11) ∈ lw_tbl := by decide +kernel
set_option maxHeartbeats 4000000 in
theorem whole_start {p : Program} {e : Env} {s : State} {m : MethodId} {below : List Frame} {meth : Method} {c : Code} (l : Launch) (hflags : l.flags = flags0) {b L : Nat} {xs : Nat → Int32} (hL : L ≤ 384) (C0 : lw_At p s m meth c b L xs) : W p l e room_1 s m #[Value.ref b] below meth c s.heap [] 0 0 (lw_Z below #[Value.ref b] s) (entryFrame m ([Value.ref b] : List Value).toArray 4) := by
  obtain ⟨hx, hb, hr, hml, hown, hts, hX, hbl, hlocks, hgv⟩ := C0
  obtain ⟨ad, D, cI, cJ, had, h120, hzk, hzm⟩ := law_world b hts hgv
  subst h120
  obtain ⟨w1, w2, c1, e82, lo1, c2, hgood, hvals⟩ := zk_run_ex
  obtain ⟨e97, hsl, hWeq⟩ := zk_goodW (ad := ad) (cI := cI) (cJ := cJ) (S := (L, xs)) hgood
  have hz := zm_hts hts
  have hRc : room_1.cells = 600000 := rfl
  have hRs : room_1.slots = 7302250 := rfl
  have hL0 : zm_Lh ad ((lg_sl ([Value.ref (ad 120)]) ++ List.replicate (4 - (lg_sl ([Value.ref (ad 120)])).length) Slot.unset).toArray) 4 (zm_ent [.ref 120] 4) := zm_Lh.ent (ad := ad) (as := [.ref 120]) (n := 4) (by decide)
  have hd1 := (zk_callS (l := l) (D := D) (cI := cI) (cJ := cJ) had 4 11 [.ref 82] (zk_new w1 1 23) w2 c2 (by show w1.1 + 1 ≤ 97; omega)).1
  have hs1 : w1.2.1 + 23 ≤ w2.2.1 := hd1.2.1
  have hT : ∀ (M : zm_M) (a : Int32), Inv M → zi (100 + 40) 76 [.ref 0, .int a] M (fun v M1 => zi (100 + 40) 144 [.ref 82, .int a] M1 (fun w M2 => v = w ∧ Inv M2)) := fun M a h => (pair_text (d := 67) h).mono (fun v M1 g => g.dep (by omega))
  have hrun := law_loop (D := 100) (S := (L, xs)) hT (fun M a b h => pair_safe h) (by show L < 2147483642; omega) L 0 (zk_M w2 (L, xs)) (by show L ≤ 0 + 6 * L + 5; omega) (Nat.zero_le _) (zk_Inv hvals) rfl
  obtain ⟨n, v, M', hr2, hv⟩ := hrun
  have hv1 : v = some (.int 1) := by
    unfold zPi at hv
    split at hv
    · rw [hv]
    · exact hv.elim
  subst hv1
  rw [lg_entry_eq]
  generalize (lg_sl ([Value.ref (ad 120)]) ++ List.replicate (4 - (lg_sl ([Value.ref (ad 120)])).length) Slot.unset).toArray = lsA at hL0 ⊢
  refine law_mk (y2 := 10) (idx1 := 7) (idx2 := 9) (w := zk_w0) (w2 := w1) (lsA := lsA) hx hb hml hown hz hzk had (by decide) (by decide) (hts _ law_wA.1) (hts _ law_wA.2.1) (by decide) (by decide) (by rw [show zm_nf 10 = 9 by decide]; exact c1) d_law_0 d_law_3 d_law_4 (by decide) (by omega) (by omega) (fun k q hq => by simp [zk_W, zk_w0] at hq) va_S.rf hL0 (fun H1 locs1 hP1 hS1 => ?_)
  refine lv_astore_n (i := 1) hx hb d_law_7 rfl hL0.has (by decide) rfl (fun lsB hlB => ?_)
  have hLB := zm_Lh.st1 (v := .ref 0) hL0.1 (by decide) rfl hlB
  refine law_mk (y2 := 11) (idx1 := 10) (idx2 := 12) (w := w1) (w2 := w2) (lsA := lsB) hx hb hml hown hz hzk had (by decide) (by decide) (hts _ law_wA.2.2.1) (hts _ law_wA.2.2.2) (by rw [e82]; decide) lo1 (by rw [e82, show zm_nf 11 = 23 by decide]; exact c2) d_law_8 d_law_11 d_law_12 (by decide) (by omega) (by omega) hP1 hS1 hLB (fun H2 locs2 hP2 hS2 => ?_)
  rw [e82]
  refine lv_astore_n (i := 2) hx hb d_law_15 rfl hLB.has (by decide) rfl (fun lsC hlC => ?_)
  have hLC := zm_Lh.st1 (v := .ref 82) hLB.1 (by decide) rfl hlC
  refine lv_iconst (v := 0) hx hb d_law_16 (by decide) ?_
  refine lv_istore_n (i := 3) hx hb d_law_17 rfl hLC.has (by decide) rfl (fun lsD hlD => ?_)
  have hLD := zm_Lh.st1 (v := .int 0) hLC.1 (by decide) rfl hlD
  rw [hWeq] at hP2
  exact zm_snd l ad D cI cJ n 141 0 18 _ [] _ _ M' hr2 ⟨hx, hb, hml, hown, hz, hzm⟩ (fun _ => ⟨hX, hbl, fun q => absurd (show s.heap.size ≤ ad 120 from q) (by omega)⟩) ⟨by decide, by decide⟩ (by omega) (by omega) hP2 hS2 hLD (fun pc9 len9 i9 lsA9 st9 H9 locs9 g1 g2 g3 g4 => law_fin hx hb hr hlocks g1 g2 g4 (by omega) (by omega))

/-! The constructors' calls, their runs. -/
def zk_rm (d c t : Nat) : Room := { frames := d, cells := c, slots := t, locals := 60 * d }
def zk_ws (y : Nat) : List Jvm.Cond := .code (zk_nm y) (zk_cd y) (zk_mx y) none :: zm_TT
def zk_Pc (ad : Nat → Nat) (D : va_G) (cI cJ : ClassId) (b0 : Nat) (as : List Value) (w : zk_w) : Array Value → State → Prop := va_Pc (as.map (zm_zc ad)) (fun U => U.heap.size = b0 + w.1 ∧ zk_Cx ad D cI cJ (zk_A b0) U U.heap ∧ va_P D zm_CL (zk_W ad cI cJ w) U.heap)
def zk_Qc (ad : Nat → Nat) (D : va_G) (cI cJ : ClassId) (b0 : Nat) (w2 : zk_w) : Array Value → State → Outcome → State → Prop := fun _ st oc t => (oc = .returned none ∧ va_P D zm_CL (zk_W ad cI cJ w2) t.heap) ∧ va_F (zk_A b0) st t
/-- a constructor's contract -/
def zk_Met (l : Launch) (ad : Nat → Nat) (D : va_G) (cI cJ : ClassId) (b0 d y : Nat) (as : List Value) (w w2 : zk_w) : Prop := Met l (zk_nm y) (zk_ws y) (zk_rm d (w2.1 - w.1) (w2.2.1 - w.2.1)) (zk_Pc ad D cI cJ b0 as w) (zk_Qc ad D cI cJ b0 w2) (w2.1 - w.1) (w2.2.1 - w.2.1) (zk_A b0)
theorem zk_Pc_blind {ad : Nat → Nat} {D : va_G} {cI cJ : ClassId} {b0 : Nat} {as : List Value} {w : zk_w} : FrameBlind (zk_Pc ad D cI cJ b0 as w) := by
  intro a U g mk hq
  exact ⟨hq.1, hq.2.1, zk_Cx.same (u := U) (U := U.calling g mk a) rfl hq.2.2.1, hq.2.2.2⟩
theorem zk_goodIn {y : Nat} (hy : y < 12) : GoodIn zm_TT (zk_ws y) := by
  intro w hw
  rcases List.mem_cons.mp hw with rfl | hw
  · have h1 := (zk_ps_ok hy).1.1
    exact ⟨h1, good_of_word (List.mem_filter.mp h1).2⟩
  · exact ⟨hw, good_of_word (List.mem_filter.mp hw).2⟩
theorem zk_ml_ok {o k y2 pos : Nat} {nest : Bool} (ho : o < 13) (h : zk_ml o k = some (y2, nest, pos)) : (y2 = 12 → Jvm.Cond.methodLink (zm_cn o) k objectInit ∈ zm_TT) ∧ (y2 < 12 → (nest = false → Jvm.Cond.methodLink (zm_cn o) k (zk_nm y2) ∈ zm_TT) ∧ (nest = true → ∃ q ∈ zk_nw, q.1 = o ∧ q.2.1 = k ∧ q.2.2.1 = y2)) := by
  have h1 := zm_tabs zk_mlA (by decide) (zm_la_mem h)
  unfold zk_bml at h1
  dsimp only at h1
  refine ⟨fun e => ?_, fun e => ?_⟩
  · subst e
    simp only [show Nat.beq 12 12 = true from rfl, cond_true, Bool.and_eq_true] at h1
    exact zm_inT h1.2
  · have hb : Nat.beq y2 12 = false := by
      cases hq : Nat.beq y2 12 with
      | true => exact absurd (Nat.eq_of_beq_eq_true hq) (by omega)
      | false => rfl
    rw [hb] at h1
    simp only [cond_false, Bool.and_eq_true] at h1
    refine ⟨fun en => ?_, fun en => ?_⟩
    · subst en
      exact zm_inT h1.2
    · subst en
      obtain ⟨q, hq, hqb⟩ := List.any_eq_true.mp h1.2
      simp only [Bool.and_eq_true] at hqb
      exact ⟨q, hq, Nat.eq_of_beq_eq_true hqb.1, Nat.eq_of_beq_eq_true hqb.2.1, Nat.eq_of_beq_eq_true hqb.2.2⟩
theorem zk_cc_st {y y2 : Nat} {i : Instr} {st as2 r : List Value} (h : zk_cc y i st = some (y2, as2, r)) : ∃ (idx pos k : Nat) (nest : Bool) (as8 : List Value), i = .invokespecial idx ∧ zk_ml y idx = some (y2, nest, pos) ∧ y2 < 12 ∧ as2 = .ref k :: as8 ∧ as8.length = zk_na y2 ∧ zm_cs r = true ∧ st = as8.reverse ++ .ref k :: r := by
  unfold zk_cc at h
  split at h
  · rename_i idx
    split at h
    · rename_i y9 nest pos hml
      split at h
      · rename_i h12
        split at h
        · rename_i k9 r9 hdr
          split at h
          · rename_i hq9
            obtain ⟨h1, h2⟩ := hq9
            have hz9 := Prod.mk.inj (Option.some.inj h)
            have hz8 := Prod.mk.inj hz9.2
            rw [hz9.1] at hml h1 h12 hz8 hdr
            refine ⟨idx, pos, k9, nest, (st.take (zk_na y2)).reverse, rfl, hml, h12, hz8.1.symm, ?_, ?_, ?_⟩
            · rw [List.length_reverse, List.length_take]
              omega
            · rw [← hz8.2]
              exact h2
            · rw [List.reverse_reverse, ← hz8.2, ← hdr, List.take_append_drop]
          · cases h
        · cases h
      · cases h
    · cases h
  · cases h
section ZKR
variable {p : Program} {l : Launch} {e : Env} {R : Room} {s : State} {m : MethodId} {args : Array Value} {below : List Frame} {meth : Method} {c : Code} {H : Heap} {locs : List Loc} {cells slots : Nat} {Q : State → Prop}
variable {ad : Nat → Nat} {D : va_G} {cI cJ : ClassId} {b0 y pc len d : Nat} {i : Instr} {lsA : Array Slot} {ls : zm_L} {st st2 : List Value} {w w1 w2 : zk_w}
/-- behind a call -/
theorem zk_cont {ls9 : Array Slot} {rest st0 : List Value} {a : Array Value} {mc ms : Nat} (hr : va_Run p l e R s m args below meth c H locs cells slots mc ms (F0 m pc ls9 st0) rest (zk_Qc ad D cI cJ b0 w1 a) (zk_A b0)) (hS : va_S (zk_A b0) s.heap H locs)
    (kk : ∀ (H1 : Heap) (locs1 : List Loc), va_P D zm_CL (zk_W ad cI cJ w1) H1 → va_S (zk_A b0) s.heap H1 locs1 → W p l e R s m args below meth c H1 locs1 (cells + mc) (slots + ms) Q (F0 m (pc + 3) ls9 rest)) : W p l e R s m args below meth c H locs cells slots Q (F0 m pc ls9 st0) := by
  intro T hT X
  obtain ⟨v9, st9, t, T', L, h0, X', hL, e1, e2, ⟨⟨hv, hb⟩, hz, hk⟩, hst⟩ := hr T hT X
  cases hv
  rw [h0] at hz hk
  obtain ⟨t2, a1, b1⟩ := kk T'.heap (locs ++ L) (by rw [e1]; exact hb)
    ⟨Nat.le_trans hS.1 (by rw [e1]; exact hz), fun q h1 h2 => by rw [e1, hk q (Nat.lt_of_lt_of_le h1 hS.1) h2]; exact hS.2.1 q h1 h2, fun q hq => by
      rcases List.mem_append.mp hq with h | h
      · exact hS.2.2 q h
      · exact hL q h⟩ T' rfl X'
  exact ⟨t2, hst t2 a1, b1⟩
theorem zk_oi_snd (F : zk_Fx p s m args meth c ad D cI cJ b0 y) (hL : zm_Lh ad lsA (zk_mx y) ls) (hd : (pc, i, len) ∈ zk_tb y) (h : zk_oi y i st = some st2) (hR : 1 ≤ R.frames ∧ 20 ≤ R.locals)
    (kk : W p l e R s m args below meth c H locs cells slots Q (F0 m (pc + len) lsA (st2.map (zm_zc ad)))) : W p l e R s m args below meth c H locs cells slots Q (F0 m pc lsA (st.map (zm_zc ad))) := by
  obtain ⟨⟨hx, hb, hml, hown⟩, hts, hC, hin, ⟨hy, hb0⟩, had⟩ := F
  have hdg := zk_dec hy hd
  dsimp only at hdg
  obtain ⟨hl, hlt⟩ := zk_len hy hd
  unfold zk_oi at h
  split at h
  · rename_i idx
    cases hl
    split at h
    · rename_i nest pos hmlk
      split at h
      · rename_i k r
        split at h
        · rename_i hcs
          cases h
          have hlk := (zk_ml_ok (by omega) hmlk).1 rfl
          refine W.objInit hx hb hown (hts _ hlk) (hts _ (zm_inT zk_oiA)) (hts _ (zm_inT zk_ocA)) rfl (by rw [hml]; exact hL.2.1) rfl hdg hR.1 (Nat.le_trans (Nat.add_le_add_right (lv_room (zm_cs_of hcs)) 12) hR.2) ?_
          exact W.eq (g2 := F0 m (pc + 3) lsA (List.map (zm_zc ad) _)) rfl kk
        · cases h
      · cases h
    · cases h
  · cases h
theorem zk_cc_snd {y2 : Nat} {as2 : List Value} (F : zk_Fx p s m args meth c ad D cI cJ b0 y) (hw : w.1 ≤ 97) (hP : va_P D zm_CL (zk_W ad cI cJ w) H) (hS : va_S (zk_A b0) s.heap H locs) (hsz : s.heap.size + cells = b0 + w.1) (hL : zm_Lh ad lsA (zk_mx y) ls) (hd : (pc, i, len) ∈ zk_tb y) (h : zk_cc y i st = some (y2, as2, st2)) (hM : zk_Met l ad D cI cJ b0 d y2 as2 w w1) (hR : d + 1 ≤ R.frames ∧ 60 * (d + 1) ≤ R.locals) (hcR : cells + (w1.1 - w.1) ≤ R.cells) (hsR : slots + (w1.2.1 - w.2.1) ≤ R.slots)
    (kk : ∀ (H1 : Heap) (locs1 : List Loc), va_P D zm_CL (zk_W ad cI cJ w1) H1 → va_S (zk_A b0) s.heap H1 locs1 → W p l e R s m args below meth c H1 locs1 (cells + (w1.1 - w.1)) (slots + (w1.2.1 - w.2.1)) Q (F0 m (pc + len) lsA (st2.map (zm_zc ad)))) : W p l e R s m args below meth c H locs cells slots Q (F0 m pc lsA (st.map (zm_zc ad))) := by
  obtain ⟨⟨hx, hb, hml, hown⟩, hts, hC, hin, ⟨hy, hb0⟩, had⟩ := F
  have hdg := zk_dec hy hd
  dsimp only at hdg
  obtain ⟨hl, hlt⟩ := zk_len hy hd
  obtain ⟨idx, pos, k, nest, as8, rfl, hmlk, h12, rfl, hal, hcs, rfl⟩ := zk_cc_st h
  cases hl
  refine W.size (fun hz0 => ?_)
  have hbe := zk_below had hw hP (Nat.le_trans hb0 hS.1)
  have hH : H.size = b0 + w.1 := by omega
  obtain ⟨⟨k1, k2, k3, k4⟩, k5, k6, k7, k8, k9, k10⟩ := zk_ps_ok h12
  have hl2 := (zk_ml_ok (by omega) hmlk).2 h12
  have hwarm : ∀ q ∈ zk_ws y2, ∀ (a' : Array Value) (U : State), s.WarmedH U.vm → q.before a' U = true := pay_in hts (zk_goodIn h12)
  have hlenp : ∀ sig, parseMethodDescriptor (zk_nm y2).desc = some sig → zk_na y2 = sig.parameters.length := fun sig h7 => by
    rw [h7] at k8
    exact (Option.some.inj k8).symm
  have hpc : ∀ U : State, U.heap = H → s.WarmedH U.vm → zk_Pc ad D cI cJ b0 (.ref k :: as8) w (((.ref k :: as8).map (zm_zc ad)).toArray) U := fun U hU hW => by
    refine ⟨rfl, by rw [hU, hH], ?_, by rw [hU]; exact hP⟩
    rw [hU]
    exact zk_Cx.kept (fun a ha hna => hS.2.1 a ha hna) (zk_Cx.warm hW hC)
  have hfr : (zk_rm d (w1.1 - w.1) (w1.2.1 - w.2.1)).frames + 1 ≤ R.frames := hR.1
  have hlo : 8 + (zk_mx y2 + 11) + (zk_rm d (w1.1 - w.1) (w1.2.1 - w.2.1)).locals ≤ R.locals := by
    have := hR.2
    show 8 + (zk_mx y2 + 11) + 60 * d ≤ R.locals
    omega
  have hini : (Cond.initialized (zk_nm y2).cls).before args s = true := by
    rw [k5]
    exact hts _ k2
  have hstk : (as8.reverse ++ .ref k :: st2).map (zm_zc ad) = (as8.map (zm_zc ad)).reverse ++ .ref (ad k) :: st2.map (zm_zc ad) := by
    rw [List.map_append, List.map_reverse]
    rfl
  cases nest with
  | false =>
    exact zk_cont (va_runI (nL := zk_mx y) (ws := zk_ws y2) (rm := zk_rm d (w1.1 - w.1) (w1.2.1 - w.2.1)) (n := zk_na y2) (Ts := zm_TT) (b := ad k) (As := as8.map (zm_zc ad)) ⟨hx, hb, hml, hown, hts⟩ hM ⟨⟨rfl, rfl, hfr, hlo, hwarm, List.mem_cons_self, hts _ k1, hini, k6, hlenp, hts _ (hl2.1 rfl)⟩, k10, hts _ k3⟩ ⟨zk_Pc_blind, hpc⟩ rfl (by rw [List.length_map]; exact hal) hL.2.1 hstk (lv_room (zm_cs_of hcs)) hdg ⟨hcR, hsR⟩) hS kk
  | true =>
    obtain ⟨q, hq, q1, q2, q3⟩ := hl2.2 rfl
    have hN := hC.2.2.2.1 q hq
    rw [q1, q2, q3] at hN
    exact zk_cont (va_runIN (nL := zk_mx y) (ws := zk_ws y2) (rm := zk_rm d (w1.1 - w.1) (w1.2.1 - w.2.1)) (n := zk_na y2) (Ts := zm_TT) (b := ad k) (As := as8.map (zm_zc ad)) ⟨hx, hb, hml, hown, hts⟩ hM ⟨⟨⟨rfl, rfl, hfr, hlo, hwarm, List.mem_cons_self⟩, hts _ k1, hini, k6, hlenp, va_Nw.use rfl hN⟩, k10, hts _ k3⟩ ⟨zk_Pc_blind, hpc⟩ rfl (by rw [List.length_map]; exact hal) hL.2.1 hstk (lv_room (zm_cs_of hcs)) hdg ⟨hcR, hsR⟩) hS kk
end ZKR

/-! The constructors' runs on the machine are runs of the real one. -/
section ZKU
variable {l : Launch} {ad : Nat → Nat} {D : va_G} {cI cJ : ClassId} {b0 : Nat}
theorem zk_rt_ok {i : Instr} {st : List Value} (h : zk_rt i st = true) : i = .return_ ∧ st = [] := by
  unfold zk_rt at h
  split at h
  · exact ⟨rfl, rfl⟩
  · cases h
theorem zk_is_snd {d y : Nat} (hy : y < 12) {ls : zm_L} {n0 t0 : Nat} {wE : zk_w}
    (ih : ∀ (y : Nat) (as : List Value) (w w2 : zk_w), zk_call d y as w = some w2 → w.1 ≤ 97 → (w.1 ≤ w2.1 ∧ w.2.1 ≤ w2.2.1 ∧ w2.1 ≤ 97) ∧ zk_Met l ad D cI cJ b0 d y as w w2) :
    ∀ (L : List (Nat × Instr × Nat)) (pc : Nat) (st : List Value) (w : zk_w), (∀ q ∈ L, q ∈ zk_tb y) → zk_is (zk_call d) y ls L pc st w = some wE → w.1 ≤ 97 → n0 ≤ w.1 → t0 ≤ w.2.1 →
      (w.1 ≤ wE.1 ∧ w.2.1 ≤ wE.2.1 ∧ wE.1 ≤ 97) ∧
      ∀ {p : Program} {e : Env} {R : Room} {s : State} {m : MethodId} {args : Array Value} {below : List Frame} {meth : Method} {c : Code} {H : Heap} {locs : List Loc} {lsA : Array Slot},
        zk_Fx p s m args meth c ad D cI cJ b0 y → meth.sig.returnType = none → meth.locks = false → s.heap.size = b0 + n0 → (d + 1 ≤ R.frames ∧ 60 * (d + 1) ≤ R.locals) → (wE.1 - n0 ≤ R.cells ∧ wE.2.1 - t0 ≤ R.slots) →
        va_P D zm_CL (zk_W ad cI cJ w) H → va_S (zk_A b0) s.heap H locs → zm_Lh ad lsA (zk_mx y) ls →
        W p l e R s m args below meth c H locs (w.1 - n0) (w.2.1 - t0) (MQ below (zk_Qc ad D cI cJ b0 wE) args s (wE.1 - n0) (wE.2.1 - t0) (zk_A b0)) (F0 m pc lsA (st.map (zm_zc ad))) := by
  intro L
  induction L with
  | nil => intro pc st w _ h; cases h
  | cons q r ihL =>
    obtain ⟨qpc, qi, ql⟩ := q
    intro pc st w hsub h hw hn ht
    have hsub2 : ∀ q ∈ r, q ∈ zk_tb y := fun q hq => hsub q (List.mem_cons_of_mem _ hq)
    have hd : (qpc, qi, ql) ∈ zk_tb y := hsub _ List.mem_cons_self
    unfold zk_is at h
    dsimp only at h
    split at h
    · rename_i epc
      subst epc
      split at h
      · rename_i hrt
        cases h
        refine ⟨⟨Nat.le_refl _, Nat.le_refl _, hw⟩, ?_⟩
        intro p e R s m args below meth c H locs lsA F hret hlk hsz hR hCS hP hS hL
        obtain ⟨rfl, rfl⟩ := zk_rt_ok hrt
        have hdg := zk_dec hy hd
        dsimp only at hdg
        cases (zk_len hy hd).1
        exact W.vret F.1.1 F.1.2.1 hret (fun t ht _ => ⟨⟨rfl, by rw [ht]; exact hP⟩, hS.F ht⟩) hS.2.2 hdg hlk
      · split at h
        · rename_i st2 hld
          obtain ⟨g1, g2⟩ := ihL _ _ _ hsub2 h hw hn ht
          refine ⟨g1, ?_⟩
          intro p e R s m args below meth c H locs lsA F hret hlk hsz hR hCS hP hS hL
          exact zk_ld_snd F hP hS hL hd hld (g2 F hret hlk hsz hR hCS hP hS hL)
        · split at h
          · rename_i st2 w2 hmk
            obtain ⟨k1, k2, k3⟩ := zk_mk_le hmk hw
            obtain ⟨g1, g2⟩ := ihL _ _ _ hsub2 h k3 (by omega) (by omega)
            have e1 : w.1 - n0 + (w2.1 - w.1) = w2.1 - n0 := by omega
            have e2 : w.2.1 - t0 + (w2.2.1 - w.2.1) = w2.2.1 - t0 := by omega
            refine ⟨⟨by omega, by omega, g1.2.2⟩, ?_⟩
            intro p e R s m args below meth c H locs lsA F hret hlk hsz hR hCS hP hS hL
            obtain ⟨c1, c2⟩ := hCS
            refine zk_mk_snd F hw hP hS (by omega) hd hmk (by omega) (by omega) (fun H1 locs1 hP1 hS1 => ?_)
            rw [e1, e2]
            exact g2 F hret hlk hsz hR ⟨c1, c2⟩ hP1 hS1 hL
          · split at h
            · rename_i st2 hoi
              obtain ⟨g1, g2⟩ := ihL _ _ _ hsub2 h hw hn ht
              refine ⟨g1, ?_⟩
              intro p e R s m args below meth c H locs lsA F hret hlk hsz hR hCS hP hS hL
              have hf := hR.1
              have hl := hR.2
              exact zk_oi_snd F hL hd hoi ⟨by omega, by omega⟩ (g2 F hret hlk hsz hR hCS hP hS hL)
            · split at h
              · rename_i y2 as2 st2 hcc
                split at h
                · rename_i w2 hcall
                  obtain ⟨⟨k1, k2, k3⟩, hM⟩ := ih _ _ _ _ hcall hw
                  obtain ⟨g1, g2⟩ := ihL _ _ _ hsub2 h k3 (by omega) (by omega)
                  have e1 : w.1 - n0 + (w2.1 - w.1) = w2.1 - n0 := by omega
                  have e2 : w.2.1 - t0 + (w2.2.1 - w.2.1) = w2.2.1 - t0 := by omega
                  refine ⟨⟨by omega, by omega, g1.2.2⟩, ?_⟩
                  intro p e R s m args below meth c H locs lsA F hret hlk hsz hR hCS hP hS hL
                  obtain ⟨c1, c2⟩ := hCS
                  refine zk_cc_snd F hw hP hS (by omega) hL hd hcc hM hR (by omega) (by omega) (fun H1 locs1 hP1 hS1 => ?_)
                  rw [e1, e2]
                  exact g2 F hret hlk hsz hR ⟨c1, c2⟩ hP1 hS1 hL
                · cases h
              · cases h
    · cases h
theorem zk_callS (had : ∀ k, k < 97 → ad k = b0 + k) : ∀ (d y : Nat) (as : List Value) (w w2 : zk_w), zk_call d y as w = some w2 → w.1 ≤ 97 → (w.1 ≤ w2.1 ∧ w.2.1 ≤ w2.2.1 ∧ w2.1 ≤ 97) ∧ zk_Met l ad D cI cJ b0 d y as w w2 := by
  intro d
  induction d with
  | zero => intro y as w w2 h; cases h
  | succ d ih =>
    intro y as w w2 h hw
    unfold zk_call at h
    split at h
    · rename_i hc
      obtain ⟨hy, hlen⟩ := hc
      obtain ⟨g1, g2⟩ := zk_is_snd hy ih (zk_tb y) 0 [] w (fun q hq => hq) h hw (Nat.le_refl _) (Nat.le_refl _)
      refine ⟨g1, ?_⟩
      obtain ⟨⟨k1, k2, k3, k4⟩, k5, k6, k7, k8, k9, k10⟩ := zk_ps_ok hy
      refine Met.ofW (cc := zk_cd y) (maxL := zk_mx y) (ret := none) k7 rfl ?_
      intro p e s m args below meth c s1 B hml hv
      obtain ⟨rfl, hsz, hCx, hP0⟩ := hv
      have hts0 := atoms_spec (ws := zk_ws y) B.pre
      have hown : s.vm.findClass (zk_nm y).cls = some m.cls := findClass_of_methodNamed B.named
      have hnm := (name_of_methodNamed B.named B.method).1
      rw [k10] at hnm
      rw [k5] at hown
      rw [lg_entry_eq]
      have g3 := g2 (p := p) (e := e) (R := (headSpec (zk_ws y) (zk_rm (d + 1) (w2.1 - w.1) (w2.2.1 - w.2.1))).room) (s := s) (m := m) (args := (as.map (zm_zc ad)).toArray) (below := below) (meth := meth) (c := c) (H := s.heap) (locs := []) ⟨⟨B.exec, B.bytes, hml, hown⟩, fun w hw => hts0 w (List.mem_cons_of_mem _ hw), hCx, hnm, ⟨hy, by omega⟩, had⟩ B.returns B.notSynchronized hsz ⟨Nat.le_refl _, Nat.le_refl _⟩ ⟨Nat.le_refl _, Nat.le_refl _⟩ hP0 va_S.rf (zm_Lh.ent hlen)
      rw [Nat.sub_self, Nat.sub_self] at g3
      exact g3
    · cases h
end ZKU

/-! The constructors' steps: what makes cells, what writes, on the machine. -/
theorem zk_str1 : "[" ++ (FieldType.int).toString = "[I" := by decide
theorem zk_str2 : "[" ++ (FieldType.array FieldType.int).toString = "[[I" := by decide
section ZKM
variable {p : Program} {l : Launch} {e : Env} {R : Room} {s : State} {m : MethodId} {args : Array Value} {below : List Frame} {meth : Method} {c : Code} {H : Heap} {locs : List Loc} {cells slots : Nat} {Q : State → Prop}
variable {ad : Nat → Nat} {D : va_G} {cI cJ : ClassId} {b0 y pc len : Nat} {i : Instr} {lsA : Array Slot} {ls : zm_L} {st st2 : List Value} {w w2 : zk_w}
theorem zk_app_get {q : Nat} {x : va_E} : (zk_W ad cI cJ w ++ [(q, x)])[w.1]? = some (q, x) := by
  have hl : (zk_W ad cI cJ w).length = w.1 := by unfold zk_W; rw [List.length_map, List.length_range]
  rw [List.getElem?_append_right (by omega), hl, Nat.sub_self]
  rfl
theorem zk_mk_snd (F : zk_Fx p s m args meth c ad D cI cJ b0 y) (hw : w.1 ≤ 97) (hP : va_P D zm_CL (zk_W ad cI cJ w) H) (hS : va_S (zk_A b0) s.heap H locs) (hsz : s.heap.size + cells = b0 + w.1) (hd : (pc, i, len) ∈ zk_tb y) (h : zk_mk y i st w = some (st2, w2)) (hcR : cells + (w2.1 - w.1) ≤ R.cells) (hsR : slots + (w2.2.1 - w.2.1) ≤ R.slots)
    (kk : ∀ (H1 : Heap) (locs1 : List Loc), va_P D zm_CL (zk_W ad cI cJ w2) H1 → va_S (zk_A b0) s.heap H1 locs1 → W p l e R s m args below meth c H1 locs1 (cells + (w2.1 - w.1)) (slots + (w2.2.1 - w.2.1)) Q (F0 m (pc + len) lsA (st2.map (zm_zc ad)))) : W p l e R s m args below meth c H locs cells slots Q (F0 m pc lsA (st.map (zm_zc ad))) := by
  have F1 := F
  obtain ⟨⟨hx, hb, hml, hown⟩, hts, hC, hin, ⟨hy, hb0⟩, had⟩ := F
  have hdg := zk_dec hy hd
  dsimp only at hdg
  obtain ⟨hl, hlt⟩ := zk_len hy hd
  have hD := zk_D (cI := cI) (cJ := cJ) had hw
  have hA : ∀ q, s.heap.size ≤ q → zk_A b0 q := fun q hq => Nat.le_trans hb0 hq
  have hfI : s.vm.findClass "[I" = some cI := by
    rw [← zk_str1]
    exact (hC.1.1.2 0 _ rfl).2
  have hfJ : s.vm.findClass "[[I" = some cJ := by
    rw [← zk_str2]
    exact (hC.1.1.2 1 _ rfl).2
  cases i
  case new idx =>
    cases hl
    unfold zk_mk at h
    dsimp only at h
    split at h
    · rename_i ci pos hcl
      obtain ⟨h1, h2⟩ := zk_cl_ok (by omega) hcl
      split at h
      · rename_i hc
        obtain ⟨hk, hlo⟩ := hc
        cases h
        have h97 : w.1 < 97 := zm_kd_lt (Or.inl (by rw [hk]; exact h2))
        have hp := (zk_ps_ok h2).1
        have e1 : (zk_new w 1 (zm_nf ci)).1 - w.1 = 1 := by show w.1 + 1 - w.1 = 1; omega
        have e2 : (zk_new w 1 (zm_nf ci)).2.1 - w.2.1 = zm_nf ci := by show w.2.1 + zm_nf ci - w.2.1 = zm_nf ci; omega
        rw [e1] at hcR kk
        rw [e2] at hsR kk
        refine va_new hx hb hts (zm_fd_in h2) (zm_ty ci) (zm_fd_ty h2) hown (hts _ h1) (hts _ hp.2.2.2) (hts _ hp.2.1) hC.1.1 hP hD hS hA (zm_CL_get h2) (fs := (List.range (zm_nf ci)).map (zk_cv ad w w.1 ci)) (fun j hj => ?_) hcR hsR hdg (fun q H1 hP1 hD1 hS1 => ?_)
        · rw [zk_def h2 hj hlo (Nat.le_refl _)]
          unfold vp_V
          rw [List.getD_eq_getElem?_getD, List.getElem?_map, List.getElem?_range hj]
          rfl
        · refine W.size (fun hz => ?_)
          have hq : q < H1.size := (hP1 w.1 _ zk_app_get).lt
          have eq := zk_fresh had h97 hD1 (by omega)
          subst eq
          have hobj : zk_C ad cI cJ (zk_new w 1 (zm_nf ci)) w.1 = .inr (ci, (List.range (zm_nf ci)).map (zk_cv ad w w.1 ci)) := by
            rw [zk_C_new, zk_C_obj (by rw [hk]; exact h2), hk]
          rw [← hobj, zk_W_app (w2 := zk_new w 1 (zm_nf ci)) rfl (fun j _ => rfl)] at hP1
          exact kk H1 locs hP1 hS1
      · cases h
    · cases h
  case newarray t =>
    cases hl
    unfold zk_mk at h
    dsimp only at h
    split at h
    · rename_i x r
      split at h
      · rename_i hc
        obtain ⟨hk, hx0, hlo⟩ := hc
        cases h
        have h97 : w.1 < 97 := zm_kd_lt (Or.inr (Or.inl hk))
        have hn480 := zk_lnA _ h97
        have e1 : (zk_new w 1 (zm_ln w.1)).1 - w.1 = 1 := by show w.1 + 1 - w.1 = 1; omega
        have e2 : (zk_new w 1 (zm_ln w.1)).2.1 - w.2.1 = zm_ln w.1 := by show w.2.1 + zm_ln w.1 - w.2.1 = zm_ln w.1; omega
        rw [e1] at hcR kk
        rw [e2] at hsR kk
        have hxz : x = zon (zm_ln w.1) := hx0
        refine va_newa (atype := .int) hx hb (hts _ (zm_inT zk_acA)) rfl hC.1.1 hP hD hS hA (N' := zm_ln w.1) (a0 := (zm_ln w.1, .inl (fun _ => 0))) (fun _ => rfl) (by rw [hxz]; exact zon_nn (by omega)) (by rw [hxz]; exact zon_n (by omega)) (by show zm_ln w.1 * 4 ≤ 536870912; omega) hcR hsR hdg (fun q cA H1 hK1 hP1 hD1 hS1 => ?_)
        refine W.size (fun hz => ?_)
        have hq : q < H1.size := (hP1 w.1 _ zk_app_get).lt
        have eq := zk_fresh had h97 hD1 (by omega)
        subst eq
        have hfA : s.vm.findClass ("[" ++ (FieldType.int).toString) = some cA := (hK1.2 2 _ rfl).2
        rw [zk_str1] at hfA
        have ec : cA = cI := Option.some.inj (hfA.symm.trans hfI)
        subst ec
        have hobj : zk_C ad cA cJ (zk_new w 1 (zm_ln w.1)) w.1 = .inl (cA, zm_ln w.1, .inl (fun _ => 0)) := by
          rw [zk_C_new, zk_C_arr hk, show zk_iv w.2.2.2.1 w.1 = (fun _ => 0) from funext (zk_no hlo (Nat.le_refl _)).1]
        rw [← hobj, zk_W_app (w2 := zk_new w 1 (zm_ln w.1)) rfl (fun j _ => rfl)] at hP1
        exact kk H1 locs hP1 hS1
      · cases h
    · cases h
  case multianewarray idx n =>
    cases hl
    unfold zk_mk at h
    dsimp only at h
    split at h
    · rename_i b a r
      split at h
      · rename_i hc
        cases h
        obtain ⟨⟨pos, hmc⟩, hk, ha, hbb, hlo, hrf, hrw⟩ := zk_rows_ok hc
        have h97 : w.1 < 97 := zm_kd_lt (Or.inr (Or.inr hk))
        have hn480 := zk_lnA _ h97
        have hk480 : zm_ln (w.1 + 1) ≤ 480 := by
          by_cases e : w.1 + 1 < 97
          · exact zk_lnA _ e
          · have : w.1 + 1 = 97 := by omega
            rw [this]
            decide
        have e1 : (zk_new w (1 + zm_ln w.1) (zm_ln w.1 + zm_ln w.1 * zm_ln (w.1 + 1))).1 - w.1 = 1 + zm_ln w.1 := by show w.1 + (1 + zm_ln w.1) - w.1 = _; omega
        have e2 : (zk_new w (1 + zm_ln w.1) (zm_ln w.1 + zm_ln w.1 * zm_ln (w.1 + 1))).2.1 - w.2.1 = zm_ln w.1 + zm_ln w.1 * zm_ln (w.1 + 1) := by show w.2.1 + (zm_ln w.1 + zm_ln w.1 * zm_ln (w.1 + 1)) - w.2.1 = _; omega
        rw [e1] at hcR kk
        rw [e2] at hsR kk
        have haz : a = zon (zm_ln w.1) := ha
        have hbz : b = zon (zm_ln (w.1 + 1)) := hbb
        have hcl : Jvm.Cond.classLink (zm_cn y) idx "[[I" ∈ zm_TT := zm_inT (List.all_eq_true.mp zk_mcA _ hmc)
        refine W.size (fun hz0 => ?_)
        have hbe := zk_below had hw hP (Nat.le_trans hb0 hS.1)
        have hH : H.size = b0 + w.1 := by omega
        refine W.mz hx hb hown (hts _ hcl) hC.1.2 (hC.1.1.2 0 _ rfl).1 hfI hfJ (by rw [haz]; exact zon_nn (by omega)) (by rw [hbz]; exact zon_nn (by omega)) (by rw [haz]; exact zon_n (by omega)) (by rw [hbz]; exact zon_n (by omega)) (by omega) (by omega) hcR hsR hdg (fun H1 hs1 hold h0 hrows => ?_)
        have eH : H.size = ad w.1 := by rw [hH, had _ h97]
        rw [eH] at h0 hrows ⊢
        have hrfj : ∀ j, zm_rf w.1 j = if j < zm_ln w.1 then some (w.1 + 1 + j) else none := fun j => by
          unfold zm_rf
          rw [hrf, List.getD_eq_getElem?_getD, List.getElem?_map]
          by_cases ej : j < zm_ln w.1
          · rw [List.getElem?_range ej, if_pos ej]
            rfl
          · rw [List.getElem?_eq_none (by rw [List.length_range]; omega), if_neg ej]
            rfl
        have had1 : ∀ j, j < zm_ln w.1 → ad (w.1 + 1 + j) = ad w.1 + 1 + j := fun j hj => by
          have := zm_kd_lt (Or.inr (Or.inl (hrw j hj).1))
          rw [had _ this, had _ h97]
          omega
        have hP2 : va_P D zm_CL (zk_W ad cI cJ (zk_new w (1 + zm_ln w.1) (zm_ln w.1 + zm_ln w.1 * zm_ln (w.1 + 1)))) H1 := fun k q hq => by
          obtain ⟨k1, k2⟩ := zk_W_lt hq
          rw [zk_W_get k1] at hq
          cases hq
          rw [zk_C_new]
          have k1 : k < w.1 + (1 + zm_ln w.1) := k1
          by_cases c1 : k < w.1
          · have g := hP k _ (zk_W_get c1)
            exact g.kept (hold _ g.lt)
          · by_cases c2 : k = w.1
            · subst c2
              rw [zk_C_row hk]
              show H1[ad w.1]? = some (vp_cell cJ (zm_ln w.1, .inr (.inr (.inr (.inr (fun j => (zm_rf w.1 j).map ad))))))
              rw [vp_cell_q, h0]
              unfold mzO
              congr 2
              funext j
              rw [hrfj j]
              by_cases ej : j < zm_ln w.1
              · rw [if_pos ej, if_pos ej]
                show va_rf (some (ad w.1 + 1 + j)) = va_rf (some (ad (w.1 + 1 + j)))
                rw [had1 j ej]
              · rw [if_neg ej, if_neg ej]
                rfl
            · obtain ⟨j, rfl⟩ : ∃ j, k = w.1 + 1 + j := ⟨k - (w.1 + 1), by omega⟩
              have hj : j < zm_ln w.1 := by omega
              obtain ⟨r1, r2⟩ := hrw j hj
              rw [zk_C_arr r1]
              show H1[ad (w.1 + 1 + j)]? = some (vp_cell cI (zm_ln (w.1 + 1 + j), .inl (zk_iv w.2.2.2.1 (w.1 + 1 + j))))
              rw [had1 j hj, hrows j hj, vp_cell_i, r2, show zk_iv w.2.2.2.1 (w.1 + 1 + j) = (fun _ => 0) from funext (zk_no hlo (by omega)).1]
              rfl
        have q := kk H1 locs hP2 ⟨Nat.le_trans hS.1 (by omega), fun x h1 h2 => (hold x (Nat.lt_of_lt_of_le h1 hS.1)).trans (hS.2.1 x h1 h2), hS.2.2⟩
        rw [← Nat.add_assoc, ← Nat.add_assoc] at q
        exact q
      · cases h
    · cases h
  case putfield idx =>
    cases hl
    unfold zk_mk at h
    dsimp only at h
    split at h
    · rename_i v k r
      split at h
      · rename_i ci sl hfl
        obtain ⟨-, h2, h3⟩ := zk_fl_ok hfl
        split at h
        · rename_i hc
          obtain ⟨hk, hkn, hcy⟩ := hc
          split at h
          · rename_i w3 hput
            cases h
            obtain ⟨e1, e2⟩ := zk_put_same hput
            rw [e1, e2, Nat.sub_self, Nat.sub_self] at kk
            have hdc : (zm_T ci sl).1 = zm_cn y := by
              have g := List.all_eq_true.mp (List.all_eq_true.mp zk_dcA ci (List.mem_range.mpr h2)) sl (List.mem_range.mpr h3)
              rw [← hcy]
              exact of_decide_eq_true g
            exact zk_put_snd F1 hw hP hS hdg hfl (fun _ => hdc) hk hkn hput kk
          · cases h
        · cases h
      · cases h
    · cases h
  case iastore =>
    cases hl
    unfold zk_mk at h
    dsimp only at h
    split at h
    · rename_i x j k r
      split at h
      · rename_i hc
        obtain ⟨hk, hkn, hi⟩ := hc
        cases h
        rw [show (w.1, w.2.1, w.2.2.1, (k, j.toNatClampNeg, x) :: w.2.2.2.1, w.2.2.2.2).1 - w.1 = 0 from Nat.sub_self _, show (w.1, w.2.1, w.2.2.1, (k, j.toNatClampNeg, x) :: w.2.2.2.1, w.2.2.2.2).2.1 - w.2.1 = 0 from Nat.sub_self _] at kk
        have he := zk_W_get (ad := ad) (cI := cI) (cJ := cJ) hkn
        rw [zk_C_arr hk] at he
        refine va_iast hx hb hC.1.1 hP hD hS k 0 he rfl (zm_inb_in hi) hdg (fun H1 locs1 hP1 _ hS1 => ?_)
        rw [zk_W_set (w2 := (w.1, w.2.1, w.2.2.1, (k, j.toNatClampNeg, x) :: w.2.2.2.1, w.2.2.2.2)) hkn rfl ?_ (fun q hq => zk_C_cg ?_ rfl rfl)] at hP1
        · exact kk H1 locs1 hP1 hS1
        · rw [zk_C_arr hk]
          congr 3
          refine congrArg Sum.inl (funext fun q => ?_)
          show zk_iv ((k, j.toNatClampNeg, x) :: w.2.2.2.1) k q = upd (zk_iv w.2.2.2.1 k) j.toNatClampNeg x q
          unfold zk_iv upd
          by_cases eq : q = j.toNatClampNeg
          · rw [if_pos ⟨rfl, eq.symm⟩, if_pos eq]
          · rw [if_neg (fun z => eq z.2.symm), if_neg eq]
        · funext q2
          exact if_neg (fun z => hq z.1.symm)
      · cases h
    · cases h
  all_goals exact absurd (show (none : Option (List Value × zk_w)) = some (st2, w2) from h) (fun q => by cases q)
end ZKM

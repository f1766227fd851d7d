/-! Steps that store, jump, write; the JDK's three. -/
theorem zm_tg_of {pc t : Nat} {off : Int} (h : zm_tg pc off = some t) : (pc : Int) + off = (t : Int) := by
  unfold zm_tg at h
  split at h
  · cases h
    omega
  · cases h
theorem zm_ts_in : ∀ (l : List Int) (x lo d : Int), lo ≤ x → x < lo + (l.length : Int) → l[(x - lo).toNat]? = some (zm_ts x lo l d)
  | [], x, lo, d, h1, h2 => by
    simp at h2
    omega
  | o :: l, x, lo, d, h1, h2 => by
    unfold zm_ts
    by_cases q : x = lo
    · rw [if_pos q, q, show (lo - lo).toNat = 0 by omega]
      rfl
    · rw [if_neg q]
      have h3 := zm_ts_in l x (lo + 1) d (by omega) (by simp at h2; omega)
      rw [show (x - lo).toNat = (x - (lo + 1)).toNat + 1 by omega, List.getElem?_cons_succ]
      exact h3
theorem zm_ts_out : ∀ (l : List Int) (x lo d : Int), (x < lo ∨ lo + (l.length : Int) ≤ x) → zm_ts x lo l d = d
  | [], x, lo, d, _ => rfl
  | o :: l, x, lo, d, h => by
    unfold zm_ts
    rw [if_neg (by simp at h; omega)]
    exact zm_ts_out l x (lo + 1) d (by simp at h; omega)
theorem zm_cs_of {ad : Nat → Nat} {st : List Value} (h : zm_cs st = true) : ((st.map (zm_zc ad)).map fun v => v.category).sum ≤ 8 := by
  rw [List.map_map]
  have e : ((fun v => v.category) ∘ zm_zc ad : Value → Nat) = fun v => v.category := funext fun v => zm_zc_cat
  rw [e]
  exact Nat.le_of_ble_eq_true h
theorem zm_nfw : nativeFrameWords "java/lang/System" "arraycopy" 5 ≤ 30 := by decide +kernel
section ZS
variable {p : Program} {l : Launch} {e : Env} {R : Room} {s : State} {m : MethodId} {args : Array Value} {below : List Frame} {meth : Method} {c : Code} {H : Heap} {locs : List Loc} {cells slots : Nat} {Q : State → Prop}
variable {ad : Nat → Nat} {D : va_G} {cI cJ : ClassId} {A : Nat → Prop} {y pc pc' len d : Nat} {i : Instr} {lsA : Array Slot} {ls ls' : zm_L} {st st' : List Value} {M M' : zm_M}
theorem zm_sst_snd (F : zm_Fx p s m args c ad D cI cJ A y) (hL : zm_Lh ad lsA (zm_mx y) ls) (hd : zm_at y pc = some (i, len)) (h : zm_sst i ls st = some (ls', st'))
    (kk : ∀ lsA' : Array Slot, zm_Lh ad lsA' (zm_mx y) ls' → W p l e R s m args below meth c H locs cells slots Q (F0 m (pc + len) lsA' (st'.map (zm_zc ad)))) : W p l e R s m args below meth c H locs cells slots Q (F0 m pc lsA (st.map (zm_zc ad))) := by
  obtain ⟨hx, hb, hml, hown, hts, hC⟩ := F
  have hdg := zm_dec hd
  cases i
  case istore_n k =>
    cases zm_len_of hd (n := 0) rfl
    unfold zm_sst at h
    dsimp only at h
    split at h
    · split at h
      · rename_i hi
        cases h
        rw [hL.1] at hi
        exact lv_istore_n hx hb hdg rfl hL.has hi rfl (fun lsA' hl => kk lsA' (zm_Lh.st1 hL.1 hi rfl hl))
      · cases h
    · cases h
  case istore k =>
    cases zm_len_of hd (n := 1) rfl
    unfold zm_sst at h
    dsimp only at h
    split at h
    · split at h
      · rename_i hi
        cases h
        rw [hL.1] at hi
        exact lv_istore hx hb hdg hL.has hi rfl (fun lsA' hl => kk lsA' (zm_Lh.st1 hL.1 hi rfl hl))
      · cases h
    · cases h
  case astore_n k =>
    cases zm_len_of hd (n := 0) rfl
    unfold zm_sst at h
    dsimp only at h
    split at h
    · split at h
      · rename_i hi
        cases h
        rw [hL.1] at hi
        exact lv_astore_n hx hb hdg rfl hL.has hi rfl (fun lsA' hl => kk lsA' (zm_Lh.st1 hL.1 hi rfl hl))
      · cases h
    · cases h
  case astore k =>
    cases zm_len_of hd (n := 1) rfl
    unfold zm_sst at h
    dsimp only at h
    split at h
    · split at h
      · rename_i hi
        cases h
        rw [hL.1] at hi
        exact lv_astore hx hb hdg hL.has hi rfl (fun lsA' hl => kk lsA' (zm_Lh.st1 hL.1 hi rfl hl))
      · cases h
    · cases h
  case lstore_n k =>
    cases zm_len_of hd (n := 0) rfl
    unfold zm_sst at h
    dsimp only at h
    split at h
    · split at h
      · rename_i hi
        cases h
        rw [hL.1] at hi
        exact lv_lstore_n hx hb hdg rfl hL.has hi rfl (fun lsA' hl => kk lsA' (zm_Lh.st2 hL.1 hi hl))
      · cases h
    · cases h
  case lstore k =>
    cases zm_len_of hd (n := 1) rfl
    unfold zm_sst at h
    dsimp only at h
    split at h
    · split at h
      · rename_i hi
        cases h
        rw [hL.1] at hi
        exact lv_lstore hx hb hdg hL.has hi rfl (fun lsA' hl => kk lsA' (zm_Lh.st2 hL.1 hi hl))
      · cases h
    · cases h
  case iinc k n =>
    cases zm_len_of hd (n := 2) rfl
    unfold zm_sst at h
    dsimp only at h
    split at h
    · rename_i x hg
      cases h
      have hg := zm_gd hg
      have hi : k < zm_mx y := by rw [← hL.1]; exact (List.getElem?_eq_some_iff.mp hg).1
      obtain ⟨k9, hk9⟩ := List.getElem?_of_mem (zm_al_mem (ad := ad) hg)
      exact lv_iinc hx hb hdg hL.has hk9 (by rw [zm_lit_eq]) hi rfl (fun lsA' hl => kk lsA' (zm_Lh.st1 hL.1 hi rfl hl))
    · cases h
  all_goals exact absurd (show (none : Option (zm_L × List Value)) = some (ls', st') from h) (fun q => by cases q)
theorem zm_sj_snd (F : zm_Fx p s m args c ad D cI cJ A y) (hd : zm_at y pc = some (i, len)) (h : zm_sj pc i st = some (pc', st'))
    (kk : W p l e R s m args below meth c H locs cells slots Q (F0 m pc' lsA (st'.map (zm_zc ad)))) : W p l e R s m args below meth c H locs cells slots Q (F0 m pc lsA (st.map (zm_zc ad))) := by
  obtain ⟨hx, hb, hml, hown, hts, hC⟩ := F
  have hdg := zm_dec hd
  cases i
  case ifCond cc off =>
    cases zm_len_of hd (n := 2) rfl
    unfold zm_sj at h
    dsimp only at h
    split at h
    · rename_i x r t htg
      have hz9 := Prod.mk.inj (Option.some.inj h)
      rw [← hz9.1, ← hz9.2] at kk
      have ht := zm_tg_of htg
      have kt : zm_cmp cc x 0 = true → W p l e R s m args below meth c H locs cells slots Q (F0 m t lsA (List.map (zm_zc ad) r)) := fun hc => by rw [if_pos hc] at kk; exact kk
      have kf : ¬ zm_cmp cc x 0 = true → W p l e R s m args below meth c H locs cells slots Q (F0 m (pc + 3) lsA (List.map (zm_zc ad) r)) := fun hc => by rw [if_neg hc] at kk; exact kk
      cases cc
      · exact lv_if_eq hx hb hdg ht (fun hc => kt (decide_eq_true hc)) (fun hc => kf (fun z => hc (of_decide_eq_true z)))
      · exact lv_if_ne hx hb hdg ht (fun hc => kt (decide_eq_true hc)) (fun hc => kf (fun z => (of_decide_eq_true z) hc))
      · exact lv_if_lt hx hb hdg ht (fun hc => kt (decide_eq_true hc)) (fun hc => kf (fun z => hc (of_decide_eq_true z)))
      · exact lv_if_ge hx hb hdg ht (fun hc => kt (decide_eq_true hc)) (fun hc => kf (fun z => hc (of_decide_eq_true z)))
      · exact lv_if_gt hx hb hdg ht (fun hc => kt (decide_eq_true hc)) (fun hc => kf (fun z => hc (of_decide_eq_true z)))
      · exact lv_if_le hx hb hdg ht (fun hc => kt (decide_eq_true hc)) (fun hc => kf (fun z => hc (of_decide_eq_true z)))
    · cases h
  case if_icmp cc off =>
    cases zm_len_of hd (n := 2) rfl
    unfold zm_sj at h
    dsimp only at h
    split at h
    · rename_i y9 x r t htg
      have hz9 := Prod.mk.inj (Option.some.inj h)
      rw [← hz9.1, ← hz9.2] at kk
      have ht := zm_tg_of htg
      have kt : zm_cmp cc x y9 = true → W p l e R s m args below meth c H locs cells slots Q (F0 m t lsA (List.map (zm_zc ad) r)) := fun hc => by rw [if_pos hc] at kk; exact kk
      have kf : ¬ zm_cmp cc x y9 = true → W p l e R s m args below meth c H locs cells slots Q (F0 m (pc + 3) lsA (List.map (zm_zc ad) r)) := fun hc => by rw [if_neg hc] at kk; exact kk
      cases cc
      · exact lv_icmp_eq hx hb hdg ht (fun hc => kt (decide_eq_true hc)) (fun hc => kf (fun z => hc (of_decide_eq_true z)))
      · exact lv_icmp_ne hx hb hdg ht (fun hc => kt (decide_eq_true hc)) (fun hc => kf (fun z => (of_decide_eq_true z) hc))
      · exact lv_icmp_lt hx hb hdg ht (fun hc => kt (decide_eq_true hc)) (fun hc => kf (fun z => hc (of_decide_eq_true z)))
      · exact lv_icmp_ge hx hb hdg ht (fun hc => kt (decide_eq_true hc)) (fun hc => kf (fun z => hc (of_decide_eq_true z)))
      · exact lv_icmp_gt hx hb hdg ht (fun hc => kt (decide_eq_true hc)) (fun hc => kf (fun z => hc (of_decide_eq_true z)))
      · exact lv_icmp_le hx hb hdg ht (fun hc => kt (decide_eq_true hc)) (fun hc => kf (fun z => hc (of_decide_eq_true z)))
    · cases h
  case goto off =>
    cases zm_len_of hd (n := 2) rfl
    unfold zm_sj at h
    dsimp only at h
    split at h
    · rename_i t htg
      cases h
      exact lv_goto hx hb hdg (zm_tg_of htg) kk
    · cases h
  case tableswitch dflt lo hi offs =>
    unfold zm_sj at h
    dsimp only at h
    split at h
    · rename_i x r
      split at h
      · rename_i hhi
        split at h
        · rename_i t htg
          cases h
          have ht := zm_tg_of htg
          by_cases h1 : x.toInt < lo
          · rw [zm_ts_out _ _ _ _ (Or.inl h1)] at ht
            exact lv_tableOut hx hb hdg (Or.inl h1) ht kk
          · by_cases h2 : hi < x.toInt
            · rw [zm_ts_out _ _ _ _ (Or.inr (by omega))] at ht
              exact lv_tableOut hx hb hdg (Or.inr h2) ht kk
            · refine lv_tableIn hx hb hdg h1 h2 ?_ ht kk
              rw [← Array.getElem?_toList]
              exact zm_ts_in offs.toList x.toInt lo dflt (by omega) (by omega)
        · cases h
      · cases h
    · cases h
  case lookupswitch dflt ps =>
    unfold zm_sj at h
    dsimp only at h
    split at h
    · split at h
      · rename_i hps
        split at h
        · rename_i t htg
          cases h
          exact lv_lookup hx hb hdg hps rfl (zm_tg_of htg) kk
        · cases h
      · cases h
    · cases h
  all_goals exact absurd (show (none : Option (Nat × List Value)) = some (pc', st') from h) (fun q => by cases q)
theorem zm_pf_snd {idx k : Nat} {v : Value} {rest : List Value} (F : zm_Fx p s m args c ad D cI cJ A y) (hP : va_P D zm_CL (zm_W ad cI cJ M) H) (hS : va_S A s.heap H locs) (hdg : decode (zm_cd y) pc = .ok (.putfield idx, 3)) (h : zm_pf y idx k v M = some M')
    (kk : ∀ (H1 : Heap) (locs1 : List Loc), va_P D zm_CL (zm_W ad cI cJ M') H1 → va_S A s.heap H1 locs1 → W p l e R s m args below meth c H1 locs1 cells slots Q (F0 m (pc + 3) lsA rest)) : W p l e R s m args below meth c H locs cells slots Q (F0 m pc lsA (zm_zc ad v :: .ref (ad k) :: rest)) := by
  obtain ⟨hx, hb, hml, hown, hts, hC⟩ := F
  unfold zm_pf at h
  split at h
  · rename_i ci sl pos hfl
    obtain ⟨h1, h2, h3⟩ := zm_fl_ok hfl
    split at h
    · rename_i hkc
      subst hkc
      have hk97 := zm_kd_lt (Or.inl h2)
      have he := zm_W_get (ad := ad) (cI := cI) (cJ := cJ) (M := M) hk97
      rw [zm_C_obj h2] at he
      have hft := zm_fd_ft h2 h3
      have go : ∀ {ty : FieldType} {w : Value}, zm_ty (zm_kd k) sl = ty → zm_ft (zm_kd k) sl ≠ 2 → narrow ty w = w → fits ty w = true →
          (zm_W ad cI cJ M).set k (ad k, .inr (zm_kd k, ((List.range (zm_nf (zm_kd k))).map (zm_cv ad M k (zm_kd k))).set sl w)) = zm_W ad cI cJ M' →
          W p l e R s m args below meth c H locs cells slots Q (F0 m pc lsA (w :: .ref (ad k) :: rest)) := by
        intro ty w hty h2f hn hf hw
        refine va_put (D := D) (ci := zm_kd k) (v := w) (ty := ty) (C := zm_cn (zm_kd k)) (T := zm_T (zm_kd k)) (N := zm_nf (zm_kd k)) hx hb hts (zm_fd_in h2) (zm_ty (zm_kd k)) (zm_fd_ty h2) (zm_fd_nm h2) hown hC.1 hP (zm_Cx.toD hC) hS k he (zm_CL_get h2) sl h3 (hts _ h1) (fun _ q => q) (zm_fd_fin h2 h3 h2f) (by rw [zm_fd_ty h2 sl h3, hty]) hn hf (by rw [List.length_map, List.length_range]; exact h3) hdg (fun H1 locs1 hP1 _ hS1 => ?_)
        rw [hw] at hP1
        exact kk H1 locs1 hP1 hS1
      unfold zm_pv at h
      split at h
      · rename_i hf
        cases h
        refine go (ty := .int) ?_ (by rw [hf]; decide) rfl rfl (zm_W_si h2 (Or.inl hf))
        rw [hf] at hft
        cases hty : zm_ty (zm_kd k) sl <;> rw [hty] at hft <;> first | rfl | (simp at hft; done) | (split at hft <;> first | (cases hft; done) | contradiction | rfl)
      · rename_i hf
        split at h
        · rename_i hx01
          cases h
          refine go (ty := .boolean) ?_ (by rw [hf]; decide) (by rcases hx01 with rfl | rfl <;> rfl) (by rcases hx01 with rfl | rfl <;> rfl) (zm_W_si h2 (Or.inr hf))
          rw [hf] at hft
          cases hty : zm_ty (zm_kd k) sl <;> rw [hty] at hft <;> first | rfl | (simp at hft; done) | (split at hft <;> first | (cases hft; done) | contradiction | rfl)
        · cases h
      · rename_i hf
        cases h
        refine go (ty := .long) ?_ (by rw [hf]; decide) rfl rfl (zm_W_sl h2 hf)
        rw [hf] at hft
        cases hty : zm_ty (zm_kd k) sl <;> rw [hty] at hft <;> first | rfl | (simp at hft; done) | (split at hft <;> first | (cases hft; done) | contradiction | rfl)
      · rename_i hf
        split at h
        · cases h
          refine go (ty := .object "java/lang/String") ?_ (by rw [hf]; decide) rfl rfl (zm_W_ss h2 hf)
          rw [hf] at hft
          cases hty : zm_ty (zm_kd k) sl <;> rw [hty] at hft <;> first | rfl | (simp at hft; done) | (split at hft <;> first | (cases hft; done) | contradiction | (simp_all; done) | rfl)
        · cases h
      · cases h
    · cases h
  · cases h
end ZS

/-! Lines and heirs: both programs' loops. -/
theorem itG_ind {G : Int32 → Int32} {P : Int32 → Prop} (h : ∀ x, P x → P (G x)) : ∀ (n : Nat) (x : Int32), P x → P (itG G n x)
  | 0, _, hx => hx
  | n + 1, x, hx => itG_ind h n (G x) (h x hx)
def lnI (E : Nat → Int32) : Nat → Nat → Int32 → Int32
  | 0, _, x => x
  | n + 1, i, x => lnI E n (i + 1) (if bt x i = true then x ||| pbs E i else x)
theorem lnI_inf {E : Nat → Int32} {k : Nat} : ∀ (n i : Nat) (x : Int32), bt x k = true → bt (lnI E n i x) k = true
  | 0, _, _, h => h
  | n + 1, i, x, h => by
    unfold lnI
    apply lnI_inf n (i + 1)
    split
    · rw [bt_or, h]
      rfl
    · exact h
theorem pbs_bnd {N : Nat} {E : Nat → Int32} (hF : PF N E) (hN : N ≤ 12) {i : Nat} (hi : i < N) : bnd N (pbs E i) := fun k h1 h2 => by
  by_cases h : bt (pbs E i) k = true
  · have := hF.lt hN hi h2 ((bt_pbs hF hN hi h2).mp h)
    omega
  · simpa using h
theorem bnd_or {N : Nat} {x y : Int32} (hx : bnd N x) (hy : bnd N y) : bnd N (x ||| y) := fun k h1 h2 => by
  rw [bt_or, hx k h1 h2, hy k h1 h2]
  rfl
theorem lnI_bnd {N : Nat} {E : Nat → Int32} (hF : PF N E) (hN : N ≤ 12) : ∀ (n i : Nat) (x : Int32), i + n ≤ N → bnd N x → bnd N (lnI E n i x)
  | 0, _, _, _, h => h
  | n + 1, i, x, hi, h => by
    unfold lnI
    apply lnI_bnd hF hN n (i + 1) _ (by omega)
    split
    · exact bnd_or h (pbs_bnd hF hN (by omega))
    · exact h
theorem lnI_cl {N : Nat} {E : Nat → Int32} (hF : PF N E) (hN : N ≤ 12) {a b : Nat} (hb : b < 32) (hp : par E a b) : ∀ (n i : Nat) (x : Int32), i + n ≤ N → i ≤ a → a < i + n → bt x a = true → bt (lnI E n i x) b = true
  | 0, i, x, _, h1, h2, _ => by omega
  | n + 1, i, x, hi, h1, h2, h => by
    unfold lnI
    by_cases hai : i = a
    · subst hai
      rw [if_pos h]
      apply lnI_inf
      rw [bt_or, (bt_pbs hF hN (by omega) hb).mpr hp, Bool.or_true]
    · apply lnI_cl hF hN hb hp n (i + 1) _ (by omega) (by omega) (by omega)
      split
      · rw [bt_or, h]
        rfl
      · exact h
theorem lnI_least {N : Nat} {E : Nat → Int32} (hF : PF N E) (hN : N ≤ 12) {C : Nat → Prop} (hC : ∀ a b, a < N → b < 32 → C a → par E a b → C b) : ∀ (n i : Nat) (x : Int32), i + n ≤ N → (∀ b, b < 32 → bt x b = true → C b) → ∀ b, b < 32 → bt (lnI E n i x) b = true → C b
  | 0, _, _, _, h => h
  | n + 1, i, x, hi, h => by
    unfold lnI
    apply lnI_least hF hN hC n (i + 1) _ (by omega)
    intro b hb hbx
    by_cases hx : bt x i = true
    · rw [if_pos hx, bt_or, Bool.or_eq_true] at hbx
      rcases hbx with hbx | hbx
      · exact h b hb hbx
      · exact hC i b (by omega) hb (h i (by omega) hx) ((bt_pbs hF hN (by omega) hb).mp hbx)
    · rw [if_neg hx] at hbx
      exact h b hb hbx
theorem LN_of {N p : Nat} {E : Nat → Int32} (hF : PF N E) (hN : N ≤ 12) (hp : p < N) : LN E N p (itG (lnI E N 0) N (pbs E p)) := by
  have hfix := fix_iter (G := lnI E N 0) hN (fun x k _ h => lnI_inf N 0 x h) (fun x h => lnI_bnd hF hN N 0 x (by omega) h) N (pbs E p) (pbs_bnd hF hN hp) (by omega)
  refine ⟨⟨fun b hb h => ?_, fun a b ha hb h1 h2 => ?_⟩, fun C h1 h2 => ?_, ?_⟩
  · exact itG_ind (P := fun x => bt x b = true) (fun x h => lnI_inf N 0 x h) N _ ((bt_pbs hF hN hp hb).mpr h)
  · rw [← hfix]
    exact lnI_cl hF hN hb h2 N 0 _ (by omega) (by omega) (by omega) h1
  · exact itG_ind (P := fun x => ∀ b, b < 32 → bt x b = true → C b) (fun x h => lnI_least hF hN h2 N 0 x (by omega) h) N _ (fun b hb hx => h1 b hb ((bt_pbs hF hN hp hb).mp hx))
  · exact itG_ind (P := bnd N) (fun x h => lnI_bnd hF hN N 0 x (by omega) h) N _ (pbs_bnd hF hN hp)
/-- the class's folk hold the parents as E has them -/
def FX (M : zm_M) (N : Nat) (E : Nat → Int32) : Prop := M.1 2 0 = zon N ∧ ∀ p, p < 12 → M.1 6 p = E (12 + 8 * p) ∧ M.1 7 p = E (13 + 8 * p)
theorem X_lnIL {d N s : Nat} {E : Nat → Int32} {Q : Int32 → zm_M → Prop} {M : zm_M} (hN : N ≤ 12) (hx : FX M N E) : ∀ (n i : Nat) (x : Int32), i + n = N → zt (d + 2) 18 22 [some (.ref 2), none, some (.int (lnI E n i x)), some (.int (zon (s + 1))), none] [] M (zPi Q) → zt (d + 2) 18 33 [some (.ref 2), none, some (.int x), some (.int (zon s)), some (.int (zon i))] [] M (zPi Q) := by
  intro n
  induction n with
  | zero =>
    intro i x hi hQ
    apply zg_X3_line_p33
    rw [hx.1, zon_lt (by omega) (by omega), zon_s (a := s)]
    exact ⟨fun z => absurd z (by omega), fun _ => hQ⟩
  | succ n ih =>
    intro i x hi hQ
    obtain ⟨e6, e7⟩ := hx.2 i (by omega)
    have ii : zm_inb (zon i) 12 = true := by rw [zon_inb (by omega)]; omega
    have ni : ¬ zon i < 0 := zon_nn (by omega)
    apply zg_X3_line_p33
    rw [hx.1, zon_lt (by omega) (by omega), zon_n (by omega), e6, e7, zon_s (a := i)]
    rw [lnI] at hQ
    refine ⟨fun _ => ⟨fun z => absurd z ni, fun _ => ⟨fun z => ?_, fun z => ⟨ii, ?_⟩⟩⟩, fun z => absurd (by omega) z⟩
    · have hb : ¬ bt x i = true := by
        rw [(bt_tst (by omega)).mp z]
        decide
      rw [if_neg hb] at hQ
      exact ih (i + 1) x (by omega) hQ
    · have hb : bt x i = true := by
        apply Classical.byContradiction
        intro hc
        exact z ((bt_tst (by omega)).mpr (by simpa using hc))
      rw [if_pos hb] at hQ
      have fin : ∀ y, y = pbs E i → zt (d + 2) 18 33 [some (.ref 2), none, some (.int (x ||| y)), some (.int (zon s)), some (.int (zon (i + 1)))] [] M (zPi Q) := fun y hy => by
        rw [hy]
        exact ih (i + 1) _ (by omega) hQ
      refine ⟨fun f => ⟨ii, fun m => fin _ ?_, fun m => fin _ ?_⟩, fun f => ⟨ii, fun m => fin _ ?_, fun m => fin _ ?_⟩⟩
      · unfold pbs pb; rw [if_pos f, if_pos m]
      · unfold pbs pb; rw [if_pos f, if_neg m]
      · unfold pbs pb; rw [if_neg f, if_pos m]
      · unfold pbs pb; rw [if_neg f, if_neg m]
theorem X_lnO {d N : Nat} {E : Nat → Int32} {Q : Int32 → zm_M → Prop} {M : zm_M} (hN : N ≤ 12) (hx : FX M N E) : ∀ (n s : Nat) (x : Int32), s + n = N → Q (itG (lnI E N 0) n x) M → zt (d + 2) 18 22 [some (.ref 2), none, some (.int x), some (.int (zon s)), none] [] M (zPi Q) := by
  intro n
  induction n with
  | zero =>
    intro s x hs hQ
    apply zg_X3_line_p22
    rw [hx.1, zon_lt (by omega) (by omega)]
    exact ⟨fun z => absurd z (by omega), fun _ => hQ⟩
  | succ n ih =>
    intro s x hs hQ
    apply zg_X3_line_p22
    rw [hx.1, zon_lt (by omega) (by omega)]
    exact ⟨fun _ => X_lnIL hN hx N 0 x (by omega) (ih (s + 1) _ (by omega) hQ), fun z => absurd (by omega) z⟩
theorem X_line {d N p : Nat} {E : Nat → Int32} {Q : Int32 → zm_M → Prop} {M : zm_M} (hF : PF N E) (hN : N ≤ 12) (hp : p < N) (hx : FX M N E) (hQ : ∀ x, LN E N p x → Q x M) : zi (d + 2) 18 [.ref 2, .int (zon p)] M Q := by
  obtain ⟨e6, e7⟩ := hx.2 p (by omega)
  have ii : zm_inb (zon p) 12 = true := by rw [zon_inb (by omega)]; omega
  have fin : ∀ y, y = pbs E p → zt (d + 2) 18 22 [some (.ref 2), none, some (.int y), some (.int 0), none] [] M (zPi Q) := fun y hy => by
    rw [hy]
    exact X_lnO hN hx N 0 _ (by omega) (hQ _ (LN_of hF hN hp))
  apply zg_X3_line
  rw [zon_n (by omega), e6, e7]
  refine ⟨ii, fun f => ⟨ii, fun m => fin _ ?_, fun m => fin _ ?_⟩, fun f => ⟨ii, fun m => fin _ ?_, fun m => fin _ ?_⟩⟩
  · unfold pbs pb; rw [if_pos f, if_pos m]
  · unfold pbs pb; rw [if_pos f, if_neg m]
  · unfold pbs pb; rw [if_neg f, if_pos m]
  · unfold pbs pb; rw [if_neg f, if_neg m]
def rlI (E : Nat → Int32) (p : Nat) (w : Int32) : Nat → Nat → Int32 → Int32
  | 0, _, x => x
  | n + 1, i, x => rlI E p w n (i + 1) (if i = p ∨ bt w i = true then x ||| pbs E i else x)
theorem rlI_inf {E : Nat → Int32} {p k : Nat} {w : Int32} : ∀ (n i : Nat) (x : Int32), bt x k = true → bt (rlI E p w n i x) k = true
  | 0, _, _, h => h
  | n + 1, i, x, h => by
    unfold rlI
    apply rlI_inf n (i + 1)
    split
    · rw [bt_or, h]
      rfl
    · exact h
theorem rlI_bnd {N p : Nat} {w : Int32} {E : Nat → Int32} (hF : PF N E) (hN : N ≤ 12) : ∀ (n i : Nat) (x : Int32), i + n ≤ N → bnd N x → bnd N (rlI E p w n i x)
  | 0, _, _, _, h => h
  | n + 1, i, x, hi, h => by
    unfold rlI
    apply rlI_bnd hF hN n (i + 1) _ (by omega)
    split
    · exact bnd_or h (pbs_bnd hF hN (by omega))
    · exact h
theorem rlI_cl {N p : Nat} {w : Int32} {E : Nat → Int32} (hF : PF N E) (hN : N ≤ 12) {a b : Nat} (hb : b < 32) (hp : par E a b) (ha : a = p ∨ bt w a = true) : ∀ (n i : Nat) (x : Int32), i + n ≤ N → i ≤ a → a < i + n → bt (rlI E p w n i x) b = true
  | 0, i, x, _, h1, h2 => by omega
  | n + 1, i, x, hi, h1, h2 => by
    unfold rlI
    by_cases hai : i = a
    · subst hai
      rw [if_pos ha]
      apply rlI_inf
      rw [bt_or, (bt_pbs hF hN (by omega) hb).mpr hp, Bool.or_true]
    · exact rlI_cl hF hN hb hp ha n (i + 1) _ (by omega) (by omega) (by omega)
theorem rlI_least {N p : Nat} {w : Int32} {E : Nat → Int32} (hF : PF N E) (hN : N ≤ 12) {C : Nat → Prop} (hC1 : ∀ b, b < 32 → par E p b → C b) (hC : ∀ a b, a < N → b < 32 → C a → par E a b → C b) (hw : ∀ b, b < 32 → bt w b = true → C b) : ∀ (n i : Nat) (x : Int32), i + n ≤ N → (∀ b, b < 32 → bt x b = true → C b) → ∀ b, b < 32 → bt (rlI E p w n i x) b = true → C b
  | 0, _, _, _, h => h
  | n + 1, i, x, hi, h => by
    unfold rlI
    apply rlI_least hF hN hC1 hC hw n (i + 1) _ (by omega)
    intro b hb hbx
    by_cases hx : i = p ∨ bt w i = true
    · rw [if_pos hx, bt_or, Bool.or_eq_true] at hbx
      rcases hbx with hbx | hbx
      · exact h b hb hbx
      · have hpar := (bt_pbs hF hN (by omega) hb).mp hbx
        rcases hx with hx | hx
        · exact hC1 b hb (hx ▸ hpar)
        · exact hC i b (by omega) hb (hw i (by omega) hx) hpar
    · rw [if_neg hx] at hbx
      exact h b hb hbx
/-- the reference's state holds the parents as E has them -/
def FR (M : zm_M) (N : Nat) (E : Nat → Int32) : Prop := M.1 83 0 = zon N ∧ ∀ p, p < 12 → M.1 83 (12 + 8 * p) = E (12 + 8 * p) ∧ M.1 83 (13 + 8 * p) = E (13 + 8 * p)
theorem pb_m {f : Int32} {N : Nat} (hN : N ≤ 12) (hf : f = -1 ∨ ∃ q, q < N ∧ f = zon q) : (f = -1 → pb f = 0) ∧ (¬ f = -1 → pb f = (1 : Int32) <<< (f &&& 31)) := by
  unfold pb
  rcases hf with hf | ⟨q, hq, hf⟩
  · rw [hf]
    exact ⟨fun _ => if_pos (by decide), fun z => absurd rfl z⟩
  · rw [hf]
    have nq : ¬ zon q < 0 := zon_nn (by omega)
    refine ⟨fun z => ?_, fun _ => if_neg nq⟩
    rw [z] at nq
    exact absurd (by decide) nq
theorem or_assoc32 {x y z : Int32} : (x ||| y) ||| z = x ||| (y ||| z) := by
  apply bt_ext
  intro k hk
  rw [bt_or, bt_or, bt_or, bt_or, Bool.or_assoc]
theorem R_rlIL {d N p : Nat} {w : Int32} {E : Nat → Int32} {Q : Int32 → zm_M → Prop} {M : zm_M} (hF : PF N E) (hN : N ≤ 12) (hp : p < N) (hx : FR M N E) : ∀ (n i : Nat) (x : Int32), i + n = N → zt (d + 1) 124 4 [some (.ref 82), some (.int (zon p)), some (.int (rlI E p w n i x)), some (.int w), none] [] M (zPi Q) → zt (d + 1) 124 14 [some (.ref 82), some (.int (zon p)), some (.int x), some (.int w), some (.int (zon i))] [] M (zPi Q) := by
  intro n
  induction n with
  | zero =>
    intro i x hi hQ
    apply zg_X11_line_p14
    rw [hx.1, zon_lt (by omega) (by omega)]
    exact ⟨fun z => absurd z (by omega), fun _ => hQ⟩
  | succ n ih =>
    intro i x hi hQ
    obtain ⟨e2, e3⟩ := hx.2 i (by omega)
    obtain ⟨f1, f2⟩ := hF i (by omega)
    obtain ⟨a1, a2⟩ := pb_m hN f1
    obtain ⟨b1, b2⟩ := pb_m hN f2
    have i2 : zm_inb (zon (12 + 8 * i)) 480 = true := by rw [zon_inb (by omega)]; omega
    have i3 : zm_inb (zon (13 + 8 * i)) 480 = true := by rw [zon_inb (by omega)]; omega
    apply zg_X11_line_p14
    rw [hx.1, zon_lt (by omega) (by omega), zP2, zP3, zon_n (show 12 + 8 * i < 2000 by omega), zon_n (show 13 + 8 * i < 2000 by omega), e2, e3, zon_inj (by omega) (by omega), zon_s]
    rw [rlI] at hQ
    have fin : (i = p ∨ bt w i = true) → ∀ y z, y = pb (E (12 + 8 * i)) → z = pb (E (13 + 8 * i)) → zt (d + 1) 124 14 [some (.ref 82), some (.int (zon p)), some (.int ((x ||| y) ||| z)), some (.int w), some (.int (zon (i + 1)))] [] M (zPi Q) := fun hc y z hy hz => by
      rw [if_pos hc] at hQ
      rw [or_assoc32, hy, hz]
      exact ih (i + 1) _ (by omega) hQ
    refine ⟨fun _ => ⟨fun hip => ⟨i2, fun f => ⟨i3, fun m => fin (Or.inl hip) _ _ (a1 f).symm (b1 m).symm, fun m => ⟨i3, fin (Or.inl hip) _ _ (a1 f).symm (b2 m).symm⟩⟩, fun f => ⟨i2, i3, fun m => fin (Or.inl hip) _ _ (a2 f).symm (b1 m).symm, fun m => ⟨i3, fin (Or.inl hip) _ _ (a2 f).symm (b2 m).symm⟩⟩⟩, fun hip => ⟨fun hb => ⟨i2, fun f => ⟨i3, fun m => fin (Or.inr ((bt_tst1 (by omega)).mp hb)) _ _ (a1 f).symm (b1 m).symm, fun m => ⟨i3, fin (Or.inr ((bt_tst1 (by omega)).mp hb)) _ _ (a1 f).symm (b2 m).symm⟩⟩, fun f => ⟨i2, i3, fun m => fin (Or.inr ((bt_tst1 (by omega)).mp hb)) _ _ (a2 f).symm (b1 m).symm, fun m => ⟨i3, fin (Or.inr ((bt_tst1 (by omega)).mp hb)) _ _ (a2 f).symm (b2 m).symm⟩⟩⟩, fun hb => ?_⟩⟩, fun z => absurd (by omega) z⟩
    rw [if_neg (fun hc => by
      rcases hc with hc | hc
      · exact hip hc
      · exact hb ((bt_tst1 (by omega)).mpr hc))] at hQ
    exact ih (i + 1) x (by omega) hQ
theorem R_enter {d N p : Nat} {E : Nat → Int32} {Q : Int32 → zm_M → Prop} {M : zm_M} (hF : PF N E) (hN : N ≤ 12) (hp : p < N) (hx : FR M N E) (hQ : ∀ y, LN E N p y → Q y M) : ∀ (n : Nat) (x : Int32), N ≤ cnt x N + n → bnd N x → (∀ C : Nat → Prop, (∀ b, b < 32 → par E p b → C b) → (∀ a b, a < N → b < 32 → C a → par E a b → C b) → ∀ b, b < 32 → bt x b = true → C b) → zt (d + 1) 124 14 [some (.ref 82), some (.int (zon p)), some (.int x), some (.int x), some (.int (zon 0))] [] M (zPi Q) := by
  intro n
  have stay : ∀ x, bnd N x → (∀ C : Nat → Prop, (∀ b, b < 32 → par E p b → C b) → (∀ a b, a < N → b < 32 → C a → par E a b → C b) → ∀ b, b < 32 → bt x b = true → C b) → rlI E p x N 0 x = x → zt (d + 1) 124 14 [some (.ref 82), some (.int (zon p)), some (.int x), some (.int x), some (.int (zon 0))] [] M (zPi Q) := fun x hb hl hfix => by
    refine R_rlIL hF hN hp hx N 0 x (by omega) ?_
    rw [hfix]
    apply zg_X11_line_p4
    refine ⟨fun _ => hQ x ⟨⟨fun b hb h => ?_, fun a b ha hb h1 h2 => ?_⟩, hl, hb⟩, fun z => absurd rfl z⟩
    · rw [← hfix]
      exact rlI_cl hF hN hb h (Or.inl rfl) N 0 x (by omega) (by omega) (by omega)
    · rw [← hfix]
      exact rlI_cl hF hN hb h2 (Or.inr h1) N 0 x (by omega) (by omega) (by omega)
  induction n with
  | zero =>
    intro x hc hb hl
    exact stay x hb hl (full_eq (rlI_bnd hF hN N 0 x (by omega) hb) (fun k _ h => rlI_inf N 0 x h) hb (by omega) hN)
  | succ n ih =>
    intro x hc hb hl
    by_cases hfix : rlI E p x N 0 x = x
    · exact stay x hb hl hfix
    · have hb2 := rlI_bnd (p := p) (w := x) hF hN N 0 x (by omega) hb
      have hg := grow hb hb2 (fun k _ h => rlI_inf N 0 x h) hfix hN
      refine R_rlIL hF hN hp hx N 0 x (by omega) ?_
      apply zg_X11_line_p4
      refine ⟨fun z => absurd z hfix, fun _ => ih _ (by omega) hb2 (fun C h1 h2 => rlI_least hF hN h1 h2 (hl C h1 h2) N 0 x (by omega) (hl C h1 h2))⟩
theorem R_line {d N p : Nat} {E : Nat → Int32} {Q : Int32 → zm_M → Prop} {M : zm_M} (hF : PF N E) (hN : N ≤ 12) (hp : p < N) (hx : FR M N E) (hQ : ∀ y, LN E N p y → Q y M) : zi (d + 1) 124 [.ref 82, .int (zon p)] M Q := by
  apply zg_X11_line
  apply zg_X11_line_p4
  refine ⟨fun z => absurd z (by decide), fun _ => ?_⟩
  exact R_enter hF hN hp hx hQ N 0 (by omega) (fun k _ _ => bt_0) (fun C _ _ b _ h => by rw [bt_0] at h; exact absurd h (by decide))

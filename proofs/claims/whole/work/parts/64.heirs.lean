/-! Heirs: both programs' loops. -/
abbrev hcn (E : Nat → Int32) (p i : Nat) (x : Int32) : Prop := (E (12 + 8 * i) = zon p ∨ E (13 + 8 * i) = zon p) ∨ ¬ (x &&& pb (E (12 + 8 * i))) = 0 ∨ ¬ (x &&& pb (E (13 + 8 * i))) = 0
def hrI (E : Nat → Int32) (p : Nat) : Nat → Nat → Int32 → Int32
  | 0, _, x => x
  | n + 1, i, x => hrI E p n (i + 1) (if hcn E p i x then x ||| ((1 : Int32) <<< (zon i &&& 31)) else x)
theorem and_pb {N : Nat} {f x : Int32} (hN : N ≤ 12) (hf : f = -1 ∨ ∃ q, q < N ∧ f = zon q) : ¬ (x &&& pb f) = 0 ↔ ∃ b, b < N ∧ bt x b = true ∧ f = zon b := by
  unfold pb
  rcases hf with hf | ⟨q, hq, hf⟩
  · rw [hf, if_pos (by decide)]
    constructor
    · intro h
      exfalso
      apply h
      apply bt_ext
      intro k _
      rw [bt_and, bt_0, Bool.and_false]
    · rintro ⟨b, hb, -, hz⟩
      have : (-1 : Int32).toInt = (zon b).toInt := by rw [hz]
      rw [zon_i (by omega), show (-1 : Int32).toInt = -1 from rfl] at this
      omega
  · rw [hf, if_neg (zon_nn (by omega)), bt_tst (by omega)]
    constructor
    · intro h
      exact ⟨q, hq, by simpa using h, rfl⟩
    · rintro ⟨b, hb, h1, h2⟩
      rw [zon_inj (by omega) (by omega)] at h2
      subst h2
      rw [h1]
      decide
theorem hcn_iff {N p i : Nat} {E : Nat → Int32} {x : Int32} (hF : PF N E) (hN : N ≤ 12) (hi : i < N) : hcn E p i x ↔ par E i p ∨ ∃ b, b < N ∧ bt x b = true ∧ par E i b := by
  obtain ⟨h1, h2⟩ := hF i hi
  unfold hcn
  rw [and_pb hN h1, and_pb hN h2]
  constructor
  · rintro (h | ⟨b, hb, h3, h4⟩ | ⟨b, hb, h3, h4⟩)
    · exact Or.inl h
    · exact Or.inr ⟨b, hb, h3, Or.inl h4⟩
    · exact Or.inr ⟨b, hb, h3, Or.inr h4⟩
  · rintro (h | ⟨b, hb, h3, h4 | h4⟩)
    · exact Or.inl h
    · exact Or.inr (Or.inl ⟨b, hb, h3, h4⟩)
    · exact Or.inr (Or.inr ⟨b, hb, h3, h4⟩)
theorem hrI_inf {E : Nat → Int32} {p k : Nat} : ∀ (n i : Nat) (x : Int32), bt x k = true → bt (hrI E p n i x) k = true
  | 0, _, _, h => h
  | n + 1, i, x, h => by
    unfold hrI
    apply hrI_inf n (i + 1)
    split
    · rw [bt_or, h]
      rfl
    · exact h
theorem bit_bnd {N i : Nat} (hi : i < N) (hN : N ≤ 12) : bnd N ((1 : Int32) <<< (zon i &&& 31)) := fun k h1 h2 => by
  rw [bt_shl i (by omega) k h2]
  exact decide_eq_false (by omega)
theorem hrI_bnd {N p : Nat} {E : Nat → Int32} (hN : N ≤ 12) : ∀ (n i : Nat) (x : Int32), i + n ≤ N → bnd N x → bnd N (hrI E p n i x)
  | 0, _, _, _, h => h
  | n + 1, i, x, hi, h => by
    unfold hrI
    apply hrI_bnd hN n (i + 1) _ (by omega)
    split
    · exact bnd_or h (bit_bnd (by omega) hN)
    · exact h
theorem hrI_cl {N p q : Nat} {E : Nat → Int32} (hF : PF N E) (hN : N ≤ 12) (hqN : q < N) : ∀ (n i : Nat) (x : Int32), i + n ≤ N → i ≤ q → q < i + n → (par E q p ∨ ∃ b, b < N ∧ bt x b = true ∧ par E q b) → bt (hrI E p n i x) q = true
  | 0, i, x, _, h1, h2, _ => by omega
  | n + 1, i, x, hi, h1, h2, h => by
    unfold hrI
    by_cases hqi : i = q
    · subst hqi
      rw [if_pos ((hcn_iff hF hN hqN).mpr h)]
      apply hrI_inf
      rw [bt_or, bt_shl i (by omega) i (by omega), decide_eq_true rfl, Bool.or_true]
    · apply hrI_cl hF hN hqN n (i + 1) _ (by omega) (by omega) (by omega)
      rcases h with h | ⟨b, hb, h3, h4⟩
      · exact Or.inl h
      · refine Or.inr ⟨b, hb, ?_, h4⟩
        split
        · rw [bt_or, h3]
          rfl
        · exact h3
theorem hrI_least {N p : Nat} {E : Nat → Int32} (hF : PF N E) (hN : N ≤ 12) {C : Nat → Prop} (hC1 : ∀ q, q < N → par E q p → C q) (hC : ∀ q b, q < N → b < N → C b → par E q b → C q) : ∀ (n i : Nat) (x : Int32), i + n ≤ N → (∀ b, b < 32 → bt x b = true → C b) → ∀ b, b < 32 → bt (hrI E p n i x) b = true → C b
  | 0, _, _, _, h => h
  | n + 1, i, x, hi, h => by
    unfold hrI
    apply hrI_least hF hN hC1 hC n (i + 1) _ (by omega)
    intro b hb hbx
    by_cases hx : hcn E p i x
    · rw [if_pos hx, bt_or, Bool.or_eq_true] at hbx
      rcases hbx with hbx | hbx
      · exact h b hb hbx
      · rw [bt_shl i (by omega) b hb] at hbx
        have hbi : b = i := of_decide_eq_true hbx
        subst hbi
        rcases (hcn_iff hF hN (by omega)).mp hx with h1 | ⟨c, hc, h3, h4⟩
        · exact hC1 b (by omega) h1
        · exact hC b c (by omega) hc (h c (by omega) h3) h4
    · rw [if_neg hx] at hbx
      exact h b hb hbx
theorem HN_of {N p : Nat} {E : Nat → Int32} (hF : PF N E) (hN : N ≤ 12) : HN E N p (itG (hrI E p N 0) N 0) := by
  have b0 : bnd N 0 := fun k _ _ => bt_0
  have hfix := fix_iter (G := hrI E p N 0) hN (fun x k _ h => hrI_inf N 0 x h) (fun x h => hrI_bnd hN N 0 x (by omega) h) N 0 b0 (by omega)
  refine ⟨⟨fun q hq h => ?_, fun q b hq hb h1 h2 => ?_⟩, fun C h1 h2 => ?_, ?_⟩
  · rw [← hfix]
    exact hrI_cl hF hN hq N 0 _ (by omega) (by omega) (by omega) (Or.inl h)
  · rw [← hfix]
    exact hrI_cl hF hN hq N 0 _ (by omega) (by omega) (by omega) (Or.inr ⟨b, hb, h1, h2⟩)
  · exact itG_ind (P := fun x => ∀ b, b < 32 → bt x b = true → C b) (fun x h => hrI_least hF hN h1 h2 N 0 x (by omega) h) N _ (fun b hb hx => by rw [bt_0] at hx; exact absurd hx (by decide))
  · exact itG_ind (P := bnd N) (fun x h => hrI_bnd hN N 0 x (by omega) h) N _ b0
theorem X_child {d N i p : Nat} {E : Nat → Int32} {Q : Int32 → zm_M → Prop} {M : zm_M} (hi : i < 12) (hx : FX M N E) (h1 : (E (12 + 8 * i) = zon p ∨ E (13 + 8 * i) = zon p) → Q 1 M) (h0 : ¬ (E (12 + 8 * i) = zon p ∨ E (13 + 8 * i) = zon p) → Q 0 M) : zi d 17 [.ref 2, .int (zon i), .int (zon p)] M Q := by
  obtain ⟨e6, e7⟩ := hx.2 i hi
  have ii : zm_inb (zon i) 12 = true := by rw [zon_inb (by omega)]; omega
  apply zg_X3_isChild
  rw [zon_n (by omega), e6, e7]
  exact ⟨ii, fun a => h1 (Or.inl a), fun a => ⟨ii, fun b => h1 (Or.inr b), fun b => h0 (fun z => z.elim a b)⟩⟩
theorem X_hrIL {d N s p : Nat} {E : Nat → Int32} {Q : Int32 → zm_M → Prop} {M : zm_M} (hN : N ≤ 12) (hx : FX M N E) : ∀ (n i : Nat) (x : Int32), i + n = N → zt (d + 2) 19 4 [some (.ref 2), some (.int (zon p)), some (.int (hrI E p n i x)), some (.int (zon (s + 1))), none] [] M (zPi Q) → zt (d + 2) 19 15 [some (.ref 2), some (.int (zon p)), some (.int x), some (.int (zon s)), some (.int (zon i))] [] M (zPi Q) := by
  intro n
  induction n with
  | zero =>
    intro i x hi hQ
    apply zg_X3_heirs_p15
    rw [hx.1, zon_lt (by omega) (by omega), zon_s (a := s)]
    exact ⟨fun z => absurd z (by omega), fun _ => hQ⟩
  | succ n ih =>
    intro i x hi hQ
    obtain ⟨e6, e7⟩ := hx.2 i (by omega)
    have ii : zm_inb (zon i) 12 = true := by rw [zon_inb (by omega)]; omega
    have ni : ¬ zon i < 0 := zon_nn (by omega)
    rw [hrI] at hQ
    have ye : hcn E p i x → zt (d + 2) 19 15 [some (.ref 2), some (.int (zon p)), some (.int (x ||| ((1 : Int32) <<< (zon i &&& 31)))), some (.int (zon s)), some (.int (zon (i + 1)))] [] M (zPi Q) := fun hc => by
      rw [if_pos hc] at hQ
      exact ih (i + 1) _ (by omega) hQ
    have no : ¬ hcn E p i x → zt (d + 2) 19 15 [some (.ref 2), some (.int (zon p)), some (.int x), some (.int (zon s)), some (.int (zon (i + 1)))] [] M (zPi Q) := fun hc => by
      rw [if_neg hc] at hQ
      exact ih (i + 1) _ (by omega) hQ
    apply zg_X3_heirs_p15
    rw [hx.1, zon_lt (by omega) (by omega), zon_n (by omega), zon_s (a := i)]
    refine ⟨fun _ => X_child (by omega) hx (fun hc => ⟨fun z => absurd z (by decide), fun _ => ⟨fun z => absurd z ni, fun _ => ye (Or.inl hc)⟩⟩) (fun hc => ⟨fun _ => ⟨ii, ?_⟩, fun z => absurd rfl z⟩), fun z => absurd (by omega) z⟩
    rw [e6, e7]
    have nn : (x &&& pb (E (12 + 8 * i))) = 0 → (x &&& pb (E (13 + 8 * i))) = 0 → ¬ hcn E p i x := fun a b z => by
      rcases z with z | z | z
      · exact hc z
      · exact z a
      · exact z b
    have pn : ∀ f : Int32, f < 0 → pb f = 0 := fun f h => if_pos h
    have pp : ∀ f : Int32, ¬ f < 0 → pb f = (1 : Int32) <<< (f &&& 31) := fun f h => if_neg h
    refine ⟨fun f => ⟨fun a => ⟨ii, fun m => ⟨fun b => ?_, fun b => ⟨fun z => absurd z ni, fun _ => ?_⟩⟩, fun m => ⟨fun b => ?_, fun b => ⟨fun z => absurd z ni, fun _ => ?_⟩⟩⟩, fun a => ⟨fun z => absurd z ni, fun _ => ?_⟩⟩, fun f => ⟨fun a => ⟨ii, fun m => ⟨fun b => ?_, fun b => ⟨fun z => absurd z ni, fun _ => ?_⟩⟩, fun m => ⟨fun b => ?_, fun b => ⟨fun z => absurd z ni, fun _ => ?_⟩⟩⟩, fun a => ⟨fun z => absurd z ni, fun _ => ?_⟩⟩⟩
    · exact no (nn (by rw [pn _ f]; exact a) (by rw [pn _ m]; exact b))
    · exact ye (Or.inr (Or.inr (by rw [pn _ m]; exact b)))
    · exact no (nn (by rw [pn _ f]; exact a) (by rw [pp _ m]; exact b))
    · exact ye (Or.inr (Or.inr (by rw [pp _ m]; exact b)))
    · exact ye (Or.inr (Or.inl (by rw [pn _ f]; exact a)))
    · exact no (nn (by rw [pp _ f]; exact a) (by rw [pn _ m]; exact b))
    · exact ye (Or.inr (Or.inr (by rw [pn _ m]; exact b)))
    · exact no (nn (by rw [pp _ f]; exact a) (by rw [pp _ m]; exact b))
    · exact ye (Or.inr (Or.inr (by rw [pp _ m]; exact b)))
    · exact ye (Or.inr (Or.inl (by rw [pp _ f]; exact a)))
theorem X_hrO {d N p : Nat} {E : Nat → Int32} {Q : Int32 → zm_M → Prop} {M : zm_M} (hN : N ≤ 12) (hx : FX M N E) : ∀ (n s : Nat) (x : Int32), s + n = N → Q (itG (hrI E p N 0) n x) M → zt (d + 2) 19 4 [some (.ref 2), some (.int (zon p)), some (.int x), some (.int (zon s)), none] [] M (zPi Q) := by
  intro n
  induction n with
  | zero =>
    intro s x hs hQ
    apply zg_X3_heirs_p4
    rw [hx.1, zon_lt (by omega) (by omega)]
    exact ⟨fun z => absurd z (by omega), fun _ => hQ⟩
  | succ n ih =>
    intro s x hs hQ
    apply zg_X3_heirs_p4
    rw [hx.1, zon_lt (by omega) (by omega)]
    exact ⟨fun _ => X_hrIL hN hx N 0 x (by omega) (ih (s + 1) _ (by omega) hQ), fun z => absurd (by omega) z⟩
theorem X_heirs {d N p : Nat} {E : Nat → Int32} {Q : Int32 → zm_M → Prop} {M : zm_M} (hF : PF N E) (hN : N ≤ 12) (hx : FX M N E) (hQ : ∀ x, HN E N p x → Q x M) : zi (d + 2) 19 [.ref 2, .int (zon p)] M Q := by
  apply zg_X3_heirs
  exact X_hrO hN hx N 0 0 (by omega) (hQ _ (HN_of hF hN))
theorem R_hrL {d N p : Nat} {E : Nat → Int32} {Q : Int32 → zm_M → Prop} {M : zm_M} (hF : PF N E) (hN : N ≤ 12) (hp : p < N) (hx : FR M N E) (hQ : ∀ x, HN E N p x → Q x M) : ∀ (n i : Nat) (x : Int32), i + n = N → (∀ k, k < 32 → (bt x k = true ↔ k < i ∧ ∃ z, LN E N k z ∧ bt z p = true)) → zt (d + 2) 125 4 [some (.ref 82), some (.int (zon p)), some (.int x), some (.int (zon i))] [] M (zPi Q) := by
  intro n
  induction n with
  | zero =>
    intro i x hi hI
    apply zg_X11_heirs_p4
    rw [hx.1, zon_lt (by omega) (by omega)]
    refine ⟨fun z => absurd z (by omega), fun _ => hQ x ?_⟩
    have hH := HN_of (p := p) hF hN
    have e : x = itG (hrI E p N 0) N 0 := by
      apply bt_ext
      intro k hk
      have key : bt x k = true ↔ bt (itG (hrI E p N 0) N 0) k = true := by
        rw [hI k hk]
        by_cases hkN : k < N
        · have hL := LN_of hF hN hkN
          rw [heirs_line hF hN (fun a ha => ⟨_, LN_of hF hN ha⟩) hH hkN hp hL]
          constructor
          · rintro ⟨-, z, hz, h⟩
            rw [hz.uniq hL] at h
            exact h
          · intro h
            exact ⟨by omega, _, hL, h⟩
        · constructor
          · rintro ⟨h, -⟩
            omega
          · intro h
            rw [hH.2.2 k (by omega) hk] at h
            exact absurd h (by decide)
      by_cases h : bt x k = true
      · rw [h, key.mp h]
      · have h2 : ¬ bt (itG (hrI E p N 0) N 0) k = true := fun z => h (key.mpr z)
        rw [Bool.not_eq_true] at h h2
        rw [h, h2]
    rw [e]
    exact hH
  | succ n ih =>
    intro i x hi hI
    apply zg_X11_heirs_p4 (d := d + 1)
    rw [hx.1, zon_lt (by omega) (by omega)]
    refine ⟨fun _ => R_line (d := d) hF hN (by omega) hx (fun y hy => ?_), fun z => absurd (by omega) z⟩
    rw [zon_s, and_1, bt_sar (by omega)]
    refine ih (i + 1) _ (by omega) (fun k hk => ?_)
    rw [bt_or, Bool.or_eq_true, hI k hk]
    have sh : bt ((if bt y p = true then (1 : Int32) else 0) <<< (zon i &&& 31)) k = true ↔ k = i ∧ bt y p = true := by
      by_cases h : bt y p = true
      · rw [if_pos h, bt_shl i (by omega) k hk]
        simp [h]
      · rw [if_neg h, shl_0 i (by omega), bt_0]
        simp [h]
    rw [sh]
    constructor
    · rintro (⟨h1, h2⟩ | ⟨h1, h2⟩)
      · exact ⟨by omega, h2⟩
      · subst h1
        exact ⟨by omega, y, hy, h2⟩
    · rintro ⟨h1, z, hz, h2⟩
      by_cases hki : k = i
      · subst hki
        right
        refine ⟨rfl, ?_⟩
        rw [hy.uniq hz]
        exact h2
      · left
        exact ⟨by omega, z, hz, h2⟩
theorem R_heirs {d N p : Nat} {E : Nat → Int32} {Q : Int32 → zm_M → Prop} {M : zm_M} (hF : PF N E) (hN : N ≤ 12) (hp : p < N) (hx : FR M N E) (hQ : ∀ x, HN E N p x → Q x M) : zi (d + 2) 125 [.ref 82, .int (zon p)] M Q := by
  apply zg_X11_heirs
  refine R_hrL hF hN hp hx hQ N 0 0 (by omega) (fun k hk => ?_)
  rw [bt_0]
  constructor
  · intro h
    exact absurd h (by decide)
  · rintro ⟨h, -⟩
    omega

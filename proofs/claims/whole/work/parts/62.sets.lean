/-! Sets of persons as bits; least closed ones. -/
def bt (x : Int32) (k : Nat) : Bool := x.toBitVec.getLsbD k
theorem bt_ext {x y : Int32} (h : ∀ k, k < 32 → bt x k = bt y k) : x = y := Int32.toBitVec_inj.mp (BitVec.eq_of_getLsbD_eq (fun i hi => h i hi))
theorem bt_or {x y : Int32} {k : Nat} : bt (x ||| y) k = (bt x k || bt y k) := BitVec.getLsbD_or
theorem bt_and {x y : Int32} {k : Nat} : bt (x &&& y) k = (bt x k && bt y k) := BitVec.getLsbD_and
theorem bt_0 {k : Nat} : bt 0 k = false := BitVec.getLsbD_zero
theorem bt_one : ∀ k, k < 32 → bt 1 k = decide (k = 0) := by decide +kernel
theorem bt_shl : ∀ q, q < 12 → ∀ k, k < 32 → bt ((1 : Int32) <<< (zon q &&& 31)) k = decide (k = q) := by decide +kernel
theorem shl_0 : ∀ q, q < 12 → ((0 : Int32) <<< (zon q &&& 31)) = 0 := by decide +kernel
theorem bt_tst {x : Int32} {q : Nat} (hq : q < 12) : (x &&& ((1 : Int32) <<< (zon q &&& 31))) = 0 ↔ bt x q = false := by
  constructor
  · intro h
    have h1 : bt (x &&& ((1 : Int32) <<< (zon q &&& 31))) q = false := by rw [h]; exact bt_0
    rw [bt_and, bt_shl q hq q (by omega)] at h1
    simpa using h1
  · intro h
    apply bt_ext
    intro k hk
    rw [bt_and, bt_shl q hq k hk, bt_0]
    by_cases hkq : k = q
    · rw [hkq, h]
      rfl
    · simp [hkq]
theorem bt_sar {x : Int32} {q : Nat} (hq : q < 12) : bt (x >>> (zon q &&& 31)) 0 = bt x q := by
  have key : ∀ n, n < 32 → (x.toBitVec.sshiftRight n).getLsbD 0 = x.toBitVec.getLsbD n := fun n hn => by
    rw [BitVec.getLsbD_sshiftRight]
    simp [hn]
  rcases (show q = 0 ∨ q = 1 ∨ q = 2 ∨ q = 3 ∨ q = 4 ∨ q = 5 ∨ q = 6 ∨ q = 7 ∨ q = 8 ∨ q = 9 ∨ q = 10 ∨ q = 11 by omega) with rfl | rfl | rfl | rfl | rfl | rfl | rfl | rfl | rfl | rfl | rfl | rfl
  · exact key 0 (by decide)
  · exact key 1 (by decide)
  · exact key 2 (by decide)
  · exact key 3 (by decide)
  · exact key 4 (by decide)
  · exact key 5 (by decide)
  · exact key 6 (by decide)
  · exact key 7 (by decide)
  · exact key 8 (by decide)
  · exact key 9 (by decide)
  · exact key 10 (by decide)
  · exact key 11 (by decide)
theorem and_1 {y : Int32} : y &&& 1 = if bt y 0 = true then 1 else 0 := by
  apply bt_ext
  intro k hk
  rw [bt_and, bt_one k hk]
  by_cases h0 : k = 0
  · subst h0
    by_cases h : bt y 0 = true
    · rw [if_pos h, h]
      rfl
    · rw [if_neg h, bt_0]
      simp [h]
  · rw [decide_eq_false h0, Bool.and_false]
    split
    · rw [bt_one k hk, decide_eq_false h0]
    · rw [bt_0]
theorem bt_tst1 {x : Int32} {q : Nat} (hq : q < 12) : ((x >>> (zon q &&& 31)) &&& 1) = 1 ↔ bt x q = true := by
  rw [and_1, bt_sar hq]
  by_cases h : bt x q = true
  · rw [if_pos h]
    exact ⟨fun _ => h, fun _ => rfl⟩
  · rw [if_neg h]
    exact ⟨fun z => absurd z (by decide), fun z => absurd z h⟩
def pb (f : Int32) : Int32 := if f < 0 then 0 else (1 : Int32) <<< (f &&& 31)
theorem bt_pb {f : Int32} {N k : Nat} (hN : N ≤ 12) (hf : f = -1 ∨ ∃ q, q < N ∧ f = zon q) (hk : k < 32) : bt (pb f) k = true ↔ f = zon k := by
  unfold pb
  rcases hf with hf | ⟨q, hq, hf⟩
  · rw [hf, if_pos (by decide), bt_0]
    refine ⟨fun z => absurd z (by decide), fun z => ?_⟩
    have : (-1 : Int32).toInt = (zon k).toInt := by rw [z]
    rw [zon_i (by omega), show (-1 : Int32).toInt = -1 from rfl] at this
    omega
  · rw [hf, if_neg (zon_nn (by omega)), bt_shl q (by omega) k hk, zon_inj (by omega) (by omega)]
    simp
    omega
def cnt (x : Int32) : Nat → Nat
  | 0 => 0
  | n + 1 => cnt x n + (if bt x n = true then 1 else 0)
theorem cnt_le {x : Int32} : ∀ n, cnt x n ≤ n
  | 0 => Nat.le_refl _
  | n + 1 => by
    have := cnt_le (x := x) n
    unfold cnt
    split <;> omega
theorem cnt_full {x : Int32} : ∀ n, n ≤ cnt x n → ∀ k, k < n → bt x k = true
  | 0, _, k, hk => absurd hk (Nat.not_lt_zero _)
  | n + 1, h, k, hk => by
    have h1 := cnt_le (x := x) n
    unfold cnt at h
    by_cases hb : bt x n = true
    · rw [if_pos hb] at h
      by_cases hkn : k = n
      · rw [hkn]
        exact hb
      · exact cnt_full n (by omega) k (by omega)
    · rw [if_neg hb] at h
      omega
theorem cnt_mono {x y : Int32} : ∀ n, (∀ k, k < n → bt x k = true → bt y k = true) → cnt x n ≤ cnt y n
  | 0, _ => Nat.le_refl _
  | n + 1, h => by
    have ih := cnt_mono n (fun k hk => h k (by omega))
    unfold cnt
    by_cases hb : bt x n = true
    · rw [if_pos hb, if_pos (h n (by omega) hb)]
      omega
    · rw [if_neg hb]
      omega
theorem cnt_lt {x y : Int32} {j : Nat} (hy : bt y j = true) (hx : ¬ bt x j = true) : ∀ n, j < n → (∀ k, k < n → bt x k = true → bt y k = true) → cnt x n < cnt y n
  | 0, hj, _ => absurd hj (Nat.not_lt_zero _)
  | n + 1, hj, h => by
    unfold cnt
    by_cases hjn : j = n
    · subst hjn
      have := cnt_mono j (fun k hk => h k (by omega))
      rw [if_pos hy, if_neg hx]
      omega
    · have ih := cnt_lt hy hx n (by omega) (fun k hk => h k (by omega))
      by_cases hb : bt x n = true
      · rw [if_pos hb, if_pos (h n (by omega) hb)]
        omega
      · rw [if_neg hb]
        omega
/-- no bits from N on -/
def bnd (N : Nat) (x : Int32) : Prop := ∀ k, N ≤ k → k < 32 → bt x k = false
theorem grow {N : Nat} {x y : Int32} (hx : bnd N x) (hy : bnd N y) (h : ∀ k, k < 32 → bt x k = true → bt y k = true) (hne : ¬ y = x) (hN : N ≤ 12) : cnt x N < cnt y N := by
  have hj : ∃ j, j < 32 ∧ bt y j = true ∧ ¬ bt x j = true := by
    apply Classical.byContradiction
    intro hc
    apply hne
    apply bt_ext
    intro k hk
    by_cases hyk : bt y k = true
    · by_cases hxk : bt x k = true
      · rw [hyk, hxk]
      · exact absurd ⟨k, hk, hyk, hxk⟩ hc
    · have hxk : ¬ bt x k = true := fun z => hyk (h k hk z)
      rw [Bool.not_eq_true] at hyk hxk
      rw [hyk, hxk]
  obtain ⟨j, hj, h1, h2⟩ := hj
  have hjN : j < N := by
    apply Classical.byContradiction
    intro hc
    have := hy j (by omega) hj
    rw [this] at h1
    exact absurd h1 (by decide)
  exact cnt_lt h1 h2 N hjN (fun k hk => h k (by omega))
theorem full_eq {N : Nat} {x y : Int32} (hy : bnd N y) (h : ∀ k, k < 32 → bt x k = true → bt y k = true) (hx : bnd N x) (hf : N ≤ cnt x N) (hN : N ≤ 12) : y = x := by
  apply Classical.byContradiction
  intro hc
  have h1 := grow hx hy h hc hN
  have h2 := cnt_le (x := y) N
  omega
def itG (G : Int32 → Int32) : Nat → Int32 → Int32
  | 0, x => x
  | n + 1, x => itG G n (G x)
theorem itG_fix {G : Int32 → Int32} {x : Int32} (h : G x = x) : ∀ n, itG G n x = x
  | 0 => rfl
  | n + 1 => by
    unfold itG
    rw [h]
    exact itG_fix h n
theorem fix_iter {G : Int32 → Int32} {N : Nat} (hN : N ≤ 12) (hinf : ∀ x k, k < 32 → bt x k = true → bt (G x) k = true) (hbd : ∀ x, bnd N x → bnd N (G x)) : ∀ (n : Nat) (x : Int32), bnd N x → N ≤ cnt x N + n → G (itG G n x) = itG G n x
  | 0, x, hx, hc => by
    show G x = x
    exact full_eq (hbd x hx) (fun k hk => hinf x k hk) hx (by omega) hN
  | n + 1, x, hx, hc => by
    by_cases h : G x = x
    · rw [itG_fix h]
      exact h
    · have := grow hx (hbd x hx) (fun k hk => hinf x k hk) h hN
      exact fix_iter hN hinf hbd n (G x) (hbd x hx) (by omega)
/-- whose father or mother -/
def par (E : Nat → Int32) (a b : Nat) : Prop := E (12 + 8 * a) = zon b ∨ E (13 + 8 * a) = zon b
def PF (N : Nat) (E : Nat → Int32) : Prop := ∀ p, p < N → (E (12 + 8 * p) = -1 ∨ ∃ q, q < N ∧ E (12 + 8 * p) = zon q) ∧ (E (13 + 8 * p) = -1 ∨ ∃ q, q < N ∧ E (13 + 8 * p) = zon q)
theorem PF.lt {N : Nat} {E : Nat → Int32} (h : PF N E) (hN : N ≤ 12) {a b : Nat} (ha : a < N) (hb : b < 32) (hp : par E a b) : b < N := by
  have key : ∀ x : Int32, (x = -1 ∨ ∃ q, q < N ∧ x = zon q) → x = zon b → b < N := fun x hx hz => by
    rcases hx with hx | ⟨q, hq, hx⟩
    · have : (-1 : Int32).toInt = (zon b).toInt := by rw [← hx, hz]
      rw [zon_i (by omega), show (-1 : Int32).toInt = -1 from rfl] at this
      omega
    · rw [hx, zon_inj (by omega) (by omega)] at hz
      omega
  obtain ⟨h1, h2⟩ := h a ha
  rcases hp with hp | hp
  · exact key _ h1 hp
  · exact key _ h2 hp
def pbs (E : Nat → Int32) (a : Nat) : Int32 := pb (E (12 + 8 * a)) ||| pb (E (13 + 8 * a))
theorem bt_pbs {N : Nat} {E : Nat → Int32} (h : PF N E) (hN : N ≤ 12) {a b : Nat} (ha : a < N) (hb : b < 32) : bt (pbs E a) b = true ↔ par E a b := by
  obtain ⟨h1, h2⟩ := h a ha
  unfold pbs par
  rw [bt_or, Bool.or_eq_true, bt_pb hN h1 hb, bt_pb hN h2 hb]
/-- the line of p: closed, and the least such -/
def LN (E : Nat → Int32) (N p : Nat) (x : Int32) : Prop := ((∀ b, b < 32 → par E p b → bt x b = true) ∧ (∀ a b, a < N → b < 32 → bt x a = true → par E a b → bt x b = true)) ∧ (∀ C : Nat → Prop, (∀ b, b < 32 → par E p b → C b) → (∀ a b, a < N → b < 32 → C a → par E a b → C b) → ∀ b, b < 32 → bt x b = true → C b) ∧ bnd N x
theorem LN.uniq {E : Nat → Int32} {N p : Nat} {x y : Int32} (hx : LN E N p x) (hy : LN E N p y) : x = y := by
  apply bt_ext
  intro k hk
  have h1 := hx.2.1 (fun b => bt y b = true) hy.1.1 (fun a b ha hb h1 h2 => hy.1.2 a b ha hb h1 h2) k hk
  have h2 := hy.2.1 (fun b => bt x b = true) hx.1.1 (fun a b ha hb h1 h2 => hx.1.2 a b ha hb h1 h2) k hk
  by_cases h : bt x k = true
  · rw [h, h1 h]
  · have h3 : ¬ bt y k = true := fun z => h (h2 z)
    rw [Bool.not_eq_true] at h h3
    rw [h, h3]
/-- the heirs of p -/
def HN (E : Nat → Int32) (N p : Nat) (x : Int32) : Prop := ((∀ q, q < N → par E q p → bt x q = true) ∧ (∀ q b, q < N → b < N → bt x b = true → par E q b → bt x q = true)) ∧ (∀ C : Nat → Prop, (∀ q, q < N → par E q p → C q) → (∀ q b, q < N → b < N → C b → par E q b → C q) → ∀ q, q < 32 → bt x q = true → C q) ∧ bnd N x
theorem HN.uniq {E : Nat → Int32} {N p : Nat} {x y : Int32} (hx : HN E N p x) (hy : HN E N p y) : x = y := by
  apply bt_ext
  intro k hk
  have h1 := hx.2.1 (fun b => bt y b = true) hy.1.1 (fun a b ha hb h1 h2 => hy.1.2 a b ha hb h1 h2) k hk
  have h2 := hy.2.1 (fun b => bt x b = true) hx.1.1 (fun a b ha hb h1 h2 => hx.1.2 a b ha hb h1 h2) k hk
  by_cases h : bt x k = true
  · rw [h, h1 h]
  · have h3 : ¬ bt y k = true := fun z => h (h2 z)
    rw [Bool.not_eq_true] at h h3
    rw [h, h3]
/-- who is under p, is who has p in the line -/
theorem heirs_line {E : Nat → Int32} {N p q : Nat} {x y : Int32} (hF : PF N E) (hN : N ≤ 12) (hex : ∀ a, a < N → ∃ z, LN E N a z) (hx : HN E N p x) (hq : q < N) (hp : p < N) (hy : LN E N q y) : bt x q = true ↔ bt y p = true := by
  constructor
  · intro h
    have key := hx.2.1 (fun a => a < N → ∀ z, LN E N a z → bt z p = true) (fun a ha hap _ z hz => hz.1.1 p (by omega) hap) (fun a b ha hb hCb hab _ z hz => ?_) q (by omega) h
    · exact key hq y hy
    · have hzb : bt z b = true := hz.1.1 b (by omega) hab
      obtain ⟨w, hw⟩ := hex b hb
      exact hw.2.1 (fun c => bt z c = true) (fun c hc2 hbc => hz.1.2 b c hb hc2 hzb hbc) (fun c e hc2 he h1 h2 => hz.1.2 c e hc2 he h1 h2) p (by omega) (hCb hb w hw)
  · intro h
    apply Classical.byContradiction
    intro hc
    have key := hy.2.1 (fun a => a ≠ p ∧ ¬ bt x a = true) (fun b hb hqb => ⟨fun z => hc (hx.1.1 q hq (z ▸ hqb)), fun z => hc (hx.1.2 q b hq (hF.lt hN hq hb hqb) z hqb)⟩) (fun a b ha hb hC hab => ⟨fun z => hC.2 (hx.1.1 a ha (z ▸ hab)), fun z => hC.2 (hx.1.2 a b ha (hF.lt hN ha hb hab) z hab)⟩) p (by omega) h
    exact key.1 rfl

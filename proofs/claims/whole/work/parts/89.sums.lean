/-! SAFE: sums over who of the FRAIL is alive, as whole numbers. -/
def sSum (f : Nat → Nat) : Nat → Nat
  | 0 => 0
  | n + 1 => sSum f n + f n
theorem sSum_cg {f g : Nat → Nat} : ∀ n, (∀ d, d < n → f d = g d) → sSum f n = sSum g n := by
  intro n
  induction n with
  | zero => intro _; rfl
  | succ n ih =>
    intro h
    unfold sSum
    rw [ih (fun d hd => h d (by omega)), h n (by omega)]
theorem sSum_add {f : Nat → Nat} {n : Nat} : ∀ m, sSum f (n + m) = sSum f n + sSum (fun d => f (n + d)) m := by
  intro m
  induction m with
  | zero => rfl
  | succ m ih =>
    show sSum f (n + m) + f (n + m) = sSum f n + (sSum (fun d => f (n + d)) m + f (n + m))
    rw [ih, Nat.add_assoc]
theorem sSum_plus {f g : Nat → Nat} : ∀ n, sSum f n + sSum g n = sSum (fun d => f d + g d) n := by
  intro n
  induction n with
  | zero => rfl
  | succ n ih =>
    unfold sSum
    rw [← ih]
    omega
theorem sSum_le {f : Nat → Nat} {B : Nat} : ∀ n, (∀ d, d < n → f d ≤ B) → sSum f n ≤ n * B := by
  intro n
  induction n with
  | zero => intro _; exact Nat.zero_le _
  | succ n ih =>
    intro h
    unfold sSum
    have h1 := ih (fun d hd => h d (by omega))
    have h2 := h n (by omega)
    rw [Nat.succ_mul]
    omega
abbrev sSt : Type := Nat → Int32
/-- the dead by bits -/
def sAl (F : Nat → Nat) (d : Nat) : Nat → sSt → sSt
  | 0, E => E
  | n + 1, E => upd (sAl F d n E) (14 + 8 * F n) (if d.testBit n = true then 0 else 1)
def sWt (fr : Nat → Nat) (F : Nat → Nat) (d : Nat) : Nat → Nat
  | 0 => 1
  | n + 1 => sWt fr F d n * (if d.testBit n = true then fr (F n) else 10 - fr (F n))
/-- one more of the FRAIL -/
def sDl (fr : Nat → Nat) (p : Nat) (h : sSt → Nat) (E : sSt) : Nat := (10 - fr p) * h (upd E (14 + 8 * p) 1) + fr p * h (upd E (14 + 8 * p) 0)
theorem sAl_cg {F : Nat → Nat} {d d2 : Nat} {E : sSt} : ∀ n, (∀ j, j < n → d2.testBit j = d.testBit j) → sAl F d2 n E = sAl F d n E := by
  intro n
  induction n with
  | zero => intro _; rfl
  | succ n ih =>
    intro h
    unfold sAl
    rw [ih (fun j hj => h j (by omega)), h n (by omega)]
theorem sWt_cg {fr F : Nat → Nat} {d d2 : Nat} : ∀ n, (∀ j, j < n → d2.testBit j = d.testBit j) → sWt fr F d2 n = sWt fr F d n := by
  intro n
  induction n with
  | zero => intro _; rfl
  | succ n ih =>
    intro h
    unfold sWt
    rw [ih (fun j hj => h j (by omega)), h n (by omega)]
def sAll (fr F : Nat → Nat) (n : Nat) (h : sSt → Nat) (E : sSt) : Nat := sSum (fun d => sWt fr F d n * h (sAl F d n E)) (2 ^ n)
theorem sAll_0 {fr F : Nat → Nat} {h : sSt → Nat} {E : sSt} : sAll fr F 0 h E = h E := by
  show 0 + 1 * h E = h E
  omega
theorem sAll_s {fr F : Nat → Nat} {n : Nat} {h : sSt → Nat} {E : sSt} : sAll fr F (n + 1) h E = sAll fr F n (sDl fr (F n) h) E := by
  unfold sAll
  rw [Nat.pow_succ, Nat.mul_two, sSum_add, sSum_plus]
  refine sSum_cg _ (fun d hd => ?_)
  have b0 : d.testBit n = false := Nat.testBit_lt_two_pow hd
  have b1 : (2 ^ n + d).testBit n = true := by rw [Nat.testBit_two_pow_add_eq, b0]; rfl
  have bj : ∀ j, j < n → (2 ^ n + d).testBit j = d.testBit j := fun j hj => Nat.testBit_two_pow_add_gt hj d
  show sWt fr F d n * (if d.testBit n = true then fr (F n) else 10 - fr (F n)) * h (upd (sAl F d n E) (14 + 8 * F n) (if d.testBit n = true then 0 else 1)) + sWt fr F (2 ^ n + d) n * (if (2 ^ n + d).testBit n = true then fr (F n) else 10 - fr (F n)) * h (upd (sAl F (2 ^ n + d) n E) (14 + 8 * F n) (if (2 ^ n + d).testBit n = true then 0 else 1)) = sWt fr F d n * sDl fr (F n) h (sAl F d n E)
  rw [b0, b1, sWt_cg n bj, sAl_cg n bj]
  show sWt fr F d n * (10 - fr (F n)) * h (upd (sAl F d n E) (14 + 8 * F n) 1) + sWt fr F d n * fr (F n) * h (upd (sAl F d n E) (14 + 8 * F n) 0) = sWt fr F d n * ((10 - fr (F n)) * h (upd (sAl F d n E) (14 + 8 * F n) 1) + fr (F n) * h (upd (sAl F d n E) (14 + 8 * F n) 0))
  rw [Nat.mul_add, Nat.mul_assoc, Nat.mul_assoc]
/-- those of P below p, each in turn -/
def sEp (fr : Nat → Nat) (P : Nat → Bool) : Nat → (sSt → Nat) → sSt → Nat
  | 0, h => h
  | p + 1, h => if P p = true then sEp fr P p (sDl fr p h) else sEp fr P p h
def sCt (P : Nat → Bool) : Nat → Nat
  | 0 => 0
  | p + 1 => if P p = true then sCt P p + 1 else sCt P p
theorem sCt_le {P : Nat → Bool} : ∀ p, sCt P p ≤ p := by
  intro p
  induction p with
  | zero => exact Nat.le_refl _
  | succ p ih =>
    unfold sCt
    split <;> omega
theorem sCt_mono {P : Nat → Bool} {p : Nat} : ∀ q, p ≤ q → sCt P p ≤ sCt P q := by
  intro q
  induction q with
  | zero =>
    intro h
    have : p = 0 := by omega
    rw [this]
    exact Nat.le_refl _
  | succ q ih =>
    intro h
    by_cases e : p = q + 1
    · rw [e]
      exact Nat.le_refl _
    · have h1 := ih (by omega)
      have e2 : sCt P (q + 1) = if P q = true then sCt P q + 1 else sCt P q := rfl
      rw [e2]
      split <;> omega
/-- F counts those of P below N up -/
def sLs (P : Nat → Bool) (F : Nat → Nat) (N : Nat) : Prop := ∀ p, p < N → P p = true → F (sCt P p) = p
theorem sEp_all {fr F : Nat → Nat} {P : Nat → Bool} {N : Nat} (hF : sLs P F N) {E : sSt} : ∀ p, p ≤ N → ∀ h : sSt → Nat, sAll fr F (sCt P p) h E = sEp fr P p h E := by
  intro p
  induction p with
  | zero => intro _ h; exact sAll_0
  | succ p ih =>
    intro hp h
    unfold sCt sEp
    by_cases c : P p = true
    · rw [if_pos c, if_pos c, sAll_s, hF p (by omega) c]
      exact ih (by omega) _
    · rw [if_neg c, if_neg c]
      exact ih (by omega) h
/-- h doesn't look whether q is alive -/
def sIn (q : Nat) (h : sSt → Nat) : Prop := ∀ E x, h (upd E (14 + 8 * q) x) = h E
theorem upd_upd {E : sSt} {a : Nat} {x y : Int32} : upd (upd E a x) a y = upd E a y := by
  funext k
  by_cases c : k = a
  · rw [c, upd_at, upd_at]
  · rw [upd_ne c, upd_ne c, upd_ne c]
theorem upd_com2 {E : sSt} {a b : Nat} {x y : Int32} (hab : a ≠ b) : upd (upd E a x) b y = upd (upd E b y) a x := by
  funext k
  by_cases c : k = a
  · rw [c, upd_at, upd_ne hab, upd_at]
  · rw [upd_ne c]
    by_cases c2 : k = b
    · rw [c2, upd_at, upd_at]
    · rw [upd_ne c2, upd_ne c2, upd_ne c]
theorem sIn.dl {fr : Nat → Nat} {p q : Nat} {h : sSt → Nat} (hq : sIn q h) : sIn q (sDl fr p h) := by
  intro E x
  have hq2 : ∀ E x, h (upd E (14 + 8 * q) x) = h E := hq
  unfold sDl
  by_cases c : q = p
  · rw [c, upd_upd, upd_upd]
  · have e : ∀ y, upd (upd E (14 + 8 * q) x) (14 + 8 * p) y = upd (upd E (14 + 8 * p) y) (14 + 8 * q) x := fun y => upd_com2 (by omega)
    rw [e, e, hq2, hq2]
theorem sDl_in {fr : Nat → Nat} {p : Nat} {h : sSt → Nat} (hp : sIn p h) (hf : fr p ≤ 10) : sDl fr p h = fun E => 10 * h E := by
  funext E
  have hp2 : ∀ E x, h (upd E (14 + 8 * p) x) = h E := hp
  show (10 - fr p) * h (upd E (14 + 8 * p) 1) + fr p * h (upd E (14 + 8 * p) 0) = 10 * h E
  rw [hp2 E 1, hp2 E 0, ← Nat.add_mul, show 10 - fr p + fr p = 10 by omega]
theorem sDl_k {fr : Nat → Nat} {p k : Nat} {h : sSt → Nat} : sDl fr p (fun E => k * h E) = fun E => k * sDl fr p h E := by
  funext E
  show (10 - fr p) * (k * h (upd E (14 + 8 * p) 1)) + fr p * (k * h (upd E (14 + 8 * p) 0)) = k * ((10 - fr p) * h (upd E (14 + 8 * p) 1) + fr p * h (upd E (14 + 8 * p) 0))
  rw [Nat.mul_add, Nat.mul_left_comm (10 - fr p), Nat.mul_left_comm (fr p)]
theorem sEp_k {fr : Nat → Nat} {P : Nat → Bool} {k : Nat} {E : sSt} : ∀ p (h : sSt → Nat), sEp fr P p (fun E => k * h E) E = k * sEp fr P p h E := by
  intro p
  induction p with
  | zero => intro h; rfl
  | succ p ih =>
    intro h
    unfold sEp
    split
    · rw [sDl_k]
      exact ih _
    · exact ih h
/-- those whom no coin reaches count tenfold -/
theorem sEp_sub {fr : Nat → Nat} {P G : Nat → Bool} {E : sSt} (hf : ∀ p, fr p ≤ 10) : ∀ p (h : sSt → Nat), (∀ q, q < p → G q = true → P q = true) → (∀ q, q < p → P q = true → ¬ G q = true → sIn q h) → ∃ j, sEp fr P p h E = 10 ^ j * sEp fr G p h E ∧ sCt P p = sCt G p + j := by
  intro p
  induction p with
  | zero => intro h _ _; exact ⟨0, by show h E = 1 * h E; omega, rfl⟩
  | succ p ih =>
    intro h hG hI
    unfold sEp sCt
    by_cases c : P p = true
    · by_cases c2 : G p = true
      · rw [if_pos c, if_pos c2, if_pos c, if_pos c2]
        obtain ⟨j, h1, h2⟩ := ih (sDl fr p h) (fun q hq => hG q (by omega)) (fun q hq a b => (hI q (by omega) a b).dl)
        exact ⟨j, h1, by omega⟩
      · rw [if_pos c, if_neg c2, if_pos c, if_neg c2]
        obtain ⟨j, h1, h2⟩ := ih h (fun q hq => hG q (by omega)) (fun q hq a b => hI q (by omega) a b)
        refine ⟨j + 1, ?_, by omega⟩
        rw [sDl_in (hI p (by omega) c c2) (hf p), sEp_k, h1, Nat.pow_succ, ← Nat.mul_assoc, Nat.mul_comm 10]
    · have c2 : ¬ G p = true := fun z => c (hG p (by omega) z)
      rw [if_neg c, if_neg c2, if_neg c, if_neg c2]
      exact ih h (fun q hq => hG q (by omega)) (fun q hq a b => hI q (by omega) a b)
/-- weights come to tens -/
theorem sEp_le {fr : Nat → Nat} {P : Nat → Bool} {E : sSt} (hf : ∀ p, fr p ≤ 10) : ∀ p (h : sSt → Nat) (B : Nat), (∀ E, h E ≤ B) → sEp fr P p h E ≤ 10 ^ sCt P p * B := by
  intro p
  induction p with
  | zero => intro h B hB; show h E ≤ 1 * B; have := hB E; omega
  | succ p ih =>
    intro h B hB
    unfold sEp sCt
    split
    · rw [Nat.pow_succ, Nat.mul_assoc]
      refine ih _ _ (fun E2 => ?_)
      unfold sDl
      have h1 := Nat.mul_le_mul_left (10 - fr p) (hB (upd E2 (14 + 8 * p) 1))
      have h2 := Nat.mul_le_mul_left (fr p) (hB (upd E2 (14 + 8 * p) 0))
      have h3 : (10 - fr p) * B + fr p * B = 10 * B := by
        have h4 := hf p
        rw [← Nat.add_mul, show 10 - fr p + fr p = 10 by omega]
      have h5 : (10 - fr p) * h (upd E2 (14 + 8 * p) 1) + fr p * h (upd E2 (14 + 8 * p) 0) ≤ 10 * B := by omega
      exact h5
    · exact ih h B hB
/-- the dead by bits: where they are, and that they are all that counts -/
theorem sAl_off {F : Nat → Nat} {d k : Nat} {E : sSt} : ∀ n, (∀ j, j < n → k ≠ 14 + 8 * F j) → sAl F d n E k = E k := by
  intro n
  induction n with
  | zero => intro _; rfl
  | succ n ih =>
    intro h
    unfold sAl
    rw [upd_ne (h n (by omega))]
    exact ih (fun j hj => h j (by omega))
theorem sAl_at {F : Nat → Nat} {d : Nat} {E : sSt} {i : Nat} : ∀ n, (∀ j, j < n → j ≠ i → F j ≠ F i) → i < n → sAl F d n E (14 + 8 * F i) = if d.testBit i = true then 0 else 1 := by
  intro n
  induction n with
  | zero => intro _ h; omega
  | succ n ih =>
    intro h hi
    unfold sAl
    by_cases c : i = n
    · rw [c, upd_at]
    · have ne : 14 + 8 * F i ≠ 14 + 8 * F n := by
        have := h n (by omega) (by omega)
        omega
      rw [upd_ne ne]
      exact ih (fun j hj => h j (by omega)) (by omega)
theorem sAl_eq {F : Nat → Nat} {d n : Nat} {E X : sSt} (hF : ∀ i j, i < n → j < n → j ≠ i → F j ≠ F i) (h1 : ∀ i, i < n → X (14 + 8 * F i) = if d.testBit i = true then 0 else 1) (h2 : ∀ k, (∀ j, j < n → k ≠ 14 + 8 * F j) → X k = E k) : X = sAl F d n E := by
  funext k
  by_cases c : ∃ j, j < n ∧ k = 14 + 8 * F j
  · obtain ⟨j, hj, rfl⟩ := c
    rw [h1 j hj, sAl_at n (fun i hi => hF j i hj hi) hj]
  · have h3 : ∀ j, j < n → k ≠ 14 + 8 * F j := fun j hj z => c ⟨j, hj, z⟩
    rw [h2 k h3, sAl_off n h3]

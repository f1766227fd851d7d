/-! SAFE: long numbers; greatest divisors. -/
def zol (n : Nat) : Int64 := Int64.ofNat n
theorem zol_add {a b : Nat} : zol a + zol b = zol (a + b) := (Int64.ofNat_add a b).symm
theorem zol_mul {a b : Nat} : zol a * zol b = zol (a * b) := (Int64.ofNat_mul a b).symm
theorem zol_i {a : Nat} (h : a < 9223372036854775808) : (zol a).toInt = a := Int64.toInt_ofNat_of_lt h
theorem zol_div {a b : Nat} (ha : a < 9223372036854775808) (hb : b < 9223372036854775808) : zol a / zol b = zol (a / b) := by
  have n1 : zol b ≠ -1 := fun z => by
    have h := zol_i hb
    rw [z, show (-1 : Int64).toInt = -1 from rfl] at h
    omega
  have hd : a / b ≤ a := Nat.div_le_self a b
  apply Int64.toInt_inj.mp
  rw [Int64.toInt_div_of_ne_right _ _ n1, zol_i ha, zol_i hb, zol_i (by omega)]
  exact (Int.ofNat_tdiv a b).symm
theorem zol_mod {a b : Nat} (ha : a < 9223372036854775808) (hb : b < 9223372036854775808) : zol a - zol a / zol b * zol b = zol (a % b) := by
  rw [zol_div ha hb, zol_mul]
  have h1 : a / b * b + a % b = a := by
    rw [Nat.mul_comm]
    exact Nat.div_add_mod a b
  apply Int64.toInt_inj.mp
  rw [Int64.toInt_sub, zol_i ha, zol_i (by omega), zol_i (by omega), Int.bmod]
  omega
theorem cmp_0 {a : Nat} (h : a < 9223372036854775808) : lg_cmp (zol a) 0 = 0 ↔ a = 0 := by
  by_cases c : a = 0
  · subst c
    exact ⟨fun _ => rfl, fun _ => by decide⟩
  · refine ⟨fun z => ?_, fun z => absurd z c⟩
    unfold lg_cmp at z
    have g : zol a > 0 := by
      show (0 : Int64) < zol a
      rw [Int64.lt_iff_toInt_lt, zol_i h, show (0 : Int64).toInt = 0 from rfl]
      omega
    rw [if_pos g] at z
    exact absurd z (by decide)
theorem cmp_1 {a : Nat} (h : a < 9223372036854775808) : (0 : Int32) < lg_cmp (zol a) 1 ↔ 1 < a := by
  unfold lg_cmp
  by_cases c : 1 < a
  · have g : zol a > 1 := by
      show (1 : Int64) < zol a
      rw [Int64.lt_iff_toInt_lt, zol_i h, show (1 : Int64).toInt = 1 from rfl]
      omega
    rw [if_pos g]
    exact ⟨fun _ => c, fun _ => by decide⟩
  · refine ⟨fun z => ?_, fun z => absurd z c⟩
    have c2 : a = 0 ∨ a = 1 := by omega
    rcases c2 with rfl | rfl
    · exact absurd z (by decide)
    · exact absurd z (by decide)
theorem zol_0 {a : Nat} (h : a < 9223372036854775808) : (¬ zol a = 0) ↔ a ≠ 0 := by
  refine ⟨fun z y => z (by rw [y]; rfl), fun z y => z ?_⟩
  have h1 := zol_i h
  rw [y, show (0 : Int64).toInt = 0 from rfl] at h1
  omega
theorem gcd_st {x y : Nat} : Nat.gcd y (x % y) = Nat.gcd x y := by
  rw [Nat.gcd_comm x y, Nat.gcd_rec y x, Nat.gcd_comm]
theorem X_gcdL {d : Nat} {M : zm_M} {Q : Int64 → zm_M → Prop} : ∀ (n i x y : Nat), i + n < 1000 → y ≤ x → x < 9223372036854775808 → x * y < 2 ^ n → Q (zol (Nat.gcd x y)) M → zt d 11 9 [none, none, none, none, some (.long (zol x)), none, some (.long (zol y)), none, some (.int (zon i)), none, none] [] M (zPl Q) := by
  intro n
  induction n with
  | zero =>
    intro i x y hi hyx hx hm hQ
    have y0 : y = 0 := by
      by_cases c : y = 0
      · exact c
      · exfalso
        have : 1 * 1 ≤ x * y := Nat.mul_le_mul (by omega) (by omega)
        omega
    subst y0
    rw [Nat.gcd_zero_right] at hQ
    apply zg_X1_greatestDivisor_p9
    exact ⟨fun _ => ⟨fun _ => hQ, fun z => absurd ((cmp_0 (by omega)).mpr rfl) z⟩, fun _ => hQ⟩
  | succ n ih =>
    intro i x y hi hyx hx hm hQ
    apply zg_X1_greatestDivisor_p9
    refine ⟨fun _ => ⟨fun z => ?_, fun z => ?_⟩, fun z => absurd (by rw [zon_ltl (b := 1000) (by omega) rfl]; omega) z⟩
    · have y0 := (cmp_0 (by omega)).mp z
      subst y0
      rw [Nat.gcd_zero_right] at hQ
      exact hQ
    · have y0 : y ≠ 0 := fun e => z ((cmp_0 (by omega)).mpr e)
      refine ⟨(zol_0 (by omega)).mpr y0, ?_⟩
      rw [zol_mod hx (by omega), zon_s]
      have ml : x % y < y := Nat.mod_lt x (by omega)
      have dv : 1 * y ≤ x / y * y := Nat.mul_le_mul ((Nat.one_le_div_iff (by omega)).mpr hyx) (Nat.le_refl y)
      have h1 : x / y * y + x % y = x := by
        rw [Nat.mul_comm]
        exact Nat.div_add_mod x y
      have h2 : 2 * (x % y) ≤ x := by omega
      have h3 : 2 * (x % y) * y ≤ x * y := Nat.mul_le_mul h2 (Nat.le_refl y)
      rw [Nat.mul_assoc, Nat.mul_comm (x % y) y] at h3
      rw [Nat.pow_succ] at hm
      refine ih (i + 1) y (x % y) (by omega) (by omega) (by omega) (by omega) ?_
      rw [gcd_st]
      exact hQ
theorem X_gcd {d a b : Nat} {M : zm_M} {Q : Int64 → zm_M → Prop} (ha : a < 9223372036854775808) (hb : b < 9223372036854775808) (hQ : Q (zol (Nat.gcd a b)) M) : zl d 11 [.long (zol a), .long (zol b)] M Q := by
  apply zg_X1_greatestDivisor
  apply zg_X1_greatestDivisor_p9
  refine ⟨fun _ => ⟨fun z => ?_, fun z => ?_⟩, fun z => absurd (by decide) z⟩
  · have b0 := (cmp_0 hb).mp z
    subst b0
    rw [Nat.gcd_zero_right] at hQ
    exact hQ
  · have b0 : b ≠ 0 := fun e => z ((cmp_0 hb).mpr e)
    refine ⟨(zol_0 hb).mpr b0, ?_⟩
    rw [zol_mod ha hb]
    have ml : a % b < b := Nat.mod_lt a (by omega)
    have h1 : b * (a % b) ≤ 9223372036854775808 * 9223372036854775808 := Nat.mul_le_mul (by omega) (by omega)
    have h2 : 9223372036854775808 * 9223372036854775808 < 2 ^ 127 := by decide
    refine X_gcdL 127 1 b (a % b) (by omega) (by omega) hb (Nat.lt_of_le_of_lt h1 h2) ?_
    rw [gcd_st]
    exact hQ
theorem R_gcd {d : Nat} {M : zm_M} {Q : Int64 → zm_M → Prop} {v2 : Int32} {v4 v6 : Int64} : ∀ (n x y : Nat), y ≤ n → x < 9223372036854775808 → y < 9223372036854775808 → (x ≠ 0 ∨ y ≠ 0) → ((v2 = 0 → Q (v4 / zol (Nat.gcd x y)) M) ∧ (¬ v2 = 0 → Q (v6 / zol (Nat.gcd x y)) M)) → zt d 177 321 [none, none, some (.int v2), none, some (.long v4), none, some (.long v6), none, some (.long (zol x)), none, some (.long (zol y)), none, none, none] [] M (zPl Q) := by
  intro n
  induction n with
  | zero =>
    intro x y hy hx hy2 hz hQ
    have y0 : y = 0 := by omega
    subst y0
    rw [Nat.gcd_zero_right] at hQ
    have x0 : ¬ zol x = 0 := (zol_0 hx).mpr (by omega)
    apply zg_X11_safe_p321
    exact ⟨fun _ => ⟨fun z => ⟨x0, hQ.1 z⟩, fun z => ⟨x0, hQ.2 z⟩⟩, fun z => absurd ((cmp_0 hy2).mpr rfl) z⟩
  | succ n ih =>
    intro x y hy hx hy2 hz hQ
    apply zg_X11_safe_p321
    refine ⟨fun z => ?_, fun z => ?_⟩
    · have y0 := (cmp_0 hy2).mp z
      subst y0
      rw [Nat.gcd_zero_right] at hQ
      have x0 : ¬ zol x = 0 := (zol_0 hx).mpr (by omega)
      exact ⟨fun z => ⟨x0, hQ.1 z⟩, fun z => ⟨x0, hQ.2 z⟩⟩
    · have y0 : y ≠ 0 := fun e => z ((cmp_0 hy2).mpr e)
      refine ⟨(zol_0 hy2).mpr y0, ?_⟩
      rw [zol_mod hx hy2]
      have ml : x % y < y := Nat.mod_lt x (by omega)
      refine ih y (x % y) (by omega) hy2 (by omega) (Or.inl y0) ?_
      rw [gcd_st]
      exact hQ

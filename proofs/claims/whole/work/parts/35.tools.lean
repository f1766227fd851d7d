/-! Small whole numbers as ints; frames. -/
def zon (k : Nat) : Int32 := Int32.ofNat k
theorem zon_add {a b : Nat} : zon a + zon b = zon (a + b) := (Int32.ofNat_add a b).symm
theorem zon_mul {a b : Nat} : zon a * zon b = zon (a * b) := (Int32.ofNat_mul a b).symm
theorem zon_s {a : Nat} : zon a + 1 = zon (a + 1) := zon_add (b := 1)
theorem zon_n {a : Nat} (h : a < 2000) : (zon a).toNatClampNeg = a := Int32.toNatClampNeg_ofNat_of_lt (by omega)
theorem zon_i {a : Nat} (h : a < 2000) : (zon a).toInt = a := Int32.toInt_ofNat_of_lt (by omega)
theorem zon_lt {a b : Nat} (ha : a < 2000) (hb : b < 2000) : (zon a < zon b) = (a < b) := propext (Int32.ofNat_lt_iff_lt (by omega) (by omega))
theorem zon_le {a b : Nat} (ha : a < 2000) (hb : b < 2000) : (zon a ≤ zon b) = (a ≤ b) := propext (Int32.ofNat_le_iff_le (by omega) (by omega))
theorem zon_inj {a b : Nat} (ha : a < 2000) (hb : b < 2000) : (zon a = zon b) = (a = b) := propext ⟨fun h => by rw [← zon_n ha, h, zon_n hb], fun h => by rw [h]⟩
theorem zon_nn {a : Nat} (h : a < 2000) : ¬ zon a < 0 := by
  intro z
  have := Int32.lt_iff_toInt_lt.mp z
  rw [zon_i h] at this
  simp at this
  omega
theorem zon_0le {a : Nat} (h : a < 2000) : 0 ≤ zon a := by
  rw [Int32.le_iff_toInt_le, zon_i h]
  simp
theorem zon_ltl {a : Nat} {m : Int32} {b : Nat} (h : a < 2000) (hm : m.toInt = b) : (zon a < m) = (a < b) := by
  rw [Int32.lt_iff_toInt_lt, zon_i h, hm]
  exact propext (by omega)
theorem zon_lel {a : Nat} {m : Int32} {b : Nat} (h : a < 2000) (hm : m.toInt = b) : (m ≤ zon a) = (b ≤ a) := by
  rw [Int32.le_iff_toInt_le, zon_i h, hm]
  exact propext (by omega)
theorem zon_inb {a n : Nat} (h : a < 2000) : (zm_inb (zon a) n = true) = (a < n) := by
  unfold zm_inb
  rw [zon_i h]
  simp
theorem zof {x : Int32} {m : Int32} {n : Nat} (h : ¬ x < 0) (h2 : x < m) (hm : m.toInt = n) : ∃ k, x = zon k ∧ k < n := by
  have h1 : 0 ≤ x := by grind
  refine ⟨x.toNatClampNeg, (Int32.ofNat_toNatClampNeg x h1).symm, zcl_lt h h2 hm⟩
theorem zof2 {x : Int32} {m : Int32} {n : Nat} (h : 0 ≤ x) (h2 : x ≤ m) (hm : m.toInt = n) : ∃ k, x = zon k ∧ k ≤ n := by
  refine ⟨x.toNatClampNeg, (Int32.ofNat_toNatClampNeg x h).symm, ?_⟩
  have := zcl (x := x) (by grind)
  have h3 := Int32.le_iff_toInt_le.mp h2
  omega
theorem zP0 {p : Nat} : ((10 + (8 * zon p)) + 0 : Int32) = zon (10 + 8 * p) := by
  show (zon 10 + zon 8 * zon p) + zon 0 = _
  rw [zon_mul, zon_add, zon_add]
  rfl
theorem zP1 {p : Nat} : ((10 + (8 * zon p)) + 1 : Int32) = zon (11 + 8 * p) := by
  show (zon 10 + zon 8 * zon p) + zon 1 = _
  rw [zon_mul, zon_add, zon_add, show 10 + 8 * p + 1 = 11 + 8 * p by omega]
theorem zP2 {p : Nat} : ((10 + (8 * zon p)) + 2 : Int32) = zon (12 + 8 * p) := by
  show (zon 10 + zon 8 * zon p) + zon 2 = _
  rw [zon_mul, zon_add, zon_add, show 10 + 8 * p + 2 = 12 + 8 * p by omega]
theorem zP3 {p : Nat} : ((10 + (8 * zon p)) + 3 : Int32) = zon (13 + 8 * p) := by
  show (zon 10 + zon 8 * zon p) + zon 3 = _
  rw [zon_mul, zon_add, zon_add, show 10 + 8 * p + 3 = 13 + 8 * p by omega]
theorem zP4 {p : Nat} : ((10 + (8 * zon p)) + 4 : Int32) = zon (14 + 8 * p) := by
  show (zon 10 + zon 8 * zon p) + zon 4 = _
  rw [zon_mul, zon_add, zon_add, show 10 + 8 * p + 4 = 14 + 8 * p by omega]
theorem zP5 {p : Nat} : ((10 + (8 * zon p)) + 5 : Int32) = zon (15 + 8 * p) := by
  show (zon 10 + zon 8 * zon p) + zon 5 = _
  rw [zon_mul, zon_add, zon_add, show 10 + 8 * p + 5 = 15 + 8 * p by omega]
theorem zP6 {p : Nat} : ((10 + (8 * zon p)) + 6 : Int32) = zon (16 + 8 * p) := by
  show (zon 10 + zon 8 * zon p) + zon 6 = _
  rw [zon_mul, zon_add, zon_add, show 10 + 8 * p + 6 = 16 + 8 * p by omega]
theorem zP7 {p : Nat} : ((10 + (8 * zon p)) + 7 : Int32) = zon (17 + 8 * p) := by
  show (zon 10 + zon 8 * zon p) + zon 7 = _
  rw [zon_mul, zon_add, zon_add, show 10 + 8 * p + 7 = 17 + 8 * p by omega]
theorem zD0 {p : Nat} : ((106 + (4 * zon p)) + 0 : Int32) = zon (106 + 4 * p) := by
  show (zon 106 + zon 4 * zon p) + zon 0 = _
  rw [zon_mul, zon_add, zon_add]
  rfl
theorem zD1 {p : Nat} : ((106 + (4 * zon p)) + 1 : Int32) = zon (107 + 4 * p) := by
  show (zon 106 + zon 4 * zon p) + zon 1 = _
  rw [zon_mul, zon_add, zon_add, show 106 + 4 * p + 1 = 107 + 4 * p by omega]
theorem zD2 {p : Nat} : ((106 + (4 * zon p)) + 2 : Int32) = zon (108 + 4 * p) := by
  show (zon 106 + zon 4 * zon p) + zon 2 = _
  rw [zon_mul, zon_add, zon_add, show 106 + 4 * p + 2 = 108 + 4 * p by omega]
theorem zD3 {p : Nat} : ((106 + (4 * zon p)) + 3 : Int32) = zon (109 + 4 * p) := by
  show (zon 106 + zon 4 * zon p) + zon 3 = _
  rw [zon_mul, zon_add, zon_add, show 106 + 4 * p + 3 = 109 + 4 * p by omega]
/-- all is as it was, but the cells of L -/
def zfr (L : List Nat) (M M1 : zm_M) : Prop := (∀ k, k ∉ L → M1.1 k = M.1 k) ∧ M1.2 = M.2
theorem zfr_rfl {L : List Nat} {M : zm_M} : zfr L M M := ⟨fun _ _ => rfl, rfl⟩
theorem zfr_trans {L : List Nat} {A B D : zm_M} (h : zfr L A B) (h2 : zfr L B D) : zfr L A D := ⟨fun k hk => (h2.1 k hk).trans (h.1 k hk), h2.2.trans h.2⟩
theorem zfr_sub {L L2 : List Nat} {A B : zm_M} (h : zfr L A B) (hs : ∀ k, k ∈ L → k ∈ L2) : zfr L2 A B := ⟨fun k hk => h.1 k (fun z => hk (hs k z)), h.2⟩
theorem zfr_si {L : List Nat} {A : zm_M} {k j : Nat} {v : Int32} (hk : k ∈ L) : zfr L A (zm_si A k j v) := ⟨fun i hi => zI_si_rne (fun z => hi (z ▸ hk)), rfl⟩
theorem zfr_sr {L : List Nat} {A : zm_M} {k : Nat} {f : Nat → Int32} (hk : k ∈ L) : zfr L A (zm_sr A k f) := ⟨fun i hi => zI_sr_rne (fun z => hi (z ▸ hk)), rfl⟩
/-- a half -/
theorem zhalf_i {b : Int32} (h : 0 ≤ b) : (b / 2).toInt = b.toInt / 2 := by
  rw [Int32.toInt_div_of_ne_right _ _ (by decide)]
  have h1 := Int32.le_iff_toInt_le.mp h
  simp at h1
  show b.toInt.tdiv 2 = _
  rw [Int.tdiv_eq_ediv_of_nonneg h1]
theorem zhalf {b : Int32} (h : 0 ≤ b) : 0 ≤ b / 2 ∧ b / 2 ≤ b ∧ (b = b / 2 + b / 2 ∨ b = b / 2 + b / 2 + 1) := by
  have e := zhalf_i h
  have h1 := Int32.le_iff_toInt_le.mp h
  simp at h1
  have h2 := Int32.toInt_lt b
  have e2 : (b / 2 + b / 2).toInt = b.toInt / 2 + b.toInt / 2 := by
    rw [Int32.toInt_add, e, Int.bmod]
    omega
  have e3 : (b / 2 + b / 2 + 1).toInt = (b.toInt / 2 + b.toInt / 2 + 1 : Int).bmod (2 ^ 32) := by
    rw [Int32.toInt_add, e2]
    rfl
  refine ⟨by rw [Int32.le_iff_toInt_le, e]; simp; omega, by rw [Int32.le_iff_toInt_le, e]; omega, ?_⟩
  by_cases hp : b.toInt % 2 = 0
  · left
    apply Int32.toInt_inj.mp
    rw [e2]
    omega
  · right
    apply Int32.toInt_inj.mp
    rw [e3, Int.bmod]
    omega
/-- the greater half, told in two ways -/
theorem zhalf2 {b : Int32} (h : 0 ≤ b) (h2 : b ≤ 99999999) : (b + 1) / 2 = b - b / 2 := by
  have h1 := Int32.le_iff_toInt_le.mp h
  have h3 := Int32.le_iff_toInt_le.mp h2
  simp at h1
  rw [show (99999999 : Int32).toInt = 99999999 from rfl] at h3
  have e1 : (b + 1).toInt = b.toInt + 1 := by
    rw [Int32.toInt_add, show (1 : Int32).toInt = 1 from rfl, Int.bmod]
    omega
  have h4 : 0 ≤ b + 1 := by
    rw [Int32.le_iff_toInt_le, e1]
    simp
    omega
  apply Int32.toInt_inj.mp
  rw [zhalf_i h4, e1, Int32.toInt_sub, zhalf_i h, Int.bmod]
  omega

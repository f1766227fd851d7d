/-! A year, as numbers; and the class's. -/
theorem upd_com {s : Nat → Int32} {i j : Nat} {a b : Int32} (h : i ≠ j) : upd (upd s i a) j b = upd (upd s j b) i a := by
  funext k
  unfold upd
  by_cases h1 : k = j
  · by_cases h2 : k = i
    · omega
    · rw [if_pos h1, if_neg h2, if_pos h1]
  · rw [if_neg h1]
    by_cases h2 : k = i
    · rw [if_pos h2, if_pos h2]
    · rw [if_neg h2, if_neg h2, if_neg h1]
abbrev yCh (s : Nat → Int32) (p i : Nat) : Prop := s (12 + 8 * i) = zon p ∨ s (13 + 8 * i) = zon p
def yCn (s : Nat → Int32) (p : Nat) : Nat → Nat → Int32 → Int32
  | 0, _, acc => acc
  | n + 1, i, acc => yCn s p n (i + 1) (if s (14 + 8 * i) = 1 ∧ yCh s p i then acc + 1 else acc)
def yLs (s : Nat → Int32) (p : Nat) : Nat → Nat → Int32
  | 0, _ => -1
  | n + 1, i => if s (14 + 8 * i) = 1 ∧ yCh s p i then zon i else yLs s p n (i + 1)
def yK (x : Int32) : Int32 := if x < 0 then 0 else if 9999 < x then 9999 else x
def yFr (s : Nat → Int32) (N p : Nat) : Int32 := if 0 < s 271 then yK (tvF s (s (15 + 8 * p)) (s (16 + 8 * p)) (yCn s p N 0 0)) else s (16 + 8 * p) / 20
def yPu (s : Nat → Int32) (N p : Nat) : Int32 := if s (15 + 8 * p) + yFr s N p < 99999 then s (15 + 8 * p) + yFr s N p else 99999
def yZ (s : Nat → Int32) : Int32 := s 6 * 1103515245 + 12345
def yR (z : Int32) : Int32 := (z.toUInt32 >>> ((8 : Int32).toUInt32 &&& Int32.toUInt32 31)).toInt32 - (z.toUInt32 >>> ((8 : Int32).toUInt32 &&& Int32.toUInt32 31)).toInt32 / 10 * 10
def yLv (c : Int32) (s : Nat → Int32) (p w : Nat) : Nat → Int32 :=
  if c = -1 then upd (upd s (10 + 8 * p + w) 0) 3 (cl3 (s 3 + s (10 + 8 * p + w)))
  else upd (upd (upd s (10 + 8 * p + w) 0) (10 + 8 * c.toNatClampNeg + w) (s (10 + 8 * c.toNatClampNeg + w) + tMin (99999 - s (10 + 8 * c.toNatClampNeg + w)) (s (10 + 8 * p + w)))) 3 (cl3 (s 3 + (s (10 + 8 * p + w) - tMin (99999 - s (10 + 8 * c.toNatClampNeg + w)) (s (10 + 8 * p + w)))))
def yDie (s : Nat → Int32) (N p : Nat) : Nat → Int32 := yLv (yLs (upd s (14 + 8 * p) 0) p N 0) (yLv (yLs (upd s (14 + 8 * p) 0) p N 0) (upd s (14 + 8 * p) 0) p 5) p 6
def yLive (s : Nat → Int32) (N p : Nat) : Nat → Int32 := upd (upd s (15 + 8 * p) (yPu s N p)) 6 (yZ s)
def yS (N p : Nat) (a : Int32 × (Nat → Int32)) : Int32 × (Nat → Int32) := if a.2 (14 + 8 * p) = 1 then (if yR (yZ a.2) < a.2 (17 + 8 * p) then (a.1 + 1, yDie (yLive a.2 N p) N p) else (a.1, yLive a.2 N p)) else a
def yY (N : Nat) : Nat → Nat → Int32 × (Nat → Int32) → Int32 × (Nat → Int32)
  | 0, _, a => a
  | n + 1, i, a => yY N n (i + 1) (yS N i a)
def yYs (N : Nat) : Nat → Int32 × (Nat → Int32) → Int32 × (Nat → Int32)
  | 0, a => a
  | n + 1, a => yYs N n (a.1 + (yY N N 0 (0, a.2)).1, (yY N N 0 (0, a.2)).2)
def YW (N : Nat) (s : Nat → Int32) : Prop := WF s ∧ SX 1 s ∧ s 0 = zon N ∧ N ≤ 12
theorem YW.lt {N p : Nat} {s : Nat → Int32} (h : YW N s) (hp : p < N) : (p : Int) < (s 0).toInt := by
  have := h.2.2.2
  rw [h.2.2.1, zon_i (by omega)]
  omega
theorem YW.pw {N p : Nat} {s : Nat → Int32} (h : YW N s) (hp : p < N) : (s (14 + 8 * p) = 0 ∨ s (14 + 8 * p) = 1) ∧ (0 ≤ s (15 + 8 * p) ∧ s (15 + 8 * p) ≤ 99999) ∧ (0 ≤ s (16 + 8 * p) ∧ s (16 + 8 * p) ≤ 99999) := by
  have g := h.1.2.2.2.2.2.2.2.1 p (h.lt hp)
  unfold PW at g
  grind
theorem SX.u1 {s : Nat → Int32} {a : Nat} {v : Int32} (h : SX 1 s) (ha : a < 146) : SX 1 (upd s a v) := by
  unfold SX at *
  rw [upd_ne (by omega), show (fun k => upd s a v (147 + 125 * 1 + k)) = (fun k => s (147 + 125 * 1 + k)) from funext (fun k => upd_ne (by omega))]
  exact h
theorem YW.put {N p w : Nat} {v : Int32} {s : Nat → Int32} (h : YW N s) (hp : p < N) (hv : 0 ≤ v ∧ ((w = 4 ∧ v ≤ 1) ∨ (w = 5 ∧ v ≤ 99999) ∨ (w = 6 ∧ v ≤ 99999))) : YW N (upd s (10 + 8 * p + w) v) := by
  have h12 := h.2.2.2
  refine ⟨h.1.put (h.lt hp) ⟨hv.1, ?_⟩, h.2.1.u1 (by omega), by rw [upd_ne (by omega)]; exact h.2.2.1, h.2.2.2⟩
  rcases hv.2 with z | z | z
  · exact Or.inr (Or.inr (Or.inl z))
  · exact Or.inr (Or.inr (Or.inr (Or.inl z)))
  · exact Or.inr (Or.inr (Or.inr (Or.inr (Or.inl z))))
theorem WF.upd3 {s : Nat → Int32} (h : WF s) {v : Int32} (hv : -999999 ≤ v ∧ v ≤ 999999) : WF (upd s 3 v) := by
  have e : ∀ k, k ≠ 3 → upd s 3 v k = s k := fun k hk => if_neg hk
  have e2 : upd s 3 v 3 = v := if_pos rfl
  unfold WF PW DW at h ⊢
  simp only [e 0 (by decide), e 1 (by decide), e2, e 2 (by decide), e 4 (by decide), e 5 (by decide), e 7 (by decide), e 8 (by decide), e 9 (by decide)]
  obtain ⟨h1, h2, h3, h4, h5, h6, h7, h8, h9, h10⟩ := h
  refine ⟨h1, h2, h3, hv, h5, h6, h7, fun p hp => ?_, fun q hq => ?_, fun j hj => ?_⟩
  · rw [e _ (by omega), e _ (by omega), e _ (by omega), e _ (by omega), e _ (by omega), e _ (by omega), e _ (by omega), e _ (by omega)]
    exact h8 p hp
  · rw [e _ (by omega), e _ (by omega), e _ (by omega), e _ (by omega)]
    exact h9 q hq
  · rw [e _ (by omega)]
    exact h10 j hj
theorem YW.u3 {N : Nat} {x : Int32} {s : Nat → Int32} (h : YW N s) : YW N (upd s 3 (cl3 x)) := ⟨h.1.upd3 cl3_rng, h.2.1.u1 (by omega), by rw [upd_ne (by omega)]; exact h.2.2.1, h.2.2.2⟩
theorem YW.u6 {N : Nat} {x : Int32} {s : Nat → Int32} (h : YW N s) : YW N (upd s 6 x) := ⟨h.1.upd6 x, h.2.1.u1 (by omega), by rw [upd_ne (by omega)]; exact h.2.2.1, h.2.2.2⟩
theorem yd20 {x : Int32} (h : 0 ≤ x ∧ x ≤ 99999) : 0 ≤ x / 20 ∧ x / 20 ≤ 9999 := by
  have a1 := le_i h.1 rfl rfl
  have a2 := le_i h.2 rfl rfl
  rw [show (0 : Int32).toInt = 0 from rfl] at a1
  rw [show (99999 : Int32).toInt = 99999 from rfl] at a2
  have e : (x / 20).toInt = x.toInt / 20 := by
    rw [Int32.toInt_div_of_ne_right _ _ (by decide)]
    show x.toInt.tdiv 20 = _
    rw [Int.tdiv_eq_ediv_of_nonneg a1]
  rw [Int32.le_iff_toInt_le, Int32.le_iff_toInt_le, e, show (0 : Int32).toInt = 0 from rfl, show (9999 : Int32).toInt = 9999 from rfl]
  omega
theorem yK_rng {x : Int32} : 0 ≤ yK x ∧ yK x ≤ 9999 := by
  unfold yK
  split
  · exact ⟨by decide, by decide⟩
  · split
    · exact ⟨by decide, by decide⟩
    · grind
theorem yFr_rng {N p : Nat} {s : Nat → Int32} (h : YW N s) (hp : p < N) : 0 ≤ yFr s N p ∧ yFr s N p ≤ 9999 := by
  unfold yFr
  split
  · exact yK_rng
  · exact yd20 (h.pw hp).2.2
theorem yPu_rng {N p : Nat} {s : Nat → Int32} (h : YW N s) (hp : p < N) : 0 ≤ yPu s N p ∧ yPu s N p ≤ 99999 := by
  have h1 := yFr_rng h hp
  have h2 := (h.pw hp).2.1
  unfold yPu
  generalize yFr s N p = y at *
  generalize s (15 + 8 * p) = x at *
  split <;> grind
theorem yLs_of {s : Nat → Int32} {p : Nat} : ∀ (n i : Nat), yLs s p n i = -1 ∨ ∃ q, q < i + n ∧ yLs s p n i = zon q ∧ s (14 + 8 * q) = 1
  | 0, i => Or.inl rfl
  | n + 1, i => by
    rw [yLs]
    by_cases h : s (14 + 8 * i) = 1 ∧ yCh s p i
    · rw [if_pos h]
      exact Or.inr ⟨i, by omega, rfl, h.1⟩
    · rw [if_neg h]
      rcases yLs_of (s := s) (p := p) n (i + 1) with z | ⟨q, h1, h2⟩
      · exact Or.inl z
      · exact Or.inr ⟨q, by omega, h2⟩
theorem yLs_cg {s s2 : Nat → Int32} {p : Nat} : ∀ (n i : Nat), (∀ q, q < i + n → s2 (12 + 8 * q) = s (12 + 8 * q) ∧ s2 (13 + 8 * q) = s (13 + 8 * q) ∧ s2 (14 + 8 * q) = s (14 + 8 * q)) → yLs s2 p n i = yLs s p n i
  | 0, i, _ => rfl
  | n + 1, i, h => by
    obtain ⟨h1, h2, h3⟩ := h i (by omega)
    simp only [yLs, yLs_cg n (i + 1) (fun q hq => h q (by omega)), yCh, h1, h2, h3]
theorem YW.lv {N p w : Nat} {c : Int32} {s : Nat → Int32} (h : YW N s) (hp : p < N) (hw : w = 5 ∨ w = 6) (hc : c = -1 ∨ ∃ q, q < N ∧ c = zon q ∧ s (14 + 8 * q) = 1) : YW N (yLv c s p w) := by
  have h12 := h.2.2.2
  have h1 : YW N (upd s (10 + 8 * p + w) 0) := h.put hp ⟨by decide, by rcases hw with rfl | rfl <;> decide⟩
  unfold yLv
  rcases hc with rfl | ⟨q, hq, rfl, -⟩
  · rw [if_pos rfl]
    exact h1.u3
  · rw [if_neg (fun z => zon_nn (a := q) (by omega) (by rw [z]; decide)), zon_n (by omega)]
    refine YW.u3 (h1.put hq ?_)
    have e1 : 0 ≤ s (10 + 8 * q + w) ∧ s (10 + 8 * q + w) ≤ 99999 := by
      have g := h.pw hq
      rcases hw with rfl | rfl
      · rw [show 10 + 8 * q + 5 = 15 + 8 * q by omega]; exact g.2.1
      · rw [show 10 + 8 * q + 6 = 16 + 8 * q by omega]; exact g.2.2
    have e2 : 0 ≤ s (10 + 8 * p + w) ∧ s (10 + 8 * p + w) ≤ 99999 := by
      have g := h.pw hp
      rcases hw with rfl | rfl
      · rw [show 10 + 8 * p + 5 = 15 + 8 * p by omega]; exact g.2.1
      · rw [show 10 + 8 * p + 6 = 16 + 8 * p by omega]; exact g.2.2
    generalize s (10 + 8 * q + w) = x at *
    generalize s (10 + 8 * p + w) = y at *
    have t := tMin_le (a := 99999 - x) (b := y)
    generalize tMin (99999 - x) y = z at *
    have r : 0 ≤ x + z ∧ x + z ≤ 99999 := by grind
    exact ⟨r.1, by rcases hw with rfl | rfl <;> simp [r.2]⟩
theorem yLv_at {c : Int32} {s : Nat → Int32} {p w k : Nat} (hk : k ≠ 3) (hk2 : ∀ q, k ≠ 10 + 8 * q + w) : yLv c s p w k = s k := by
  unfold yLv
  split
  · rw [upd_ne hk, upd_ne (hk2 p)]
  · rw [upd_ne hk, upd_ne (hk2 _), upd_ne (hk2 p)]
theorem YW.live {N p : Nat} {s : Nat → Int32} (h : YW N s) (hp : p < N) : YW N (yLive s N p) := by
  have r := yPu_rng h hp
  have := (h.put (w := 5) hp (v := yPu s N p) ⟨r.1, Or.inr (Or.inl ⟨rfl, r.2⟩)⟩).u6 (x := yZ s)
  rw [show 10 + 8 * p + 5 = 15 + 8 * p by omega] at this
  exact this
theorem YW.dead {N p : Nat} {s : Nat → Int32} (h : YW N s) (hp : p < N) : YW N (upd s (14 + 8 * p) 0) := by
  have := h.put (w := 4) (v := 0) hp ⟨by decide, Or.inl ⟨rfl, by decide⟩⟩
  rw [show 10 + 8 * p + 4 = 14 + 8 * p by omega] at this
  exact this
theorem yLv_ls {N p w : Nat} {c : Int32} {s : Nat → Int32} (hw : w = 5 ∨ w = 6) : yLs (yLv c s p w) p N 0 = yLs s p N 0 :=
  yLs_cg N 0 (fun q _ => ⟨yLv_at (by omega) (fun _ => by omega), yLv_at (by omega) (fun _ => by omega), yLv_at (by omega) (fun _ => by omega)⟩)
theorem yLs_hc {N p : Nat} {s : Nat → Int32} : yLs s p N 0 = -1 ∨ ∃ q, q < N ∧ yLs s p N 0 = zon q ∧ s (14 + 8 * q) = 1 := by
  have := yLs_of (s := s) (p := p) N 0
  rw [Nat.zero_add] at this
  exact this
theorem YW.die {N p : Nat} {s : Nat → Int32} (h : YW N s) (hp : p < N) : YW N (yDie s N p) := by
  refine ((h.dead hp).lv hp (Or.inl rfl) yLs_hc).lv hp (Or.inr rfl) ?_
  have := yLs_hc (N := N) (p := p) (s := yLv (yLs (upd s (14 + 8 * p) 0) p N 0) (upd s (14 + 8 * p) 0) p 5)
  rw [yLv_ls (Or.inl rfl)] at this
  exact this
theorem YW.st {N p : Nat} {a : Int32 × (Nat → Int32)} (h : YW N a.2) (hp : p < N) : YW N (yS N p a).2 := by
  unfold yS
  split
  · split
    · exact (h.live hp).die hp
    · exact h.live hp
  · exact h
theorem YW.yy {N : Nat} : ∀ (n i : Nat) (a : Int32 × (Nat → Int32)), i + n = N → YW N a.2 → YW N (yY N n i a).2
  | 0, _, _, _, h => h
  | n + 1, i, a, hi, h => YW.yy n (i + 1) (yS N i a) (by omega) (h.st (by omega))
theorem YW.yys {N : Nat} : ∀ (n : Nat) (a : Int32 × (Nat → Int32)), YW N a.2 → YW N (yYs N n a).2
  | 0, _, h => h
  | n + 1, a, h => YW.yys n _ (YW.yy N 0 (0, a.2) (by omega) h)

/-! Voices, in the class. -/
def VR (a b c : Nat) (M : zm_M) (t : Nat) (M1 : zm_M) (L : List Int32) : Prop := M1.1 a b = zon (t + L.length) ∧ (∀ i, i < L.length → M1.1 c (t + i) = L.getD i 0) ∧ (∀ j, j < t → M1.1 c j = M.1 c j) ∧ (∀ j, j ≠ b → M1.1 a j = M.1 a j) ∧ (∀ q, q ≠ a → q ≠ c → M1.1 q = M.1 q)
def psh (a b c : Nat) (M : zm_M) (t : Nat) (x : Int32) : zm_M := zm_si (zm_si M c t x) a b (zon (t + 1))
theorem psh_b {a b c t : Nat} {M : zm_M} {x : Int32} : (psh a b c M t x).1 a b = zon (t + 1) := zI_si_eq
theorem psh_a {a b c t j : Nat} {M : zm_M} {x : Int32} (hac : a ≠ c) (hj : j ≠ b) : (psh a b c M t x).1 a j = M.1 a j := by
  unfold psh
  rw [zI_si, if_pos rfl, if_neg hj, zI_si_ne hac]
theorem psh_q {a b c t q : Nat} {M : zm_M} {x : Int32} (h1 : q ≠ a) (h2 : q ≠ c) : (psh a b c M t x).1 q = M.1 q := by
  unfold psh
  rw [zI_si_rne h1, zI_si_rne h2]
theorem VR.push {a b c t : Nat} {M : zm_M} {x : Int32} (hac : a ≠ c) : VR a b c M t (psh a b c M t x) [x] := by
  refine ⟨psh_b, fun i hi => ?_, fun j hj => ?_, fun j hj => psh_a hac hj, fun q h1 h2 => psh_q h1 h2⟩
  · have e : i = 0 := by
      have : i < 1 := hi
      omega
    subst e
    unfold psh
    rw [zI_si_ne (Ne.symm hac), Nat.add_zero, zI_si_eq]
    rfl
  · unfold psh
    rw [zI_si_ne (Ne.symm hac), zI_si, if_pos rfl, if_neg (by omega)]
theorem VR.cons {a b c t : Nat} {M M1 M2 : zm_M} {x : Int32} {L : List Int32} (h : VR a b c M t M1 [x]) (h2 : VR a b c M1 (t + 1) M2 L) : VR a b c M t M2 (x :: L) := by
  obtain ⟨a1, a2, a3, a4, a5⟩ := h
  obtain ⟨b1, b2, b3, b4, b5⟩ := h2
  refine ⟨?_, fun i hi => ?_, fun j hj => ?_, fun j hj => (b4 j hj).trans (a4 j hj), fun q q1 q2 => (b5 q q1 q2).trans (a5 q q1 q2)⟩
  · rw [b1, List.length_cons, show t + 1 + L.length = t + (L.length + 1) by omega]
  · cases i with
    | zero =>
      rw [b3 (t + 0) (by omega), a2 0 (show 0 < 1 from Nat.zero_lt_one)]
      rfl
    | succ i =>
      have := b2 i (by rw [List.length_cons] at hi; omega)
      rw [show t + (i + 1) = t + 1 + i by omega, this]
      rfl
  · rw [b3 j (by omega), a3 j hj]
def vo (k : Int32) (f : Nat) (x : Int32) : List Int32 × Int32 := if f = 1 then ([20, 10], x + k - 6) else if f = 4 then ([50, 20, 10], (x + k - 6) * 3) else if f = 6 then ([70], 7) else ([10], x + k)
def vp0 (k : Int32) (kk : Nat) (x : Int32) : List Int32 × Int32 := (11 :: (vo k kk x).1, (vo k kk x).2 * 2)
def vp (k m : Int32) (kk f : Nat) (x : Int32) : List Int32 × Int32 := if f = 2 then (30 :: (vp0 k kk x).1, 0 - (vp0 k kk x).2) else if f = 5 then (60 :: (vp0 k kk (x + 1)).1, (vp0 k kk (x + 1)).2) else if f = 6 then (71 :: (vp0 k kk x).1, (vp0 k kk x).2 + m) else vp0 k kk x
def va0 (k m : Int32) (kk : Nat) (x : Int32) : List Int32 × Int32 := (12 :: (vp k m kk kk x).1, (vp k m kk kk x).2 - m)
def vaa (k m : Int32) (kk f : Nat) (x : Int32) : List Int32 × Int32 := if f = 3 ∨ f = 5 then (40 :: (va0 k m kk (x / 2)).1, (va0 k m kk (x / 2)).2) else if f = 4 then (51 :: (va0 k m kk x).1, (va0 k m kk x).2 ^^^ k) else va0 k m kk x
theorem vo_len {k : Int32} {f : Nat} {x : Int32} : (vo k f x).1.length ≤ 3 := by
  unfold vo
  repeat' split
  all_goals simp
theorem vp0_len {k : Int32} {f : Nat} {x : Int32} : (vp0 k f x).1.length ≤ 4 := by
  have := vo_len (k := k) (f := f) (x := x)
  unfold vp0
  simp only [List.length_cons]
  omega
theorem vp_len {k m : Int32} {kk f : Nat} {x : Int32} : (vp k m kk f x).1.length ≤ 5 := by
  have h1 := vp0_len (k := k) (f := kk) (x := x)
  have h2 := vp0_len (k := k) (f := kk) (x := x + 1)
  unfold vp
  repeat' split
  all_goals first | omega | (simp only [List.length_cons]; omega)
theorem va0_len {k m : Int32} {kk : Nat} {x : Int32} : (va0 k m kk x).1.length ≤ 6 := by
  have h1 := vp_len (k := k) (m := m) (kk := kk) (f := kk) (x := x)
  unfold va0
  simp only [List.length_cons]
  omega
theorem vaa_len {k m : Int32} {kk f : Nat} {x : Int32} : (vaa k m kk f x).1.length ≤ 7 := by
  have h1 := va0_len (k := k) (m := m) (kk := kk) (x := x)
  have h2 := va0_len (k := k) (m := m) (kk := kk) (x := x / 2)
  unfold vaa
  repeat' split
  all_goals first | omega | (simp only [List.length_cons]; omega)
theorem X_sayT {d f vc v6 e t : Nat} {x : Int32} {M : zm_M} {Q : Int32 → zm_M → Prop} (hf : f < 7) (hv : vc < 4) (h6 : v6 < 100) (hb : f = 0 ∨ ¬ zm_sv 104 (f * 4 + vc) = 0) (ht : M.1 71 1 = zon t) (ht2 : t < 30) (he : e < 30) (h : zi d 60 [.ref 71, .int (zm_sv 104 (f * 4 + vc)), .int (zm_sv 100 f), .int x, .int (zon (e + 1))] (psh 71 1 72 M t (zm_sv 104 (f * 4 + vc))) Q) : zt (d + 1) 59 6 [some (.ref 71), none, some (.int (zon vc)), some (.int x), some (.int (zon e)), some (.int (zon f)), some (.int (zon v6))] [] M (zPi Q) := by
  have nf : ¬ zon f < 0 := zon_nn (by omega)
  have ne : ¬ 30 < zon e := by
    rw [Int32.lt_iff_toInt_lt, zon_i (by omega), show (30 : Int32).toInt = 30 from rfl]
    omega
  have i28 : zm_inb (zon (f * 4 + vc)) 28 = true := by rw [zon_inb (by omega)]; omega
  have it : zm_inb (zon t) 30 = true := by rw [zon_inb (by omega)]; omega
  have i7 : zm_inb (zon f) 7 = true := by rw [zon_inb (by omega)]; omega
  have l30 : zon t < 30 := by rw [zon_ltl (b := 30) (by omega) rfl]; omega
  have ea : (zon f * 4) + zon vc = zon (f * 4 + vc) := by
    show (zon f * zon 4) + zon vc = _
    rw [zon_mul, zon_add]
  apply zg_X9_say_p6
  rw [ea, ht, zon_n (show f * 4 + vc < 2000 by omega), zon_n (show f < 2000 by omega), zon_n (show t < 2000 by omega), zon_s (a := e), zon_s (a := t)]
  refine ⟨fun _ => ⟨fun p => ⟨i28, fun z => ?_, fun _ => ⟨fun z => absurd z nf, fun _ => ⟨fun z => absurd z ne, fun _ => ⟨i28, fun _ => ⟨it, i7, h⟩, fun z => absurd l30 z⟩⟩⟩⟩, fun _ => ⟨fun z => absurd z nf, fun _ => ⟨fun z => absurd z ne, fun _ => ⟨i28, fun _ => ⟨it, i7, h⟩, fun z => absurd l30 z⟩⟩⟩⟩, fun _ => ⟨fun z => absurd z nf, fun _ => ⟨fun z => absurd z ne, fun _ => ⟨i28, fun _ => ⟨it, i7, h⟩, fun z => absurd l30 z⟩⟩⟩⟩
  rcases hb with hb | hb
  · subst hb
    exact absurd p (by decide)
  · exact absurd z hb
theorem X_sayU {d f g vc v6 : Nat} {x dep : Int32} {M : zm_M} {Q : Int32 → zm_M → Prop} (hf : 0 < f ∧ f < 7) (hv : vc < 4) (h6 : v6 < 7) (hz : zm_sv 104 (f * 4 + vc) = 0) (hg : zm_sv 100 f = zon g) (h : zt (d + 1) 59 6 [some (.ref 71), none, some (.int (zon vc)), some (.int x), some (.int dep), some (.int (zon g)), some (.int (zon (v6 + 1)))] [] M (zPi Q)) : zt (d + 1) 59 6 [some (.ref 71), none, some (.int (zon vc)), some (.int x), some (.int dep), some (.int (zon f)), some (.int (zon v6))] [] M (zPi Q) := by
  have pf : (0 : Int32) < zon f := by rw [Int32.lt_iff_toInt_lt, zon_i (by omega), show (0 : Int32).toInt = 0 from rfl]; omega
  have i28 : zm_inb (zon (f * 4 + vc)) 28 = true := by rw [zon_inb (by omega)]; omega
  have i7 : zm_inb (zon f) 7 = true := by rw [zon_inb (by omega)]; omega
  have ea : (zon f * 4) + zon vc = zon (f * 4 + vc) := by
    show (zon f * zon 4) + zon vc = _
    rw [zon_mul, zon_add]
  have l7 : zon v6 < 7 := by rw [zon_ltl (b := 7) (by omega) rfl]; omega
  apply zg_X9_say_p6
  rw [ea, zon_n (show f * 4 + vc < 2000 by omega), zon_n (show f < 2000 by omega), hg, zon_s (a := v6)]
  exact ⟨fun _ => ⟨fun _ => ⟨i28, fun _ => ⟨i7, h⟩, fun z => absurd hz z⟩, fun z => absurd pf z⟩, fun z => absurd l7 z⟩
theorem X_w10 {d : Nat} {M : zm_M} {Q : Int32 → zm_M → Prop} {b0 c0 e0 : Int32} (h : Q (c0 + (M.1 71 4)) M) : zi (d + 1) 60 [.ref 71, .int 10, .int b0, .int c0, .int e0] M Q := by
  apply zg_X9_work
  exact ⟨fun _ => h, fun z => absurd rfl z⟩
theorem X_w11 {d : Nat} {M : zm_M} {Q : Int32 → zm_M → Prop} {b0 c0 e0 : Int32} (h : zi d 59 [.ref 71, .int (M.1 71 3), .int 0, .int c0, .int e0] M (fun x71 M70 => Q (x71 * 2) M70)) : zi (d + 1) 60 [.ref 71, .int 11, .int b0, .int c0, .int e0] M Q := by
  apply zg_X9_work
  exact ⟨fun z => absurd z (by decide), fun _ => ⟨fun _ => h, fun z => absurd rfl z⟩⟩
theorem X_w12 {d : Nat} {M : zm_M} {Q : Int32 → zm_M → Prop} {b0 c0 e0 : Int32} (h : zi d 59 [.ref 71, .int (M.1 71 3), .int 1, .int c0, .int e0] M (fun x65 M64 => Q (x65 - (M64.1 71 5)) M64)) : zi (d + 1) 60 [.ref 71, .int 12, .int b0, .int c0, .int e0] M Q := by
  apply zg_X9_work
  exact ⟨fun z => absurd z (by decide), fun _ => ⟨fun z => absurd z (by decide), fun _ => ⟨fun _ => h, fun z => absurd rfl z⟩⟩⟩
theorem X_w13 {d : Nat} {M : zm_M} {Q : Int32 → zm_M → Prop} {b0 c0 e0 : Int32} (h : zi d 61 [.ref 71, .int c0] M (fun x59 M58 => Q x59 M58)) : zi (d + 1) 60 [.ref 71, .int 13, .int b0, .int c0, .int e0] M Q := by
  apply zg_X9_work
  exact ⟨fun z => absurd z (by decide), fun _ => ⟨fun z => absurd z (by decide), fun _ => ⟨fun z => absurd z (by decide), fun _ => ⟨fun _ => h, fun z => absurd rfl z⟩⟩⟩⟩
theorem X_w20 {d : Nat} {M : zm_M} {Q : Int32 → zm_M → Prop} {b0 c0 e0 : Int32} (h : zi d 59 [.ref 71, .int b0, .int 0, .int c0, .int e0] M (fun x53 M52 => Q (x53 - 6) M52)) : zi (d + 1) 60 [.ref 71, .int 20, .int b0, .int c0, .int e0] M Q := by
  apply zg_X9_work
  exact ⟨fun z => absurd z (by decide), fun _ => ⟨fun z => absurd z (by decide), fun _ => ⟨fun z => absurd z (by decide), fun _ => ⟨fun z => absurd z (by decide), fun _ => ⟨fun _ => h, fun z => absurd rfl z⟩⟩⟩⟩⟩
theorem X_w21 {d : Nat} {M : zm_M} {Q : Int32 → zm_M → Prop} {b0 c0 e0 : Int32} (h : zi d 59 [.ref 71, .int b0, .int 3, .int c0, .int e0] M (fun x41 M40 => ((M40.1 71 2) = (0 : Int32) → zi d 59 [.ref 71, .int (M40.1 71 3), .int 1, .int 1, .int e0] M40 (fun x44 M43 => Q (x41 + x44) M43)) ∧ (¬ (M40.1 71 2) = (0 : Int32) → Q 0 M40))) : zi (d + 1) 60 [.ref 71, .int 21, .int b0, .int c0, .int e0] M Q := by
  apply zg_X9_work
  exact ⟨fun z => absurd z (by decide), fun _ => ⟨fun z => absurd z (by decide), fun _ => ⟨fun z => absurd z (by decide), fun _ => ⟨fun z => absurd z (by decide), fun _ => ⟨fun z => absurd z (by decide), fun _ => ⟨fun _ => h, fun z => absurd rfl z⟩⟩⟩⟩⟩⟩
theorem X_w30 {d : Nat} {M : zm_M} {Q : Int32 → zm_M → Prop} {b0 c0 e0 : Int32} (h : zi d 59 [.ref 71, .int b0, .int 1, .int c0, .int e0] M (fun x35 M34 => Q (0 - x35) M34)) : zi (d + 1) 60 [.ref 71, .int 30, .int b0, .int c0, .int e0] M Q := by
  apply zg_X9_work
  exact ⟨fun z => absurd z (by decide), fun _ => ⟨fun z => absurd z (by decide), fun _ => ⟨fun z => absurd z (by decide), fun _ => ⟨fun z => absurd z (by decide), fun _ => ⟨fun z => absurd z (by decide), fun _ => ⟨fun z => absurd z (by decide), fun _ => ⟨fun _ => h, fun z => absurd rfl z⟩⟩⟩⟩⟩⟩⟩
theorem X_w40 {d : Nat} {M : zm_M} {Q : Int32 → zm_M → Prop} {b0 c0 e0 : Int32} (h : zi d 59 [.ref 71, .int b0, .int 2, .int (c0 / 2), .int e0] M (fun x29 M28 => Q x29 M28)) : zi (d + 1) 60 [.ref 71, .int 40, .int b0, .int c0, .int e0] M Q := by
  apply zg_X9_work
  exact ⟨fun z => absurd z (by decide), fun _ => ⟨fun z => absurd z (by decide), fun _ => ⟨fun z => absurd z (by decide), fun _ => ⟨fun z => absurd z (by decide), fun _ => ⟨fun z => absurd z (by decide), fun _ => ⟨fun z => absurd z (by decide), fun _ => ⟨fun z => absurd z (by decide), fun _ => ⟨fun _ => h, fun z => absurd rfl z⟩⟩⟩⟩⟩⟩⟩⟩
theorem X_w50 {d : Nat} {M : zm_M} {Q : Int32 → zm_M → Prop} {b0 c0 e0 : Int32} (h : zi d 59 [.ref 71, .int b0, .int 0, .int c0, .int e0] M (fun x23 M22 => Q (x23 * 3) M22)) : zi (d + 1) 60 [.ref 71, .int 50, .int b0, .int c0, .int e0] M Q := by
  apply zg_X9_work
  exact ⟨fun z => absurd z (by decide), fun _ => ⟨fun z => absurd z (by decide), fun _ => ⟨fun z => absurd z (by decide), fun _ => ⟨fun z => absurd z (by decide), fun _ => ⟨fun z => absurd z (by decide), fun _ => ⟨fun z => absurd z (by decide), fun _ => ⟨fun z => absurd z (by decide), fun _ => ⟨fun z => absurd z (by decide), fun _ => ⟨fun _ => h, fun z => absurd rfl z⟩⟩⟩⟩⟩⟩⟩⟩⟩
theorem X_w51 {d : Nat} {M : zm_M} {Q : Int32 → zm_M → Prop} {b0 c0 e0 : Int32} (h : zi d 59 [.ref 71, .int b0, .int 2, .int c0, .int e0] M (fun x17 M16 => Q (x17 ^^^ (M16.1 71 4)) M16)) : zi (d + 1) 60 [.ref 71, .int 51, .int b0, .int c0, .int e0] M Q := by
  apply zg_X9_work
  exact ⟨fun z => absurd z (by decide), fun _ => ⟨fun z => absurd z (by decide), fun _ => ⟨fun z => absurd z (by decide), fun _ => ⟨fun z => absurd z (by decide), fun _ => ⟨fun z => absurd z (by decide), fun _ => ⟨fun z => absurd z (by decide), fun _ => ⟨fun z => absurd z (by decide), fun _ => ⟨fun z => absurd z (by decide), fun _ => ⟨fun z => absurd z (by decide), fun _ => ⟨fun _ => h, fun z => absurd rfl z⟩⟩⟩⟩⟩⟩⟩⟩⟩⟩
theorem X_w60 {d : Nat} {M : zm_M} {Q : Int32 → zm_M → Prop} {b0 c0 e0 : Int32} (h : zi d 59 [.ref 71, .int b0, .int 1, .int (c0 + 1), .int e0] M (fun x11 M10 => Q x11 M10)) : zi (d + 1) 60 [.ref 71, .int 60, .int b0, .int c0, .int e0] M Q := by
  apply zg_X9_work
  exact ⟨fun z => absurd z (by decide), fun _ => ⟨fun z => absurd z (by decide), fun _ => ⟨fun z => absurd z (by decide), fun _ => ⟨fun z => absurd z (by decide), fun _ => ⟨fun z => absurd z (by decide), fun _ => ⟨fun z => absurd z (by decide), fun _ => ⟨fun z => absurd z (by decide), fun _ => ⟨fun z => absurd z (by decide), fun _ => ⟨fun z => absurd z (by decide), fun _ => ⟨fun z => absurd z (by decide), fun _ => ⟨fun _ => h, fun z => absurd rfl z⟩⟩⟩⟩⟩⟩⟩⟩⟩⟩⟩
theorem X_w70 {d : Nat} {M : zm_M} {Q : Int32 → zm_M → Prop} {b0 c0 e0 : Int32} (h : Q 7 M) : zi (d + 1) 60 [.ref 71, .int 70, .int b0, .int c0, .int e0] M Q := by
  apply zg_X9_work
  exact ⟨fun z => absurd z (by decide), fun _ => ⟨fun z => absurd z (by decide), fun _ => ⟨fun z => absurd z (by decide), fun _ => ⟨fun z => absurd z (by decide), fun _ => ⟨fun z => absurd z (by decide), fun _ => ⟨fun z => absurd z (by decide), fun _ => ⟨fun z => absurd z (by decide), fun _ => ⟨fun z => absurd z (by decide), fun _ => ⟨fun z => absurd z (by decide), fun _ => ⟨fun z => absurd z (by decide), fun _ => ⟨fun z => absurd z (by decide), fun _ => ⟨fun _ => h, fun z => absurd rfl z⟩⟩⟩⟩⟩⟩⟩⟩⟩⟩⟩⟩
theorem X_w71 {d : Nat} {M : zm_M} {Q : Int32 → zm_M → Prop} {b0 c0 e0 : Int32} (h : zi d 59 [.ref 71, .int b0, .int 1, .int c0, .int e0] M (fun x2 M1 => Q (x2 + (M1.1 71 5)) M1)) : zi (d + 1) 60 [.ref 71, .int 71, .int b0, .int c0, .int e0] M Q := by
  apply zg_X9_work
  exact ⟨fun z => absurd z (by decide), fun _ => ⟨fun z => absurd z (by decide), fun _ => ⟨fun z => absurd z (by decide), fun _ => ⟨fun z => absurd z (by decide), fun _ => ⟨fun z => absurd z (by decide), fun _ => ⟨fun z => absurd z (by decide), fun _ => ⟨fun z => absurd z (by decide), fun _ => ⟨fun z => absurd z (by decide), fun _ => ⟨fun z => absurd z (by decide), fun _ => ⟨fun z => absurd z (by decide), fun _ => ⟨fun z => absurd z (by decide), fun _ => ⟨fun z => absurd z (by decide), fun _ => ⟨fun _ => h, fun z => absurd rfl z⟩⟩⟩⟩⟩⟩⟩⟩⟩⟩⟩⟩⟩
theorem psh71 {M : zm_M} {t j : Nat} {x : Int32} (hj : j ≠ 1) : (psh 71 1 72 M t x).1 71 j = M.1 71 j := psh_a (by decide) hj
theorem X_owes0 {d e t : Nat} {x : Int32} {M : zm_M} {Q : Int32 → zm_M → Prop} (v6 : Nat) (h6 : v6 < 7) (ht : M.1 71 1 = zon t) (ht2 : t < 30) (he : e < 30) (hQ : ∀ M1, VR 71 1 72 M t M1 [10] → Q (x + M.1 71 4) M1) : zt (d + 2) 59 6 [some (.ref 71), none, some (.int (zon 0)), some (.int x), some (.int (zon e)), some (.int (zon 0)), some (.int (zon v6))] [] M (zPi Q) := by
  refine X_sayT (d := d + 1) (f := 0) (vc := 0) (by decide) (by decide) (by omega) (Or.inl rfl) ht ht2 he ?_
  refine X_w10 ?_
  rw [psh71 (by decide)]
  exact hQ _ (VR.push (by decide))
theorem X_owes1 {d e t : Nat} {x : Int32} {M : zm_M} {Q : Int32 → zm_M → Prop} (ht : M.1 71 1 = zon t) (ht2 : t + 1 < 30) (he : e + 1 < 30) (hQ : ∀ M1, VR 71 1 72 M t M1 [20, 10] → Q (x + M.1 71 4 - 6) M1) : zi (d + 4) 59 [.ref 71, .int (zon 1), .int (zon 0), .int x, .int (zon e)] M Q := by
  apply zg_X9_say
  refine X_sayT (d := d + 3) (f := 1) (vc := 0) (v6 := 0) (by decide) (by decide) (by decide) (Or.inr (by decide)) ht (by omega) (by omega) ?_
  refine X_w20 (d := d + 2) ?_
  apply zg_X9_say
  refine X_owes0 0 (by decide) (t := t + 1) psh_b (by omega) (by omega) (fun M1 r1 => ?_)
  rw [psh71 (by decide)]
  exact hQ M1 (VR.cons (VR.push (by decide)) r1)
theorem X_owes {d f e t : Nat} {x : Int32} {M : zm_M} {Q : Int32 → zm_M → Prop} (hf : f < 7) (ht : M.1 71 1 = zon t) (ht2 : t + 2 < 30) (he : e + 2 < 30) (hQ : ∀ M1, VR 71 1 72 M t M1 (vo (M.1 71 4) f x).1 → Q (vo (M.1 71 4) f x).2 M1) : zi (d + 6) 59 [.ref 71, .int (zon f), .int (zon 0), .int x, .int (zon e)] M Q := by
  rcases (show f = 0 ∨ f = 1 ∨ f = 2 ∨ f = 3 ∨ f = 4 ∨ f = 5 ∨ f = 6 by omega) with rfl | rfl | rfl | rfl | rfl | rfl | rfl
  · apply zg_X9_say
    exact X_owes0 (d := d + 4) 0 (by decide) ht (by omega) (by omega) hQ
  · exact X_owes1 (d := d + 2) ht (by omega) (by omega) hQ
  · apply zg_X9_say
    refine X_sayU (d := d + 5) (g := 0) (v6 := 0) (by decide) (by decide) (by decide) rfl rfl ?_
    exact X_owes0 (d := d + 4) 1 (by decide) ht (by omega) (by omega) hQ
  · apply zg_X9_say
    refine X_sayU (d := d + 5) (g := 0) (v6 := 0) (by decide) (by decide) (by decide) rfl rfl ?_
    exact X_owes0 (d := d + 4) 1 (by decide) ht (by omega) (by omega) hQ
  · apply zg_X9_say
    refine X_sayT (d := d + 5) (f := 4) (vc := 0) (v6 := 0) (by decide) (by decide) (by decide) (Or.inr (by decide)) ht (by omega) (by omega) ?_
    refine X_w50 (d := d + 4) ?_
    refine X_owes1 (d := d) (t := t + 1) psh_b (by omega) (by omega) (fun M1 r1 => ?_)
    rw [psh71 (by decide)]
    exact hQ M1 (VR.cons (VR.push (by decide)) r1)
  · apply zg_X9_say
    refine X_sayU (d := d + 5) (g := 3) (v6 := 0) (by decide) (by decide) (by decide) rfl rfl ?_
    refine X_sayU (d := d + 5) (g := 0) (v6 := 1) (by decide) (by decide) (by decide) rfl rfl ?_
    exact X_owes0 (d := d + 4) 2 (by decide) ht (by omega) (by omega) hQ
  · apply zg_X9_say
    refine X_sayT (d := d + 5) (f := 6) (vc := 0) (v6 := 0) (by decide) (by decide) (by decide) (Or.inr (by decide)) ht (by omega) (by omega) ?_
    refine X_w70 (d := d + 4) ?_
    exact hQ _ (VR.push (by decide))
theorem X_pays0 {d kk e t : Nat} {x : Int32} {M : zm_M} {Q : Int32 → zm_M → Prop} (v6 : Nat) (h6 : v6 < 7) (hkk : kk < 7) (h3 : M.1 71 3 = zon kk) (ht : M.1 71 1 = zon t) (ht2 : t + 3 < 30) (he : e + 3 < 30) (hQ : ∀ M1, VR 71 1 72 M t M1 (vp0 (M.1 71 4) kk x).1 → Q (vp0 (M.1 71 4) kk x).2 M1) : zt (d + 8) 59 6 [some (.ref 71), none, some (.int (zon 1)), some (.int x), some (.int (zon e)), some (.int (zon 0)), some (.int (zon v6))] [] M (zPi Q) := by
  refine X_sayT (d := d + 7) (f := 0) (vc := 1) (by decide) (by decide) (by omega) (Or.inl rfl) ht (by omega) (by omega) ?_
  refine X_w11 (d := d + 6) ?_
  rw [psh71 (by decide), h3]
  refine X_owes (d := d) hkk (t := t + 1) psh_b (by omega) (by omega) (fun M1 r1 => ?_)
  rw [psh71 (by decide)] at r1 ⊢
  exact hQ M1 (VR.cons (VR.push (by decide)) r1)
theorem X_pays {d f kk e t : Nat} {x : Int32} {M : zm_M} {Q : Int32 → zm_M → Prop} (hf : f < 7) (hkk : kk < 7) (h3 : M.1 71 3 = zon kk) (ht : M.1 71 1 = zon t) (ht2 : t + 4 < 30) (he : e + 4 < 30) (hQ : ∀ M1, VR 71 1 72 M t M1 (vp (M.1 71 4) (M.1 71 5) kk f x).1 → Q (vp (M.1 71 4) (M.1 71 5) kk f x).2 M1) : zi (d + 10) 59 [.ref 71, .int (zon f), .int (zon 1), .int x, .int (zon e)] M Q := by
  rcases (show f = 0 ∨ f = 1 ∨ f = 2 ∨ f = 3 ∨ f = 4 ∨ f = 5 ∨ f = 6 by omega) with rfl | rfl | rfl | rfl | rfl | rfl | rfl
  · apply zg_X9_say
    exact X_pays0 (d := d + 2) 0 (by decide) hkk h3 ht (by omega) (by omega) hQ
  · apply zg_X9_say
    refine X_sayU (d := d + 9) (g := 0) (v6 := 0) (by decide) (by decide) (by decide) rfl rfl ?_
    exact X_pays0 (d := d + 2) 1 (by decide) hkk h3 ht (by omega) (by omega) hQ
  · apply zg_X9_say
    refine X_sayT (d := d + 9) (f := 2) (vc := 1) (v6 := 0) (by decide) (by decide) (by decide) (Or.inr (by decide)) ht (by omega) (by omega) ?_
    refine X_w30 (d := d + 8) ?_
    apply zg_X9_say
    refine X_pays0 (d := d) 0 (by decide) hkk (by rw [psh71 (by decide)]; exact h3) (t := t + 1) psh_b (by omega) (by omega) (fun M1 r1 => ?_)
    rw [psh71 (by decide)] at r1 ⊢
    exact hQ M1 (VR.cons (VR.push (by decide)) r1)
  · apply zg_X9_say
    refine X_sayU (d := d + 9) (g := 0) (v6 := 0) (by decide) (by decide) (by decide) rfl rfl ?_
    exact X_pays0 (d := d + 2) 1 (by decide) hkk h3 ht (by omega) (by omega) hQ
  · apply zg_X9_say
    refine X_sayU (d := d + 9) (g := 1) (v6 := 0) (by decide) (by decide) (by decide) rfl rfl ?_
    refine X_sayU (d := d + 9) (g := 0) (v6 := 1) (by decide) (by decide) (by decide) rfl rfl ?_
    exact X_pays0 (d := d + 2) 2 (by decide) hkk h3 ht (by omega) (by omega) hQ
  · apply zg_X9_say
    refine X_sayT (d := d + 9) (f := 5) (vc := 1) (v6 := 0) (by decide) (by decide) (by decide) (Or.inr (by decide)) ht (by omega) (by omega) ?_
    refine X_w60 (d := d + 8) ?_
    apply zg_X9_say
    refine X_sayU (d := d + 7) (f := 3) (g := 0) (vc := 1) (v6 := 0) (by decide) (by decide) (by decide) rfl rfl ?_
    refine X_pays0 (d := d) 1 (by decide) hkk (by rw [psh71 (by decide)]; exact h3) (t := t + 1) psh_b (by omega) (by omega) (fun M1 r1 => ?_)
    rw [psh71 (by decide)] at r1 ⊢
    exact hQ M1 (VR.cons (VR.push (by decide)) r1)
  · apply zg_X9_say
    refine X_sayT (d := d + 9) (f := 6) (vc := 1) (v6 := 0) (by decide) (by decide) (by decide) (Or.inr (by decide)) ht (by omega) (by omega) ?_
    refine X_w71 (d := d + 8) ?_
    apply zg_X9_say
    refine X_pays0 (d := d) 0 (by decide) hkk (by rw [psh71 (by decide)]; exact h3) (t := t + 1) psh_b (by omega) (by omega) (fun M1 r1 => ?_)
    have e5 : M1.1 71 5 = M.1 71 5 := (r1.2.2.2.1 5 (by decide)).trans (psh71 (by decide))
    rw [e5]
    rw [psh71 (by decide)] at r1 ⊢
    exact hQ M1 (VR.cons (VR.push (by decide)) r1)
theorem X_asks0 {d kk e t : Nat} {x : Int32} {M : zm_M} {Q : Int32 → zm_M → Prop} (v6 : Nat) (h6 : v6 < 7) (hkk : kk < 7) (h3 : M.1 71 3 = zon kk) (ht : M.1 71 1 = zon t) (ht2 : t + 5 < 30) (he : e + 5 < 30) (hQ : ∀ M1, VR 71 1 72 M t M1 (va0 (M.1 71 4) (M.1 71 5) kk x).1 → Q (va0 (M.1 71 4) (M.1 71 5) kk x).2 M1) : zt (d + 12) 59 6 [some (.ref 71), none, some (.int (zon 2)), some (.int x), some (.int (zon e)), some (.int (zon 0)), some (.int (zon v6))] [] M (zPi Q) := by
  refine X_sayT (d := d + 11) (f := 0) (vc := 2) (by decide) (by decide) (by omega) (Or.inl rfl) ht (by omega) (by omega) ?_
  refine X_w12 (d := d + 10) ?_
  rw [psh71 (by decide), h3]
  refine X_pays (d := d) hkk hkk (by rw [psh71 (by decide)]; exact h3) (t := t + 1) psh_b (by omega) (by omega) (fun M1 r1 => ?_)
  have e5 : M1.1 71 5 = M.1 71 5 := (r1.2.2.2.1 5 (by decide)).trans (psh71 (by decide))
  rw [e5]
  rw [psh71 (show 4 ≠ 1 by decide), psh71 (show 5 ≠ 1 by decide)] at r1 ⊢
  exact hQ M1 (VR.cons (VR.push (by decide)) r1)
theorem X_asks {d f kk e t : Nat} {x : Int32} {M : zm_M} {Q : Int32 → zm_M → Prop} (hf : f < 7) (hkk : kk < 7) (h3 : M.1 71 3 = zon kk) (ht : M.1 71 1 = zon t) (ht2 : t + 6 < 30) (he : e + 6 < 30) (hQ : ∀ M1, VR 71 1 72 M t M1 (vaa (M.1 71 4) (M.1 71 5) kk f x).1 → Q (vaa (M.1 71 4) (M.1 71 5) kk f x).2 M1) : zi (d + 14) 59 [.ref 71, .int (zon f), .int (zon 2), .int x, .int (zon e)] M Q := by
  rcases (show f = 0 ∨ f = 1 ∨ f = 2 ∨ f = 3 ∨ f = 4 ∨ f = 5 ∨ f = 6 by omega) with rfl | rfl | rfl | rfl | rfl | rfl | rfl
  · apply zg_X9_say
    exact X_asks0 (d := d + 2) 0 (by decide) hkk h3 ht (by omega) (by omega) hQ
  · apply zg_X9_say
    refine X_sayU (d := d + 13) (g := 0) (v6 := 0) (by decide) (by decide) (by decide) rfl rfl ?_
    exact X_asks0 (d := d + 2) 1 (by decide) hkk h3 ht (by omega) (by omega) hQ
  · apply zg_X9_say
    refine X_sayU (d := d + 13) (g := 0) (v6 := 0) (by decide) (by decide) (by decide) rfl rfl ?_
    exact X_asks0 (d := d + 2) 1 (by decide) hkk h3 ht (by omega) (by omega) hQ
  · apply zg_X9_say
    refine X_sayT (d := d + 13) (f := 3) (vc := 2) (v6 := 0) (by decide) (by decide) (by decide) (Or.inr (by decide)) ht (by omega) (by omega) ?_
    refine X_w40 (d := d + 12) ?_
    apply zg_X9_say
    refine X_asks0 (d := d) 0 (by decide) hkk (by rw [psh71 (by decide)]; exact h3) (t := t + 1) psh_b (by omega) (by omega) (fun M1 r1 => ?_)
    rw [psh71 (show 4 ≠ 1 by decide), psh71 (show 5 ≠ 1 by decide)] at r1 ⊢
    exact hQ M1 (VR.cons (VR.push (by decide)) r1)
  · apply zg_X9_say
    refine X_sayT (d := d + 13) (f := 4) (vc := 2) (v6 := 0) (by decide) (by decide) (by decide) (Or.inr (by decide)) ht (by omega) (by omega) ?_
    refine X_w51 (d := d + 12) ?_
    apply zg_X9_say
    refine X_sayU (d := d + 11) (f := 1) (g := 0) (vc := 2) (v6 := 0) (by decide) (by decide) (by decide) rfl rfl ?_
    refine X_asks0 (d := d) 1 (by decide) hkk (by rw [psh71 (by decide)]; exact h3) (t := t + 1) psh_b (by omega) (by omega) (fun M1 r1 => ?_)
    have e4 : M1.1 71 4 = M.1 71 4 := (r1.2.2.2.1 4 (by decide)).trans (psh71 (by decide))
    rw [e4]
    rw [psh71 (show 4 ≠ 1 by decide), psh71 (show 5 ≠ 1 by decide)] at r1 ⊢
    exact hQ M1 (VR.cons (VR.push (by decide)) r1)
  · apply zg_X9_say
    refine X_sayU (d := d + 13) (g := 3) (v6 := 0) (by decide) (by decide) (by decide) rfl rfl ?_
    refine X_sayT (d := d + 13) (f := 3) (vc := 2) (v6 := 1) (by decide) (by decide) (by decide) (Or.inr (by decide)) ht (by omega) (by omega) ?_
    refine X_w40 (d := d + 12) ?_
    apply zg_X9_say
    refine X_asks0 (d := d) 0 (by decide) hkk (by rw [psh71 (by decide)]; exact h3) (t := t + 1) psh_b (by omega) (by omega) (fun M1 r1 => ?_)
    rw [psh71 (show 4 ≠ 1 by decide), psh71 (show 5 ≠ 1 by decide)] at r1 ⊢
    exact hQ M1 (VR.cons (VR.push (by decide)) r1)
  · apply zg_X9_say
    refine X_sayU (d := d + 13) (g := 0) (v6 := 0) (by decide) (by decide) (by decide) rfl rfl ?_
    exact X_asks0 (d := d + 2) 1 (by decide) hkk h3 ht (by omega) (by omega) hQ

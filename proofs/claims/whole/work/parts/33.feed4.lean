/-! The class's loop of feed. -/
def fdS (v : Int64) : Nat → Int32 → (Nat → Int32) → (Nat → Int32)
  | 0, _, s => s
  | n + 1, k, s => fdS v n (k + 1) (fd1 s (byX v k))
theorem fd1_4 {s : Nat → Int32} {x : Int32} : fd1 s x 4 = s 4 + 1 := by unfold fd1 upd; rw [if_pos rfl]
theorem X_feedL {d : Nat} {Q : Int32 → zm_M → Prop} {v : Int64} {m : Int32} (hm : m ≤ 8) : ∀ (n : Nat) {M : zm_M} {s : Nat → Int32} {k : Int32}, RT M 0 s → k.toInt + n = m.toInt → 0 ≤ k → 0 ≤ s 4 → (s 4).toInt + n ≤ 60 → (∀ M1, RT M1 0 (fdS v n k s) → (∀ c, c ≠ 18 → c ≠ 19 → M1.1 c = M.1 c) → M1.2 = M.2 → Q (fdS v n k s 4) M1) → zt (d + 1) 75 43 [some (.ref 0), some (.long v), none, some (.int m), some (.int k)] [] M (zPi Q)
  | 0, M, s, k, hR, hk, k0, h4, h60, hQ => by
    apply zg_X10_feed_p43
    rw [show M.1 18 2 = s 4 from hR.1 4 18 2 rfl]
    refine ⟨fun z => ?_, fun _ => hQ M hR (fun _ _ _ => rfl) rfl⟩
    exfalso
    have := Int32.lt_iff_toInt_lt.mp z
    omega
  | n + 1, M, s, k, hR, hk, k0, h4, h60, hQ => by
    have e4 : M.1 18 2 = s 4 := hR.1 4 18 2 rfl
    have m8 := Int32.le_iff_toInt_le.mp hm
    have k1 := Int32.le_iff_toInt_le.mp k0
    have s1 := Int32.le_iff_toInt_le.mp h4
    simp at m8 k1 s1
    have ek : (k + 1).toInt = k.toInt + 1 := by simp [Int32.toInt_add, Int.bmod]; omega
    have es : (s 4 + 1).toInt = (s 4).toInt + 1 := by simp [Int32.toInt_add, Int.bmod]; omega
    have s60 : s 4 < 60 := by rw [Int32.lt_iff_toInt_lt]; simp; omega
    apply zg_X10_feed_p43
    rw [e4]
    refine ⟨fun _ => ⟨zm_inb_of 60 (by grind) s60 (by decide), ?_⟩, fun z => ?_⟩
    · refine X_feedL hm n (hR.fd1 (x := byX v k) ⟨h4, s60⟩) (by rw [ek]; omega) ?_ ?_ ?_ (fun M1 r1 f1 g1 => hQ M1 r1 (fun c h1 h2 => ?_) g1)
      · rw [Int32.le_iff_toInt_le, ek]; simp; omega
      · rw [fd1_4, Int32.le_iff_toInt_le, es]; simp; omega
      · rw [fd1_4, es]; omega
      · rw [f1 c h1 h2, zI_si_rne h1, zI_si_rne h2]
    · exfalso
      apply z
      rw [Int32.lt_iff_toInt_lt]
      omega

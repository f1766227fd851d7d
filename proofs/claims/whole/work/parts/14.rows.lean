/-! A row an instruction: how a run goes on. Printed by wip/whole/gen_rows.py. -/
section ZR
variable {d y pc pc' len k t n : Nat} {i : Instr} {ls ls' : zm_L} {st r : List Value} {M M' : zm_M} {P : Option Value → zm_M → Prop} {x z v : Int32} {lx lz lv : Int64} {tb : List (Nat × Instr × Nat)} {off : Int}
theorem zr_at (hy : zm_tb.getD y [] = tb) (h : zm_lk tb pc = some (i, len)) : zm_at y pc = some (i, len) := by
  unfold zm_at
  rw [hy]
  exact h
theorem zr_iconst {nn : Int} (hy : zm_tb.getD y [] = tb) (ha : zm_lk tb pc = some (.iconst nn, 1)) (hv : zm_lit nn = v) (h : zt d y (pc + 1) ls (.int v :: st) M P) : zt d y pc ls (st) M P := zt_ss1 (zr_at hy ha) rfl (by rw [← hv]; rfl) h
theorem zr_bipush {nn : Int} (hy : zm_tb.getD y [] = tb) (ha : zm_lk tb pc = some (.bipush nn, 2)) (hv : zm_lit nn = v) (h : zt d y (pc + 2) ls (.int v :: st) M P) : zt d y pc ls (st) M P := zt_ss1 (zr_at hy ha) rfl (by rw [← hv]; rfl) h
theorem zr_sipush {nn : Int} (hy : zm_tb.getD y [] = tb) (ha : zm_lk tb pc = some (.sipush nn, 3)) (hv : zm_lit nn = v) (h : zt d y (pc + 3) ls (.int v :: st) M P) : zt d y pc ls (st) M P := zt_ss1 (zr_at hy ha) rfl (by rw [← hv]; rfl) h
theorem zr_lconst {nn : Fin 2} (hy : zm_tb.getD y [] = tb) (ha : zm_lk tb pc = some (.lconst nn, 1)) (hv : Int64.ofNat (nn : Nat) = lv) (h : zt d y (pc + 1) ls (.long lv :: st) M P) : zt d y pc ls (st) M P := zt_ss1 (zr_at hy ha) rfl (by rw [← hv]; rfl) h
theorem zr_iload_n {kk : Fin 4} (hy : zm_tb.getD y [] = tb) (ha : zm_lk tb pc = some (.iload_n kk, 1)) (hg : zm_get ls (kk : Nat) = some (.int x)) (h : zt d y (pc + 1) ls (.int x :: st) M P) : zt d y pc ls (st) M P := zt_ss1 (zr_at hy ha) rfl (by unfold zm_ss1; dsimp only; rw [hg]) h
theorem zr_aload_n {kk : Fin 4} (hy : zm_tb.getD y [] = tb) (ha : zm_lk tb pc = some (.aload_n kk, 1)) (hg : zm_get ls (kk : Nat) = some (.ref n)) (h : zt d y (pc + 1) ls (.ref n :: st) M P) : zt d y pc ls (st) M P := zt_ss1 (zr_at hy ha) rfl (by unfold zm_ss1; dsimp only; rw [hg]) h
theorem zr_lload_n {kk : Fin 4} (hy : zm_tb.getD y [] = tb) (ha : zm_lk tb pc = some (.lload_n kk, 1)) (hg : zm_get ls (kk : Nat) = some (.long lx)) (h : zt d y (pc + 1) ls (.long lx :: st) M P) : zt d y pc ls (st) M P := zt_ss1 (zr_at hy ha) rfl (by unfold zm_ss1; dsimp only; rw [hg]) h
theorem zr_iload  (hy : zm_tb.getD y [] = tb) (ha : zm_lk tb pc = some (.iload k, 2)) (hg : zm_get ls k = some (.int x)) (h : zt d y (pc + 2) ls (.int x :: st) M P) : zt d y pc ls (st) M P := zt_ss1 (zr_at hy ha) rfl (by unfold zm_ss1; dsimp only; rw [hg]) h
theorem zr_aload  (hy : zm_tb.getD y [] = tb) (ha : zm_lk tb pc = some (.aload k, 2)) (hg : zm_get ls k = some (.ref n)) (h : zt d y (pc + 2) ls (.ref n :: st) M P) : zt d y pc ls (st) M P := zt_ss1 (zr_at hy ha) rfl (by unfold zm_ss1; dsimp only; rw [hg]) h
theorem zr_lload  (hy : zm_tb.getD y [] = tb) (ha : zm_lk tb pc = some (.lload k, 2)) (hg : zm_get ls k = some (.long lx)) (h : zt d y (pc + 2) ls (.long lx :: st) M P) : zt d y pc ls (st) M P := zt_ss1 (zr_at hy ha) rfl (by unfold zm_ss1; dsimp only; rw [hg]) h
theorem zr_iadd  (hy : zm_tb.getD y [] = tb) (ha : zm_lk tb pc = some (.iadd, 1))  (h : zt d y (pc + 1) ls (.int (x + z) :: r) M P) : zt d y pc ls (.int z :: .int x :: r) M P := zt_ss1 (zr_at hy ha) rfl (rfl) h
theorem zr_isub  (hy : zm_tb.getD y [] = tb) (ha : zm_lk tb pc = some (.isub, 1))  (h : zt d y (pc + 1) ls (.int (x - z) :: r) M P) : zt d y pc ls (.int z :: .int x :: r) M P := zt_ss1 (zr_at hy ha) rfl (rfl) h
theorem zr_imul  (hy : zm_tb.getD y [] = tb) (ha : zm_lk tb pc = some (.imul, 1))  (h : zt d y (pc + 1) ls (.int (x * z) :: r) M P) : zt d y pc ls (.int z :: .int x :: r) M P := zt_ss1 (zr_at hy ha) rfl (rfl) h
theorem zr_iand  (hy : zm_tb.getD y [] = tb) (ha : zm_lk tb pc = some (.iand, 1))  (h : zt d y (pc + 1) ls (.int (x &&& z) :: r) M P) : zt d y pc ls (.int z :: .int x :: r) M P := zt_ss1 (zr_at hy ha) rfl (rfl) h
theorem zr_ior  (hy : zm_tb.getD y [] = tb) (ha : zm_lk tb pc = some (.ior, 1))  (h : zt d y (pc + 1) ls (.int (x ||| z) :: r) M P) : zt d y pc ls (.int z :: .int x :: r) M P := zt_ss1 (zr_at hy ha) rfl (rfl) h
theorem zr_ixor  (hy : zm_tb.getD y [] = tb) (ha : zm_lk tb pc = some (.ixor, 1))  (h : zt d y (pc + 1) ls (.int (x ^^^ z) :: r) M P) : zt d y pc ls (.int z :: .int x :: r) M P := zt_ss1 (zr_at hy ha) rfl (rfl) h
theorem zr_ishl  (hy : zm_tb.getD y [] = tb) (ha : zm_lk tb pc = some (.ishl, 1))  (h : zt d y (pc + 1) ls (.int (x <<< (z &&& 31)) :: r) M P) : zt d y pc ls (.int z :: .int x :: r) M P := zt_ss1 (zr_at hy ha) rfl (rfl) h
theorem zr_ishr  (hy : zm_tb.getD y [] = tb) (ha : zm_lk tb pc = some (.ishr, 1))  (h : zt d y (pc + 1) ls (.int (x >>> (z &&& 31)) :: r) M P) : zt d y pc ls (.int z :: .int x :: r) M P := zt_ss1 (zr_at hy ha) rfl (rfl) h
theorem zr_iushr  (hy : zm_tb.getD y [] = tb) (ha : zm_lk tb pc = some (.iushr, 1))  (h : zt d y (pc + 1) ls (.int ((x.toUInt32 >>> (z.toUInt32 &&& Int32.toUInt32 31)).toInt32) :: r) M P) : zt d y pc ls (.int z :: .int x :: r) M P := zt_ss1 (zr_at hy ha) rfl (rfl) h
theorem zr_ladd  (hy : zm_tb.getD y [] = tb) (ha : zm_lk tb pc = some (.ladd, 1))  (h : zt d y (pc + 1) ls (.long (lx + lz) :: r) M P) : zt d y pc ls (.long lz :: .long lx :: r) M P := zt_ss1 (zr_at hy ha) rfl (rfl) h
theorem zr_lmul  (hy : zm_tb.getD y [] = tb) (ha : zm_lk tb pc = some (.lmul, 1))  (h : zt d y (pc + 1) ls (.long (lx * lz) :: r) M P) : zt d y pc ls (.long lz :: .long lx :: r) M P := zt_ss1 (zr_at hy ha) rfl (rfl) h
theorem zr_land  (hy : zm_tb.getD y [] = tb) (ha : zm_lk tb pc = some (.land, 1))  (h : zt d y (pc + 1) ls (.long (lx &&& lz) :: r) M P) : zt d y pc ls (.long lz :: .long lx :: r) M P := zt_ss1 (zr_at hy ha) rfl (rfl) h
theorem zr_lor  (hy : zm_tb.getD y [] = tb) (ha : zm_lk tb pc = some (.lor, 1))  (h : zt d y (pc + 1) ls (.long (lx ||| lz) :: r) M P) : zt d y pc ls (.long lz :: .long lx :: r) M P := zt_ss1 (zr_at hy ha) rfl (rfl) h
theorem zr_lshl  (hy : zm_tb.getD y [] = tb) (ha : zm_lk tb pc = some (.lshl, 1))  (h : zt d y (pc + 1) ls (.long (lx <<< (z.toInt64 &&& 63)) :: r) M P) : zt d y pc ls (.int z :: .long lx :: r) M P := zt_ss1 (zr_at hy ha) rfl (rfl) h
theorem zr_lshr  (hy : zm_tb.getD y [] = tb) (ha : zm_lk tb pc = some (.lshr, 1))  (h : zt d y (pc + 1) ls (.long (lx >>> (z.toInt64 &&& 63)) :: r) M P) : zt d y pc ls (.int z :: .long lx :: r) M P := zt_ss1 (zr_at hy ha) rfl (rfl) h
theorem zr_lushr  (hy : zm_tb.getD y [] = tb) (ha : zm_lk tb pc = some (.lushr, 1))  (h : zt d y (pc + 1) ls (.long ((lx.toUInt64 >>> (z.toInt64.toUInt64 &&& Int64.toUInt64 63)).toInt64) :: r) M P) : zt d y pc ls (.int z :: .long lx :: r) M P := zt_ss1 (zr_at hy ha) rfl (rfl) h
theorem zr_lcmp  (hy : zm_tb.getD y [] = tb) (ha : zm_lk tb pc = some (.lcmp, 1))  (h : zt d y (pc + 1) ls (.int (lg_cmp lx lz) :: r) M P) : zt d y pc ls (.long lz :: .long lx :: r) M P := zt_ss1 (zr_at hy ha) rfl (rfl) h
theorem zr_ineg  (hy : zm_tb.getD y [] = tb) (ha : zm_lk tb pc = some (.ineg, 1))  (h : zt d y (pc + 1) ls (.int (-x) :: r) M P) : zt d y pc ls (.int x :: r) M P := zt_ss1 (zr_at hy ha) rfl (rfl) h
theorem zr_i2b  (hy : zm_tb.getD y [] = tb) (ha : zm_lk tb pc = some (.i2b, 1))  (h : zt d y (pc + 1) ls (.int x.toInt8.toInt32 :: r) M P) : zt d y pc ls (.int x :: r) M P := zt_ss1 (zr_at hy ha) rfl (rfl) h
theorem zr_i2s  (hy : zm_tb.getD y [] = tb) (ha : zm_lk tb pc = some (.i2s, 1))  (h : zt d y (pc + 1) ls (.int x.toInt16.toInt32 :: r) M P) : zt d y pc ls (.int x :: r) M P := zt_ss1 (zr_at hy ha) rfl (rfl) h
theorem zr_i2c  (hy : zm_tb.getD y [] = tb) (ha : zm_lk tb pc = some (.i2c, 1))  (h : zt d y (pc + 1) ls (.int (x.toUInt32 % 65536).toInt32 :: r) M P) : zt d y pc ls (.int x :: r) M P := zt_ss1 (zr_at hy ha) rfl (rfl) h
theorem zr_i2l  (hy : zm_tb.getD y [] = tb) (ha : zm_lk tb pc = some (.i2l, 1))  (h : zt d y (pc + 1) ls (.long x.toInt64 :: r) M P) : zt d y pc ls (.int x :: r) M P := zt_ss1 (zr_at hy ha) rfl (rfl) h
theorem zr_l2i  (hy : zm_tb.getD y [] = tb) (ha : zm_lk tb pc = some (.l2i, 1))  (h : zt d y (pc + 1) ls (.int lx.toInt32 :: r) M P) : zt d y pc ls (.long lx :: r) M P := zt_ss1 (zr_at hy ha) rfl (rfl) h
theorem zr_dup_i  (hy : zm_tb.getD y [] = tb) (ha : zm_lk tb pc = some (.dup, 1))  (h : zt d y (pc + 1) ls (.int x :: .int x :: r) M P) : zt d y pc ls (.int x :: r) M P := zt_ss1 (zr_at hy ha) rfl (rfl) h
theorem zr_dup_r  (hy : zm_tb.getD y [] = tb) (ha : zm_lk tb pc = some (.dup, 1))  (h : zt d y (pc + 1) ls (.ref n :: .ref n :: r) M P) : zt d y pc ls (.ref n :: r) M P := zt_ss1 (zr_at hy ha) rfl (rfl) h
theorem zr_dup2  (hy : zm_tb.getD y [] = tb) (ha : zm_lk tb pc = some (.dup2, 1))  (h : zt d y (pc + 1) ls (.int x :: .ref n :: .int x :: .ref n :: r) M P) : zt d y pc ls (.int x :: .ref n :: r) M P := zt_ss1 (zr_at hy ha) rfl (rfl) h
theorem zr_pop  (hy : zm_tb.getD y [] = tb) (ha : zm_lk tb pc = some (.pop, 1))  (h : zt d y (pc + 1) ls (r) M P) : zt d y pc ls (.int x :: r) M P := zt_ss1 (zr_at hy ha) rfl (rfl) h
theorem zr_idiv  (hy : zm_tb.getD y [] = tb) (ha : zm_lk tb pc = some (.idiv, 1)) (hz : ¬ z = 0) (h : zt d y (pc + 1) ls (.int (x / z) :: r) M P) : zt d y pc ls (.int z :: .int x :: r) M P := zt_ss1 (zr_at hy ha) rfl (by unfold zm_ss1; dsimp only; rw [if_neg hz]) h
theorem zr_irem  (hy : zm_tb.getD y [] = tb) (ha : zm_lk tb pc = some (.irem, 1)) (hz : ¬ z = 0) (h : zt d y (pc + 1) ls (.int (x - x / z * z) :: r) M P) : zt d y pc ls (.int z :: .int x :: r) M P := zt_ss1 (zr_at hy ha) rfl (by unfold zm_ss1; dsimp only; rw [if_neg hz]) h
theorem zr_ldiv  (hy : zm_tb.getD y [] = tb) (ha : zm_lk tb pc = some (.ldiv, 1)) (hz : ¬ lz = 0) (h : zt d y (pc + 1) ls (.long (lx / lz) :: r) M P) : zt d y pc ls (.long lz :: .long lx :: r) M P := zt_ss1 (zr_at hy ha) rfl (by unfold zm_ss1; dsimp only; rw [if_neg hz]) h
theorem zr_lrem  (hy : zm_tb.getD y [] = tb) (ha : zm_lk tb pc = some (.lrem, 1)) (hz : ¬ lz = 0) (h : zt d y (pc + 1) ls (.long (lx - lx / lz * lz) :: r) M P) : zt d y pc ls (.long lz :: .long lx :: r) M P := zt_ss1 (zr_at hy ha) rfl (by unfold zm_ss1; dsimp only; rw [if_neg hz]) h
theorem zr_get {vv : Value} (hy : zm_tb.getD y [] = tb) (ha : zm_lk tb pc = some (.getfield k, 3)) (hg : zm_gf y k n M = some vv) (h : zt d y (pc + 3) ls (vv :: r) M P) : zt d y pc ls (.ref n :: r) M P := zt_ss1 (zr_at hy ha) rfl (by unfold zm_ss1; dsimp only; rw [hg]) h
theorem zr_gets {vv : Value} (hy : zm_tb.getD y [] = tb) (ha : zm_lk tb pc = some (.getstatic k, 3)) (hg : zm_ss1 y (.getstatic k) ls st M = some (vv :: st)) (h : zt d y (pc + 3) ls (vv :: st) M P) : zt d y pc ls (st) M P := zt_ss1 (zr_at hy ha) rfl (hg) h
theorem zr_ldc {vv : Value} (hy : zm_tb.getD y [] = tb) (ha : zm_lk tb pc = some (.ldc k, 2)) (hg : zm_ss1 y (.ldc k) ls st M = some (vv :: st)) (h : zt d y (pc + 2) ls (vv :: st) M P) : zt d y pc ls (st) M P := zt_ss1 (zr_at hy ha) rfl (hg) h
theorem zr_ldc_w {vv : Value} (hy : zm_tb.getD y [] = tb) (ha : zm_lk tb pc = some (.ldc_w k, 3)) (hg : zm_ss1 y (.ldc_w k) ls st M = some (vv :: st)) (h : zt d y (pc + 3) ls (vv :: st) M P) : zt d y pc ls (st) M P := zt_ss1 (zr_at hy ha) rfl (hg) h
theorem zr_ldc2 {vv : Value} (hy : zm_tb.getD y [] = tb) (ha : zm_lk tb pc = some (.ldc2_w k, 3)) (hg : zm_ss1 y (.ldc2_w k) ls st M = some (vv :: st)) (h : zt d y (pc + 3) ls (vv :: st) M P) : zt d y pc ls (st) M P := zt_ss1 (zr_at hy ha) rfl (hg) h
theorem zr_ald (hy : zm_tb.getD y [] = tb) (ha : zm_lk tb pc = some (.iaload, 1)) (hk : zm_kd k = 20) (hn : zm_ln k = n) (hv : M.1 k x.toNatClampNeg = v) (hi : zm_inb x n = true) (h : zt d y (pc + 1) ls (.int v :: r) M P) : zt d y pc ls (.int x :: .ref k :: r) M P := by
  subst hv
  subst hn
  exact zt_ss1 (zr_at hy ha) rfl (by
    have e9 : zm_ald y k x M = some (.int (M.1 k x.toNatClampNeg)) := by unfold zm_ald; rw [hk]; exact if_pos hi
    unfold zm_ss1; dsimp only; rw [e9] <;> rfl) h
theorem zr_aldt (hy : zm_tb.getD y [] = tb) (ha : zm_lk tb pc = some (.iaload, 1)) (hk : zm_kd k = 30) (hn : zm_ln k = n) (hi : zm_inb x n = true) (h : zt d y (pc + 1) ls (.int (zm_sv k x.toNatClampNeg) :: r) M P) : zt d y pc ls (.int x :: .ref k :: r) M P := by
  subst hn
  exact zt_ss1 (zr_at hy ha) rfl (by
    have e9 : zm_ald y k x M = some (.int (zm_sv k x.toNatClampNeg)) := by unfold zm_ald; rw [hk]; exact if_pos hi
    unfold zm_ss1; dsimp only; rw [e9] <;> rfl) h
theorem zr_alds (hy : zm_tb.getD 0 [] = tb) (ha : zm_lk tb pc = some (.iaload, 1)) (hi : zm_inb x M.2.2.2.1 = true) (h : zt d 0 (pc + 1) ls (.int (M.2.2.2.2 x.toNatClampNeg) :: r) M P) : zt d 0 pc ls (.int x :: .ref 120 :: r) M P := by
  exact zt_ss1 (zr_at hy ha) rfl (by
    have e9 : zm_ald 0 120 x M = some (.int (M.2.2.2.2 x.toNatClampNeg)) := by unfold zm_ald; exact if_pos ⟨rfl, hi⟩
    unfold zm_ss1; dsimp only; rw [e9] <;> rfl) h
theorem zr_bald (hy : zm_tb.getD y [] = tb) (ha : zm_lk tb pc = some (.baload, 1)) (hk : zm_kd k = 32) (hn : zm_ln k = n) (hi : zm_inb x n = true) (h : zt d y (pc + 1) ls (.int (zm_sb k x.toNatClampNeg) :: r) M P) : zt d y pc ls (.int x :: .ref k :: r) M P := by
  subst hn
  exact zt_ss1 (zr_at hy ha) rfl (by unfold zm_ss1; dsimp only; rw [hk]; exact if_pos hi) h
theorem zr_aald {aa : Nat} (hy : zm_tb.getD y [] = tb) (ha : zm_lk tb pc = some (.aaload, 1)) (hk : zm_kd k = 21) (hn : zm_ln k = n) (hi : zm_inb x n = true) (hr : zm_rf k x.toNatClampNeg = some aa) (h : zt d y (pc + 1) ls (.ref aa :: r) M P) : zt d y pc ls (.int x :: .ref k :: r) M P := by
  subst hn
  exact zt_ss1 (zr_at hy ha) rfl (by unfold zm_ss1; dsimp only; rw [hk]; exact (if_pos hi).trans (by rw [hr])) h
theorem zr_alen (hy : zm_tb.getD y [] = tb) (ha : zm_lk tb pc = some (.arraylength, 1)) (hv : zm_alen y k M = some v) (h : zt d y (pc + 1) ls (.int v :: r) M P) : zt d y pc ls (.ref k :: r) M P := zt_ss1 (zr_at hy ha) rfl (by unfold zm_ss1; dsimp only; rw [hv]) h
theorem zr_istore_n {kk : Fin 4} (hy : zm_tb.getD y [] = tb) (ha : zm_lk tb pc = some (.istore_n kk, 1)) (hs : zm_sst (.istore_n kk) ls (.int x :: r) = some (ls', r)) (h : zt d y (pc + 1) ls' r M P) : zt d y pc ls (.int x :: r) M P := zt_sst (zr_at hy ha) rfl rfl hs h
theorem zr_istore  (hy : zm_tb.getD y [] = tb) (ha : zm_lk tb pc = some (.istore k, 2)) (hs : zm_sst (.istore k) ls (.int x :: r) = some (ls', r)) (h : zt d y (pc + 2) ls' r M P) : zt d y pc ls (.int x :: r) M P := zt_sst (zr_at hy ha) rfl rfl hs h
theorem zr_astore_n {kk : Fin 4} (hy : zm_tb.getD y [] = tb) (ha : zm_lk tb pc = some (.astore_n kk, 1)) (hs : zm_sst (.astore_n kk) ls (.ref n :: r) = some (ls', r)) (h : zt d y (pc + 1) ls' r M P) : zt d y pc ls (.ref n :: r) M P := zt_sst (zr_at hy ha) rfl rfl hs h
theorem zr_astore  (hy : zm_tb.getD y [] = tb) (ha : zm_lk tb pc = some (.astore k, 2)) (hs : zm_sst (.astore k) ls (.ref n :: r) = some (ls', r)) (h : zt d y (pc + 2) ls' r M P) : zt d y pc ls (.ref n :: r) M P := zt_sst (zr_at hy ha) rfl rfl hs h
theorem zr_lstore_n {kk : Fin 4} (hy : zm_tb.getD y [] = tb) (ha : zm_lk tb pc = some (.lstore_n kk, 1)) (hs : zm_sst (.lstore_n kk) ls (.long lx :: r) = some (ls', r)) (h : zt d y (pc + 1) ls' r M P) : zt d y pc ls (.long lx :: r) M P := zt_sst (zr_at hy ha) rfl rfl hs h
theorem zr_lstore  (hy : zm_tb.getD y [] = tb) (ha : zm_lk tb pc = some (.lstore k, 2)) (hs : zm_sst (.lstore k) ls (.long lx :: r) = some (ls', r)) (h : zt d y (pc + 2) ls' r M P) : zt d y pc ls (.long lx :: r) M P := zt_sst (zr_at hy ha) rfl rfl hs h
theorem zr_iinc {nn : Int} (hy : zm_tb.getD y [] = tb) (ha : zm_lk tb pc = some (.iinc k nn, 3)) (hs : zm_sst (.iinc k nn) ls st = some (ls', st)) (h : zt d y (pc + 3) ls' st M P) : zt d y pc ls st M P := zt_sst (zr_at hy ha) rfl rfl hs h
theorem zr_cb {c : Jvm.ClassFile.Cond} {A B : Nat → Prop} (h : zcb c x z (A t) (A n)) : A (if zm_cmp c x z = true then t else n) := by
  obtain ⟨h1, h2⟩ := zcb_snd h
  by_cases hc : zm_cmp c x z = true
  · rw [if_pos hc]; exact h1 hc
  · rw [if_neg hc]; exact h2 hc
theorem zr_icmp_eq (hy : zm_tb.getD y [] = tb) (ha : zm_lk tb pc = some (.if_icmp .eq off, 3)) (ht : zm_tg pc off = some t) (hp : x = z → zt d y t ls r M P) (hq : ¬ x = z → zt d y (pc + 3) ls r M P) : zt d y pc ls (.int z :: .int x :: r) M P := zt_sj (pc' := if zm_cmp .eq x z = true then t else pc + 3) (st' := r) (zr_at hy ha) rfl rfl rfl (by unfold zm_sj; dsimp only; rw [ht]) (zr_cb (B := fun _ => True) (A := fun t => zt d y t ls r M P) (c := .eq) ⟨hp, hq⟩)
theorem zr_if_eq (hy : zm_tb.getD y [] = tb) (ha : zm_lk tb pc = some (.ifCond .eq off, 3)) (ht : zm_tg pc off = some t) (hp : x = 0 → zt d y t ls r M P) (hq : ¬ x = 0 → zt d y (pc + 3) ls r M P) : zt d y pc ls (.int x :: r) M P := zt_sj (pc' := if zm_cmp .eq x 0 = true then t else pc + 3) (st' := r) (zr_at hy ha) rfl rfl rfl (by unfold zm_sj; dsimp only; rw [ht]) (zr_cb (B := fun _ => True) (A := fun t => zt d y t ls r M P) (c := .eq) ⟨hp, hq⟩)
theorem zr_icmp_ne (hy : zm_tb.getD y [] = tb) (ha : zm_lk tb pc = some (.if_icmp .ne off, 3)) (ht : zm_tg pc off = some t) (hp : x = z → zt d y (pc + 3) ls r M P) (hq : ¬ x = z → zt d y t ls r M P) : zt d y pc ls (.int z :: .int x :: r) M P := zt_sj (pc' := if zm_cmp .ne x z = true then t else pc + 3) (st' := r) (zr_at hy ha) rfl rfl rfl (by unfold zm_sj; dsimp only; rw [ht]) (zr_cb (B := fun _ => True) (A := fun t => zt d y t ls r M P) (c := .ne) ⟨hp, hq⟩)
theorem zr_if_ne (hy : zm_tb.getD y [] = tb) (ha : zm_lk tb pc = some (.ifCond .ne off, 3)) (ht : zm_tg pc off = some t) (hp : x = 0 → zt d y (pc + 3) ls r M P) (hq : ¬ x = 0 → zt d y t ls r M P) : zt d y pc ls (.int x :: r) M P := zt_sj (pc' := if zm_cmp .ne x 0 = true then t else pc + 3) (st' := r) (zr_at hy ha) rfl rfl rfl (by unfold zm_sj; dsimp only; rw [ht]) (zr_cb (B := fun _ => True) (A := fun t => zt d y t ls r M P) (c := .ne) ⟨hp, hq⟩)
theorem zr_icmp_lt (hy : zm_tb.getD y [] = tb) (ha : zm_lk tb pc = some (.if_icmp .lt off, 3)) (ht : zm_tg pc off = some t) (hp : x < z → zt d y t ls r M P) (hq : ¬ x < z → zt d y (pc + 3) ls r M P) : zt d y pc ls (.int z :: .int x :: r) M P := zt_sj (pc' := if zm_cmp .lt x z = true then t else pc + 3) (st' := r) (zr_at hy ha) rfl rfl rfl (by unfold zm_sj; dsimp only; rw [ht]) (zr_cb (B := fun _ => True) (A := fun t => zt d y t ls r M P) (c := .lt) ⟨hp, hq⟩)
theorem zr_if_lt (hy : zm_tb.getD y [] = tb) (ha : zm_lk tb pc = some (.ifCond .lt off, 3)) (ht : zm_tg pc off = some t) (hp : x < 0 → zt d y t ls r M P) (hq : ¬ x < 0 → zt d y (pc + 3) ls r M P) : zt d y pc ls (.int x :: r) M P := zt_sj (pc' := if zm_cmp .lt x 0 = true then t else pc + 3) (st' := r) (zr_at hy ha) rfl rfl rfl (by unfold zm_sj; dsimp only; rw [ht]) (zr_cb (B := fun _ => True) (A := fun t => zt d y t ls r M P) (c := .lt) ⟨hp, hq⟩)
theorem zr_icmp_ge (hy : zm_tb.getD y [] = tb) (ha : zm_lk tb pc = some (.if_icmp .ge off, 3)) (ht : zm_tg pc off = some t) (hp : x < z → zt d y (pc + 3) ls r M P) (hq : ¬ x < z → zt d y t ls r M P) : zt d y pc ls (.int z :: .int x :: r) M P := zt_sj (pc' := if zm_cmp .ge x z = true then t else pc + 3) (st' := r) (zr_at hy ha) rfl rfl rfl (by unfold zm_sj; dsimp only; rw [ht]) (zr_cb (B := fun _ => True) (A := fun t => zt d y t ls r M P) (c := .ge) ⟨hp, hq⟩)
theorem zr_if_ge (hy : zm_tb.getD y [] = tb) (ha : zm_lk tb pc = some (.ifCond .ge off, 3)) (ht : zm_tg pc off = some t) (hp : x < 0 → zt d y (pc + 3) ls r M P) (hq : ¬ x < 0 → zt d y t ls r M P) : zt d y pc ls (.int x :: r) M P := zt_sj (pc' := if zm_cmp .ge x 0 = true then t else pc + 3) (st' := r) (zr_at hy ha) rfl rfl rfl (by unfold zm_sj; dsimp only; rw [ht]) (zr_cb (B := fun _ => True) (A := fun t => zt d y t ls r M P) (c := .ge) ⟨hp, hq⟩)
theorem zr_icmp_gt (hy : zm_tb.getD y [] = tb) (ha : zm_lk tb pc = some (.if_icmp .gt off, 3)) (ht : zm_tg pc off = some t) (hp : z < x → zt d y t ls r M P) (hq : ¬ z < x → zt d y (pc + 3) ls r M P) : zt d y pc ls (.int z :: .int x :: r) M P := zt_sj (pc' := if zm_cmp .gt x z = true then t else pc + 3) (st' := r) (zr_at hy ha) rfl rfl rfl (by unfold zm_sj; dsimp only; rw [ht]) (zr_cb (B := fun _ => True) (A := fun t => zt d y t ls r M P) (c := .gt) ⟨hp, hq⟩)
theorem zr_if_gt (hy : zm_tb.getD y [] = tb) (ha : zm_lk tb pc = some (.ifCond .gt off, 3)) (ht : zm_tg pc off = some t) (hp : 0 < x → zt d y t ls r M P) (hq : ¬ 0 < x → zt d y (pc + 3) ls r M P) : zt d y pc ls (.int x :: r) M P := zt_sj (pc' := if zm_cmp .gt x 0 = true then t else pc + 3) (st' := r) (zr_at hy ha) rfl rfl rfl (by unfold zm_sj; dsimp only; rw [ht]) (zr_cb (B := fun _ => True) (A := fun t => zt d y t ls r M P) (c := .gt) ⟨hp, hq⟩)
theorem zr_icmp_le (hy : zm_tb.getD y [] = tb) (ha : zm_lk tb pc = some (.if_icmp .le off, 3)) (ht : zm_tg pc off = some t) (hp : z < x → zt d y (pc + 3) ls r M P) (hq : ¬ z < x → zt d y t ls r M P) : zt d y pc ls (.int z :: .int x :: r) M P := zt_sj (pc' := if zm_cmp .le x z = true then t else pc + 3) (st' := r) (zr_at hy ha) rfl rfl rfl (by unfold zm_sj; dsimp only; rw [ht]) (zr_cb (B := fun _ => True) (A := fun t => zt d y t ls r M P) (c := .le) ⟨hp, hq⟩)
theorem zr_if_le (hy : zm_tb.getD y [] = tb) (ha : zm_lk tb pc = some (.ifCond .le off, 3)) (ht : zm_tg pc off = some t) (hp : 0 < x → zt d y (pc + 3) ls r M P) (hq : ¬ 0 < x → zt d y t ls r M P) : zt d y pc ls (.int x :: r) M P := zt_sj (pc' := if zm_cmp .le x 0 = true then t else pc + 3) (st' := r) (zr_at hy ha) rfl rfl rfl (by unfold zm_sj; dsimp only; rw [ht]) (zr_cb (B := fun _ => True) (A := fun t => zt d y t ls r M P) (c := .le) ⟨hp, hq⟩)
theorem zr_goto (hy : zm_tb.getD y [] = tb) (ha : zm_lk tb pc = some (.goto off, 3)) (ht : zm_tg pc off = some t) (h : zt d y t ls st M P) : zt d y pc ls st M P := zt_sj (pc' := t) (st' := st) (zr_at hy ha) rfl rfl rfl (by unfold zm_sj; dsimp only; rw [ht]) h
theorem zr_zw (n : Nat) (cut : List (Nat × List Nat)) (h : zw n cut d y pc ls st M P) : zt d y pc ls st M P := zw_snd _ _ _ _ _ _ _ _ _ h
theorem zr_tsw {dflt lo hi : Int} {offs : Array Int} {len : Nat} (hy : zm_tb.getD y [] = tb) (ha : zm_lk tb pc = some (.tableswitch dflt lo hi offs, len)) (hq : (decide (hi = lo + (offs.toList.length : Int) - 1) && (decide (-1000 ≤ lo) && decide (lo + (offs.toList.length : Int) ≤ 1000))) = true) (h : zsw (fun off => zj pc off (fun t => zt d y t ls r M P)) x lo offs.toList dflt) : zt d y pc ls (.int x :: r) M P := by
  simp only [Bool.and_eq_true, decide_eq_true_eq] at hq
  obtain ⟨t9, ht9, h8⟩ := zj_inv (zsw_snd offs.toList lo dflt hq.2.1 hq.2.2 h)
  exact zt_sj (pc' := t9) (st' := r) (zr_at hy ha) rfl rfl rfl (by unfold zm_sj; dsimp only; rw [if_pos hq.1, ht9] <;> rfl) h8
theorem zr_lsw {dflt : Int} {ps : Array (Int × Int)} {len : Nat} (hy : zm_tb.getD y [] = tb) (ha : zm_lk tb pc = some (.lookupswitch dflt ps, len)) (hq : ((ps.toList.zip (ps.toList.drop 1)).all (fun (a, next) => a.1 < next.1) && ps.toList.all (fun p => decide (-1000 ≤ p.1 ∧ p.1 ≤ 1000))) = true) (h : zlw (fun off => zj pc off (fun t => zt d y t ls r M P)) x ps.toList dflt) : zt d y pc ls (.int x :: r) M P := by
  rw [Bool.and_eq_true] at hq
  obtain ⟨t9, ht9, h8⟩ := zj_inv (zlw_snd ps.toList dflt hq.2 h)
  exact zt_sj (pc' := t9) (st' := r) (zr_at hy ha) rfl rfl rfl (by unfold zm_sj; dsimp only; rw [if_pos hq.1, ht9] <;> rfl) h8
theorem zr_sw {c : Int32} {K : Int → Prop} {o : Int} {l : List Int} {lo dd : Int} (hv : zm_lit lo = c) (h1 : x = c → K o) (h2 : ¬ x = c → zsw K x (lo + 1) l dd) : zsw K x lo (o :: l) dd := by
  subst hv
  exact ⟨h1, h2⟩
theorem zr_lw {c : Int32} {K : Int → Prop} {a o : Int} {l : List (Int × Int)} {dd : Int} (hv : zm_lit a = c) (h1 : x = c → K o) (h2 : ¬ x = c → zlw K x l dd) : zlw K x ((a, o) :: l) dd := by
  subst hv
  exact ⟨h1, h2⟩
theorem zr_sw0 {K : Int → Prop} {lo dd : Int} (h : K dd) : zsw K x lo [] dd := h
theorem zr_lw0 {K : Int → Prop} {dd : Int} (h : K dd) : zlw K x [] dd := h
theorem zr_j {K : Nat → Prop} (ht : zm_tg pc off = some t) (h : K t) : zj pc off K := by
  unfold zj
  rw [ht]
  exact h
theorem zr_put {vv : Value} (hy : zm_tb.getD y [] = tb) (ha : zm_lk tb pc = some (.putfield k, 3)) (hs : zm_pf y k n vv M = some M') (h : zt d y (pc + 3) ls r M' P) : zt d y pc ls (vv :: .ref n :: r) M P := zt_sm (zr_at hy ha) rfl rfl rfl rfl (by unfold zm_sm; dsimp only; rw [hs] <;> rfl) h
theorem zr_pb {ci sl : Nat} {pos : Nat} (hf : zm_fl (zm_yc y) k = some (ci, sl, pos)) (hc : zm_kd n = ci) (h4 : zm_ft ci sl = 4) (hx : x = 0 ∨ x = 1) : zm_pf y k n (.int x) M = some (zm_si M n sl x) := by
  unfold zm_pf
  rw [hf]
  refine (if_pos hc).trans ?_
  unfold zm_pv
  rw [h4]
  exact if_pos hx
theorem zr_pn {ci sl q : Nat} {pos : Nat} (hf : zm_fl (zm_yc y) k = some (ci, sl, pos)) (hc : zm_kd n = ci) (h4 : zm_ft ci sl = 3) (hx : q = 110 ∨ q = 111) : zm_pf y k n (.ref q) M = some (zm_ss M q) := by
  unfold zm_pf
  rw [hf]
  refine (if_pos hc).trans ?_
  unfold zm_pv
  rw [h4]
  exact if_pos hx
theorem zr_ast (hy : zm_tb.getD y [] = tb) (ha : zm_lk tb pc = some (.iastore, 1)) (hk : zm_kd k = 20) (hn : zm_ln k = n) (hi : zm_inb z n = true) (h : zt d y (pc + 1) ls r (zm_si M k z.toNatClampNeg x) P) : zt d y pc ls (.int x :: .int z :: .ref k :: r) M P := by
  subst hn
  exact zt_sm (zr_at hy ha) rfl rfl rfl rfl (by unfold zm_sm; dsimp only; rw [hk]; exact if_pos hi) h
theorem zr_min {pos : Nat} (hy : zm_tb.getD y [] = tb) (ha : zm_lk tb pc = some (.invokestatic k, 3)) (hb : zm_bi (zm_yc y) k = some (1, pos)) (hc : zm_cs r = true) (h : zt (d + 1) y (pc + 3) ls (.int (if z < x then z else x) :: r) M P) : zt (d + 1) y pc ls (.int z :: .int x :: r) M P := zt_sm (zr_at hy ha) rfl rfl rfl rfl (by unfold zm_sm; dsimp only; rw [if_neg (Nat.succ_ne_zero _), hb]; exact if_pos hc) h
theorem zr_max {pos : Nat} (hy : zm_tb.getD y [] = tb) (ha : zm_lk tb pc = some (.invokestatic k, 3)) (hb : zm_bi (zm_yc y) k = some (2, pos)) (hc : zm_cs r = true) (h : zt (d + 1) y (pc + 3) ls (.int (if x < z then z else x) :: r) M P) : zt (d + 1) y pc ls (.int z :: .int x :: r) M P := zt_sm (zr_at hy ha) rfl rfl rfl rfl (by unfold zm_sm; dsimp only; rw [if_neg (Nat.succ_ne_zero _), hb]; exact if_pos hc) h
theorem zr_copy {pos aa gg na ng : Nat} {sp dp nn : Int32} (hy : zm_tb.getD y [] = tb) (ha : zm_lk tb pc = some (.invokestatic k, 3)) (hb : zm_bi (zm_yc y) k = some (3, pos)) (hc : zm_cs r = true) (hka : zm_kd aa = 20) (hkg : zm_kd gg = 20) (hna : zm_ln aa = na) (hng : zm_ln gg = ng) (hq : ¬ sp < 0 ∧ ¬ dp < 0 ∧ ¬ nn < 0 ∧ sp.toNatClampNeg + nn.toNatClampNeg ≤ na ∧ dp.toNatClampNeg + nn.toNatClampNeg ≤ ng) (h : zt (d + 1) y (pc + 3) ls r (zm_sr M gg (va_cpy (M.1 aa) (M.1 gg) sp.toNatClampNeg dp.toNatClampNeg nn.toNatClampNeg)) P) : zt (d + 1) y pc ls (.int nn :: .int dp :: .ref gg :: .int sp :: .ref aa :: r) M P := by
  subst hna
  subst hng
  exact zt_sm (zr_at hy ha) rfl rfl rfl rfl (by unfold zm_sm; dsimp only; rw [if_neg (Nat.succ_ne_zero _), hb]; exact if_pos ⟨hc, hka, hkg, hq⟩) h
theorem zr_callis {y9 : Nat} {as : List Value} {K : Int32 → zm_M → Prop} (hy : zm_tb.getD y [] = tb) (ha : zm_lk tb pc = some (.invokestatic k, 3)) (hb : zm_bi (zm_yc y) k = none) (hc : zm_cal y (.invokestatic k) st = some (y9, as, r)) (hl : Nat.ble (zm_flat as).length (zm_mx y9) = true) (h : zi d y9 as M K) (hk : ∀ x M1, K x M1 → zt (d + 1) y (pc + 3) ls (.int x :: r) M1 P) : zt (d + 1) y pc ls st M P := zq_cal 9 (zr_at hy ha) rfl rfl rfl rfl (by unfold zm_sm; dsimp only; rw [if_neg (Nat.succ_ne_zero _), hb]) hc (Nat.le_of_ble_eq_true hl) (zt.mono h (fun v M1 q => by
    cases v with
    | none => exact q.elim
    | some w => cases w <;> first | exact q.elim | exact hk _ _ q))
theorem zr_calliv {y9 : Nat} {as : List Value} {K : Int32 → zm_M → Prop} (hy : zm_tb.getD y [] = tb) (ha : zm_lk tb pc = some (.invokevirtual k, 3)) (hc : zm_cal y (.invokevirtual k) st = some (y9, as, r)) (hl : Nat.ble (zm_flat as).length (zm_mx y9) = true) (h : zi d y9 as M K) (hk : ∀ x M1, K x M1 → zt (d + 1) y (pc + 3) ls (.int x :: r) M1 P) : zt (d + 1) y pc ls st M P := zq_cal 9 (zr_at hy ha) rfl rfl rfl rfl rfl hc (Nat.le_of_ble_eq_true hl) (zt.mono h (fun v M1 q => by
    cases v with
    | none => exact q.elim
    | some w => cases w <;> first | exact q.elim | exact hk _ _ q))
theorem zr_callls {y9 : Nat} {as : List Value} {K : Int64 → zm_M → Prop} (hy : zm_tb.getD y [] = tb) (ha : zm_lk tb pc = some (.invokestatic k, 3)) (hb : zm_bi (zm_yc y) k = none) (hc : zm_cal y (.invokestatic k) st = some (y9, as, r)) (hl : Nat.ble (zm_flat as).length (zm_mx y9) = true) (h : zl d y9 as M K) (hk : ∀ lx M1, K lx M1 → zt (d + 1) y (pc + 3) ls (.long lx :: r) M1 P) : zt (d + 1) y pc ls st M P := zq_cal 3 (zr_at hy ha) rfl rfl rfl rfl (by unfold zm_sm; dsimp only; rw [if_neg (Nat.succ_ne_zero _), hb]) hc (Nat.le_of_ble_eq_true hl) (zt.mono h (fun v M1 q => by
    cases v with
    | none => exact q.elim
    | some w => cases w <;> first | exact q.elim | exact hk _ _ q))
theorem zr_calllv {y9 : Nat} {as : List Value} {K : Int64 → zm_M → Prop} (hy : zm_tb.getD y [] = tb) (ha : zm_lk tb pc = some (.invokevirtual k, 3)) (hc : zm_cal y (.invokevirtual k) st = some (y9, as, r)) (hl : Nat.ble (zm_flat as).length (zm_mx y9) = true) (h : zl d y9 as M K) (hk : ∀ lx M1, K lx M1 → zt (d + 1) y (pc + 3) ls (.long lx :: r) M1 P) : zt (d + 1) y pc ls st M P := zq_cal 3 (zr_at hy ha) rfl rfl rfl rfl rfl hc (Nat.le_of_ble_eq_true hl) (zt.mono h (fun v M1 q => by
    cases v with
    | none => exact q.elim
    | some w => cases w <;> first | exact q.elim | exact hk _ _ q))
theorem zr_callrs {y9 : Nat} {as : List Value} {K : Nat → zm_M → Prop} (hy : zm_tb.getD y [] = tb) (ha : zm_lk tb pc = some (.invokestatic k, 3)) (hb : zm_bi (zm_yc y) k = none) (hc : zm_cal y (.invokestatic k) st = some (y9, as, r)) (hl : Nat.ble (zm_flat as).length (zm_mx y9) = true) (h : zr d y9 as M K) (hk : ∀ n M1, K n M1 → zt (d + 1) y (pc + 3) ls (.ref n :: r) M1 P) : zt (d + 1) y pc ls st M P := zq_cal 4 (zr_at hy ha) rfl rfl rfl rfl (by unfold zm_sm; dsimp only; rw [if_neg (Nat.succ_ne_zero _), hb]) hc (Nat.le_of_ble_eq_true hl) (zt.mono h (fun v M1 q => by
    cases v with
    | none => exact q.elim
    | some w => cases w <;> first | exact q.elim | exact hk _ _ q))
theorem zr_callrv {y9 : Nat} {as : List Value} {K : Nat → zm_M → Prop} (hy : zm_tb.getD y [] = tb) (ha : zm_lk tb pc = some (.invokevirtual k, 3)) (hc : zm_cal y (.invokevirtual k) st = some (y9, as, r)) (hl : Nat.ble (zm_flat as).length (zm_mx y9) = true) (h : zr d y9 as M K) (hk : ∀ n M1, K n M1 → zt (d + 1) y (pc + 3) ls (.ref n :: r) M1 P) : zt (d + 1) y pc ls st M P := zq_cal 4 (zr_at hy ha) rfl rfl rfl rfl rfl hc (Nat.le_of_ble_eq_true hl) (zt.mono h (fun v M1 q => by
    cases v with
    | none => exact q.elim
    | some w => cases w <;> first | exact q.elim | exact hk _ _ q))
theorem zr_callvs {y9 : Nat} {as : List Value} {K : zm_M → Prop} (hy : zm_tb.getD y [] = tb) (ha : zm_lk tb pc = some (.invokestatic k, 3)) (hb : zm_bi (zm_yc y) k = none) (hc : zm_cal y (.invokestatic k) st = some (y9, as, r)) (hl : Nat.ble (zm_flat as).length (zm_mx y9) = true) (h : zv d y9 as M K) (hk : ∀ M1, K M1 → zt (d + 1) y (pc + 3) ls (r) M1 P) : zt (d + 1) y pc ls st M P := zq_cal 0 (zr_at hy ha) rfl rfl rfl rfl (by unfold zm_sm; dsimp only; rw [if_neg (Nat.succ_ne_zero _), hb]) hc (Nat.le_of_ble_eq_true hl) (zt.mono h (fun v M1 q => by
    cases v with
    | none => exact hk _ q
    | some w => exact q.elim))
theorem zr_callvv {y9 : Nat} {as : List Value} {K : zm_M → Prop} (hy : zm_tb.getD y [] = tb) (ha : zm_lk tb pc = some (.invokevirtual k, 3)) (hc : zm_cal y (.invokevirtual k) st = some (y9, as, r)) (hl : Nat.ble (zm_flat as).length (zm_mx y9) = true) (h : zv d y9 as M K) (hk : ∀ M1, K M1 → zt (d + 1) y (pc + 3) ls (r) M1 P) : zt (d + 1) y pc ls st M P := zq_cal 0 (zr_at hy ha) rfl rfl rfl rfl rfl hc (Nat.le_of_ble_eq_true hl) (zt.mono h (fun v M1 q => by
    cases v with
    | none => exact hk _ q
    | some w => exact q.elim))
theorem zr_inis {y9 : Nat} {as : List Value} (hy : zm_tb.getD y [] = tb) (ha : zm_lk tb pc = some (.invokestatic k, 3)) (hb : zm_bi (zm_yc y) k = none) (hc : zm_cal y (.invokestatic k) st = some (y9, as, r)) (hl : Nat.ble (zm_flat as).length (zm_mx y9) = true) (h : zi d y9 as M (fun x M1 => zt (d + 1) y (pc + 3) ls (.int x :: r) M1 P)) : zt (d + 1) y pc ls st M P := zr_callis hy ha hb hc hl h (fun _ _ q => q)
theorem zr_iniv {y9 : Nat} {as : List Value} (hy : zm_tb.getD y [] = tb) (ha : zm_lk tb pc = some (.invokevirtual k, 3)) (hc : zm_cal y (.invokevirtual k) st = some (y9, as, r)) (hl : Nat.ble (zm_flat as).length (zm_mx y9) = true) (h : zi d y9 as M (fun x M1 => zt (d + 1) y (pc + 3) ls (.int x :: r) M1 P)) : zt (d + 1) y pc ls st M P := zr_calliv hy ha hc hl h (fun _ _ q => q)
theorem zr_inls {y9 : Nat} {as : List Value} (hy : zm_tb.getD y [] = tb) (ha : zm_lk tb pc = some (.invokestatic k, 3)) (hb : zm_bi (zm_yc y) k = none) (hc : zm_cal y (.invokestatic k) st = some (y9, as, r)) (hl : Nat.ble (zm_flat as).length (zm_mx y9) = true) (h : zl d y9 as M (fun lx M1 => zt (d + 1) y (pc + 3) ls (.long lx :: r) M1 P)) : zt (d + 1) y pc ls st M P := zr_callls hy ha hb hc hl h (fun _ _ q => q)
theorem zr_inlv {y9 : Nat} {as : List Value} (hy : zm_tb.getD y [] = tb) (ha : zm_lk tb pc = some (.invokevirtual k, 3)) (hc : zm_cal y (.invokevirtual k) st = some (y9, as, r)) (hl : Nat.ble (zm_flat as).length (zm_mx y9) = true) (h : zl d y9 as M (fun lx M1 => zt (d + 1) y (pc + 3) ls (.long lx :: r) M1 P)) : zt (d + 1) y pc ls st M P := zr_calllv hy ha hc hl h (fun _ _ q => q)
theorem zr_inrs {y9 : Nat} {as : List Value} (hy : zm_tb.getD y [] = tb) (ha : zm_lk tb pc = some (.invokestatic k, 3)) (hb : zm_bi (zm_yc y) k = none) (hc : zm_cal y (.invokestatic k) st = some (y9, as, r)) (hl : Nat.ble (zm_flat as).length (zm_mx y9) = true) (h : zr d y9 as M (fun n M1 => zt (d + 1) y (pc + 3) ls (.ref n :: r) M1 P)) : zt (d + 1) y pc ls st M P := zr_callrs hy ha hb hc hl h (fun _ _ q => q)
theorem zr_inrv {y9 : Nat} {as : List Value} (hy : zm_tb.getD y [] = tb) (ha : zm_lk tb pc = some (.invokevirtual k, 3)) (hc : zm_cal y (.invokevirtual k) st = some (y9, as, r)) (hl : Nat.ble (zm_flat as).length (zm_mx y9) = true) (h : zr d y9 as M (fun n M1 => zt (d + 1) y (pc + 3) ls (.ref n :: r) M1 P)) : zt (d + 1) y pc ls st M P := zr_callrv hy ha hc hl h (fun _ _ q => q)
theorem zr_invs {y9 : Nat} {as : List Value} (hy : zm_tb.getD y [] = tb) (ha : zm_lk tb pc = some (.invokestatic k, 3)) (hb : zm_bi (zm_yc y) k = none) (hc : zm_cal y (.invokestatic k) st = some (y9, as, r)) (hl : Nat.ble (zm_flat as).length (zm_mx y9) = true) (h : zv d y9 as M (fun M1 => zt (d + 1) y (pc + 3) ls (r) M1 P)) : zt (d + 1) y pc ls st M P := zr_callvs hy ha hb hc hl h (fun _ q => q)
theorem zr_invv {y9 : Nat} {as : List Value} (hy : zm_tb.getD y [] = tb) (ha : zm_lk tb pc = some (.invokevirtual k, 3)) (hc : zm_cal y (.invokevirtual k) st = some (y9, as, r)) (hl : Nat.ble (zm_flat as).length (zm_mx y9) = true) (h : zv d y9 as M (fun M1 => zt (d + 1) y (pc + 3) ls (r) M1 P)) : zt (d + 1) y pc ls st M P := zr_callvv hy ha hc hl h (fun _ q => q)
section ZQ
variable {Qi : Int32 → zm_M → Prop} {Ql : Int64 → zm_M → Prop} {Qr : Nat → zm_M → Prop} {Qv : zm_M → Prop}
theorem zr_ireturn (hy : zm_tb.getD y [] = tb) (ha : zm_lk tb pc = some (.ireturn, 1)) (hk : zm_rk y = 1) (h : Qi x M) : zt d y pc ls [.int x] M (zPi Qi) := zt_ret (v := some (.int x)) (zr_at hy ha) (by unfold zm_ret; rw [hk] <;> rfl) h
theorem zr_zreturn (hy : zm_tb.getD y [] = tb) (ha : zm_lk tb pc = some (.ireturn, 1)) (hk : zm_rk y = 2) (h1 : x = 0 ∨ x = 1) (h : Qi x M) : zt d y pc ls [.int x] M (zPi Qi) := zt_ret (v := some (.int x)) (zr_at hy ha) (by unfold zm_ret; rw [hk]; exact if_pos h1) h
theorem zr_breturn (hy : zm_tb.getD y [] = tb) (ha : zm_lk tb pc = some (.ireturn, 1)) (hk : zm_rk y = 5) (h1 : x = 0) (h : Qi x M) : zt d y pc ls [.int x] M (zPi Qi) := zt_ret (v := some (.int x)) (zr_at hy ha) (by unfold zm_ret; rw [hk]; exact if_pos h1) h
theorem zr_lreturn (hy : zm_tb.getD y [] = tb) (ha : zm_lk tb pc = some (.lreturn, 1)) (hk : zm_rk y = 3) (h : Ql lx M) : zt d y pc ls [.long lx] M (zPl Ql) := zt_ret (v := some (.long lx)) (zr_at hy ha) (by unfold zm_ret; rw [hk] <;> rfl) h
theorem zr_areturn (hy : zm_tb.getD y [] = tb) (ha : zm_lk tb pc = some (.areturn, 1)) (hk : zm_rk y = 4) (h : Qr n M) : zt d y pc ls [.ref n] M (zPr Qr) := zt_ret (v := some (.ref n)) (zr_at hy ha) (by unfold zm_ret; rw [hk] <;> rfl) h
theorem zr_return (hy : zm_tb.getD y [] = tb) (ha : zm_lk tb pc = some (.return_, 1)) (hk : zm_rk y = 0) (h : Qv M) : zt d y pc ls [] M (zPv Qv) := zt_ret (v := none) (zr_at hy ha) (by unfold zm_ret; rw [hk] <;> rfl) h
end ZQ
theorem zr_getn {q : Nat} (hy : zm_tb.getD y [] = tb) (ha : zm_lk tb pc = some (.getfield k, 3)) (hg : zm_gf y k n M = some (.ref M.2.2.1)) (hq : M.2.2.1 = q) (h : zt d y (pc + 3) ls (.ref q :: r) M P) : zt d y pc ls (.ref n :: r) M P := by
  subst hq
  exact zt_ss1 (zr_at hy ha) rfl (by unfold zm_ss1; dsimp only; rw [hg]) h
theorem zr_fg (fs : List Nat) (hf : zfg fs ls = ls') (h : zt d y pc ls' st M P) : zt d y pc ls st M P := by
  subst hf
  exact zt.weak h (zfg_le _ _)
end ZR
theorem zae {a b c : Prop} (h : a ∧ b) (f : a → b → c) : c := f h.1 h.2
theorem zi_of {d y : Nat} {as : List Value} {ls : zm_L} {M : zm_M} {Q : Int32 → zm_M → Prop} (he : zm_ent as (zm_mx y) = ls) (h : zt d y 0 ls [] M (zPi Q)) : zi d y as M Q := by
  subst he
  exact h
theorem zv_of {d y : Nat} {as : List Value} {ls : zm_L} {M : zm_M} {Q : zm_M → Prop} (he : zm_ent as (zm_mx y) = ls) (h : zt d y 0 ls [] M (zPv Q)) : zv d y as M Q := by
  subst he
  exact h
theorem zl_of {d y : Nat} {as : List Value} {ls : zm_L} {M : zm_M} {Q : Int64 → zm_M → Prop} (he : zm_ent as (zm_mx y) = ls) (h : zt d y 0 ls [] M (zPl Q)) : zl d y as M Q := by
  subst he
  exact h
theorem zr_of {d y : Nat} {as : List Value} {ls : zm_L} {M : zm_M} {Q : Nat → zm_M → Prop} (he : zm_ent as (zm_mx y) = ls) (h : zt d y 0 ls [] M (zPr Q)) : zr d y as M Q := by
  subst he
  exact h
theorem zy0 : zm_tb.getD 0 [] = zm_t0 := rfl
theorem zy1 : zm_tb.getD 1 [] = zm_t1 := rfl
theorem zy2 : zm_tb.getD 2 [] = zm_t2 := rfl
theorem zy3 : zm_tb.getD 3 [] = zm_t3 := rfl
theorem zy4 : zm_tb.getD 4 [] = zm_t4 := rfl
theorem zy5 : zm_tb.getD 5 [] = zm_t5 := rfl
theorem zy6 : zm_tb.getD 6 [] = zm_t6 := rfl
theorem zy7 : zm_tb.getD 7 [] = zm_t7 := rfl
theorem zy8 : zm_tb.getD 8 [] = zm_t8 := rfl
theorem zy9 : zm_tb.getD 9 [] = zm_t9 := rfl
theorem zy10 : zm_tb.getD 10 [] = zm_t10 := rfl
theorem zy11 : zm_tb.getD 11 [] = zm_t11 := rfl
theorem zy12 : zm_tb.getD 12 [] = zm_t12 := rfl
theorem zy13 : zm_tb.getD 13 [] = zm_t13 := rfl
theorem zy14 : zm_tb.getD 14 [] = zm_t14 := rfl
theorem zy15 : zm_tb.getD 15 [] = zm_t15 := rfl
theorem zy16 : zm_tb.getD 16 [] = zm_t16 := rfl
theorem zy17 : zm_tb.getD 17 [] = zm_t17 := rfl
theorem zy18 : zm_tb.getD 18 [] = zm_t18 := rfl
theorem zy19 : zm_tb.getD 19 [] = zm_t19 := rfl
theorem zy20 : zm_tb.getD 20 [] = zm_t20 := rfl
theorem zy21 : zm_tb.getD 21 [] = zm_t21 := rfl
theorem zy22 : zm_tb.getD 22 [] = zm_t22 := rfl
theorem zy23 : zm_tb.getD 23 [] = zm_t23 := rfl
theorem zy24 : zm_tb.getD 24 [] = zm_t24 := rfl
theorem zy25 : zm_tb.getD 25 [] = zm_t25 := rfl
theorem zy26 : zm_tb.getD 26 [] = zm_t26 := rfl
theorem zy27 : zm_tb.getD 27 [] = zm_t27 := rfl
theorem zy28 : zm_tb.getD 28 [] = zm_t28 := rfl
theorem zy29 : zm_tb.getD 29 [] = zm_t29 := rfl
theorem zy30 : zm_tb.getD 30 [] = zm_t30 := rfl
theorem zy31 : zm_tb.getD 31 [] = zm_t31 := rfl
theorem zy32 : zm_tb.getD 32 [] = zm_t32 := rfl
theorem zy33 : zm_tb.getD 33 [] = zm_t33 := rfl
theorem zy34 : zm_tb.getD 34 [] = zm_t34 := rfl
theorem zy35 : zm_tb.getD 35 [] = zm_t35 := rfl
theorem zy36 : zm_tb.getD 36 [] = zm_t36 := rfl
theorem zy37 : zm_tb.getD 37 [] = zm_t37 := rfl
theorem zy38 : zm_tb.getD 38 [] = zm_t38 := rfl
theorem zy39 : zm_tb.getD 39 [] = zm_t39 := rfl
theorem zy40 : zm_tb.getD 40 [] = zm_t40 := rfl
theorem zy41 : zm_tb.getD 41 [] = zm_t41 := rfl
theorem zy42 : zm_tb.getD 42 [] = zm_t42 := rfl
theorem zy43 : zm_tb.getD 43 [] = zm_t43 := rfl
theorem zy44 : zm_tb.getD 44 [] = zm_t44 := rfl
theorem zy45 : zm_tb.getD 45 [] = zm_t45 := rfl
theorem zy46 : zm_tb.getD 46 [] = zm_t46 := rfl
theorem zy47 : zm_tb.getD 47 [] = zm_t47 := rfl
theorem zy48 : zm_tb.getD 48 [] = zm_t48 := rfl
theorem zy49 : zm_tb.getD 49 [] = zm_t49 := rfl
theorem zy50 : zm_tb.getD 50 [] = zm_t50 := rfl
theorem zy51 : zm_tb.getD 51 [] = zm_t51 := rfl
theorem zy52 : zm_tb.getD 52 [] = zm_t52 := rfl
theorem zy53 : zm_tb.getD 53 [] = zm_t53 := rfl
theorem zy54 : zm_tb.getD 54 [] = zm_t54 := rfl
theorem zy55 : zm_tb.getD 55 [] = zm_t55 := rfl
theorem zy56 : zm_tb.getD 56 [] = zm_t56 := rfl
theorem zy57 : zm_tb.getD 57 [] = zm_t57 := rfl
theorem zy58 : zm_tb.getD 58 [] = zm_t58 := rfl
theorem zy59 : zm_tb.getD 59 [] = zm_t59 := rfl
theorem zy60 : zm_tb.getD 60 [] = zm_t60 := rfl
theorem zy61 : zm_tb.getD 61 [] = zm_t61 := rfl
theorem zy62 : zm_tb.getD 62 [] = zm_t62 := rfl
theorem zy63 : zm_tb.getD 63 [] = zm_t63 := rfl
theorem zy64 : zm_tb.getD 64 [] = zm_t64 := rfl
theorem zy65 : zm_tb.getD 65 [] = zm_t65 := rfl
theorem zy66 : zm_tb.getD 66 [] = zm_t66 := rfl
theorem zy67 : zm_tb.getD 67 [] = zm_t67 := rfl
theorem zy68 : zm_tb.getD 68 [] = zm_t68 := rfl
theorem zy69 : zm_tb.getD 69 [] = zm_t69 := rfl
theorem zy70 : zm_tb.getD 70 [] = zm_t70 := rfl
theorem zy71 : zm_tb.getD 71 [] = zm_t71 := rfl
theorem zy72 : zm_tb.getD 72 [] = zm_t72 := rfl
theorem zy73 : zm_tb.getD 73 [] = zm_t73 := rfl
theorem zy74 : zm_tb.getD 74 [] = zm_t74 := rfl
theorem zy75 : zm_tb.getD 75 [] = zm_t75 := rfl
theorem zy76 : zm_tb.getD 76 [] = zm_t76 := rfl
theorem zy77 : zm_tb.getD 77 [] = zm_t77 := rfl
theorem zy78 : zm_tb.getD 78 [] = zm_t78 := rfl
theorem zy79 : zm_tb.getD 79 [] = zm_t79 := rfl
theorem zy80 : zm_tb.getD 80 [] = zm_t80 := rfl
theorem zy81 : zm_tb.getD 81 [] = zm_t81 := rfl
theorem zy82 : zm_tb.getD 82 [] = zm_t82 := rfl
theorem zy83 : zm_tb.getD 83 [] = zm_t83 := rfl
theorem zy84 : zm_tb.getD 84 [] = zm_t84 := rfl
theorem zy85 : zm_tb.getD 85 [] = zm_t85 := rfl
theorem zy86 : zm_tb.getD 86 [] = zm_t86 := rfl
theorem zy87 : zm_tb.getD 87 [] = zm_t87 := rfl
theorem zy88 : zm_tb.getD 88 [] = zm_t88 := rfl
theorem zy89 : zm_tb.getD 89 [] = zm_t89 := rfl
theorem zy90 : zm_tb.getD 90 [] = zm_t90 := rfl
theorem zy91 : zm_tb.getD 91 [] = zm_t91 := rfl
theorem zy92 : zm_tb.getD 92 [] = zm_t92 := rfl
theorem zy93 : zm_tb.getD 93 [] = zm_t93 := rfl
theorem zy94 : zm_tb.getD 94 [] = zm_t94 := rfl
theorem zy95 : zm_tb.getD 95 [] = zm_t95 := rfl
theorem zy96 : zm_tb.getD 96 [] = zm_t96 := rfl
theorem zy97 : zm_tb.getD 97 [] = zm_t97 := rfl
theorem zy98 : zm_tb.getD 98 [] = zm_t98 := rfl
theorem zy99 : zm_tb.getD 99 [] = zm_t99 := rfl
theorem zy100 : zm_tb.getD 100 [] = zm_t100 := rfl
theorem zy101 : zm_tb.getD 101 [] = zm_t101 := rfl
theorem zy102 : zm_tb.getD 102 [] = zm_t102 := rfl
theorem zy103 : zm_tb.getD 103 [] = zm_t103 := rfl
theorem zy104 : zm_tb.getD 104 [] = zm_t104 := rfl
theorem zy105 : zm_tb.getD 105 [] = zm_t105 := rfl
theorem zy106 : zm_tb.getD 106 [] = zm_t106 := rfl
theorem zy107 : zm_tb.getD 107 [] = zm_t107 := rfl
theorem zy108 : zm_tb.getD 108 [] = zm_t108 := rfl
theorem zy109 : zm_tb.getD 109 [] = zm_t109 := rfl
theorem zy110 : zm_tb.getD 110 [] = zm_t110 := rfl
theorem zy111 : zm_tb.getD 111 [] = zm_t111 := rfl
theorem zy112 : zm_tb.getD 112 [] = zm_t112 := rfl
theorem zy113 : zm_tb.getD 113 [] = zm_t113 := rfl
theorem zy114 : zm_tb.getD 114 [] = zm_t114 := rfl
theorem zy115 : zm_tb.getD 115 [] = zm_t115 := rfl
theorem zy116 : zm_tb.getD 116 [] = zm_t116 := rfl
theorem zy117 : zm_tb.getD 117 [] = zm_t117 := rfl
theorem zy118 : zm_tb.getD 118 [] = zm_t118 := rfl
theorem zy119 : zm_tb.getD 119 [] = zm_t119 := rfl
theorem zy120 : zm_tb.getD 120 [] = zm_t120 := rfl
theorem zy121 : zm_tb.getD 121 [] = zm_t121 := rfl
theorem zy122 : zm_tb.getD 122 [] = zm_t122 := rfl
theorem zy123 : zm_tb.getD 123 [] = zm_t123 := rfl
theorem zy124 : zm_tb.getD 124 [] = zm_t124 := rfl
theorem zy125 : zm_tb.getD 125 [] = zm_t125 := rfl
theorem zy126 : zm_tb.getD 126 [] = zm_t126 := rfl
theorem zy127 : zm_tb.getD 127 [] = zm_t127 := rfl
theorem zy128 : zm_tb.getD 128 [] = zm_t128 := rfl
theorem zy129 : zm_tb.getD 129 [] = zm_t129 := rfl
theorem zy130 : zm_tb.getD 130 [] = zm_t130 := rfl
theorem zy131 : zm_tb.getD 131 [] = zm_t131 := rfl
theorem zy132 : zm_tb.getD 132 [] = zm_t132 := rfl
theorem zy133 : zm_tb.getD 133 [] = zm_t133 := rfl
theorem zy134 : zm_tb.getD 134 [] = zm_t134 := rfl
theorem zy135 : zm_tb.getD 135 [] = zm_t135 := rfl
theorem zy136 : zm_tb.getD 136 [] = zm_t136 := rfl
theorem zy137 : zm_tb.getD 137 [] = zm_t137 := rfl
theorem zy138 : zm_tb.getD 138 [] = zm_t138 := rfl
theorem zy139 : zm_tb.getD 139 [] = zm_t139 := rfl
theorem zy140 : zm_tb.getD 140 [] = zm_t140 := rfl
theorem zy141 : zm_tb.getD 141 [] = zm_t141 := rfl
theorem zy142 : zm_tb.getD 142 [] = zm_t142 := rfl
theorem zy143 : zm_tb.getD 143 [] = zm_t143 := rfl
theorem zy144 : zm_tb.getD 144 [] = zm_t144 := rfl
theorem zy145 : zm_tb.getD 145 [] = zm_t145 := rfl
theorem zy146 : zm_tb.getD 146 [] = zm_t146 := rfl
theorem zy147 : zm_tb.getD 147 [] = zm_t147 := rfl
theorem zy148 : zm_tb.getD 148 [] = zm_t148 := rfl
theorem zy149 : zm_tb.getD 149 [] = zm_t149 := rfl
theorem zy150 : zm_tb.getD 150 [] = zm_t150 := rfl
theorem zy151 : zm_tb.getD 151 [] = zm_t151 := rfl
theorem zy152 : zm_tb.getD 152 [] = zm_t152 := rfl
theorem zy153 : zm_tb.getD 153 [] = zm_t153 := rfl
theorem zy154 : zm_tb.getD 154 [] = zm_t154 := rfl
theorem zy155 : zm_tb.getD 155 [] = zm_t155 := rfl
theorem zy156 : zm_tb.getD 156 [] = zm_t156 := rfl
theorem zy157 : zm_tb.getD 157 [] = zm_t157 := rfl
theorem zy158 : zm_tb.getD 158 [] = zm_t158 := rfl
theorem zy159 : zm_tb.getD 159 [] = zm_t159 := rfl
theorem zy160 : zm_tb.getD 160 [] = zm_t160 := rfl
theorem zy161 : zm_tb.getD 161 [] = zm_t161 := rfl
theorem zy162 : zm_tb.getD 162 [] = zm_t162 := rfl
theorem zy163 : zm_tb.getD 163 [] = zm_t163 := rfl
theorem zy164 : zm_tb.getD 164 [] = zm_t164 := rfl
theorem zy165 : zm_tb.getD 165 [] = zm_t165 := rfl
theorem zy166 : zm_tb.getD 166 [] = zm_t166 := rfl
theorem zy167 : zm_tb.getD 167 [] = zm_t167 := rfl
theorem zy168 : zm_tb.getD 168 [] = zm_t168 := rfl
theorem zy169 : zm_tb.getD 169 [] = zm_t169 := rfl
theorem zy170 : zm_tb.getD 170 [] = zm_t170 := rfl
theorem zy171 : zm_tb.getD 171 [] = zm_t171 := rfl
theorem zy172 : zm_tb.getD 172 [] = zm_t172 := rfl
theorem zy173 : zm_tb.getD 173 [] = zm_t173 := rfl
theorem zy174 : zm_tb.getD 174 [] = zm_t174 := rfl
theorem zy175 : zm_tb.getD 175 [] = zm_t175 := rfl
theorem zy176 : zm_tb.getD 176 [] = zm_t176 := rfl
theorem zy177 : zm_tb.getD 177 [] = zm_t177 := rfl
theorem zy178 : zm_tb.getD 178 [] = zm_t178 := rfl
theorem zy179 : zm_tb.getD 179 [] = zm_t179 := rfl
theorem zy180 : zm_tb.getD 180 [] = zm_t180 := rfl
theorem zy181 : zm_tb.getD 181 [] = zm_t181 := rfl
theorem zy182 : zm_tb.getD 182 [] = zm_t182 := rfl
theorem zy183 : zm_tb.getD 183 [] = zm_t183 := rfl
theorem zy184 : zm_tb.getD 184 [] = zm_t184 := rfl
theorem zy185 : zm_tb.getD 185 [] = zm_t185 := rfl
theorem zy186 : zm_tb.getD 186 [] = zm_t186 := rfl
theorem zy187 : zm_tb.getD 187 [] = zm_t187 := rfl
theorem zy188 : zm_tb.getD 188 [] = zm_t188 := rfl
theorem zy189 : zm_tb.getD 189 [] = zm_t189 := rfl
theorem zy190 : zm_tb.getD 190 [] = zm_t190 := rfl
theorem zy191 : zm_tb.getD 191 [] = zm_t191 := rfl
theorem zy192 : zm_tb.getD 192 [] = zm_t192 := rfl
theorem zy193 : zm_tb.getD 193 [] = zm_t193 := rfl
theorem zy194 : zm_tb.getD 194 [] = zm_t194 := rfl
theorem zy195 : zm_tb.getD 195 [] = zm_t195 := rfl
theorem zy196 : zm_tb.getD 196 [] = zm_t196 := rfl
theorem zy197 : zm_tb.getD 197 [] = zm_t197 := rfl
theorem zy198 : zm_tb.getD 198 [] = zm_t198 := rfl
theorem zy199 : zm_tb.getD 199 [] = zm_t199 := rfl
theorem zy200 : zm_tb.getD 200 [] = zm_t200 := rfl
theorem zy201 : zm_tb.getD 201 [] = zm_t201 := rfl
theorem zy202 : zm_tb.getD 202 [] = zm_t202 := rfl
theorem zy203 : zm_tb.getD 203 [] = zm_t203 := rfl
theorem zy204 : zm_tb.getD 204 [] = zm_t204 := rfl
theorem zy205 : zm_tb.getD 205 [] = zm_t205 := rfl
theorem zy206 : zm_tb.getD 206 [] = zm_t206 := rfl
theorem zy207 : zm_tb.getD 207 [] = zm_t207 := rfl
theorem zy208 : zm_tb.getD 208 [] = zm_t208 := rfl
theorem zy209 : zm_tb.getD 209 [] = zm_t209 := rfl
theorem zy210 : zm_tb.getD 210 [] = zm_t210 := rfl
theorem zy211 : zm_tb.getD 211 [] = zm_t211 := rfl
theorem zy212 : zm_tb.getD 212 [] = zm_t212 := rfl
theorem zy213 : zm_tb.getD 213 [] = zm_t213 := rfl

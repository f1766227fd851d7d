/-! A row an instruction: how a run goes on. Printed by wip/whole/gen_rows.py. -/
section ZR
variable {d y pc pc' len k t n : Nat} {i : Instr} {ls ls' : zm_L} {st r : List Value} {M M' : zm_M} {P : Option Value → zm_M → Prop} {x z v : Int32} {lx lz lv : Int64} {tb : List (Nat × Instr × Nat)} {off : Int}
theorem zr_at (hy : zm_tb.getD y [] = tb) (h : zm_lk tb pc = some (i, len)) : zm_at y pc = some (i, len) := by
  unfold zm_at
  rw [hy]
  exact h
theorem zr_iconst {nn : Int} (hy : zm_tb.getD y [] = tb) (ha : zm_lk tb pc = some (.iconst nn, 1)) (hv : zm_lit nn = v) (h : zt d y (pc + 1) ls (.int v :: st) M P) : zt d y pc ls (st) M P := zt_ss1 (zr_at hy ha) rfl (by rw [← hv]; rfl) h
theorem zr_bipush {nn : Int} (hy : zm_tb.getD y [] = tb) (ha : zm_lk tb pc = some (.bipush nn, 2)) (hv : zm_lit nn = v) (h : zt d y (pc + 2) ls (.int v :: st) M P) : zt d y pc ls (st) M P := zt_ss1 (zr_at hy ha) rfl (by rw [← hv]; rfl) h
theorem zr_sipush {nn : Int} (hy : zm_tb.getD y [] = tb) (ha : zm_lk tb pc = some (.sipush nn, 3)) (hv : zm_lit nn = v) (h : zt d y (pc + 3) ls (.int v :: st) M P) : zt d y pc ls (st) M P := zt_ss1 (zr_at hy ha) rfl (by rw [← hv]; rfl) h
theorem zr_lconst {nn : Fin 2} (hy : zm_tb.getD y [] = tb) (ha : zm_lk tb pc = some (.lconst nn, 1)) (hv : Int64.ofNat (nn : Nat) = lv) (h : zt d y (pc + 1) ls (.long lv :: st) M P) : zt d y pc ls (st) M P := zt_ss1 (zr_at hy ha) rfl (by rw [← hv]; rfl) h
theorem zr_iload_n {kk : Fin 4} (hy : zm_tb.getD y [] = tb) (ha : zm_lk tb pc = some (.iload_n kk, 1)) (hg : zm_get ls (kk : Nat) = some (.int x)) (h : zt d y (pc + 1) ls (.int x :: st) M P) : zt d y pc ls (st) M P := zt_ss1 (zr_at hy ha) rfl (by unfold zm_ss1; dsimp only; rw [hg]) h
theorem zr_aload_n {kk : Fin 4} (hy : zm_tb.getD y [] = tb) (ha : zm_lk tb pc = some (.aload_n kk, 1)) (hg : zm_get ls (kk : Nat) = some (.ref n)) (h : zt d y (pc + 1) ls (.ref n :: st) M P) : zt d y pc ls (st) M P := zt_ss1 (zr_at hy ha) rfl (by unfold zm_ss1; dsimp only; rw [hg]) h
theorem zr_lload_n {kk : Fin 4} (hy : zm_tb.getD y [] = tb) (ha : zm_lk tb pc = some (.lload_n kk, 1)) (hg : zm_get ls (kk : Nat) = some (.long lx)) (h : zt d y (pc + 1) ls (.long lx :: st) M P) : zt d y pc ls (st) M P := zt_ss1 (zr_at hy ha) rfl (by unfold zm_ss1; dsimp only; rw [hg]) h
theorem zr_iload  (hy : zm_tb.getD y [] = tb) (ha : zm_lk tb pc = some (.iload k, 2)) (hg : zm_get ls k = some (.int x)) (h : zt d y (pc + 2) ls (.int x :: st) M P) : zt d y pc ls (st) M P := zt_ss1 (zr_at hy ha) rfl (by unfold zm_ss1; dsimp only; rw [hg]) h
theorem zr_aload  (hy : zm_tb.getD y [] = tb) (ha : zm_lk tb pc = some (.aload k, 2)) (hg : zm_get ls k = some (.ref n)) (h : zt d y (pc + 2) ls (.ref n :: st) M P) : zt d y pc ls (st) M P := zt_ss1 (zr_at hy ha) rfl (by unfold zm_ss1; dsimp only; rw [hg]) h
theorem zr_lload  (hy : zm_tb.getD y [] = tb) (ha : zm_lk tb pc = some (.lload k, 2)) (hg : zm_get ls k = some (.long lx)) (h : zt d y (pc + 2) ls (.long lx :: st) M P) : zt d y pc ls (st) M P := zt_ss1 (zr_at hy ha) rfl (by unfold zm_ss1; dsimp only; rw [hg]) h
theorem zr_iadd  (hy : zm_tb.getD y [] = tb) (ha : zm_lk tb pc = some (.iadd, 1))  (h : zt d y (pc + 1) ls (.int (x + z) :: r) M P) : zt d y pc ls (.int z :: .int x :: r) M P := zt_ss1 (zr_at hy ha) rfl (rfl) h
theorem zr_isub  (hy : zm_tb.getD y [] = tb) (ha : zm_lk tb pc = some (.isub, 1))  (h : zt d y (pc + 1) ls (.int (x - z) :: r) M P) : zt d y pc ls (.int z :: .int x :: r) M P := zt_ss1 (zr_at hy ha) rfl (rfl) h
theorem zr_imul  (hy : zm_tb.getD y [] = tb) (ha : zm_lk tb pc = some (.imul, 1))  (h : zt d y (pc + 1) ls (.int (x * z) :: r) M P) : zt d y pc ls (.int z :: .int x :: r) M P := zt_ss1 (zr_at hy ha) rfl (rfl) h
theorem zr_iand  (hy : zm_tb.getD y [] = tb) (ha : zm_lk tb pc = some (.iand, 1))  (h : zt d y (pc + 1) ls (.int (x &&& z) :: r) M P) : zt d y pc ls (.int z :: .int x :: r) M P := zt_ss1 (zr_at hy ha) rfl (rfl) h
theorem zr_ior  (hy : zm_tb.getD y [] = tb) (ha : zm_lk tb pc = some (.ior, 1))  (h : zt d y (pc + 1) ls (.int (x ||| z) :: r) M P) : zt d y pc ls (.int z :: .int x :: r) M P := zt_ss1 (zr_at hy ha) rfl (rfl) h
theorem zr_ixor  (hy : zm_tb.getD y [] = tb) (ha : zm_lk tb pc = some (.ixor, 1))  (h : zt d y (pc + 1) ls (.int (x ^^^ z) :: r) M P) : zt d y pc ls (.int z :: .int x :: r) M P := zt_ss1 (zr_at hy ha) rfl (rfl) h
theorem zr_ishl  (hy : zm_tb.getD y [] = tb) (ha : zm_lk tb pc = some (.ishl, 1))  (h : zt d y (pc + 1) ls (.int (x <<< (z &&& 31)) :: r) M P) : zt d y pc ls (.int z :: .int x :: r) M P := zt_ss1 (zr_at hy ha) rfl (rfl) h
theorem zr_ishr  (hy : zm_tb.getD y [] = tb) (ha : zm_lk tb pc = some (.ishr, 1))  (h : zt d y (pc + 1) ls (.int (x >>> (z &&& 31)) :: r) M P) : zt d y pc ls (.int z :: .int x :: r) M P := zt_ss1 (zr_at hy ha) rfl (rfl) h
theorem zr_iushr  (hy : zm_tb.getD y [] = tb) (ha : zm_lk tb pc = some (.iushr, 1))  (h : zt d y (pc + 1) ls (.int ((x.toUInt32 >>> (z.toUInt32 &&& Int32.toUInt32 31)).toInt32) :: r) M P) : zt d y pc ls (.int z :: .int x :: r) M P := zt_ss1 (zr_at hy ha) rfl (rfl) h
theorem zr_ladd  (hy : zm_tb.getD y [] = tb) (ha : zm_lk tb pc = some (.ladd, 1))  (h : zt d y (pc + 1) ls (.long (lx + lz) :: r) M P) : zt d y pc ls (.long lz :: .long lx :: r) M P := zt_ss1 (zr_at hy ha) rfl (rfl) h
theorem zr_lmul  (hy : zm_tb.getD y [] = tb) (ha : zm_lk tb pc = some (.lmul, 1))  (h : zt d y (pc + 1) ls (.long (lx * lz) :: r) M P) : zt d y pc ls (.long lz :: .long lx :: r) M P := zt_ss1 (zr_at hy ha) rfl (rfl) h
theorem zr_land  (hy : zm_tb.getD y [] = tb) (ha : zm_lk tb pc = some (.land, 1))  (h : zt d y (pc + 1) ls (.long (lx &&& lz) :: r) M P) : zt d y pc ls (.long lz :: .long lx :: r) M P := zt_ss1 (zr_at hy ha) rfl (rfl) h
theorem zr_lor  (hy : zm_tb.getD y [] = tb) (ha : zm_lk tb pc = some (.lor, 1))  (h : zt d y (pc + 1) ls (.long (lx ||| lz) :: r) M P) : zt d y pc ls (.long lz :: .long lx :: r) M P := zt_ss1 (zr_at hy ha) rfl (rfl) h
theorem zr_lshl  (hy : zm_tb.getD y [] = tb) (ha : zm_lk tb pc = some (.lshl, 1))  (h : zt d y (pc + 1) ls (.long (lx <<< (z.toInt64 &&& 63)) :: r) M P) : zt d y pc ls (.int z :: .long lx :: r) M P := zt_ss1 (zr_at hy ha) rfl (rfl) h
theorem zr_lshr  (hy : zm_tb.getD y [] = tb) (ha : zm_lk tb pc = some (.lshr, 1))  (h : zt d y (pc + 1) ls (.long (lx >>> (z.toInt64 &&& 63)) :: r) M P) : zt d y pc ls (.int z :: .long lx :: r) M P := zt_ss1 (zr_at hy ha) rfl (rfl) h
theorem zr_lushr  (hy : zm_tb.getD y [] = tb) (ha : zm_lk tb pc = some (.lushr, 1))  (h : zt d y (pc + 1) ls (.long ((lx.toUInt64 >>> (z.toInt64.toUInt64 &&& Int64.toUInt64 63)).toInt64) :: r) M P) : zt d y pc ls (.int z :: .long lx :: r) M P := zt_ss1 (zr_at hy ha) rfl (rfl) h
theorem zr_lcmp  (hy : zm_tb.getD y [] = tb) (ha : zm_lk tb pc = some (.lcmp, 1))  (h : zt d y (pc + 1) ls (.int (lg_cmp lx lz) :: r) M P) : zt d y pc ls (.long lz :: .long lx :: r) M P := zt_ss1 (zr_at hy ha) rfl (rfl) h
theorem zr_ineg  (hy : zm_tb.getD y [] = tb) (ha : zm_lk tb pc = some (.ineg, 1))  (h : zt d y (pc + 1) ls (.int (-x) :: r) M P) : zt d y pc ls (.int x :: r) M P := zt_ss1 (zr_at hy ha) rfl (rfl) h
theorem zr_i2b  (hy : zm_tb.getD y [] = tb) (ha : zm_lk tb pc = some (.i2b, 1))  (h : zt d y (pc + 1) ls (.int x.toInt8.toInt32 :: r) M P) : zt d y pc ls (.int x :: r) M P := zt_ss1 (zr_at hy ha) rfl (rfl) h
theorem zr_i2s  (hy : zm_tb.getD y [] = tb) (ha : zm_lk tb pc = some (.i2s, 1))  (h : zt d y (pc + 1) ls (.int x.toInt16.toInt32 :: r) M P) : zt d y pc ls (.int x :: r) M P := zt_ss1 (zr_at hy ha) rfl (rfl) h
theorem zr_i2c  (hy : zm_tb.getD y [] = tb) (ha : zm_lk tb pc = some (.i2c, 1))  (h : zt d y (pc + 1) ls (.int (x.toUInt32 % 65536).toInt32 :: r) M P) : zt d y pc ls (.int x :: r) M P := zt_ss1 (zr_at hy ha) rfl (rfl) h
theorem zr_i2l  (hy : zm_tb.getD y [] = tb) (ha : zm_lk tb pc = some (.i2l, 1))  (h : zt d y (pc + 1) ls (.long x.toInt64 :: r) M P) : zt d y pc ls (.int x :: r) M P := zt_ss1 (zr_at hy ha) rfl (rfl) h
theorem zr_l2i  (hy : zm_tb.getD y [] = tb) (ha : zm_lk tb pc = some (.l2i, 1))  (h : zt d y (pc + 1) ls (.int lx.toInt32 :: r) M P) : zt d y pc ls (.long lx :: r) M P := zt_ss1 (zr_at hy ha) rfl (rfl) h
theorem zr_dup_i  (hy : zm_tb.getD y [] = tb) (ha : zm_lk tb pc = some (.dup, 1))  (h : zt d y (pc + 1) ls (.int x :: .int x :: r) M P) : zt d y pc ls (.int x :: r) M P := zt_ss1 (zr_at hy ha) rfl (rfl) h
theorem zr_dup_r  (hy : zm_tb.getD y [] = tb) (ha : zm_lk tb pc = some (.dup, 1))  (h : zt d y (pc + 1) ls (.ref n :: .ref n :: r) M P) : zt d y pc ls (.ref n :: r) M P := zt_ss1 (zr_at hy ha) rfl (rfl) h
theorem zr_dup2  (hy : zm_tb.getD y [] = tb) (ha : zm_lk tb pc = some (.dup2, 1))  (h : zt d y (pc + 1) ls (.int x :: .ref n :: .int x :: .ref n :: r) M P) : zt d y pc ls (.int x :: .ref n :: r) M P := zt_ss1 (zr_at hy ha) rfl (rfl) h
theorem zr_pop  (hy : zm_tb.getD y [] = tb) (ha : zm_lk tb pc = some (.pop, 1))  (h : zt d y (pc + 1) ls (r) M P) : zt d y pc ls (.int x :: r) M P := zt_ss1 (zr_at hy ha) rfl (rfl) h
theorem zr_idiv  (hy : zm_tb.getD y [] = tb) (ha : zm_lk tb pc = some (.idiv, 1)) (hz : ¬ z = 0) (h : zt d y (pc + 1) ls (.int (x / z) :: r) M P) : zt d y pc ls (.int z :: .int x :: r) M P := zt_ss1 (zr_at hy ha) rfl (by unfold zm_ss1; dsimp only; rw [if_neg hz]) h
theorem zr_irem  (hy : zm_tb.getD y [] = tb) (ha : zm_lk tb pc = some (.irem, 1)) (hz : ¬ z = 0) (h : zt d y (pc + 1) ls (.int (x - x / z * z) :: r) M P) : zt d y pc ls (.int z :: .int x :: r) M P := zt_ss1 (zr_at hy ha) rfl (by unfold zm_ss1; dsimp only; rw [if_neg hz]) h
theorem zr_ldiv  (hy : zm_tb.getD y [] = tb) (ha : zm_lk tb pc = some (.ldiv, 1)) (hz : ¬ lz = 0) (h : zt d y (pc + 1) ls (.long (lx / lz) :: r) M P) : zt d y pc ls (.long lz :: .long lx :: r) M P := zt_ss1 (zr_at hy ha) rfl (by unfold zm_ss1; dsimp only; rw [if_neg hz]) h
theorem zr_lrem  (hy : zm_tb.getD y [] = tb) (ha : zm_lk tb pc = some (.lrem, 1)) (hz : ¬ lz = 0) (h : zt d y (pc + 1) ls (.long (lx - lx / lz * lz) :: r) M P) : zt d y pc ls (.long lz :: .long lx :: r) M P := zt_ss1 (zr_at hy ha) rfl (by unfold zm_ss1; dsimp only; rw [if_neg hz]) h
theorem zr_get {vv : Value} (hy : zm_tb.getD y [] = tb) (ha : zm_lk tb pc = some (.getfield k, 3)) (hg : zm_gf y k n M = some vv) (h : zt d y (pc + 3) ls (vv :: r) M P) : zt d y pc ls (.ref n :: r) M P := zt_ss1 (zr_at hy ha) rfl (by unfold zm_ss1; dsimp only; rw [hg]) h
theorem zr_gets {vv : Value} (hy : zm_tb.getD y [] = tb) (ha : zm_lk tb pc = some (.getstatic k, 3)) (hg : zm_ss1 y (.getstatic k) ls st M = some (vv :: st)) (h : zt d y (pc + 3) ls (vv :: st) M P) : zt d y pc ls (st) M P := zt_ss1 (zr_at hy ha) rfl (hg) h
theorem zr_ldc {vv : Value} (hy : zm_tb.getD y [] = tb) (ha : zm_lk tb pc = some (.ldc k, 2)) (hg : zm_ss1 y (.ldc k) ls st M = some (vv :: st)) (h : zt d y (pc + 2) ls (vv :: st) M P) : zt d y pc ls (st) M P := zt_ss1 (zr_at hy ha) rfl (hg) h
theorem zr_ldc_w {vv : Value} (hy : zm_tb.getD y [] = tb) (ha : zm_lk tb pc = some (.ldc_w k, 3)) (hg : zm_ss1 y (.ldc_w k) ls st M = some (vv :: st)) (h : zt d y (pc + 3) ls (vv :: st) M P) : zt d y pc ls (st) M P := zt_ss1 (zr_at hy ha) rfl (hg) h
theorem zr_ldc2 {vv : Value} (hy : zm_tb.getD y [] = tb) (ha : zm_lk tb pc = some (.ldc2_w k, 3)) (hg : zm_ss1 y (.ldc2_w k) ls st M = some (vv :: st)) (h : zt d y (pc + 3) ls (vv :: st) M P) : zt d y pc ls (st) M P := zt_ss1 (zr_at hy ha) rfl (hg) h
theorem zr_ald (hy : zm_tb.getD y [] = tb) (ha : zm_lk tb pc = some (.iaload, 1)) (hk : zm_kd k = 20) (hn : zm_ln k = n) (hv : M.1 k x.toNatClampNeg = v) (hi : zm_inb x n = true) (h : zt d y (pc + 1) ls (.int v :: r) M P) : zt d y pc ls (.int x :: .ref k :: r) M P := by
  subst hv
  subst hn
  exact zt_ss1 (zr_at hy ha) rfl (by
    have e9 : zm_ald y k x M = some (.int (M.1 k x.toNatClampNeg)) := by unfold zm_ald; rw [hk]; exact if_pos hi
    unfold zm_ss1; dsimp only; rw [e9] <;> rfl) h
theorem zr_aldt (hy : zm_tb.getD y [] = tb) (ha : zm_lk tb pc = some (.iaload, 1)) (hk : zm_kd k = 30) (hn : zm_ln k = n) (hi : zm_inb x n = true) (h : zt d y (pc + 1) ls (.int (zm_sv k x.toNatClampNeg) :: r) M P) : zt d y pc ls (.int x :: .ref k :: r) M P := by
  subst hn
  exact zt_ss1 (zr_at hy ha) rfl (by
    have e9 : zm_ald y k x M = some (.int (zm_sv k x.toNatClampNeg)) := by unfold zm_ald; rw [hk]; exact if_pos hi
    unfold zm_ss1; dsimp only; rw [e9] <;> rfl) h
theorem zr_alds (hy : zm_tb.getD 0 [] = tb) (ha : zm_lk tb pc = some (.iaload, 1)) (hi : zm_inb x M.2.2.2.1 = true) (h : zt d 0 (pc + 1) ls (.int (M.2.2.2.2 x.toNatClampNeg) :: r) M P) : zt d 0 pc ls (.int x :: .ref 120 :: r) M P := by
  exact zt_ss1 (zr_at hy ha) rfl (by
    have e9 : zm_ald 0 120 x M = some (.int (M.2.2.2.2 x.toNatClampNeg)) := by unfold zm_ald; exact if_pos ⟨rfl, hi⟩
    unfold zm_ss1; dsimp only; rw [e9] <;> rfl) h
theorem zr_bald (hy : zm_tb.getD y [] = tb) (ha : zm_lk tb pc = some (.baload, 1)) (hk : zm_kd k = 32) (hn : zm_ln k = n) (hi : zm_inb x n = true) (h : zt d y (pc + 1) ls (.int (zm_sb k x.toNatClampNeg) :: r) M P) : zt d y pc ls (.int x :: .ref k :: r) M P := by
  subst hn
  exact zt_ss1 (zr_at hy ha) rfl (by unfold zm_ss1; dsimp only; rw [hk]; exact if_pos hi) h
theorem zr_aald {aa : Nat} (hy : zm_tb.getD y [] = tb) (ha : zm_lk tb pc = some (.aaload, 1)) (hk : zm_kd k = 21) (hn : zm_ln k = n) (hi : zm_inb x n = true) (hr : zm_rf k x.toNatClampNeg = some aa) (h : zt d y (pc + 1) ls (.ref aa :: r) M P) : zt d y pc ls (.int x :: .ref k :: r) M P := by
  subst hn
  exact zt_ss1 (zr_at hy ha) rfl (by unfold zm_ss1; dsimp only; rw [hk]; exact (if_pos hi).trans (by rw [hr])) h
theorem zr_alen (hy : zm_tb.getD y [] = tb) (ha : zm_lk tb pc = some (.arraylength, 1)) (hv : zm_alen y k M = some v) (h : zt d y (pc + 1) ls (.int v :: r) M P) : zt d y pc ls (.ref k :: r) M P := zt_ss1 (zr_at hy ha) rfl (by unfold zm_ss1; dsimp only; rw [hv]) h
theorem zr_istore_n {kk : Fin 4} (hy : zm_tb.getD y [] = tb) (ha : zm_lk tb pc = some (.istore_n kk, 1)) (hs : zm_sst (.istore_n kk) ls (.int x :: r) = some (ls', r)) (h : zt d y (pc + 1) ls' r M P) : zt d y pc ls (.int x :: r) M P := zt_sst (zr_at hy ha) rfl rfl hs h
theorem zr_istore  (hy : zm_tb.getD y [] = tb) (ha : zm_lk tb pc = some (.istore k, 2)) (hs : zm_sst (.istore k) ls (.int x :: r) = some (ls', r)) (h : zt d y (pc + 2) ls' r M P) : zt d y pc ls (.int x :: r) M P := zt_sst (zr_at hy ha) rfl rfl hs h
theorem zr_astore_n {kk : Fin 4} (hy : zm_tb.getD y [] = tb) (ha : zm_lk tb pc = some (.astore_n kk, 1)) (hs : zm_sst (.astore_n kk) ls (.ref n :: r) = some (ls', r)) (h : zt d y (pc + 1) ls' r M P) : zt d y pc ls (.ref n :: r) M P := zt_sst (zr_at hy ha) rfl rfl hs h
theorem zr_astore  (hy : zm_tb.getD y [] = tb) (ha : zm_lk tb pc = some (.astore k, 2)) (hs : zm_sst (.astore k) ls (.ref n :: r) = some (ls', r)) (h : zt d y (pc + 2) ls' r M P) : zt d y pc ls (.ref n :: r) M P := zt_sst (zr_at hy ha) rfl rfl hs h
theorem zr_lstore_n {kk : Fin 4} (hy : zm_tb.getD y [] = tb) (ha : zm_lk tb pc = some (.lstore_n kk, 1)) (hs : zm_sst (.lstore_n kk) ls (.long lx :: r) = some (ls', r)) (h : zt d y (pc + 1) ls' r M P) : zt d y pc ls (.long lx :: r) M P := zt_sst (zr_at hy ha) rfl rfl hs h
theorem zr_lstore  (hy : zm_tb.getD y [] = tb) (ha : zm_lk tb pc = some (.lstore k, 2)) (hs : zm_sst (.lstore k) ls (.long lx :: r) = some (ls', r)) (h : zt d y (pc + 2) ls' r M P) : zt d y pc ls (.long lx :: r) M P := zt_sst (zr_at hy ha) rfl rfl hs h
theorem zr_iinc {nn : Int} (hy : zm_tb.getD y [] = tb) (ha : zm_lk tb pc = some (.iinc k nn, 3)) (hs : zm_sst (.iinc k nn) ls st = some (ls', st)) (h : zt d y (pc + 3) ls' st M P) : zt d y pc ls st M P := zt_sst (zr_at hy ha) rfl rfl hs h
theorem zr_cb {c : Jvm.ClassFile.Cond} {A B : Nat → Prop} (h : zcb c x z (A t) (A n)) : A (if zm_cmp c x z = true then t else n) := by
  obtain ⟨h1, h2⟩ := zcb_snd h
  by_cases hc : zm_cmp c x z = true
  · rw [if_pos hc]; exact h1 hc
  · rw [if_neg hc]; exact h2 hc
theorem zr_icmp_eq (hy : zm_tb.getD y [] = tb) (ha : zm_lk tb pc = some (.if_icmp .eq off, 3)) (ht : zm_tg pc off = some t) (hp : x = z → zt d y t ls r M P) (hq : ¬ x = z → zt d y (pc + 3) ls r M P) : zt d y pc ls (.int z :: .int x :: r) M P := zt_sj (pc' := if zm_cmp .eq x z = true then t else pc + 3) (st' := r) (zr_at hy ha) rfl rfl rfl (by unfold zm_sj; dsimp only; rw [ht]) (zr_cb (B := fun _ => True) (A := fun t => zt d y t ls r M P) (c := .eq) ⟨hp, hq⟩)
theorem zr_if_eq (hy : zm_tb.getD y [] = tb) (ha : zm_lk tb pc = some (.ifCond .eq off, 3)) (ht : zm_tg pc off = some t) (hp : x = 0 → zt d y t ls r M P) (hq : ¬ x = 0 → zt d y (pc + 3) ls r M P) : zt d y pc ls (.int x :: r) M P := zt_sj (pc' := if zm_cmp .eq x 0 = true then t else pc + 3) (st' := r) (zr_at hy ha) rfl rfl rfl (by unfold zm_sj; dsimp only; rw [ht]) (zr_cb (B := fun _ => True) (A := fun t => zt d y t ls r M P) (c := .eq) ⟨hp, hq⟩)
theorem zr_icmp_ne (hy : zm_tb.getD y [] = tb) (ha : zm_lk tb pc = some (.if_icmp .ne off, 3)) (ht : zm_tg pc off = some t) (hp : x = z → zt d y (pc + 3) ls r M P) (hq : ¬ x = z → zt d y t ls r M P) : zt d y pc ls (.int z :: .int x :: r) M P := zt_sj (pc' := if zm_cmp .ne x z = true then t else pc + 3) (st' := r) (zr_at hy ha) rfl rfl rfl (by unfold zm_sj; dsimp only; rw [ht]) (zr_cb (B := fun _ => True) (A := fun t => zt d y t ls r M P) (c := .ne) ⟨hp, hq⟩)
theorem zr_if_ne (hy : zm_tb.getD y [] = tb) (ha : zm_lk tb pc = some (.ifCond .ne off, 3)) (ht : zm_tg pc off = some t) (hp : x = 0 → zt d y (pc + 3) ls r M P) (hq : ¬ x = 0 → zt d y t ls r M P) : zt d y pc ls (.int x :: r) M P := zt_sj (pc' := if zm_cmp .ne x 0 = true then t else pc + 3) (st' := r) (zr_at hy ha) rfl rfl rfl (by unfold zm_sj; dsimp only; rw [ht]) (zr_cb (B := fun _ => True) (A := fun t => zt d y t ls r M P) (c := .ne) ⟨hp, hq⟩)
theorem zr_icmp_lt (hy : zm_tb.getD y [] = tb) (ha : zm_lk tb pc = some (.if_icmp .lt off, 3)) (ht : zm_tg pc off = some t) (hp : x < z → zt d y t ls r M P) (hq : ¬ x < z → zt d y (pc + 3) ls r M P) : zt d y pc ls (.int z :: .int x :: r) M P := zt_sj (pc' := if zm_cmp .lt x z = true then t else pc + 3) (st' := r) (zr_at hy ha) rfl rfl rfl (by unfold zm_sj; dsimp only; rw [ht]) (zr_cb (B := fun _ => True) (A := fun t => zt d y t ls r M P) (c := .lt) ⟨hp, hq⟩)
theorem zr_if_lt (hy : zm_tb.getD y [] = tb) (ha : zm_lk tb pc = some (.ifCond .lt off, 3)) (ht : zm_tg pc off = some t) (hp : x < 0 → zt d y t ls r M P) (hq : ¬ x < 0 → zt d y (pc + 3) ls r M P) : zt d y pc ls (.int x :: r) M P := zt_sj (pc' := if zm_cmp .lt x 0 = true then t else pc + 3) (st' := r) (zr_at hy ha) rfl rfl rfl (by unfold zm_sj; dsimp only; rw [ht]) (zr_cb (B := fun _ => True) (A := fun t => zt d y t ls r M P) (c := .lt) ⟨hp, hq⟩)
theorem zr_icmp_ge (hy : zm_tb.getD y [] = tb) (ha : zm_lk tb pc = some (.if_icmp .ge off, 3)) (ht : zm_tg pc off = some t) (hp : x < z → zt d y (pc + 3) ls r M P) (hq : ¬ x < z → zt d y t ls r M P) : zt d y pc ls (.int z :: .int x :: r) M P := zt_sj (pc' := if zm_cmp .ge x z = true then t else pc + 3) (st' := r) (zr_at hy ha) rfl rfl rfl (by unfold zm_sj; dsimp only; rw [ht]) (zr_cb (B := fun _ => True) (A := fun t => zt d y t ls r M P) (c := .ge) ⟨hp, hq⟩)
theorem zr_if_ge (hy : zm_tb.getD y [] = tb) (ha : zm_lk tb pc = some (.ifCond .ge off, 3)) (ht : zm_tg pc off = some t) (hp : x < 0 → zt d y (pc + 3) ls r M P) (hq : ¬ x < 0 → zt d y t ls r M P) : zt d y pc ls (.int x :: r) M P := zt_sj (pc' := if zm_cmp .ge x 0 = true then t else pc + 3) (st' := r) (zr_at hy ha) rfl rfl rfl (by unfold zm_sj; dsimp only; rw [ht]) (zr_cb (B := fun _ => True) (A := fun t => zt d y t ls r M P) (c := .ge) ⟨hp, hq⟩)
theorem zr_icmp_gt (hy : zm_tb.getD y [] = tb) (ha : zm_lk tb pc = some (.if_icmp .gt off, 3)) (ht : zm_tg pc off = some t) (hp : z < x → zt d y t ls r M P) (hq : ¬ z < x → zt d y (pc + 3) ls r M P) : zt d y pc ls (.int z :: .int x :: r) M P := zt_sj (pc' := if zm_cmp .gt x z = true then t else pc + 3) (st' := r) (zr_at hy ha) rfl rfl rfl (by unfold zm_sj; dsimp only; rw [ht]) (zr_cb (B := fun _ => True) (A := fun t => zt d y t ls r M P) (c := .gt) ⟨hp, hq⟩)
theorem zr_if_gt (hy : zm_tb.getD y [] = tb) (ha : zm_lk tb pc = some (.ifCond .gt off, 3)) (ht : zm_tg pc off = some t) (hp : 0 < x → zt d y t ls r M P) (hq : ¬ 0 < x → zt d y (pc + 3) ls r M P) : zt d y pc ls (.int x :: r) M P := zt_sj (pc' := if zm_cmp .gt x 0 = true then t else pc + 3) (st' := r) (zr_at hy ha) rfl rfl rfl (by unfold zm_sj; dsimp only; rw [ht]) (zr_cb (B := fun _ => True) (A := fun t => zt d y t ls r M P) (c := .gt) ⟨hp, hq⟩)
theorem zr_icmp_le (hy : zm_tb.getD y [] = tb) (ha : zm_lk tb pc = some (.if_icmp .le off, 3)) (ht : zm_tg pc off = some t) (hp : z < x → zt d y (pc + 3) ls r M P) (hq : ¬ z < x → zt d y t ls r M P) : zt d y pc ls (.int z :: .int x :: r) M P := zt_sj (pc' := if zm_cmp .le x z = true then t else pc + 3) (st' := r) (zr_at hy ha) rfl rfl rfl (by unfold zm_sj; dsimp only; rw [ht]) (zr_cb (B := fun _ => True) (A := fun t => zt d y t ls r M P) (c := .le) ⟨hp, hq⟩)
theorem zr_if_le (hy : zm_tb.getD y [] = tb) (ha : zm_lk tb pc = some (.ifCond .le off, 3)) (ht : zm_tg pc off = some t) (hp : 0 < x → zt d y (pc + 3) ls r M P) (hq : ¬ 0 < x → zt d y t ls r M P) : zt d y pc ls (.int x :: r) M P := zt_sj (pc' := if zm_cmp .le x 0 = true then t else pc + 3) (st' := r) (zr_at hy ha) rfl rfl rfl (by unfold zm_sj; dsimp only; rw [ht]) (zr_cb (B := fun _ => True) (A := fun t => zt d y t ls r M P) (c := .le) ⟨hp, hq⟩)
theorem zr_goto (hy : zm_tb.getD y [] = tb) (ha : zm_lk tb pc = some (.goto off, 3)) (ht : zm_tg pc off = some t) (h : zt d y t ls st M P) : zt d y pc ls st M P := zt_sj (pc' := t) (st' := st) (zr_at hy ha) rfl rfl rfl (by unfold zm_sj; dsimp only; rw [ht]) h
theorem zr_zw (n : Nat) (cut : List (Nat × List Nat)) (h : zw n cut d y pc ls st M P) : zt d y pc ls st M P := zw_snd _ _ _ _ _ _ _ _ _ h
theorem zr_tsw {dflt lo hi : Int} {offs : Array Int} {len : Nat} (hy : zm_tb.getD y [] = tb) (ha : zm_lk tb pc = some (.tableswitch dflt lo hi offs, len)) (hq : (decide (hi = lo + (offs.toList.length : Int) - 1) && (decide (-1000 ≤ lo) && decide (lo + (offs.toList.length : Int) ≤ 1000))) = true) (h : zsw (fun off => zj pc off (fun t => zt d y t ls r M P)) x lo offs.toList dflt) : zt d y pc ls (.int x :: r) M P := by
  simp only [Bool.and_eq_true, decide_eq_true_eq] at hq
  obtain ⟨t9, ht9, h8⟩ := zj_inv (zsw_snd offs.toList lo dflt hq.2.1 hq.2.2 h)
  exact zt_sj (pc' := t9) (st' := r) (zr_at hy ha) rfl rfl rfl (by unfold zm_sj; dsimp only; rw [if_pos hq.1, ht9] <;> rfl) h8
theorem zr_lsw {dflt : Int} {ps : Array (Int × Int)} {len : Nat} (hy : zm_tb.getD y [] = tb) (ha : zm_lk tb pc = some (.lookupswitch dflt ps, len)) (hq : ((ps.toList.zip (ps.toList.drop 1)).all (fun (a, next) => a.1 < next.1) && ps.toList.all (fun p => decide (-1000 ≤ p.1 ∧ p.1 ≤ 1000))) = true) (h : zlw (fun off => zj pc off (fun t => zt d y t ls r M P)) x ps.toList dflt) : zt d y pc ls (.int x :: r) M P := by
  rw [Bool.and_eq_true] at hq
  obtain ⟨t9, ht9, h8⟩ := zj_inv (zlw_snd ps.toList dflt hq.2 h)
  exact zt_sj (pc' := t9) (st' := r) (zr_at hy ha) rfl rfl rfl (by unfold zm_sj; dsimp only; rw [if_pos hq.1, ht9] <;> rfl) h8
theorem zr_sw {c : Int32} {K : Int → Prop} {o : Int} {l : List Int} {lo dd : Int} (hv : zm_lit lo = c) (h1 : x = c → K o) (h2 : ¬ x = c → zsw K x (lo + 1) l dd) : zsw K x lo (o :: l) dd := by
  subst hv
  exact ⟨h1, h2⟩
theorem zr_lw {c : Int32} {K : Int → Prop} {a o : Int} {l : List (Int × Int)} {dd : Int} (hv : zm_lit a = c) (h1 : x = c → K o) (h2 : ¬ x = c → zlw K x l dd) : zlw K x ((a, o) :: l) dd := by
  subst hv
  exact ⟨h1, h2⟩
theorem zr_j {K : Nat → Prop} (ht : zm_tg pc off = some t) (h : K t) : zj pc off K := by
  unfold zj
  rw [ht]
  exact h
theorem zr_put {vv : Value} (hy : zm_tb.getD y [] = tb) (ha : zm_lk tb pc = some (.putfield k, 3)) (hs : zm_pf y k n vv M = some M') (h : zt d y (pc + 3) ls r M' P) : zt d y pc ls (vv :: .ref n :: r) M P := zt_sm (zr_at hy ha) rfl rfl rfl rfl (by unfold zm_sm; dsimp only; rw [hs] <;> rfl) h
theorem zr_pb {ci sl : Nat} {pos : Nat} (hf : zm_fl (zm_yc y) k = some (ci, sl, pos)) (hc : zm_kd n = ci) (h4 : zm_ft ci sl = 4) (hx : x = 0 ∨ x = 1) : zm_pf y k n (.int x) M = some (zm_si M n sl x) := by
  unfold zm_pf
  rw [hf]
  refine (if_pos hc).trans ?_
  unfold zm_pv
  rw [h4]
  exact if_pos hx
theorem zr_pn {ci sl q : Nat} {pos : Nat} (hf : zm_fl (zm_yc y) k = some (ci, sl, pos)) (hc : zm_kd n = ci) (h4 : zm_ft ci sl = 3) (hx : q = 110 ∨ q = 111) : zm_pf y k n (.ref q) M = some (zm_ss M q) := by
  unfold zm_pf
  rw [hf]
  refine (if_pos hc).trans ?_
  unfold zm_pv
  rw [h4]
  exact if_pos hx
theorem zr_ast (hy : zm_tb.getD y [] = tb) (ha : zm_lk tb pc = some (.iastore, 1)) (hk : zm_kd k = 20) (hn : zm_ln k = n) (hi : zm_inb z n = true) (h : zt d y (pc + 1) ls r (zm_si M k z.toNatClampNeg x) P) : zt d y pc ls (.int x :: .int z :: .ref k :: r) M P := by
  subst hn
  exact zt_sm (zr_at hy ha) rfl rfl rfl rfl (by unfold zm_sm; dsimp only; rw [hk]; exact if_pos hi) h
theorem zr_min {pos : Nat} (hy : zm_tb.getD y [] = tb) (ha : zm_lk tb pc = some (.invokestatic k, 3)) (hb : zm_bi (zm_yc y) k = some (1, pos)) (hc : zm_cs r = true) (h : zt (d + 1) y (pc + 3) ls (.int (if z < x then z else x) :: r) M P) : zt (d + 1) y pc ls (.int z :: .int x :: r) M P := zt_sm (zr_at hy ha) rfl rfl rfl rfl (by unfold zm_sm; dsimp only; rw [if_neg (Nat.succ_ne_zero _), hb]; exact if_pos hc) h
theorem zr_max {pos : Nat} (hy : zm_tb.getD y [] = tb) (ha : zm_lk tb pc = some (.invokestatic k, 3)) (hb : zm_bi (zm_yc y) k = some (2, pos)) (hc : zm_cs r = true) (h : zt (d + 1) y (pc + 3) ls (.int (if x < z then z else x) :: r) M P) : zt (d + 1) y pc ls (.int z :: .int x :: r) M P := zt_sm (zr_at hy ha) rfl rfl rfl rfl (by unfold zm_sm; dsimp only; rw [if_neg (Nat.succ_ne_zero _), hb]; exact if_pos hc) h
theorem zr_copy {pos aa gg na ng : Nat} {sp dp nn : Int32} (hy : zm_tb.getD y [] = tb) (ha : zm_lk tb pc = some (.invokestatic k, 3)) (hb : zm_bi (zm_yc y) k = some (3, pos)) (hc : zm_cs r = true) (hka : zm_kd aa = 20) (hkg : zm_kd gg = 20) (hna : zm_ln aa = na) (hng : zm_ln gg = ng) (hq : ¬ sp < 0 ∧ ¬ dp < 0 ∧ ¬ nn < 0 ∧ sp.toNatClampNeg + nn.toNatClampNeg ≤ na ∧ dp.toNatClampNeg + nn.toNatClampNeg ≤ ng) (h : zt (d + 1) y (pc + 3) ls r (zm_sr M gg (va_cpy (M.1 aa) (M.1 gg) sp.toNatClampNeg dp.toNatClampNeg nn.toNatClampNeg)) P) : zt (d + 1) y pc ls (.int nn :: .int dp :: .ref gg :: .int sp :: .ref aa :: r) M P := by
  subst hna
  subst hng
  exact zt_sm (zr_at hy ha) rfl rfl rfl rfl (by unfold zm_sm; dsimp only; rw [if_neg (Nat.succ_ne_zero _), hb]; exact if_pos ⟨hc, hka, hkg, hq⟩) h
theorem zr_callis {y9 : Nat} {as : List Value} {K : Int32 → zm_M → Prop} (hy : zm_tb.getD y [] = tb) (ha : zm_lk tb pc = some (.invokestatic k, 3)) (hb : zm_bi (zm_yc y) k = none) (hc : zm_cal y (.invokestatic k) st = some (y9, as, r)) (hl : Nat.ble (zm_flat as).length (zm_mx y9) = true) (h : zi d y9 as M K) (hk : ∀ x M1, K x M1 → zt (d + 1) y (pc + 3) ls (.int x :: r) M1 P) : zt (d + 1) y pc ls st M P := zq_cal 9 (zr_at hy ha) rfl rfl rfl rfl (by unfold zm_sm; dsimp only; rw [if_neg (Nat.succ_ne_zero _), hb]) hc (Nat.le_of_ble_eq_true hl) (zt.mono h (fun v M1 q => by
    cases v with
    | none => exact q.elim
    | some w => cases w <;> first | exact q.elim | exact hk _ _ q))
theorem zr_calliv {y9 : Nat} {as : List Value} {K : Int32 → zm_M → Prop} (hy : zm_tb.getD y [] = tb) (ha : zm_lk tb pc = some (.invokevirtual k, 3)) (hc : zm_cal y (.invokevirtual k) st = some (y9, as, r)) (hl : Nat.ble (zm_flat as).length (zm_mx y9) = true) (h : zi d y9 as M K) (hk : ∀ x M1, K x M1 → zt (d + 1) y (pc + 3) ls (.int x :: r) M1 P) : zt (d + 1) y pc ls st M P := zq_cal 9 (zr_at hy ha) rfl rfl rfl rfl rfl hc (Nat.le_of_ble_eq_true hl) (zt.mono h (fun v M1 q => by
    cases v with
    | none => exact q.elim
    | some w => cases w <;> first | exact q.elim | exact hk _ _ q))
theorem zr_callls {y9 : Nat} {as : List Value} {K : Int64 → zm_M → Prop} (hy : zm_tb.getD y [] = tb) (ha : zm_lk tb pc = some (.invokestatic k, 3)) (hb : zm_bi (zm_yc y) k = none) (hc : zm_cal y (.invokestatic k) st = some (y9, as, r)) (hl : Nat.ble (zm_flat as).length (zm_mx y9) = true) (h : zl d y9 as M K) (hk : ∀ lx M1, K lx M1 → zt (d + 1) y (pc + 3) ls (.long lx :: r) M1 P) : zt (d + 1) y pc ls st M P := zq_cal 3 (zr_at hy ha) rfl rfl rfl rfl (by unfold zm_sm; dsimp only; rw [if_neg (Nat.succ_ne_zero _), hb]) hc (Nat.le_of_ble_eq_true hl) (zt.mono h (fun v M1 q => by
    cases v with
    | none => exact q.elim
    | some w => cases w <;> first | exact q.elim | exact hk _ _ q))
theorem zr_calllv {y9 : Nat} {as : List Value} {K : Int64 → zm_M → Prop} (hy : zm_tb.getD y [] = tb) (ha : zm_lk tb pc = some (.invokevirtual k, 3)) (hc : zm_cal y (.invokevirtual k) st = some (y9, as, r)) (hl : Nat.ble (zm_flat as).length (zm_mx y9) = true) (h : zl d y9 as M K) (hk : ∀ lx M1, K lx M1 → zt (d + 1) y (pc + 3) ls (.long lx :: r) M1 P) : zt (d + 1) y pc ls st M P := zq_cal 3 (zr_at hy ha) rfl rfl rfl rfl rfl hc (Nat.le_of_ble_eq_true hl) (zt.mono h (fun v M1 q => by
    cases v with
    | none => exact q.elim
    | some w => cases w <;> first | exact q.elim | exact hk _ _ q))
theorem zr_callrs {y9 : Nat} {as : List Value} {K : Nat → zm_M → Prop} (hy : zm_tb.getD y [] = tb) (ha : zm_lk tb pc = some (.invokestatic k, 3)) (hb : zm_bi (zm_yc y) k = none) (hc : zm_cal y (.invokestatic k) st = some (y9, as, r)) (hl : Nat.ble (zm_flat as).length (zm_mx y9) = true) (h : zr d y9 as M K) (hk : ∀ n M1, K n M1 → zt (d + 1) y (pc + 3) ls (.ref n :: r) M1 P) : zt (d + 1) y pc ls st M P := zq_cal 4 (zr_at hy ha) rfl rfl rfl rfl (by unfold zm_sm; dsimp only; rw [if_neg (Nat.succ_ne_zero _), hb]) hc (Nat.le_of_ble_eq_true hl) (zt.mono h (fun v M1 q => by
    cases v with
    | none => exact q.elim
    | some w => cases w <;> first | exact q.elim | exact hk _ _ q))
theorem zr_callrv {y9 : Nat} {as : List Value} {K : Nat → zm_M → Prop} (hy : zm_tb.getD y [] = tb) (ha : zm_lk tb pc = some (.invokevirtual k, 3)) (hc : zm_cal y (.invokevirtual k) st = some (y9, as, r)) (hl : Nat.ble (zm_flat as).length (zm_mx y9) = true) (h : zr d y9 as M K) (hk : ∀ n M1, K n M1 → zt (d + 1) y (pc + 3) ls (.ref n :: r) M1 P) : zt (d + 1) y pc ls st M P := zq_cal 4 (zr_at hy ha) rfl rfl rfl rfl rfl hc (Nat.le_of_ble_eq_true hl) (zt.mono h (fun v M1 q => by
    cases v with
    | none => exact q.elim
    | some w => cases w <;> first | exact q.elim | exact hk _ _ q))
theorem zr_callvs {y9 : Nat} {as : List Value} {K : zm_M → Prop} (hy : zm_tb.getD y [] = tb) (ha : zm_lk tb pc = some (.invokestatic k, 3)) (hb : zm_bi (zm_yc y) k = none) (hc : zm_cal y (.invokestatic k) st = some (y9, as, r)) (hl : Nat.ble (zm_flat as).length (zm_mx y9) = true) (h : zv d y9 as M K) (hk : ∀ M1, K M1 → zt (d + 1) y (pc + 3) ls (r) M1 P) : zt (d + 1) y pc ls st M P := zq_cal 0 (zr_at hy ha) rfl rfl rfl rfl (by unfold zm_sm; dsimp only; rw [if_neg (Nat.succ_ne_zero _), hb]) hc (Nat.le_of_ble_eq_true hl) (zt.mono h (fun v M1 q => by
    cases v with
    | none => exact hk _ q
    | some w => exact q.elim))
theorem zr_callvv {y9 : Nat} {as : List Value} {K : zm_M → Prop} (hy : zm_tb.getD y [] = tb) (ha : zm_lk tb pc = some (.invokevirtual k, 3)) (hc : zm_cal y (.invokevirtual k) st = some (y9, as, r)) (hl : Nat.ble (zm_flat as).length (zm_mx y9) = true) (h : zv d y9 as M K) (hk : ∀ M1, K M1 → zt (d + 1) y (pc + 3) ls (r) M1 P) : zt (d + 1) y pc ls st M P := zq_cal 0 (zr_at hy ha) rfl rfl rfl rfl rfl hc (Nat.le_of_ble_eq_true hl) (zt.mono h (fun v M1 q => by
    cases v with
    | none => exact hk _ q
    | some w => exact q.elim))
theorem zr_ireturn (hy : zm_tb.getD y [] = tb) (ha : zm_lk tb pc = some (.ireturn, 1)) (hk : zm_rk y = 1) (h : P (some (.int x)) M) : zt d y pc ls [.int x] M P := zt_ret (v := some (.int x)) (zr_at hy ha) (by unfold zm_ret; rw [hk] <;> rfl) h
theorem zr_zreturn (hy : zm_tb.getD y [] = tb) (ha : zm_lk tb pc = some (.ireturn, 1)) (hk : zm_rk y = 2) (h : (x = 0 ∨ x = 1) ∧ P (some (.int x)) M) : zt d y pc ls [.int x] M P := zt_ret (v := some (.int x)) (zr_at hy ha) (by unfold zm_ret; rw [hk]; exact if_pos h.1) h.2
theorem zr_breturn (hy : zm_tb.getD y [] = tb) (ha : zm_lk tb pc = some (.ireturn, 1)) (hk : zm_rk y = 5) (h : x = 0 ∧ P (some (.int x)) M) : zt d y pc ls [.int x] M P := zt_ret (v := some (.int x)) (zr_at hy ha) (by unfold zm_ret; rw [hk]; exact if_pos h.1) h.2
theorem zr_lreturn (hy : zm_tb.getD y [] = tb) (ha : zm_lk tb pc = some (.lreturn, 1)) (hk : zm_rk y = 3) (h : P (some (.long lx)) M) : zt d y pc ls [.long lx] M P := zt_ret (v := some (.long lx)) (zr_at hy ha) (by unfold zm_ret; rw [hk] <;> rfl) h
theorem zr_areturn (hy : zm_tb.getD y [] = tb) (ha : zm_lk tb pc = some (.areturn, 1)) (hk : zm_rk y = 4) (h : P (some (.ref n)) M) : zt d y pc ls [.ref n] M P := zt_ret (v := some (.ref n)) (zr_at hy ha) (by unfold zm_ret; rw [hk] <;> rfl) h
theorem zr_return (hy : zm_tb.getD y [] = tb) (ha : zm_lk tb pc = some (.return_, 1)) (hk : zm_rk y = 0) (h : P none M) : zt d y pc ls [] M P := zt_ret (v := none) (zr_at hy ha) (by unfold zm_ret; rw [hk] <;> rfl) h
theorem zr_fg (fs : List Nat) (hf : zfg fs ls = ls') (h : zt d y pc ls' st M P) : zt d y pc ls st M P := by
  subst hf
  exact zt.weak h (zfg_le _ _)
end ZR

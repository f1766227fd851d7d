/-! The constructors: names, code, instructions as listed, what their pools link. Printed by wip/whole/gen97.py. -/
def zk_md : List (MethodName × ByteArray × Nat × Nat) := [(⟨"FathersPay$Bonds", "<init>", "()V"⟩, prog_2_method_1_code, 1, 0),
  (⟨"FathersPay$Chances", "<init>", "(LFathersPay$Town;LFathersPay$Trial;)V"⟩, prog_3_method_1_code, 3, 2),
  (⟨"FathersPay$Desk", "<init>", "()V"⟩, prog_4_method_1_code, 1, 0),
  (⟨"FathersPay$Folk", "<init>", "()V"⟩, prog_5_method_1_code, 1, 0),
  (⟨"FathersPay$Reader", "<init>", "()V"⟩, prog_6_method_1_code, 1, 0),
  (⟨"FathersPay$Sheets", "<init>", "()V"⟩, prog_7_method_1_code, 1, 0),
  (⟨"FathersPay$Text", "<init>", "()V"⟩, prog_8_method_1_code, 1, 0),
  (⟨"FathersPay$Town", "<init>", "()V"⟩, prog_9_method_1_code, 1, 0),
  (⟨"FathersPay$Trial", "<init>", "(LFathersPay$Town;)V"⟩, prog_10_method_1_code, 2, 1),
  (⟨"FathersPay$Voices", "<init>", "()V"⟩, prog_11_method_1_code, 1, 0),
  (⟨"FathersPay", "<init>", "()V"⟩, prog_1_method_1_code, 1, 0),
  (⟨"FathersPayModel", "<init>", "()V"⟩, prog_13_method_1_code, 1, 0)]
def zk_nm (y : Nat) : MethodName := (zk_md.getD y (⟨"", "", ""⟩, ⟨#[]⟩, 0, 0)).1
def zk_cd (y : Nat) : ByteArray := (zk_md.getD y (⟨"", "", ""⟩, ⟨#[]⟩, 0, 0)).2.1
def zk_mx (y : Nat) : Nat := (zk_md.getD y (⟨"", "", ""⟩, ⟨#[]⟩, 0, 0)).2.2.1
def zk_na (y : Nat) : Nat := (zk_md.getD y (⟨"", "", ""⟩, ⟨#[]⟩, 0, 0)).2.2.2
def zk_t0 : List (Nat × Instr × Nat) := [(0, .aload_n 0, 1), (1, .invokespecial 3, 3), (4, .aload_n 0, 1), (5, .iconst 0, 1), (6, .putfield 9, 3), (9, .aload_n 0, 1), (10, .iconst 4, 1), (11, .bipush 10, 2), (13, .multianewarray 15 2, 4), (17, .putfield 17, 3), (20, .aload_n 0, 1), (21, .aload_n 0, 1), (22, .getfield 17, 3), (25, .iconst 0, 1), (26, .aaload, 1), (27, .putfield 20, 3), (30, .aload_n 0, 1), (31, .aload_n 0, 1), (32, .getfield 17, 3), (35, .iconst 1, 1), (36, .aaload, 1), (37, .putfield 24, 3), (40, .aload_n 0, 1), (41, .aload_n 0, 1), (42, .getfield 17, 3), (45, .iconst 2, 1), (46, .aaload, 1), (47, .putfield 27, 3), (50, .aload_n 0, 1), (51, .aload_n 0, 1), (52, .getfield 17, 3), (55, .iconst 3, 1), (56, .aaload, 1), (57, .putfield 30, 3), (60, .return_, 1)]
def zk_t1 : List (Nat × Instr × Nat) := [(0, .aload_n 0, 1), (1, .invokespecial 3, 3), (4, .aload_n 0, 1), (5, .bipush 9, 2), (7, .newarray .int, 2), (9, .putfield 9, 3), (12, .aload_n 0, 1), (13, .iconst 0, 1), (14, .putfield 15, 3), (17, .aload_n 0, 1), (18, .lconst 0, 1), (19, .putfield 19, 3), (22, .aload_n 0, 1), (23, .lconst 1, 1), (24, .putfield 23, 3), (27, .aload_n 0, 1), (28, .aload_n 1, 1), (29, .putfield 26, 3), (32, .aload_n 0, 1), (33, .aload_n 2, 1), (34, .putfield 30, 3), (37, .return_, 1)]
def zk_t2 : List (Nat × Instr × Nat) := [(0, .aload_n 0, 1), (1, .invokespecial 3, 3), (4, .aload_n 0, 1), (5, .bipush 60, 2), (7, .newarray .int, 2), (9, .putfield 9, 3), (12, .aload_n 0, 1), (13, .bipush 24, 2), (15, .newarray .int, 2), (17, .putfield 15, 3), (20, .aload_n 0, 1), (21, .iconst 0, 1), (22, .putfield 18, 3), (25, .aload_n 0, 1), (26, .iconst 0, 1), (27, .putfield 22, 3), (30, .return_, 1)]
def zk_t3 : List (Nat × Instr × Nat) := [(0, .aload_n 0, 1), (1, .invokespecial 3, 3), (4, .aload_n 0, 1), (5, .iconst 0, 1), (6, .putfield 9, 3), (9, .aload_n 0, 1), (10, .bipush 8, 2), (12, .bipush 12, 2), (14, .multianewarray 15 2, 4), (18, .putfield 17, 3), (21, .aload_n 0, 1), (22, .aload_n 0, 1), (23, .getfield 17, 3), (26, .iconst 0, 1), (27, .aaload, 1), (28, .putfield 20, 3), (31, .aload_n 0, 1), (32, .aload_n 0, 1), (33, .getfield 17, 3), (36, .iconst 1, 1), (37, .aaload, 1), (38, .putfield 24, 3), (41, .aload_n 0, 1), (42, .aload_n 0, 1), (43, .getfield 17, 3), (46, .iconst 2, 1), (47, .aaload, 1), (48, .putfield 27, 3), (51, .aload_n 0, 1), (52, .aload_n 0, 1), (53, .getfield 17, 3), (56, .iconst 3, 1), (57, .aaload, 1), (58, .putfield 30, 3), (61, .aload_n 0, 1), (62, .aload_n 0, 1), (63, .getfield 17, 3), (66, .iconst 4, 1), (67, .aaload, 1), (68, .putfield 33, 3), (71, .aload_n 0, 1), (72, .aload_n 0, 1), (73, .getfield 17, 3), (76, .iconst 5, 1), (77, .aaload, 1), (78, .putfield 36, 3), (81, .aload_n 0, 1), (82, .aload_n 0, 1), (83, .getfield 17, 3), (86, .bipush 6, 2), (88, .aaload, 1), (89, .putfield 39, 3), (92, .aload_n 0, 1), (93, .aload_n 0, 1), (94, .getfield 17, 3), (97, .bipush 7, 2), (99, .aaload, 1), (100, .putfield 42, 3), (103, .return_, 1)]
def zk_t4 : List (Nat × Instr × Nat) := [(0, .aload_n 0, 1), (1, .invokespecial 3, 3), (4, .aload_n 0, 1), (5, .bipush 60, 2), (7, .newarray .int, 2), (9, .putfield 9, 3), (12, .aload_n 0, 1), (13, .iconst 0, 1), (14, .putfield 15, 3), (17, .aload_n 0, 1), (18, .iconst 0, 1), (19, .putfield 19, 3), (22, .aload_n 0, 1), (23, .bipush 60, 2), (25, .newarray .int, 2), (27, .putfield 22, 3), (30, .aload_n 0, 1), (31, .iconst 0, 1), (32, .putfield 25, 3), (35, .aload_n 0, 1), (36, .ldc 28, 2), (38, .putfield 30, 3), (41, .return_, 1)]
def zk_t5 : List (Nat × Instr × Nat) := [(0, .aload_n 0, 1), (1, .invokespecial 3, 3), (4, .aload_n 0, 1), (5, .iconst 4, 1), (6, .newarray .int, 2), (8, .putfield 9, 3), (11, .aload_n 0, 1), (12, .iconst 4, 1), (13, .newarray .int, 2), (15, .putfield 15, 3), (18, .aload_n 0, 1), (19, .iconst 4, 1), (20, .bipush 24, 2), (22, .multianewarray 18 2, 4), (26, .putfield 20, 3), (29, .return_, 1)]
def zk_t6 : List (Nat × Instr × Nat) := [(0, .aload_n 0, 1), (1, .invokespecial 3, 3), (4, .aload_n 0, 1), (5, .iconst 0, 1), (6, .putfield 9, 3), (9, .aload_n 0, 1), (10, .iconst 0, 1), (11, .putfield 15, 3), (14, .aload_n 0, 1), (15, .bipush 60, 2), (17, .newarray .int, 2), (19, .putfield 19, 3), (22, .aload_n 0, 1), (23, .bipush 60, 2), (25, .newarray .int, 2), (27, .putfield 23, 3), (30, .aload_n 0, 1), (31, .iconst 5, 1), (32, .newarray .int, 2), (34, .putfield 26, 3), (37, .return_, 1)]
def zk_t7 : List (Nat × Instr × Nat) := [(0, .aload_n 0, 1), (1, .invokespecial 3, 3), (4, .aload_n 0, 1), (5, .new 9, 3), (8, .dup, 1), (9, .invokespecial 11, 3), (12, .putfield 12, 3), (15, .aload_n 0, 1), (16, .new 18, 3), (19, .dup, 1), (20, .invokespecial 20, 3), (23, .putfield 21, 3), (26, .aload_n 0, 1), (27, .new 25, 3), (30, .dup, 1), (31, .invokespecial 27, 3), (34, .putfield 28, 3), (37, .aload_n 0, 1), (38, .new 32, 3), (41, .dup, 1), (42, .invokespecial 34, 3), (45, .putfield 35, 3), (48, .aload_n 0, 1), (49, .new 32, 3), (52, .dup, 1), (53, .invokespecial 34, 3), (56, .putfield 39, 3), (59, .aload_n 0, 1), (60, .iconst 3, 1), (61, .newarray .int, 2), (63, .putfield 42, 3), (66, .aload_n 0, 1), (67, .iconst 0, 1), (68, .putfield 46, 3), (71, .aload_n 0, 1), (72, .iconst 0, 1), (73, .putfield 50, 3), (76, .aload_n 0, 1), (77, .iconst 1, 1), (78, .putfield 53, 3), (81, .aload_n 0, 1), (82, .getfield 42, 3), (85, .iconst 0, 1), (86, .getstatic 56, 3), (89, .iconst 0, 1), (90, .iaload, 1), (91, .iastore, 1), (92, .return_, 1)]
def zk_t8 : List (Nat × Instr × Nat) := [(0, .aload_n 0, 1), (1, .invokespecial 3, 3), (4, .aload_n 0, 1), (5, .bipush 12, 2), (7, .newarray .int, 2), (9, .putfield 9, 3), (12, .aload_n 0, 1), (13, .bipush 12, 2), (15, .newarray .int, 2), (17, .putfield 15, 3), (20, .aload_n 0, 1), (21, .bipush 12, 2), (23, .newarray .int, 2), (25, .putfield 18, 3), (28, .aload_n 0, 1), (29, .bipush 12, 2), (31, .newarray .int, 2), (33, .putfield 21, 3), (36, .aload_n 0, 1), (37, .bipush 12, 2), (39, .newarray .int, 2), (41, .putfield 24, 3), (44, .aload_n 0, 1), (45, .bipush 12, 2), (47, .newarray .int, 2), (49, .putfield 27, 3), (52, .aload_n 0, 1), (53, .iconst 0, 1), (54, .putfield 30, 3), (57, .aload_n 0, 1), (58, .aload_n 1, 1), (59, .putfield 34, 3), (62, .aload_n 0, 1), (63, .aload_n 1, 1), (64, .getfield 38, 3), (67, .putfield 44, 3), (70, .return_, 1)]
def zk_t9 : List (Nat × Instr × Nat) := [(0, .aload_n 0, 1), (1, .invokespecial 3, 3), (4, .aload_n 0, 1), (5, .bipush 30, 2), (7, .newarray .int, 2), (9, .putfield 9, 3), (12, .aload_n 0, 1), (13, .iconst 0, 1), (14, .putfield 15, 3), (17, .aload_n 0, 1), (18, .iconst 0, 1), (19, .putfield 19, 3), (22, .aload_n 0, 1), (23, .iconst 0, 1), (24, .putfield 23, 3), (27, .aload_n 0, 1), (28, .iconst 0, 1), (29, .putfield 26, 3), (32, .aload_n 0, 1), (33, .iconst 0, 1), (34, .putfield 29, 3), (37, .return_, 1)]
def zk_t10 : List (Nat × Instr × Nat) := [(0, .aload_n 0, 1), (1, .invokespecial 1, 3), (4, .aload_n 0, 1), (5, .new 7, 3), (8, .dup, 1), (9, .invokespecial 9, 3), (12, .putfield 10, 3), (15, .aload_n 0, 1), (16, .new 7, 3), (19, .dup, 1), (20, .invokespecial 9, 3), (23, .putfield 16, 3), (26, .aload_n 0, 1), (27, .new 19, 3), (30, .dup, 1), (31, .aload_n 0, 1), (32, .getfield 10, 3), (35, .invokespecial 21, 3), (38, .putfield 24, 3), (41, .aload_n 0, 1), (42, .new 28, 3), (45, .dup, 1), (46, .aload_n 0, 1), (47, .getfield 10, 3), (50, .aload_n 0, 1), (51, .getfield 24, 3), (54, .invokespecial 30, 3), (57, .putfield 33, 3), (60, .aload_n 0, 1), (61, .new 37, 3), (64, .dup, 1), (65, .invokespecial 39, 3), (68, .putfield 40, 3), (71, .aload_n 0, 1), (72, .new 44, 3), (75, .dup, 1), (76, .invokespecial 46, 3), (79, .putfield 47, 3), (82, .aload_n 0, 1), (83, .new 51, 3), (86, .dup, 1), (87, .invokespecial 53, 3), (90, .putfield 54, 3), (93, .aload_n 0, 1), (94, .bipush 7, 2), (96, .newarray .int, 2), (98, .putfield 58, 3), (101, .aload_n 0, 1), (102, .iconst 0, 1), (103, .putfield 62, 3), (106, .return_, 1)]
def zk_t11 : List (Nat × Instr × Nat) := [(0, .aload_n 0, 1), (1, .invokespecial 1, 3), (4, .aload_n 0, 1), (5, .sipush 480, 3), (8, .newarray .int, 2), (10, .putfield 7, 3), (13, .aload_n 0, 1), (14, .sipush 480, 3), (17, .newarray .int, 2), (19, .putfield 13, 3), (22, .aload_n 0, 1), (23, .sipush 480, 3), (26, .newarray .int, 2), (28, .putfield 16, 3), (31, .aload_n 0, 1), (32, .bipush 7, 2), (34, .newarray .int, 2), (36, .putfield 19, 3), (39, .aload_n 0, 1), (40, .bipush 124, 2), (42, .newarray .int, 2), (44, .putfield 22, 3), (47, .aload_n 0, 1), (48, .sipush 128, 3), (51, .newarray .int, 2), (53, .putfield 25, 3), (56, .aload_n 0, 1), (57, .bipush 64, 2), (59, .newarray .int, 2), (61, .putfield 28, 3), (64, .aload_n 0, 1), (65, .bipush 12, 2), (67, .newarray .int, 2), (69, .putfield 31, 3), (72, .aload_n 0, 1), (73, .bipush 9, 2), (75, .newarray .int, 2), (77, .putfield 34, 3), (80, .aload_n 0, 1), (81, .bipush 30, 2), (83, .newarray .int, 2), (85, .putfield 37, 3), (88, .aload_n 0, 1), (89, .iconst 4, 1), (90, .newarray .int, 2), (92, .putfield 40, 3), (95, .aload_n 0, 1), (96, .iconst 4, 1), (97, .newarray .int, 2), (99, .putfield 43, 3), (102, .aload_n 0, 1), (103, .bipush 96, 2), (105, .newarray .int, 2), (107, .putfield 46, 3), (110, .aload_n 0, 1), (111, .bipush 24, 2), (113, .newarray .int, 2), (115, .putfield 49, 3), (118, .aload_n 0, 1), (119, .getfield 7, 3), (122, .bipush 6, 2), (124, .iconst 1, 1), (125, .iastore, 1), (126, .aload_n 0, 1), (127, .getfield 7, 3), (130, .bipush 7, 2), (132, .bipush 9, 2), (134, .iastore, 1), (135, .return_, 1)]
def zk_tb (y : Nat) : List (Nat × Instr × Nat) := [zk_t0, zk_t1, zk_t2, zk_t3, zk_t4, zk_t5, zk_t6, zk_t7, zk_t8, zk_t9, zk_t10, zk_t11].getD y []
def zk_chk (y : Nat) (e : Nat × Instr × Nat) : Bool := decide (decode (zk_cd y) e.1 = .ok (e.2.1, e.2.2))
theorem zk_ok0 : zk_t0.all (zk_chk 0) = true := by decide +kernel
theorem zk_ok1 : zk_t1.all (zk_chk 1) = true := by decide +kernel
theorem zk_ok2 : zk_t2.all (zk_chk 2) = true := by decide +kernel
theorem zk_ok3 : zk_t3.all (zk_chk 3) = true := by decide +kernel
theorem zk_ok4 : zk_t4.all (zk_chk 4) = true := by decide +kernel
theorem zk_ok5 : zk_t5.all (zk_chk 5) = true := by decide +kernel
theorem zk_ok6 : zk_t6.all (zk_chk 6) = true := by decide +kernel
theorem zk_ok7 : zk_t7.all (zk_chk 7) = true := by decide +kernel
theorem zk_ok8 : zk_t8.all (zk_chk 8) = true := by decide +kernel
theorem zk_ok9 : zk_t9.all (zk_chk 9) = true := by decide +kernel
theorem zk_ok10 : zk_t10.all (zk_chk 10) = true := by decide +kernel
theorem zk_ok11 : zk_t11.all (zk_chk 11) = true := by decide +kernel
theorem zk_dec {y : Nat} (hy : y < 12) {e : Nat × Instr × Nat} (h : e ∈ zk_tb y) : decode (zk_cd y) e.1 = .ok (e.2.1, e.2.2) := by
  have h1 : (zk_tb y).all (zk_chk y) = true := by
    have c : y = 0 ∨ y = 1 ∨ y = 2 ∨ y = 3 ∨ y = 4 ∨ y = 5 ∨ y = 6 ∨ y = 7 ∨ y = 8 ∨ y = 9 ∨ y = 10 ∨ y = 11 := by omega
    rcases c with rfl | rfl | rfl | rfl | rfl | rfl | rfl | rfl | rfl | rfl | rfl | rfl
    · exact zk_ok0
    · exact zk_ok1
    · exact zk_ok2
    · exact zk_ok3
    · exact zk_ok4
    · exact zk_ok5
    · exact zk_ok6
    · exact zk_ok7
    · exact zk_ok8
    · exact zk_ok9
    · exact zk_ok10
    · exact zk_ok11
  exact of_decide_eq_true (List.all_eq_true.mp h1 e h)
/-- places of the words: code, initialized, instanceMethod by constructor; instantiable by class -/
def zk_ps : List (Nat × Nat × Nat × Nat) := [(177, 77, 176, 174), (344, 81, 343, 341), (213, 78, 212, 210), (112, 76, 111, 109), (371, 82, 370, 368), (429, 84, 428, 426), (236, 79, 235, 233), (106, 75, 105, 103), (304, 80, 303, 301), (401, 83, 400, 398), (98, 74, 97, 95), (1044, 85, 1043, 1041)]
def zk_bps (y : Nat) : Bool := zm_w (zk_ps.getD y (0, 0, 0, 0)).1 (.code (zk_nm y) (zk_cd y) (zk_mx y) none) && (zm_w (zk_ps.getD y (0, 0, 0, 0)).2.1 (.initialized (zm_cn y)) && (zm_w (zk_ps.getD y (0, 0, 0, 0)).2.2.1 (.instanceMethod (zk_nm y)) && (zm_w (zk_ps.getD y (0, 0, 0, 0)).2.2.2 (.instantiable (zm_cn y) (zm_nf y)) && (decide ((zk_nm y).cls = zm_cn y) && (decide ((zk_nm y).cls ≠ "java/lang/invoke/MethodHandle") && (decide ((zk_nm y).cls ≠ "java/lang/invoke/VarHandle") && (plainName (zk_nm y).cls && (decide ((parseMethodDescriptor (zk_nm y).desc).map (fun d => d.parameters.length) = some (zk_na y)) && (Nat.ble (zk_mx y) 3 && decide ((zk_nm y).name = "<init>"))))))))))
theorem zk_psA : (List.range 12).all zk_bps = true := by decide +kernel
/-- classes by the pool: place, class, place of the word -/
def zk_clT : List (List (Nat × Nat × Nat)) := [[], [], [], [], [], [], [], [(9, 3, 108), (18, 0, 173), (25, 2, 209), (32, 6, 232)], [], [], [(7, 7, 102), (19, 8, 300), (28, 1, 340), (37, 4, 367), (44, 9, 397), (51, 5, 425)], [], [(7, 10, 94), (10, 11, 1040)]]
def zk_cl (o k : Nat) : Option (Nat × Nat) := zm_la (zk_clT.getD o []) k
def zk_bcl (o : Nat) (e : Nat × Nat × Nat) : Bool := zm_w e.2.2 (.classLink (zm_cn o) e.1 (zm_cn e.2.1)) && decide (e.2.1 < 12)
theorem zk_clA : ((List.range 13).all fun o => (zk_clT.getD o []).all (zk_bcl o)) = true := by decide +kernel
/-- rows of ints by the pool: class, place, place of the word -/
def zk_mc : List (Nat × Nat × Nat) := [(0, 15, 179), (3, 15, 114), (5, 18, 431)]
theorem zk_mcA : zk_mc.all (fun e => zm_w e.2.2 (.classLink (zm_cn e.1) e.2.1 "[[I")) = true := by decide +kernel
/-- constructors by the pool: place, constructor (12: of an Object), by nest mates, place of the word -/
def zk_mlT : List (List (Nat × Nat × Bool × Nat)) := [[(3, 12, false, 178)], [(3, 12, false, 345)], [(3, 12, false, 214)], [(3, 12, false, 113)], [(3, 12, false, 372)], [(3, 12, false, 430)], [(3, 12, false, 237)], [(3, 12, false, 107), (11, 3, true, 110), (20, 0, true, 175), (27, 2, true, 211), (34, 6, true, 234)], [(3, 12, false, 305)], [(3, 12, false, 402)], [(1, 12, false, 99), (9, 7, false, 104), (21, 8, false, 302), (30, 1, false, 342), (39, 4, true, 369), (46, 9, true, 399), (53, 5, true, 427)], [(1, 12, false, 1045)], [(9, 10, false, 96), (12, 11, false, 1042)]]
def zk_ml (o k : Nat) : Option (Nat × Bool × Nat) := zm_la (zk_mlT.getD o []) k
def zk_nw : List (Nat × Nat × Nat × Nat) := [(10, 39, 4, 369), (10, 46, 9, 399), (10, 53, 5, 427), (7, 11, 3, 110), (7, 20, 0, 175), (7, 27, 2, 211), (7, 34, 6, 234)]
def zk_bml (o : Nat) (e : Nat × Nat × Bool × Nat) : Bool := bif Nat.beq e.2.1 12 then (!e.2.2.1 && zm_w e.2.2.2 (.methodLink (zm_cn o) e.1 objectInit)) else (decide (e.2.1 < 12) && (bif e.2.2.1 then zk_nw.any (fun q => Nat.beq q.1 o && (Nat.beq q.2.1 e.1 && Nat.beq q.2.2.1 e.2.1)) else zm_w e.2.2.2 (.methodLink (zm_cn o) e.1 (zk_nm e.2.1))))
theorem zk_mlA : ((List.range 13).all fun o => (zk_mlT.getD o []).all (zk_bml o)) = true := by decide +kernel
theorem zk_nwA : zk_nw.all (fun e => decide (lw_tbl[e.2.2.2]? = some (.methodLinkNest (zm_cn e.1) e.2.1 (zk_nm e.2.2.1) "FathersPay"))) = true := by decide +kernel
theorem zk_fnA : lw_tbl[257]? = some (.fieldLinkNest "FathersPay$Town" 56 "FathersPay" "MOST_LAW" "[I" "FathersPay") := by decide +kernel
theorem zk_srA : lw_tbl[373]? = some (.stringRef "FathersPay$Reader" 28 "cphsm") := by decide +kernel
theorem zk_acA : zm_w 172 (.arrayClass .int) = true := by decide +kernel
theorem zk_aoA : lw_tbl[115]? = some (.arrayOver (.array .int)) := by decide +kernel
theorem zk_oiA : zm_w 100 (.instanceMethod objectInit) = true := by decide +kernel
theorem zk_ocA : zm_w 101 (.code objectInit ⟨#[0xb1]⟩ 1 none) = true := by decide +kernel

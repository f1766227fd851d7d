section
-- ===== PART A: goes FIRST, ahead of the names: the tables' words, and 'selects' of the private methods out of them =====
/-- a private method of a class that the tables say can be made, by its rows of tables_1 -/
def lw_okq (q : MethodName × Nat) : Prop := (q.1.cls ≠ "java/lang/invoke/MethodHandle" ∧ q.1.cls ≠ "java/lang/invoke/VarHandle") ∧ Cond.instantiable q.1.cls q.2 ∈ tables_1 ∧ Cond.privateMethod q.1 ∈ tables_1 ∧ Cond.instanceMethod q.1 ∈ tables_1
theorem lw_p0 : lw_okq (⟨"FathersPay", "error", "(I)I"⟩, 9) := ⟨⟨by decide +kernel, by decide +kernel⟩, List.mem_of_getElem? (i := 22) (by decide +kernel), List.mem_of_getElem? (i := 409) (by decide +kernel), List.mem_of_getElem? (i := 410) (by decide +kernel)⟩
theorem lw_p1 : lw_okq (⟨"FathersPay", "mayOwe", "(III)Z"⟩, 9) := ⟨⟨by decide +kernel, by decide +kernel⟩, List.mem_of_getElem? (i := 22) (by decide +kernel), List.mem_of_getElem? (i := 476) (by decide +kernel), List.mem_of_getElem? (i := 477) (by decide +kernel)⟩
theorem lw_p2 : lw_okq (⟨"FathersPay", "whyNot", "(I)I"⟩, 9) := ⟨⟨by decide +kernel, by decide +kernel⟩, List.mem_of_getElem? (i := 22) (by decide +kernel), List.mem_of_getElem? (i := 496) (by decide +kernel), List.mem_of_getElem? (i := 497) (by decide +kernel)⟩
theorem lw_p3 : lw_okq (⟨"FathersPay", "defaultNow", "(I)I"⟩, 9) := ⟨⟨by decide +kernel, by decide +kernel⟩, List.mem_of_getElem? (i := 22) (by decide +kernel), List.mem_of_getElem? (i := 504) (by decide +kernel), List.mem_of_getElem? (i := 505) (by decide +kernel)⟩
theorem lw_p4 : lw_okq (⟨"FathersPay$Trial", "answer", "(III)I"⟩, 9) := ⟨⟨by decide +kernel, by decide +kernel⟩, List.mem_of_getElem? (i := 228) (by decide +kernel), List.mem_of_getElem? (i := 522) (by decide +kernel), List.mem_of_getElem? (i := 523) (by decide +kernel)⟩
theorem lw_p5 : lw_okq (⟨"FathersPay$Trial", "pay", "(II)I"⟩, 9) := ⟨⟨by decide +kernel, by decide +kernel⟩, List.mem_of_getElem? (i := 228) (by decide +kernel), List.mem_of_getElem? (i := 546) (by decide +kernel), List.mem_of_getElem? (i := 547) (by decide +kernel)⟩
theorem lw_p6 : lw_okq (⟨"FathersPay$Trial", "up", "(III)V"⟩, 9) := ⟨⟨by decide +kernel, by decide +kernel⟩, List.mem_of_getElem? (i := 228) (by decide +kernel), List.mem_of_getElem? (i := 554) (by decide +kernel), List.mem_of_getElem? (i := 555) (by decide +kernel)⟩
theorem lw_p7 : lw_okq (⟨"FathersPay$Trial", "call", "(III)V"⟩, 9) := ⟨⟨by decide +kernel, by decide +kernel⟩, List.mem_of_getElem? (i := 228) (by decide +kernel), List.mem_of_getElem? (i := 558) (by decide +kernel), List.mem_of_getElem? (i := 559) (by decide +kernel)⟩
theorem lw_p8 : lw_okq (⟨"FathersPay$Town", "freshOf", "(I)I"⟩, 9) := ⟨⟨by decide +kernel, by decide +kernel⟩, List.mem_of_getElem? (i := 30) (by decide +kernel), List.mem_of_getElem? (i := 590) (by decide +kernel), List.mem_of_getElem? (i := 591) (by decide +kernel)⟩
theorem lw_p9 : lw_okq (⟨"FathersPay$Town", "draw", "()I"⟩, 9) := ⟨⟨by decide +kernel, by decide +kernel⟩, List.mem_of_getElem? (i := 30) (by decide +kernel), List.mem_of_getElem? (i := 600) (by decide +kernel), List.mem_of_getElem? (i := 601) (by decide +kernel)⟩
theorem lw_p10 : lw_okq (⟨"FathersPay$Town", "bury", "(I)V"⟩, 9) := ⟨⟨by decide +kernel, by decide +kernel⟩, List.mem_of_getElem? (i := 30) (by decide +kernel), List.mem_of_getElem? (i := 605) (by decide +kernel), List.mem_of_getElem? (i := 606) (by decide +kernel)⟩
theorem lw_p11 : lw_okq (⟨"FathersPay$Town", "leave", "([III)V"⟩, 9) := ⟨⟨by decide +kernel, by decide +kernel⟩, List.mem_of_getElem? (i := 30) (by decide +kernel), List.mem_of_getElem? (i := 613) (by decide +kernel), List.mem_of_getElem? (i := 614) (by decide +kernel)⟩
theorem lw_p12 : lw_okq (⟨"FathersPay$Reader", "readRank", "(II)Z"⟩, 6) := ⟨⟨by decide +kernel, by decide +kernel⟩, List.mem_of_getElem? (i := 295) (by decide +kernel), List.mem_of_getElem? (i := 644) (by decide +kernel), List.mem_of_getElem? (i := 645) (by decide +kernel)⟩
theorem lw_p13 : lw_okq (⟨"FathersPay$Reader", "readUnit", "(I)Z"⟩, 6) := ⟨⟨by decide +kernel, by decide +kernel⟩, List.mem_of_getElem? (i := 295) (by decide +kernel), List.mem_of_getElem? (i := 648) (by decide +kernel), List.mem_of_getElem? (i := 649) (by decide +kernel)⟩
theorem lw_p14 : lw_okq (⟨"FathersPay$Reader", "next", "()I"⟩, 6) := ⟨⟨by decide +kernel, by decide +kernel⟩, List.mem_of_getElem? (i := 295) (by decide +kernel), List.mem_of_getElem? (i := 652) (by decide +kernel), List.mem_of_getElem? (i := 653) (by decide +kernel)⟩
theorem lw_p15 : lw_okq (⟨"FathersPay$Reader", "readNumber", "()V"⟩, 6) := ⟨⟨by decide +kernel, by decide +kernel⟩, List.mem_of_getElem? (i := 295) (by decide +kernel), List.mem_of_getElem? (i := 659) (by decide +kernel), List.mem_of_getElem? (i := 660) (by decide +kernel)⟩
def lw_privs_1 : List (MethodName × Nat) := [(⟨"FathersPay", "error", "(I)I"⟩, 9), (⟨"FathersPay", "mayOwe", "(III)Z"⟩, 9), (⟨"FathersPay", "whyNot", "(I)I"⟩, 9), (⟨"FathersPay", "defaultNow", "(I)I"⟩, 9), (⟨"FathersPay$Trial", "answer", "(III)I"⟩, 9), (⟨"FathersPay$Trial", "pay", "(II)I"⟩, 9), (⟨"FathersPay$Trial", "up", "(III)V"⟩, 9), (⟨"FathersPay$Trial", "call", "(III)V"⟩, 9), (⟨"FathersPay$Town", "freshOf", "(I)I"⟩, 9), (⟨"FathersPay$Town", "draw", "()I"⟩, 9), (⟨"FathersPay$Town", "bury", "(I)V"⟩, 9), (⟨"FathersPay$Town", "leave", "([III)V"⟩, 9), (⟨"FathersPay$Reader", "readRank", "(II)Z"⟩, 6), (⟨"FathersPay$Reader", "readUnit", "(I)Z"⟩, 6), (⟨"FathersPay$Reader", "next", "()I"⟩, 6), (⟨"FathersPay$Reader", "readNumber", "()V"⟩, 6)]
theorem lw_r1 : ∀ q ∈ lw_privs_1, lw_okq q := List.forall_mem_cons.mpr ⟨lw_p0, List.forall_mem_cons.mpr ⟨lw_p1, List.forall_mem_cons.mpr ⟨lw_p2, List.forall_mem_cons.mpr ⟨lw_p3, List.forall_mem_cons.mpr ⟨lw_p4, List.forall_mem_cons.mpr ⟨lw_p5, List.forall_mem_cons.mpr ⟨lw_p6, List.forall_mem_cons.mpr ⟨lw_p7, List.forall_mem_cons.mpr ⟨lw_p8, List.forall_mem_cons.mpr ⟨lw_p9, List.forall_mem_cons.mpr ⟨lw_p10, List.forall_mem_cons.mpr ⟨lw_p11, List.forall_mem_cons.mpr ⟨lw_p12, List.forall_mem_cons.mpr ⟨lw_p13, List.forall_mem_cons.mpr ⟨lw_p14, List.forall_mem_cons.mpr ⟨lw_p15, fun _ h => absurd h List.not_mem_nil⟩⟩⟩⟩⟩⟩⟩⟩⟩⟩⟩⟩⟩⟩⟩⟩
theorem lw_p16 : lw_okq (⟨"FathersPay$Reader", "addStep", "(I)V"⟩, 6) := ⟨⟨by decide +kernel, by decide +kernel⟩, List.mem_of_getElem? (i := 295) (by decide +kernel), List.mem_of_getElem? (i := 663) (by decide +kernel), List.mem_of_getElem? (i := 664) (by decide +kernel)⟩
theorem lw_p17 : lw_okq (⟨"FathersPay$Reader", "readOpened", "(II)Z"⟩, 6) := ⟨⟨by decide +kernel, by decide +kernel⟩, List.mem_of_getElem? (i := 295) (by decide +kernel), List.mem_of_getElem? (i := 667) (by decide +kernel), List.mem_of_getElem? (i := 668) (by decide +kernel)⟩
theorem lw_p18 : lw_okq (⟨"FathersPay$Chances", "isFrail", "(II)Z"⟩, 6) := ⟨⟨by decide +kernel, by decide +kernel⟩, List.mem_of_getElem? (i := 268) (by decide +kernel), List.mem_of_getElem? (i := 795) (by decide +kernel), List.mem_of_getElem? (i := 796) (by decide +kernel)⟩
theorem lw_p19 : lw_okq (⟨"FathersPay$Chances", "gather", "(I)V"⟩, 6) := ⟨⟨by decide +kernel, by decide +kernel⟩, List.mem_of_getElem? (i := 268) (by decide +kernel), List.mem_of_getElem? (i := 803) (by decide +kernel), List.mem_of_getElem? (i := 804) (by decide +kernel)⟩
theorem lw_p20 : lw_okq (⟨"FathersPay$Chances", "bury", "(I)J"⟩, 6) := ⟨⟨by decide +kernel, by decide +kernel⟩, List.mem_of_getElem? (i := 268) (by decide +kernel), List.mem_of_getElem? (i := 812) (by decide +kernel), List.mem_of_getElem? (i := 813) (by decide +kernel)⟩
theorem lw_p21 : lw_okq (⟨"FathersPay$Voices", "say", "(IIII)I"⟩, 6) := ⟨⟨by decide +kernel, by decide +kernel⟩, List.mem_of_getElem? (i := 325) (by decide +kernel), List.mem_of_getElem? (i := 845) (by decide +kernel), List.mem_of_getElem? (i := 846) (by decide +kernel)⟩
theorem lw_p22 : lw_okq (⟨"FathersPay$Voices", "work", "(IIII)I"⟩, 6) := ⟨⟨by decide +kernel, by decide +kernel⟩, List.mem_of_getElem? (i := 325) (by decide +kernel), List.mem_of_getElem? (i := 852) (by decide +kernel), List.mem_of_getElem? (i := 853) (by decide +kernel)⟩
theorem lw_p23 : lw_okq (⟨"FathersPay$Voices", "part", "(I)I"⟩, 6) := ⟨⟨by decide +kernel, by decide +kernel⟩, List.mem_of_getElem? (i := 325) (by decide +kernel), List.mem_of_getElem? (i := 856) (by decide +kernel), List.mem_of_getElem? (i := 857) (by decide +kernel)⟩
theorem lw_p24 : lw_okq (⟨"FathersPayModel", "error", "(I)I"⟩, 23) := ⟨⟨by decide +kernel, by decide +kernel⟩, List.mem_of_getElem? (i := 968) (by decide +kernel), List.mem_of_getElem? (i := 1055) (by decide +kernel), List.mem_of_getElem? (i := 1056) (by decide +kernel)⟩
theorem lw_p25 : lw_okq (⟨"FathersPayModel", "lays1", "(III)V"⟩, 23) := ⟨⟨by decide +kernel, by decide +kernel⟩, List.mem_of_getElem? (i := 968) (by decide +kernel), List.mem_of_getElem? (i := 1060) (by decide +kernel), List.mem_of_getElem? (i := 1061) (by decide +kernel)⟩
theorem lw_p26 : lw_okq (⟨"FathersPayModel", "isPerson", "(I)Z"⟩, 23) := ⟨⟨by decide +kernel, by decide +kernel⟩, List.mem_of_getElem? (i := 968) (by decide +kernel), List.mem_of_getElem? (i := 1068) (by decide +kernel), List.mem_of_getElem? (i := 1069) (by decide +kernel)⟩
theorem lw_p27 : lw_okq (⟨"FathersPayModel", "line", "(I)I"⟩, 23) := ⟨⟨by decide +kernel, by decide +kernel⟩, List.mem_of_getElem? (i := 968) (by decide +kernel), List.mem_of_getElem? (i := 1072) (by decide +kernel), List.mem_of_getElem? (i := 1073) (by decide +kernel)⟩
theorem lw_p28 : lw_okq (⟨"FathersPayModel", "its", "(II)I"⟩, 23) := ⟨⟨by decide +kernel, by decide +kernel⟩, List.mem_of_getElem? (i := 968) (by decide +kernel), List.mem_of_getElem? (i := 1076) (by decide +kernel), List.mem_of_getElem? (i := 1077) (by decide +kernel)⟩
theorem lw_p29 : lw_okq (⟨"FathersPayModel", "heirs", "(I)I"⟩, 23) := ⟨⟨by decide +kernel, by decide +kernel⟩, List.mem_of_getElem? (i := 968) (by decide +kernel), List.mem_of_getElem? (i := 1080) (by decide +kernel), List.mem_of_getElem? (i := 1081) (by decide +kernel)⟩
theorem lw_p30 : lw_okq (⟨"FathersPayModel", "whole", "()Z"⟩, 23) := ⟨⟨by decide +kernel, by decide +kernel⟩, List.mem_of_getElem? (i := 968) (by decide +kernel), List.mem_of_getElem? (i := 1112) (by decide +kernel), List.mem_of_getElem? (i := 1113) (by decide +kernel)⟩
theorem lw_p31 : lw_okq (⟨"FathersPayModel", "both", "()Z"⟩, 23) := ⟨⟨by decide +kernel, by decide +kernel⟩, List.mem_of_getElem? (i := 968) (by decide +kernel), List.mem_of_getElem? (i := 1116) (by decide +kernel), List.mem_of_getElem? (i := 1117) (by decide +kernel)⟩
def lw_privs_2 : List (MethodName × Nat) := [(⟨"FathersPay$Reader", "addStep", "(I)V"⟩, 6), (⟨"FathersPay$Reader", "readOpened", "(II)Z"⟩, 6), (⟨"FathersPay$Chances", "isFrail", "(II)Z"⟩, 6), (⟨"FathersPay$Chances", "gather", "(I)V"⟩, 6), (⟨"FathersPay$Chances", "bury", "(I)J"⟩, 6), (⟨"FathersPay$Voices", "say", "(IIII)I"⟩, 6), (⟨"FathersPay$Voices", "work", "(IIII)I"⟩, 6), (⟨"FathersPay$Voices", "part", "(I)I"⟩, 6), (⟨"FathersPayModel", "error", "(I)I"⟩, 23), (⟨"FathersPayModel", "lays1", "(III)V"⟩, 23), (⟨"FathersPayModel", "isPerson", "(I)Z"⟩, 23), (⟨"FathersPayModel", "line", "(I)I"⟩, 23), (⟨"FathersPayModel", "its", "(II)I"⟩, 23), (⟨"FathersPayModel", "heirs", "(I)I"⟩, 23), (⟨"FathersPayModel", "whole", "()Z"⟩, 23), (⟨"FathersPayModel", "both", "()Z"⟩, 23)]
theorem lw_r2 : ∀ q ∈ lw_privs_2, lw_okq q := List.forall_mem_cons.mpr ⟨lw_p16, List.forall_mem_cons.mpr ⟨lw_p17, List.forall_mem_cons.mpr ⟨lw_p18, List.forall_mem_cons.mpr ⟨lw_p19, List.forall_mem_cons.mpr ⟨lw_p20, List.forall_mem_cons.mpr ⟨lw_p21, List.forall_mem_cons.mpr ⟨lw_p22, List.forall_mem_cons.mpr ⟨lw_p23, List.forall_mem_cons.mpr ⟨lw_p24, List.forall_mem_cons.mpr ⟨lw_p25, List.forall_mem_cons.mpr ⟨lw_p26, List.forall_mem_cons.mpr ⟨lw_p27, List.forall_mem_cons.mpr ⟨lw_p28, List.forall_mem_cons.mpr ⟨lw_p29, List.forall_mem_cons.mpr ⟨lw_p30, List.forall_mem_cons.mpr ⟨lw_p31, fun _ h => absurd h List.not_mem_nil⟩⟩⟩⟩⟩⟩⟩⟩⟩⟩⟩⟩⟩⟩⟩⟩
theorem lw_p32 : lw_okq (⟨"FathersPayModel", "compared", "()Z"⟩, 23) := ⟨⟨by decide +kernel, by decide +kernel⟩, List.mem_of_getElem? (i := 968) (by decide +kernel), List.mem_of_getElem? (i := 1120) (by decide +kernel), List.mem_of_getElem? (i := 1121) (by decide +kernel)⟩
theorem lw_p33 : lw_okq (⟨"FathersPayModel", "sum", "()Z"⟩, 23) := ⟨⟨by decide +kernel, by decide +kernel⟩, List.mem_of_getElem? (i := 968) (by decide +kernel), List.mem_of_getElem? (i := 1124) (by decide +kernel), List.mem_of_getElem? (i := 1125) (by decide +kernel)⟩
theorem lw_p34 : lw_okq (⟨"FathersPayModel", "product", "()Z"⟩, 23) := ⟨⟨by decide +kernel, by decide +kernel⟩, List.mem_of_getElem? (i := 968) (by decide +kernel), List.mem_of_getElem? (i := 1128) (by decide +kernel), List.mem_of_getElem? (i := 1129) (by decide +kernel)⟩
theorem lw_p35 : lw_okq (⟨"FathersPayModel", "one", "()Z"⟩, 23) := ⟨⟨by decide +kernel, by decide +kernel⟩, List.mem_of_getElem? (i := 968) (by decide +kernel), List.mem_of_getElem? (i := 1132) (by decide +kernel), List.mem_of_getElem? (i := 1133) (by decide +kernel)⟩
theorem lw_p36 : lw_okq (⟨"FathersPayModel", "look", "()I"⟩, 23) := ⟨⟨by decide +kernel, by decide +kernel⟩, List.mem_of_getElem? (i := 968) (by decide +kernel), List.mem_of_getElem? (i := 1136) (by decide +kernel), List.mem_of_getElem? (i := 1137) (by decide +kernel)⟩
theorem lw_p37 : lw_okq (⟨"FathersPayModel", "isName", "(I)Z"⟩, 23) := ⟨⟨by decide +kernel, by decide +kernel⟩, List.mem_of_getElem? (i := 968) (by decide +kernel), List.mem_of_getElem? (i := 1140) (by decide +kernel), List.mem_of_getElem? (i := 1141) (by decide +kernel)⟩
theorem lw_p38 : lw_okq (⟨"FathersPayModel", "lays", "(II)V"⟩, 23) := ⟨⟨by decide +kernel, by decide +kernel⟩, List.mem_of_getElem? (i := 968) (by decide +kernel), List.mem_of_getElem? (i := 1144) (by decide +kernel), List.mem_of_getElem? (i := 1145) (by decide +kernel)⟩
theorem lw_p39 : lw_okq (⟨"FathersPayModel", "opens", "()Z"⟩, 23) := ⟨⟨by decide +kernel, by decide +kernel⟩, List.mem_of_getElem? (i := 968) (by decide +kernel), List.mem_of_getElem? (i := 1148) (by decide +kernel), List.mem_of_getElem? (i := 1149) (by decide +kernel)⟩
theorem lw_p40 : lw_okq (⟨"FathersPayModel", "hasText", "(I)Z"⟩, 23) := ⟨⟨by decide +kernel, by decide +kernel⟩, List.mem_of_getElem? (i := 968) (by decide +kernel), List.mem_of_getElem? (i := 1156) (by decide +kernel), List.mem_of_getElem? (i := 1157) (by decide +kernel)⟩
theorem lw_p41 : lw_okq (⟨"FathersPayModel", "isNewDebt", "(III)Z"⟩, 23) := ⟨⟨by decide +kernel, by decide +kernel⟩, List.mem_of_getElem? (i := 968) (by decide +kernel), List.mem_of_getElem? (i := 1164) (by decide +kernel), List.mem_of_getElem? (i := 1165) (by decide +kernel)⟩
theorem lw_p42 : lw_okq (⟨"FathersPayModel", "addDebt", "(III)V"⟩, 23) := ⟨⟨by decide +kernel, by decide +kernel⟩, List.mem_of_getElem? (i := 968) (by decide +kernel), List.mem_of_getElem? (i := 1168) (by decide +kernel), List.mem_of_getElem? (i := 1169) (by decide +kernel)⟩
theorem lw_p43 : lw_okq (⟨"FathersPayModel", "isDebt", "(I)Z"⟩, 23) := ⟨⟨by decide +kernel, by decide +kernel⟩, List.mem_of_getElem? (i := 968) (by decide +kernel), List.mem_of_getElem? (i := 1176) (by decide +kernel), List.mem_of_getElem? (i := 1177) (by decide +kernel)⟩
theorem lw_p44 : lw_okq (⟨"FathersPayModel", "of", "(II)I"⟩, 23) := ⟨⟨by decide +kernel, by decide +kernel⟩, List.mem_of_getElem? (i := 968) (by decide +kernel), List.mem_of_getElem? (i := 1180) (by decide +kernel), List.mem_of_getElem? (i := 1181) (by decide +kernel)⟩
theorem lw_p45 : lw_okq (⟨"FathersPayModel", "clears", "()V"⟩, 23) := ⟨⟨by decide +kernel, by decide +kernel⟩, List.mem_of_getElem? (i := 968) (by decide +kernel), List.mem_of_getElem? (i := 1188) (by decide +kernel), List.mem_of_getElem? (i := 1189) (by decide +kernel)⟩
theorem lw_p46 : lw_okq (⟨"FathersPayModel", "defaults", "(I)V"⟩, 23) := ⟨⟨by decide +kernel, by decide +kernel⟩, List.mem_of_getElem? (i := 968) (by decide +kernel), List.mem_of_getElem? (i := 1192) (by decide +kernel), List.mem_of_getElem? (i := 1193) (by decide +kernel)⟩
theorem lw_p47 : lw_okq (⟨"FathersPayModel", "call", "(III)V"⟩, 23) := ⟨⟨by decide +kernel, by decide +kernel⟩, List.mem_of_getElem? (i := 968) (by decide +kernel), List.mem_of_getElem? (i := 1196) (by decide +kernel), List.mem_of_getElem? (i := 1197) (by decide +kernel)⟩
def lw_privs_3 : List (MethodName × Nat) := [(⟨"FathersPayModel", "compared", "()Z"⟩, 23), (⟨"FathersPayModel", "sum", "()Z"⟩, 23), (⟨"FathersPayModel", "product", "()Z"⟩, 23), (⟨"FathersPayModel", "one", "()Z"⟩, 23), (⟨"FathersPayModel", "look", "()I"⟩, 23), (⟨"FathersPayModel", "isName", "(I)Z"⟩, 23), (⟨"FathersPayModel", "lays", "(II)V"⟩, 23), (⟨"FathersPayModel", "opens", "()Z"⟩, 23), (⟨"FathersPayModel", "hasText", "(I)Z"⟩, 23), (⟨"FathersPayModel", "isNewDebt", "(III)Z"⟩, 23), (⟨"FathersPayModel", "addDebt", "(III)V"⟩, 23), (⟨"FathersPayModel", "isDebt", "(I)Z"⟩, 23), (⟨"FathersPayModel", "of", "(II)I"⟩, 23), (⟨"FathersPayModel", "clears", "()V"⟩, 23), (⟨"FathersPayModel", "defaults", "(I)V"⟩, 23), (⟨"FathersPayModel", "call", "(III)V"⟩, 23)]
theorem lw_r3 : ∀ q ∈ lw_privs_3, lw_okq q := List.forall_mem_cons.mpr ⟨lw_p32, List.forall_mem_cons.mpr ⟨lw_p33, List.forall_mem_cons.mpr ⟨lw_p34, List.forall_mem_cons.mpr ⟨lw_p35, List.forall_mem_cons.mpr ⟨lw_p36, List.forall_mem_cons.mpr ⟨lw_p37, List.forall_mem_cons.mpr ⟨lw_p38, List.forall_mem_cons.mpr ⟨lw_p39, List.forall_mem_cons.mpr ⟨lw_p40, List.forall_mem_cons.mpr ⟨lw_p41, List.forall_mem_cons.mpr ⟨lw_p42, List.forall_mem_cons.mpr ⟨lw_p43, List.forall_mem_cons.mpr ⟨lw_p44, List.forall_mem_cons.mpr ⟨lw_p45, List.forall_mem_cons.mpr ⟨lw_p46, List.forall_mem_cons.mpr ⟨lw_p47, fun _ h => absurd h List.not_mem_nil⟩⟩⟩⟩⟩⟩⟩⟩⟩⟩⟩⟩⟩⟩⟩⟩
theorem lw_p48 : lw_okq (⟨"FathersPayModel", "goesUp", "(III)V"⟩, 23) := ⟨⟨by decide +kernel, by decide +kernel⟩, List.mem_of_getElem? (i := 968) (by decide +kernel), List.mem_of_getElem? (i := 1200) (by decide +kernel), List.mem_of_getElem? (i := 1201) (by decide +kernel)⟩
theorem lw_p49 : lw_okq (⟨"FathersPayModel", "toTown", "(I)V"⟩, 23) := ⟨⟨by decide +kernel, by decide +kernel⟩, List.mem_of_getElem? (i := 968) (by decide +kernel), List.mem_of_getElem? (i := 1204) (by decide +kernel), List.mem_of_getElem? (i := 1205) (by decide +kernel)⟩
theorem lw_p50 : lw_okq (⟨"FathersPayModel", "areSisters", "(II)Z"⟩, 23) := ⟨⟨by decide +kernel, by decide +kernel⟩, List.mem_of_getElem? (i := 968) (by decide +kernel), List.mem_of_getElem? (i := 1213) (by decide +kernel), List.mem_of_getElem? (i := 1214) (by decide +kernel)⟩
theorem lw_p51 : lw_okq (⟨"FathersPayModel", "pays", "(III)I"⟩, 23) := ⟨⟨by decide +kernel, by decide +kernel⟩, List.mem_of_getElem? (i := 968) (by decide +kernel), List.mem_of_getElem? (i := 1217) (by decide +kernel), List.mem_of_getElem? (i := 1218) (by decide +kernel)⟩
theorem lw_p52 : lw_okq (⟨"FathersPayModel", "answers", "(III)I"⟩, 23) := ⟨⟨by decide +kernel, by decide +kernel⟩, List.mem_of_getElem? (i := 968) (by decide +kernel), List.mem_of_getElem? (i := 1221) (by decide +kernel), List.mem_of_getElem? (i := 1222) (by decide +kernel)⟩
theorem lw_p53 : lw_okq (⟨"FathersPayModel", "toldPart", "(III)I"⟩, 23) := ⟨⟨by decide +kernel, by decide +kernel⟩, List.mem_of_getElem? (i := 968) (by decide +kernel), List.mem_of_getElem? (i := 1225) (by decide +kernel), List.mem_of_getElem? (i := 1226) (by decide +kernel)⟩
theorem lw_p54 : lw_okq (⟨"FathersPayModel", "worked", "(I)I"⟩, 23) := ⟨⟨by decide +kernel, by decide +kernel⟩, List.mem_of_getElem? (i := 968) (by decide +kernel), List.mem_of_getElem? (i := 1229) (by decide +kernel), List.mem_of_getElem? (i := 1230) (by decide +kernel)⟩
theorem lw_p55 : lw_okq (⟨"FathersPayModel", "year", "()I"⟩, 23) := ⟨⟨by decide +kernel, by decide +kernel⟩, List.mem_of_getElem? (i := 968) (by decide +kernel), List.mem_of_getElem? (i := 1248) (by decide +kernel), List.mem_of_getElem? (i := 1249) (by decide +kernel)⟩
theorem lw_p56 : lw_okq (⟨"FathersPayModel", "fresh", "(I)I"⟩, 23) := ⟨⟨by decide +kernel, by decide +kernel⟩, List.mem_of_getElem? (i := 968) (by decide +kernel), List.mem_of_getElem? (i := 1252) (by decide +kernel), List.mem_of_getElem? (i := 1253) (by decide +kernel)⟩
theorem lw_p57 : lw_okq (⟨"FathersPayModel", "isChild", "(II)Z"⟩, 23) := ⟨⟨by decide +kernel, by decide +kernel⟩, List.mem_of_getElem? (i := 968) (by decide +kernel), List.mem_of_getElem? (i := 1256) (by decide +kernel), List.mem_of_getElem? (i := 1257) (by decide +kernel)⟩
theorem lw_p58 : lw_okq (⟨"FathersPayModel", "draw", "()I"⟩, 23) := ⟨⟨by decide +kernel, by decide +kernel⟩, List.mem_of_getElem? (i := 968) (by decide +kernel), List.mem_of_getElem? (i := 1260) (by decide +kernel), List.mem_of_getElem? (i := 1261) (by decide +kernel)⟩
theorem lw_p59 : lw_okq (⟨"FathersPayModel", "leave", "(II)V"⟩, 23) := ⟨⟨by decide +kernel, by decide +kernel⟩, List.mem_of_getElem? (i := 968) (by decide +kernel), List.mem_of_getElem? (i := 1265) (by decide +kernel), List.mem_of_getElem? (i := 1266) (by decide +kernel)⟩
theorem lw_p60 : lw_okq (⟨"FathersPayModel", "tries", "(I)V"⟩, 23) := ⟨⟨by decide +kernel, by decide +kernel⟩, List.mem_of_getElem? (i := 968) (by decide +kernel), List.mem_of_getElem? (i := 1277) (by decide +kernel), List.mem_of_getElem? (i := 1278) (by decide +kernel)⟩
theorem lw_p61 : lw_okq (⟨"FathersPayModel", "whyNot", "(I)I"⟩, 23) := ⟨⟨by decide +kernel, by decide +kernel⟩, List.mem_of_getElem? (i := 968) (by decide +kernel), List.mem_of_getElem? (i := 1288) (by decide +kernel), List.mem_of_getElem? (i := 1289) (by decide +kernel)⟩
theorem lw_p62 : lw_okq (⟨"FathersPayModel", "triesAll", "()V"⟩, 23) := ⟨⟨by decide +kernel, by decide +kernel⟩, List.mem_of_getElem? (i := 968) (by decide +kernel), List.mem_of_getElem? (i := 1296) (by decide +kernel), List.mem_of_getElem? (i := 1297) (by decide +kernel)⟩
theorem lw_p63 : lw_okq (⟨"FathersPayModel", "allDefault", "()V"⟩, 23) := ⟨⟨by decide +kernel, by decide +kernel⟩, List.mem_of_getElem? (i := 968) (by decide +kernel), List.mem_of_getElem? (i := 1300) (by decide +kernel), List.mem_of_getElem? (i := 1301) (by decide +kernel)⟩
def lw_privs_4 : List (MethodName × Nat) := [(⟨"FathersPayModel", "goesUp", "(III)V"⟩, 23), (⟨"FathersPayModel", "toTown", "(I)V"⟩, 23), (⟨"FathersPayModel", "areSisters", "(II)Z"⟩, 23), (⟨"FathersPayModel", "pays", "(III)I"⟩, 23), (⟨"FathersPayModel", "answers", "(III)I"⟩, 23), (⟨"FathersPayModel", "toldPart", "(III)I"⟩, 23), (⟨"FathersPayModel", "worked", "(I)I"⟩, 23), (⟨"FathersPayModel", "year", "()I"⟩, 23), (⟨"FathersPayModel", "fresh", "(I)I"⟩, 23), (⟨"FathersPayModel", "isChild", "(II)Z"⟩, 23), (⟨"FathersPayModel", "draw", "()I"⟩, 23), (⟨"FathersPayModel", "leave", "(II)V"⟩, 23), (⟨"FathersPayModel", "tries", "(I)V"⟩, 23), (⟨"FathersPayModel", "whyNot", "(I)I"⟩, 23), (⟨"FathersPayModel", "triesAll", "()V"⟩, 23), (⟨"FathersPayModel", "allDefault", "()V"⟩, 23)]
theorem lw_r4 : ∀ q ∈ lw_privs_4, lw_okq q := List.forall_mem_cons.mpr ⟨lw_p48, List.forall_mem_cons.mpr ⟨lw_p49, List.forall_mem_cons.mpr ⟨lw_p50, List.forall_mem_cons.mpr ⟨lw_p51, List.forall_mem_cons.mpr ⟨lw_p52, List.forall_mem_cons.mpr ⟨lw_p53, List.forall_mem_cons.mpr ⟨lw_p54, List.forall_mem_cons.mpr ⟨lw_p55, List.forall_mem_cons.mpr ⟨lw_p56, List.forall_mem_cons.mpr ⟨lw_p57, List.forall_mem_cons.mpr ⟨lw_p58, List.forall_mem_cons.mpr ⟨lw_p59, List.forall_mem_cons.mpr ⟨lw_p60, List.forall_mem_cons.mpr ⟨lw_p61, List.forall_mem_cons.mpr ⟨lw_p62, List.forall_mem_cons.mpr ⟨lw_p63, fun _ h => absurd h List.not_mem_nil⟩⟩⟩⟩⟩⟩⟩⟩⟩⟩⟩⟩⟩⟩⟩⟩
theorem lw_p64 : lw_okq (⟨"FathersPayModel", "kindNow", "()I"⟩, 23) := ⟨⟨by decide +kernel, by decide +kernel⟩, List.mem_of_getElem? (i := 968) (by decide +kernel), List.mem_of_getElem? (i := 1325) (by decide +kernel), List.mem_of_getElem? (i := 1326) (by decide +kernel)⟩
theorem lw_p65 : lw_okq (⟨"FathersPayModel", "owesBy", "(II)I"⟩, 23) := ⟨⟨by decide +kernel, by decide +kernel⟩, List.mem_of_getElem? (i := 968) (by decide +kernel), List.mem_of_getElem? (i := 1329) (by decide +kernel), List.mem_of_getElem? (i := 1330) (by decide +kernel)⟩
theorem lw_p66 : lw_okq (⟨"FathersPayModel", "begins", "(I)V"⟩, 23) := ⟨⟨by decide +kernel, by decide +kernel⟩, List.mem_of_getElem? (i := 968) (by decide +kernel), List.mem_of_getElem? (i := 1333) (by decide +kernel), List.mem_of_getElem? (i := 1334) (by decide +kernel)⟩
theorem lw_p67 : lw_okq (⟨"FathersPayModel", "paysBy", "(II)I"⟩, 23) := ⟨⟨by decide +kernel, by decide +kernel⟩, List.mem_of_getElem? (i := 968) (by decide +kernel), List.mem_of_getElem? (i := 1340) (by decide +kernel), List.mem_of_getElem? (i := 1341) (by decide +kernel)⟩
theorem lw_p68 : lw_okq (⟨"FathersPayModel", "mNow", "()I"⟩, 23) := ⟨⟨by decide +kernel, by decide +kernel⟩, List.mem_of_getElem? (i := 968) (by decide +kernel), List.mem_of_getElem? (i := 1344) (by decide +kernel), List.mem_of_getElem? (i := 1345) (by decide +kernel)⟩
theorem lw_p69 : lw_okq (⟨"FathersPayModel", "asksBy", "(II)I"⟩, 23) := ⟨⟨by decide +kernel, by decide +kernel⟩, List.mem_of_getElem? (i := 968) (by decide +kernel), List.mem_of_getElem? (i := 1348) (by decide +kernel), List.mem_of_getElem? (i := 1349) (by decide +kernel)⟩
theorem lw_p70 : lw_okq (⟨"FathersPayModel", "leavesBy", "(II)I"⟩, 23) := ⟨⟨by decide +kernel, by decide +kernel⟩, List.mem_of_getElem? (i := 968) (by decide +kernel), List.mem_of_getElem? (i := 1352) (by decide +kernel), List.mem_of_getElem? (i := 1353) (by decide +kernel)⟩
theorem lw_p71 : lw_okq (⟨"FathersPayModel", "lacks", "(I)I"⟩, 23) := ⟨⟨by decide +kernel, by decide +kernel⟩, List.mem_of_getElem? (i := 968) (by decide +kernel), List.mem_of_getElem? (i := 1379) (by decide +kernel), List.mem_of_getElem? (i := 1380) (by decide +kernel)⟩
theorem lw_p72 : lw_okq (⟨"FathersPayModel", "count1", "(III)I"⟩, 23) := ⟨⟨by decide +kernel, by decide +kernel⟩, List.mem_of_getElem? (i := 968) (by decide +kernel), List.mem_of_getElem? (i := 1407) (by decide +kernel), List.mem_of_getElem? (i := 1408) (by decide +kernel)⟩
def lw_privs_5 : List (MethodName × Nat) := [(⟨"FathersPayModel", "kindNow", "()I"⟩, 23), (⟨"FathersPayModel", "owesBy", "(II)I"⟩, 23), (⟨"FathersPayModel", "begins", "(I)V"⟩, 23), (⟨"FathersPayModel", "paysBy", "(II)I"⟩, 23), (⟨"FathersPayModel", "mNow", "()I"⟩, 23), (⟨"FathersPayModel", "asksBy", "(II)I"⟩, 23), (⟨"FathersPayModel", "leavesBy", "(II)I"⟩, 23), (⟨"FathersPayModel", "lacks", "(I)I"⟩, 23), (⟨"FathersPayModel", "count1", "(III)I"⟩, 23)]
theorem lw_r5 : ∀ q ∈ lw_privs_5, lw_okq q := List.forall_mem_cons.mpr ⟨lw_p64, List.forall_mem_cons.mpr ⟨lw_p65, List.forall_mem_cons.mpr ⟨lw_p66, List.forall_mem_cons.mpr ⟨lw_p67, List.forall_mem_cons.mpr ⟨lw_p68, List.forall_mem_cons.mpr ⟨lw_p69, List.forall_mem_cons.mpr ⟨lw_p70, List.forall_mem_cons.mpr ⟨lw_p71, List.forall_mem_cons.mpr ⟨lw_p72, fun _ h => absurd h List.not_mem_nil⟩⟩⟩⟩⟩⟩⟩⟩⟩
def lw_privs : List (MethodName × Nat) := lw_privs_1 ++ (lw_privs_2 ++ (lw_privs_3 ++ (lw_privs_4 ++ (lw_privs_5))))
def lw_tbl : List Cond := k2_sels lw_privs ++ tables_1
theorem lw_privs_ok : ∀ q ∈ lw_privs, lw_okq q := by
  show ∀ q ∈ lw_privs_1 ++ (lw_privs_2 ++ (lw_privs_3 ++ (lw_privs_4 ++ (lw_privs_5)))), lw_okq q
  exact List.forall_mem_append.mpr ⟨lw_r1, List.forall_mem_append.mpr ⟨lw_r2, List.forall_mem_append.mpr ⟨lw_r3, List.forall_mem_append.mpr ⟨lw_r4, lw_r5⟩⟩⟩⟩
end
section
/-! The tables of the abstract machine: names, fields, instructions as listed, constant pools resolved, the graph of the 97 cells. Printed by wip/whole/gen_tab.py. -/
def zm_cl : List String := ["FathersPay$Bonds", "FathersPay$Chances", "FathersPay$Desk", "FathersPay$Folk", "FathersPay$Reader", "FathersPay$Sheets", "FathersPay$Text", "FathersPay$Town", "FathersPay$Trial", "FathersPay$Voices", "FathersPay", "FathersPayModel", "FathersPayLaw", "java/lang/String", "java/lang/StringLatin1", "java/util/Arrays"]
def zm_cn (i : Nat) : String := zm_cl.getD i ""
def zm_fd : List (List (String × String × String × Bool)) := [[("FathersPay$Bonds", "number", "I", false), ("FathersPay$Bonds", "rows", "[[I", true), ("FathersPay$Bonds", "who", "[I", true), ("FathersPay$Bonds", "sum", "[I", true), ("FathersPay$Bonds", "due", "[I", true), ("FathersPay$Bonds", "owed", "[I", true)],
  [("FathersPay$Chances", "town", "LFathersPay$Town;", true), ("FathersPay$Chances", "trial", "LFathersPay$Trial;", true), ("FathersPay$Chances", "frail", "[I", true), ("FathersPay$Chances", "number", "I", false), ("FathersPay$Chances", "above", "J", false), ("FathersPay$Chances", "below", "J", false)],
  [("FathersPay$Desk", "tape", "[I", true), ("FathersPay$Desk", "waits", "[I", true), ("FathersPay$Desk", "bytes", "I", false), ("FathersPay$Desk", "waiting", "I", false)],
  [("FathersPay$Folk", "number", "I", false), ("FathersPay$Folk", "rows", "[[I", true), ("FathersPay$Folk", "kind", "[I", true), ("FathersPay$Folk", "m", "[I", true), ("FathersPay$Folk", "father", "[I", true), ("FathersPay$Folk", "mother", "[I", true), ("FathersPay$Folk", "alive", "[I", true), ("FathersPay$Folk", "purse", "[I", true), ("FathersPay$Folk", "house", "[I", true), ("FathersPay$Folk", "frail", "[I", true)],
  [("FathersPay$Reader", "code", "[I", true), ("FathersPay$Reader", "length", "I", false), ("FathersPay$Reader", "place", "I", false), ("FathersPay$Reader", "tape", "[I", true), ("FathersPay$Reader", "bytes", "I", false), ("FathersPay$Reader", "names", "Ljava/lang/String;", false)],
  [("FathersPay$Sheets", "bits", "[I", true), ("FathersPay$Sheets", "length", "[I", true), ("FathersPay$Sheets", "numbers", "[[I", true)],
  [("FathersPay$Text", "stands", "Z", false), ("FathersPay$Text", "length", "I", false), ("FathersPay$Text", "code", "[I", true), ("FathersPay$Text", "stack", "[I", true), ("FathersPay$Text", "names", "[I", true)],
  [("FathersPay$Town", "folk", "LFathersPay$Folk;", true), ("FathersPay$Town", "bonds", "LFathersPay$Bonds;", true), ("FathersPay$Town", "desk", "LFathersPay$Desk;", true), ("FathersPay$Town", "answers", "LFathersPay$Text;", true), ("FathersPay$Town", "fresh", "LFathersPay$Text;", true), ("FathersPay$Town", "law", "[I", true), ("FathersPay$Town", "today", "I", false), ("FathersPay$Town", "purse", "I", false), ("FathersPay$Town", "z", "I", false)],
  [("FathersPay$Trial", "town", "LFathersPay$Town;", true), ("FathersPay$Trial", "folk", "LFathersPay$Folk;", true), ("FathersPay$Trial", "father", "[I", true), ("FathersPay$Trial", "mother", "[I", true), ("FathersPay$Trial", "alive", "[I", true), ("FathersPay$Trial", "purse", "[I", true), ("FathersPay$Trial", "house", "[I", true), ("FathersPay$Trial", "paid", "[I", true), ("FathersPay$Trial", "toTown", "I", false)],
  [("FathersPay$Voices", "trace", "[I", true), ("FathersPay$Voices", "traced", "I", false), ("FathersPay$Voices", "parted", "Z", false), ("FathersPay$Voices", "kind", "I", false), ("FathersPay$Voices", "k", "I", false), ("FathersPay$Voices", "m", "I", false)],
  [("FathersPay", "town", "LFathersPay$Town;", true), ("FathersPay", "kept", "LFathersPay$Town;", true), ("FathersPay", "trial", "LFathersPay$Trial;", true), ("FathersPay", "chances", "LFathersPay$Chances;", true), ("FathersPay", "reader", "LFathersPay$Reader;", true), ("FathersPay", "voices", "LFathersPay$Voices;", true), ("FathersPay", "sheets", "LFathersPay$Sheets;", true), ("FathersPay", "errors", "[I", true), ("FathersPay", "images", "I", false)],
  [("FathersPayModel", "s", "[I", true), ("FathersPayModel", "kept", "[I", true), ("FathersPayModel", "put", "[I", true), ("FathersPayModel", "images", "I", false), ("FathersPayModel", "errors", "[I", true), ("FathersPayModel", "at", "I", false), ("FathersPayModel", "open", "I", false), ("FathersPayModel", "steps", "I", false), ("FathersPayModel", "use", "I", false), ("FathersPayModel", "step", "[I", true), ("FathersPayModel", "named", "[I", true), ("FathersPayModel", "pile", "[I", true), ("FathersPayModel", "paid", "[I", true), ("FathersPayModel", "townward", "I", false), ("FathersPayModel", "frail", "[I", true), ("FathersPayModel", "trace", "[I", true), ("FathersPayModel", "traced", "I", false), ("FathersPayModel", "speaks", "I", false), ("FathersPayModel", "isParted", "Z", false), ("FathersPayModel", "bits", "[I", true), ("FathersPayModel", "sizes", "[I", true), ("FathersPayModel", "number", "[I", true), ("FathersPayModel", "aside", "[I", true)]]
def zm_T (i : Nat) : u_T := fun k => (zm_fd.getD i []).getD k ("", "", "", false)
def zm_nf (i : Nat) : Nat := (zm_fd.getD i []).length
def zm_CL : List vw_C := (List.range 12).map (fun i => (zm_cn i, zm_T i, zm_nf i))
def zm_ty (i k : Nat) : FieldType := (parseFieldDescriptor (zm_T i k).2.2.1).getD .int
def zm_lp : List (List Nat) := [[196, 198, 200, 202, 204, 206], [354, 356, 358, 360, 362, 364], [223, 225, 227, 229], [151, 153, 155, 157, 159, 161, 163, 165, 167, 169], [383, 385, 387, 389, 391, 393], [438, 440, 442], [246, 248, 250, 252, 254], [281, 283, 285, 287, 289, 291, 293, 295, 297], [321, 323, 325, 327, 329, 331, 333, 335, 337], [412, 414, 416, 418, 420, 422], [454, 456, 458, 460, 462, 464, 466, 468, 470], [1069, 1071, 1073, 1075, 1077, 1079, 1081, 1083, 1085, 1087, 1089, 1091, 1093, 1095, 1097, 1099, 1101, 1103, 1105, 1107, 1109, 1111, 1113]]
def zm_ftT : List (List Nat) := [[0, 2, 2, 2, 2, 2], [2, 2, 2, 0, 1, 1], [2, 2, 0, 0], [0, 2, 2, 2, 2, 2, 2, 2, 2, 2], [2, 0, 0, 2, 0, 3], [2, 2, 2], [4, 0, 2, 2, 2], [2, 2, 2, 2, 2, 2, 0, 0, 0], [2, 2, 2, 2, 2, 2, 2, 2, 0], [2, 0, 4, 0, 0, 0], [2, 2, 2, 2, 2, 2, 2, 2, 0], [2, 2, 2, 0, 2, 0, 0, 0, 0, 2, 2, 2, 2, 0, 2, 2, 0, 0, 4, 2, 2, 2, 2]]
/-- a field: 0 int, 1 long, 2 a reference that stays, 3 a String that may change, 4 boolean -/
def zm_ft (i j : Nat) : Nat := (zm_ftT.getD i []).getD j 9
def zm_md : List (MethodName × ByteArray × Nat × Option FieldType) := [(⟨"FathersPayLaw", "law", "([I)Z"⟩, code, 4, (some .boolean)),
  (⟨"FathersPay$Bonds", "has", "(I)Z"⟩, prog_2_method_2_code, 2, (some .boolean)),
  (⟨"FathersPay$Bonds", "isOwed", "(I)Z"⟩, prog_2_method_3_code, 2, (some .boolean)),
  (⟨"FathersPay$Bonds", "add", "(III)I"⟩, prog_2_method_4_code, 5, (some .int)),
  (⟨"FathersPay$Bonds", "countOwed", "()I"⟩, prog_2_method_5_code, 1, (some .int)),
  (⟨"FathersPay$Bonds", "become", "(LFathersPay$Bonds;)V"⟩, prog_2_method_6_code, 2, none),
  (⟨"FathersPay$Chances", "countFrail", "(I)I"⟩, prog_3_method_2_code, 4, (some .int)),
  (⟨"FathersPay$Chances", "average", "(I)V"⟩, prog_3_method_3_code, 5, none),
  (⟨"FathersPay$Chances", "isFrail", "(II)Z"⟩, prog_3_method_4_code, 3, (some .boolean)),
  (⟨"FathersPay$Chances", "gather", "(I)V"⟩, prog_3_method_5_code, 4, none),
  (⟨"FathersPay$Chances", "bury", "(I)J"⟩, prog_3_method_6_code, 6, (some .long)),
  (⟨"FathersPay$Chances", "greatestDivisor", "(JJ)J"⟩, prog_3_method_7_code, 11, (some .long)),
  (⟨"FathersPay$Desk", "addByte", "(I)V"⟩, prog_4_method_2_code, 2, none),
  (⟨"FathersPay$Desk", "become", "(LFathersPay$Desk;)V"⟩, prog_4_method_3_code, 2, none),
  (⟨"FathersPay$Folk", "has", "(I)Z"⟩, prog_5_method_2_code, 2, (some .boolean)),
  (⟨"FathersPay$Folk", "add", "(IIII)I"⟩, prog_5_method_3_code, 6, (some .int)),
  (⟨"FathersPay$Folk", "become", "(LFathersPay$Folk;)V"⟩, prog_5_method_4_code, 2, none),
  (⟨"FathersPay$Folk", "isChild", "(II)Z"⟩, prog_5_method_5_code, 3, (some .boolean)),
  (⟨"FathersPay$Folk", "line", "(I)I"⟩, prog_5_method_6_code, 5, (some .int)),
  (⟨"FathersPay$Folk", "heirs", "(I)I"⟩, prog_5_method_7_code, 5, (some .int)),
  (⟨"FathersPay$Folk", "countAlive", "()I"⟩, prog_5_method_8_code, 1, (some .int)),
  (⟨"FathersPay$Folk", "countChildrenAlive", "(I)I"⟩, prog_5_method_9_code, 4, (some .int)),
  (⟨"FathersPay$Folk", "leastChildAlive", "(I)I"⟩, prog_5_method_10_code, 3, (some .int)),
  (⟨"FathersPay$Reader", "reads", "([IILjava/lang/String;)Z"⟩, prog_6_method_2_code, 4, (some .boolean)),
  (⟨"FathersPay$Reader", "readRank", "(II)Z"⟩, prog_6_method_3_code, 5, (some .boolean)),
  (⟨"FathersPay$Reader", "readUnit", "(I)Z"⟩, prog_6_method_4_code, 4, (some .boolean)),
  (⟨"FathersPay$Reader", "readOpened", "(II)Z"⟩, prog_6_method_5_code, 3, (some .boolean)),
  (⟨"FathersPay$Reader", "readNumber", "()V"⟩, prog_6_method_6_code, 3, none),
  (⟨"FathersPay$Reader", "addStep", "(I)V"⟩, prog_6_method_7_code, 2, none),
  (⟨"FathersPay$Reader", "next", "()I"⟩, prog_6_method_8_code, 1, (some .int)),
  (⟨"FathersPay$Reader", "isDigit", "(I)Z"⟩, prog_6_method_9_code, 1, (some .boolean)),
  (⟨"FathersPay$Reader", "rankOf", "(I)I"⟩, prog_6_method_10_code, 1, (some .int)),
  (⟨"FathersPay$Sheets", "has", "(I)Z"⟩, prog_7_method_2_code, 2, (some .boolean)),
  (⟨"FathersPay$Sheets", "isMissing", "(I)Z"⟩, prog_7_method_3_code, 2, (some .boolean)),
  (⟨"FathersPay$Sheets", "lay", "(III)V"⟩, prog_7_method_4_code, 4, none),
  (⟨"FathersPay$Sheets", "holds", "(III)Z"⟩, prog_7_method_5_code, 4, (some .boolean)),
  (⟨"FathersPay$Text", "become", "([II)V"⟩, prog_8_method_2_code, 3, none),
  (⟨"FathersPay$Text", "becomeText", "(LFathersPay$Text;)V"⟩, prog_8_method_3_code, 2, none),
  (⟨"FathersPay$Text", "worth", "(IIIII)I"⟩, prog_8_method_4_code, 9, (some .int)),
  (⟨"FathersPay$Text", "join", "(III)I"⟩, prog_8_method_5_code, 3, (some .int)),
  (⟨"FathersPay$Town", "textOf", "(I)LFathersPay$Text;"⟩, prog_9_method_2_code, 2, (some (.object "FathersPay$Text"))),
  (⟨"FathersPay$Town", "become", "(LFathersPay$Town;)V"⟩, prog_9_method_3_code, 2, none),
  (⟨"FathersPay$Town", "gain", "(I)V"⟩, prog_9_method_4_code, 2, none),
  (⟨"FathersPay$Town", "passYear", "()I"⟩, prog_9_method_5_code, 3, (some .int)),
  (⟨"FathersPay$Town", "freshOf", "(I)I"⟩, prog_9_method_6_code, 2, (some .int)),
  (⟨"FathersPay$Town", "draw", "()I"⟩, prog_9_method_7_code, 1, (some .int)),
  (⟨"FathersPay$Town", "bury", "(I)V"⟩, prog_9_method_8_code, 3, none),
  (⟨"FathersPay$Town", "leave", "([III)V"⟩, prog_9_method_9_code, 5, none),
  (⟨"FathersPay$Trial", "begin", "()V"⟩, prog_10_method_2_code, 1, none),
  (⟨"FathersPay$Trial", "makeTrue", "()V"⟩, prog_10_method_3_code, 1, none),
  (⟨"FathersPay$Trial", "cutTies", "(II)V"⟩, prog_10_method_4_code, 3, none),
  (⟨"FathersPay$Trial", "failOne", "(I)V"⟩, prog_10_method_5_code, 5, none),
  (⟨"FathersPay$Trial", "failAllOwed", "()V"⟩, prog_10_method_6_code, 2, none),
  (⟨"FathersPay$Trial", "isAsked", "(II)Z"⟩, prog_10_method_7_code, 3, (some .boolean)),
  (⟨"FathersPay$Trial", "up", "(III)V"⟩, prog_10_method_8_code, 5, none),
  (⟨"FathersPay$Trial", "call", "(III)V"⟩, prog_10_method_9_code, 5, none),
  (⟨"FathersPay$Trial", "answer", "(III)I"⟩, prog_10_method_10_code, 5, (some .int)),
  (⟨"FathersPay$Trial", "pay", "(II)I"⟩, prog_10_method_11_code, 5, (some .int)),
  (⟨"FathersPay$Voices", "speak", "(IIIII)I"⟩, prog_11_method_2_code, 6, (some .int)),
  (⟨"FathersPay$Voices", "say", "(IIII)I"⟩, prog_11_method_3_code, 7, (some .int)),
  (⟨"FathersPay$Voices", "work", "(IIII)I"⟩, prog_11_method_4_code, 6, (some .int)),
  (⟨"FathersPay$Voices", "part", "(I)I"⟩, prog_11_method_5_code, 2, (some .int)),
  (⟨"FathersPay", "person", "(III)I"⟩, prog_1_method_2_code, 4, (some .int)),
  (⟨"FathersPay", "personIs", "(II)I"⟩, prog_1_method_3_code, 3, (some .int)),
  (⟨"FathersPay", "as", "(II)I"⟩, prog_1_method_4_code, 3, (some .int)),
  (⟨"FathersPay", "set", "(III)I"⟩, prog_1_method_5_code, 5, (some .int)),
  (⟨"FathersPay", "parent", "(III)I"⟩, prog_1_method_6_code, 8, (some .int)),
  (⟨"FathersPay", "rule", "(II)I"⟩, prog_1_method_7_code, 4, (some .int)),
  (⟨"FathersPay", "debt", "(III)I"⟩, prog_1_method_8_code, 4, (some .int)),
  (⟨"FathersPay", "debtIs", "(II)I"⟩, prog_1_method_9_code, 3, (some .int)),
  (⟨"FathersPay", "fails", "(I)I"⟩, prog_1_method_10_code, 3, (some .int)),
  (⟨"FathersPay", "settle", "(I)I"⟩, prog_1_method_11_code, 6, (some .int)),
  (⟨"FathersPay", "days", "(I)I"⟩, prog_1_method_12_code, 4, (some .int)),
  (⟨"FathersPay", "years", "(I)I"⟩, prog_1_method_13_code, 4, (some .int)),
  (⟨"FathersPay", "seed", "(I)I"⟩, prog_1_method_14_code, 3, (some .int)),
  (⟨"FathersPay", "feed", "(JI)I"⟩, prog_1_method_15_code, 5, (some .int)),
  (⟨"FathersPay", "text", "(I)I"⟩, prog_1_method_16_code, 4, (some .int)),
  (⟨"FathersPay", "untell", "(I)I"⟩, prog_1_method_17_code, 4, (some .int)),
  (⟨"FathersPay", "called", "(II)I"⟩, prog_1_method_18_code, 3, (some .int)),
  (⟨"FathersPay", "lost", "(I)I"⟩, prog_1_method_19_code, 3, (some .int)),
  (⟨"FathersPay", "bespoke", "(I)I"⟩, prog_1_method_20_code, 2, (some .int)),
  (⟨"FathersPay", "safe", "(II)J"⟩, prog_1_method_21_code, 3, (some .long)),
  (⟨"FathersPay", "disown", "(I)I"⟩, prog_1_method_22_code, 6, (some .int)),
  (⟨"FathersPay", "adopt", "(I)I"⟩, prog_1_method_23_code, 8, (some .int)),
  (⟨"FathersPay", "needs", "()I"⟩, prog_1_method_24_code, 1, (some .int)),
  (⟨"FathersPay", "voice", "(III)I"⟩, prog_1_method_25_code, 5, (some .int)),
  (⟨"FathersPay", "body", "(I)I"⟩, prog_1_method_26_code, 2, (some .int)),
  (⟨"FathersPay", "sheet", "(III)I"⟩, prog_1_method_27_code, 4, (some .int)),
  (⟨"FathersPay", "put", "(III)I"⟩, prog_1_method_28_code, 4, (some .int)),
  (⟨"FathersPay", "move", "(IIIII)I"⟩, prog_1_method_29_code, 6, (some .int)),
  (⟨"FathersPay", "debts", "(I)I"⟩, prog_1_method_30_code, 5, (some .int)),
  (⟨"FathersPay", "judge", "(II)I"⟩, prog_1_method_31_code, 4, (some .int)),
  (⟨"FathersPay", "image", "()I"⟩, prog_1_method_32_code, 1, (some .int)),
  (⟨"FathersPay", "restore", "()I"⟩, prog_1_method_33_code, 1, (some .int)),
  (⟨"FathersPay", "tell", "(I)I"⟩, prog_1_method_34_code, 2, (some .int)),
  (⟨"FathersPay", "check", "(I)I"⟩, prog_1_method_35_code, 6, (some .int)),
  (⟨"FathersPay", "count", "(I)I"⟩, prog_1_method_36_code, 2, (some .int)),
  (⟨"FathersPay", "told", "(I)I"⟩, prog_1_method_37_code, 2, (some .int)),
  (⟨"FathersPay", "error", "(I)I"⟩, prog_1_method_38_code, 2, (some .int)),
  (⟨"FathersPay", "whyNot", "(I)I"⟩, prog_1_method_39_code, 2, (some .int)),
  (⟨"FathersPay", "mayOwe", "(III)Z"⟩, prog_1_method_40_code, 4, (some .boolean)),
  (⟨"FathersPay", "defaultNow", "(I)I"⟩, prog_1_method_41_code, 2, (some .int)),
  (⟨"FathersPay", "isCoins", "(I)Z"⟩, prog_1_method_42_code, 1, (some .boolean)),
  (⟨"FathersPay", "isUse", "(I)Z"⟩, prog_1_method_43_code, 1, (some .boolean)),
  (⟨"FathersPay", "isUnder", "(II)Z"⟩, prog_1_method_44_code, 4, (some .boolean)),
  (⟨"FathersPay", "isIn", "(II)Z"⟩, prog_1_method_45_code, 2, (some .boolean)),
  (⟨"FathersPay", "bit", "(I)I"⟩, prog_1_method_46_code, 1, (some .int)),
  (⟨"FathersPay", "lowestBits", "(II)I"⟩, prog_1_method_47_code, 2, (some .int)),
  (⟨"FathersPay", "held", "(III)I"⟩, prog_1_method_48_code, 3, (some .int)),
  (⟨"FathersPay", "greaterHalf", "(I)I"⟩, prog_1_method_49_code, 1, (some .int)),
  (⟨"FathersPay", "sumOf", "([II)I"⟩, prog_1_method_50_code, 4, (some .int)),
  (⟨"FathersPay", "copyRows", "([[I[[I)V"⟩, prog_1_method_51_code, 3, none),
  (⟨"FathersPayModel", "error", "(I)I"⟩, prog_13_method_2_code, 2, (some .int)),
  (⟨"FathersPayModel", "in", "(III)Z"⟩, prog_13_method_3_code, 3, (some .boolean)),
  (⟨"FathersPayModel", "held", "(III)I"⟩, prog_13_method_4_code, 3, (some .int)),
  (⟨"FathersPayModel", "carry", "([I[I)V"⟩, prog_13_method_5_code, 3, none),
  (⟨"FathersPayModel", "isPerson", "(I)Z"⟩, prog_13_method_6_code, 2, (some .boolean)),
  (⟨"FathersPayModel", "isDebt", "(I)Z"⟩, prog_13_method_7_code, 2, (some .boolean)),
  (⟨"FathersPayModel", "its", "(II)I"⟩, prog_13_method_8_code, 3, (some .int)),
  (⟨"FathersPayModel", "lays1", "(III)V"⟩, prog_13_method_9_code, 4, none),
  (⟨"FathersPayModel", "of", "(II)I"⟩, prog_13_method_10_code, 3, (some .int)),
  (⟨"FathersPayModel", "isRich", "(I)Z"⟩, prog_13_method_11_code, 1, (some .boolean)),
  (⟨"FathersPayModel", "person", "(III)I"⟩, prog_13_method_12_code, 5, (some .int)),
  (⟨"FathersPayModel", "isChild", "(II)Z"⟩, prog_13_method_13_code, 3, (some .boolean)),
  (⟨"FathersPayModel", "line", "(I)I"⟩, prog_13_method_14_code, 5, (some .int)),
  (⟨"FathersPayModel", "heirs", "(I)I"⟩, prog_13_method_15_code, 4, (some .int)),
  (⟨"FathersPayModel", "personIs", "(II)I"⟩, prog_13_method_16_code, 3, (some .int)),
  (⟨"FathersPayModel", "isUnder", "(II)Z"⟩, prog_13_method_17_code, 2, (some .boolean)),
  (⟨"FathersPayModel", "as", "(II)I"⟩, prog_13_method_18_code, 3, (some .int)),
  (⟨"FathersPayModel", "set", "(III)I"⟩, prog_13_method_19_code, 7, (some .int)),
  (⟨"FathersPayModel", "parent", "(III)I"⟩, prog_13_method_20_code, 6, (some .int)),
  (⟨"FathersPayModel", "rule", "(II)I"⟩, prog_13_method_21_code, 4, (some .int)),
  (⟨"FathersPayModel", "feed", "(JI)I"⟩, prog_13_method_22_code, 5, (some .int)),
  (⟨"FathersPayModel", "look", "()I"⟩, prog_13_method_23_code, 1, (some .int)),
  (⟨"FathersPayModel", "isName", "(I)Z"⟩, prog_13_method_24_code, 2, (some .boolean)),
  (⟨"FathersPayModel", "lays", "(II)V"⟩, prog_13_method_25_code, 3, none),
  (⟨"FathersPayModel", "whole", "()Z"⟩, prog_13_method_26_code, 1, (some .boolean)),
  (⟨"FathersPayModel", "both", "()Z"⟩, prog_13_method_27_code, 1, (some .boolean)),
  (⟨"FathersPayModel", "compared", "()Z"⟩, prog_13_method_28_code, 2, (some .boolean)),
  (⟨"FathersPayModel", "sum", "()Z"⟩, prog_13_method_29_code, 2, (some .boolean)),
  (⟨"FathersPayModel", "product", "()Z"⟩, prog_13_method_30_code, 2, (some .boolean)),
  (⟨"FathersPayModel", "opens", "()Z"⟩, prog_13_method_31_code, 1, (some .boolean)),
  (⟨"FathersPayModel", "one", "()Z"⟩, prog_13_method_32_code, 4, (some .boolean)),
  (⟨"FathersPayModel", "hasText", "(I)Z"⟩, prog_13_method_33_code, 2, (some .boolean)),
  (⟨"FathersPayModel", "text", "(I)I"⟩, prog_13_method_34_code, 5, (some .int)),
  (⟨"FathersPayModel", "untell", "(I)I"⟩, prog_13_method_35_code, 3, (some .int)),
  (⟨"FathersPayModel", "joined", "(III)I"⟩, prog_13_method_36_code, 3, (some .int)),
  (⟨"FathersPayModel", "worked", "(I)I"⟩, prog_13_method_37_code, 7, (some .int)),
  (⟨"FathersPayModel", "clears", "()V"⟩, prog_13_method_38_code, 2, none),
  (⟨"FathersPayModel", "toTown", "(I)V"⟩, prog_13_method_39_code, 2, none),
  (⟨"FathersPayModel", "toldPart", "(III)I"⟩, prog_13_method_40_code, 4, (some .int)),
  (⟨"FathersPayModel", "answers", "(III)I"⟩, prog_13_method_41_code, 6, (some .int)),
  (⟨"FathersPayModel", "pays", "(III)I"⟩, prog_13_method_42_code, 8, (some .int)),
  (⟨"FathersPayModel", "call", "(III)V"⟩, prog_13_method_43_code, 5, none),
  (⟨"FathersPayModel", "areSisters", "(II)Z"⟩, prog_13_method_44_code, 4, (some .boolean)),
  (⟨"FathersPayModel", "goesUp", "(III)V"⟩, prog_13_method_45_code, 9, none),
  (⟨"FathersPayModel", "defaults", "(I)V"⟩, prog_13_method_46_code, 2, none),
  (⟨"FathersPayModel", "allDefault", "()V"⟩, prog_13_method_47_code, 2, none),
  (⟨"FathersPayModel", "isNewDebt", "(III)Z"⟩, prog_13_method_48_code, 4, (some .boolean)),
  (⟨"FathersPayModel", "addDebt", "(III)V"⟩, prog_13_method_49_code, 5, none),
  (⟨"FathersPayModel", "debt", "(III)I"⟩, prog_13_method_50_code, 4, (some .int)),
  (⟨"FathersPayModel", "debtIs", "(II)I"⟩, prog_13_method_51_code, 3, (some .int)),
  (⟨"FathersPayModel", "fails", "(I)I"⟩, prog_13_method_52_code, 2, (some .int)),
  (⟨"FathersPayModel", "settle", "(I)I"⟩, prog_13_method_53_code, 6, (some .int)),
  (⟨"FathersPayModel", "days", "(I)I"⟩, prog_13_method_54_code, 4, (some .int)),
  (⟨"FathersPayModel", "draw", "()I"⟩, prog_13_method_55_code, 1, (some .int)),
  (⟨"FathersPayModel", "fresh", "(I)I"⟩, prog_13_method_56_code, 4, (some .int)),
  (⟨"FathersPayModel", "leave", "(II)V"⟩, prog_13_method_57_code, 7, none),
  (⟨"FathersPayModel", "year", "()I"⟩, prog_13_method_58_code, 3, (some .int)),
  (⟨"FathersPayModel", "years", "(I)I"⟩, prog_13_method_59_code, 4, (some .int)),
  (⟨"FathersPayModel", "seed", "(I)I"⟩, prog_13_method_60_code, 3, (some .int)),
  (⟨"FathersPayModel", "tries", "(I)V"⟩, prog_13_method_61_code, 2, none),
  (⟨"FathersPayModel", "whyNot", "(I)I"⟩, prog_13_method_62_code, 2, (some .int)),
  (⟨"FathersPayModel", "called", "(II)I"⟩, prog_13_method_63_code, 3, (some .int)),
  (⟨"FathersPayModel", "lost", "(I)I"⟩, prog_13_method_64_code, 3, (some .int)),
  (⟨"FathersPayModel", "triesAll", "()V"⟩, prog_13_method_65_code, 1, none),
  (⟨"FathersPayModel", "bespoke", "(I)I"⟩, prog_13_method_66_code, 2, (some .int)),
  (⟨"FathersPayModel", "safe", "(II)J"⟩, prog_13_method_67_code, 14, (some .long)),
  (⟨"FathersPayModel", "disown", "(I)I"⟩, prog_13_method_68_code, 6, (some .int)),
  (⟨"FathersPayModel", "adopt", "(I)I"⟩, prog_13_method_69_code, 8, (some .int)),
  (⟨"FathersPayModel", "needs", "()I"⟩, prog_13_method_70_code, 1, (some .int)),
  (⟨"FathersPayModel", "begins", "(I)V"⟩, prog_13_method_71_code, 2, none),
  (⟨"FathersPayModel", "above", "(I)I"⟩, prog_13_method_72_code, 1, (some .int)),
  (⟨"FathersPayModel", "kindNow", "()I"⟩, prog_13_method_73_code, 1, (some .int)),
  (⟨"FathersPayModel", "mNow", "()I"⟩, prog_13_method_74_code, 1, (some .int)),
  (⟨"FathersPayModel", "owesBy", "(II)I"⟩, prog_13_method_75_code, 3, (some .int)),
  (⟨"FathersPayModel", "paysBy", "(II)I"⟩, prog_13_method_76_code, 3, (some .int)),
  (⟨"FathersPayModel", "asksBy", "(II)I"⟩, prog_13_method_77_code, 3, (some .int)),
  (⟨"FathersPayModel", "leavesBy", "(II)I"⟩, prog_13_method_78_code, 5, (some .int)),
  (⟨"FathersPayModel", "voice", "(III)I"⟩, prog_13_method_79_code, 6, (some .int)),
  (⟨"FathersPayModel", "body", "(I)I"⟩, prog_13_method_80_code, 2, (some .int)),
  (⟨"FathersPayModel", "isSheet", "(I)Z"⟩, prog_13_method_81_code, 1, (some .boolean)),
  (⟨"FathersPayModel", "sheet", "(III)I"⟩, prog_13_method_82_code, 5, (some .int)),
  (⟨"FathersPayModel", "put", "(III)I"⟩, prog_13_method_83_code, 5, (some .int)),
  (⟨"FathersPayModel", "move", "(IIIII)I"⟩, prog_13_method_84_code, 7, (some .int)),
  (⟨"FathersPayModel", "lacks", "(I)I"⟩, prog_13_method_85_code, 2, (some .int)),
  (⟨"FathersPayModel", "debts", "(I)I"⟩, prog_13_method_86_code, 5, (some .int)),
  (⟨"FathersPayModel", "judge", "(II)I"⟩, prog_13_method_87_code, 4, (some .int)),
  (⟨"FathersPayModel", "image", "()I"⟩, prog_13_method_88_code, 1, (some .int)),
  (⟨"FathersPayModel", "restore", "()I"⟩, prog_13_method_89_code, 1, (some .int)),
  (⟨"FathersPayModel", "tell", "(I)I"⟩, prog_13_method_90_code, 2, (some .int)),
  (⟨"FathersPayModel", "check", "(I)I"⟩, prog_13_method_91_code, 7, (some .int)),
  (⟨"FathersPayModel", "count1", "(III)I"⟩, prog_13_method_92_code, 6, (some .int)),
  (⟨"FathersPayModel", "count", "(I)I"⟩, prog_13_method_93_code, 2, (some .int)),
  (⟨"FathersPayModel", "told", "(I)I"⟩, prog_13_method_94_code, 2, (some .int)),
  (⟨"java/lang/String", "indexOf", "(I)I"⟩, prog_16_method_79_code, 2, (some .int)),
  (⟨"java/lang/String", "indexOf", "(II)I"⟩, prog_16_method_80_code, 3, (some .int)),
  (⟨"java/lang/String", "isLatin1", "()Z"⟩, prog_16_method_154_code, 1, (some .boolean)),
  (⟨"java/lang/String", "length", "()I"⟩, prog_16_method_54_code, 1, (some .int)),
  (⟨"java/lang/String", "coder", "()B"⟩, prog_16_method_152_code, 1, (some .byte)),
  (⟨"java/lang/StringLatin1", "canEncode", "(I)Z"⟩, prog_17_method_4_code, 1, (some .boolean)),
  (⟨"java/lang/StringLatin1", "indexOf", "([BIII)I"⟩, prog_17_method_22_code, 4, (some .int)),
  (⟨"java/lang/StringLatin1", "indexOfChar", "([BIII)I"⟩, prog_17_method_23_code, 6, (some .int)),
  (⟨"java/util/Arrays", "fill", "([II)V"⟩, prog_20_method_103_code, 4, none)]
def zm_m (y : Nat) : MethodName × ByteArray × Nat × Option FieldType := zm_md.getD y (⟨"", "", ""⟩, ⟨#[]⟩, 0, none)
def zm_nm (y : Nat) : MethodName := (zm_m y).1
def zm_cd (y : Nat) : ByteArray := (zm_m y).2.1
def zm_mx (y : Nat) : Nat := (zm_m y).2.2.1
def zm_rt (y : Nat) : Option FieldType := (zm_m y).2.2.2
def zm_mi : List (Nat × Nat × Bool × Nat × Nat × Nat × Nat × Nat) := [(12, 1, true, 0, 0, 0, 0, 2),
  (0, 1, false, 563, 77, 561, 562, 2),
  (0, 1, false, 575, 77, 573, 574, 2),
  (0, 3, false, 555, 77, 553, 554, 1),
  (0, 0, false, 1034, 77, 1032, 1033, 1),
  (0, 1, false, 995, 77, 993, 994, 0),
  (1, 1, false, 866, 81, 864, 865, 1),
  (1, 1, false, 874, 81, 872, 873, 0),
  (1, 2, false, 870, 81, 869, 18, 2),
  (1, 1, false, 878, 81, 877, 19, 0),
  (1, 1, false, 887, 81, 886, 20, 3),
  (1, 2, true, 891, 81, 890, 0, 3),
  (2, 1, false, 701, 78, 699, 700, 0),
  (2, 1, false, 1000, 78, 998, 999, 0),
  (3, 1, false, 497, 76, 495, 496, 2),
  (3, 4, false, 489, 76, 487, 488, 1),
  (3, 1, false, 988, 76, 986, 987, 0),
  (3, 2, false, 516, 76, 514, 515, 2),
  (3, 1, false, 501, 76, 499, 500, 1),
  (3, 1, false, 512, 76, 510, 511, 1),
  (3, 0, false, 1027, 76, 1025, 1026, 1),
  (3, 1, false, 669, 76, 667, 668, 1),
  (3, 1, false, 684, 76, 682, 683, 1),
  (4, 3, false, 714, 82, 712, 713, 2),
  (4, 2, false, 719, 82, 718, 12, 2),
  (4, 1, false, 723, 82, 722, 13, 2),
  (4, 2, false, 742, 82, 741, 17, 2),
  (4, 0, false, 734, 82, 733, 15, 0),
  (4, 1, false, 738, 82, 737, 16, 0),
  (4, 0, false, 727, 82, 726, 14, 1),
  (4, 1, true, 730, 82, 729, 0, 2),
  (4, 1, true, 827, 82, 826, 0, 1),
  (5, 1, false, 943, 84, 941, 942, 2),
  (5, 1, false, 956, 84, 954, 955, 2),
  (5, 3, false, 947, 84, 945, 946, 0),
  (5, 3, false, 967, 84, 965, 966, 2),
  (6, 2, false, 835, 79, 833, 834, 0),
  (6, 1, false, 1005, 79, 1003, 1004, 0),
  (6, 5, false, 607, 79, 605, 606, 1),
  (6, 3, true, 610, 79, 609, 0, 1),
  (7, 1, false, 831, 75, 829, 830, 4),
  (7, 1, false, 984, 75, 982, 983, 0),
  (7, 1, false, 641, 75, 639, 640, 0),
  (7, 0, false, 660, 75, 658, 659, 1),
  (7, 1, false, 665, 75, 664, 8, 1),
  (7, 0, false, 675, 75, 674, 9, 1),
  (7, 1, false, 680, 75, 679, 10, 0),
  (7, 3, false, 688, 75, 687, 11, 0),
  (8, 0, false, 583, 80, 581, 582, 0),
  (8, 0, false, 637, 80, 635, 636, 0),
  (8, 2, false, 900, 80, 898, 899, 0),
  (8, 1, false, 593, 80, 591, 592, 0),
  (8, 0, false, 856, 80, 854, 855, 0),
  (8, 2, false, 625, 80, 623, 624, 2),
  (8, 3, false, 629, 80, 628, 6, 0),
  (8, 3, false, 633, 80, 632, 7, 0),
  (8, 3, false, 597, 80, 596, 4, 1),
  (8, 2, false, 621, 80, 620, 5, 1),
  (9, 5, false, 916, 83, 914, 915, 1),
  (9, 4, false, 920, 83, 919, 21, 1),
  (9, 4, false, 927, 83, 926, 22, 1),
  (9, 1, false, 931, 83, 930, 23, 1),
  (10, 3, false, 476, 74, 474, 475, 1),
  (10, 2, false, 493, 74, 491, 492, 1),
  (10, 2, false, 520, 74, 518, 519, 1),
  (10, 3, false, 529, 74, 527, 528, 1),
  (10, 3, false, 535, 74, 533, 534, 1),
  (10, 2, false, 540, 74, 538, 539, 1),
  (10, 3, false, 547, 74, 545, 546, 1),
  (10, 2, false, 559, 74, 557, 558, 1),
  (10, 1, false, 567, 74, 565, 566, 1),
  (10, 1, false, 648, 74, 646, 647, 1),
  (10, 1, false, 652, 74, 650, 651, 1),
  (10, 1, false, 656, 74, 654, 655, 1),
  (10, 1, false, 693, 74, 691, 692, 1),
  (10, 2, false, 697, 74, 695, 696, 1),
  (10, 1, false, 705, 74, 703, 704, 1),
  (10, 1, false, 840, 74, 838, 839, 1),
  (10, 2, false, 844, 74, 842, 843, 1),
  (10, 1, false, 848, 74, 846, 847, 1),
  (10, 1, false, 852, 74, 850, 851, 1),
  (10, 2, false, 862, 74, 860, 861, 3),
  (10, 1, false, 895, 74, 893, 894, 1),
  (10, 1, false, 904, 74, 902, 903, 1),
  (10, 0, false, 908, 74, 906, 907, 1),
  (10, 3, false, 912, 74, 910, 911, 1),
  (10, 1, false, 935, 74, 933, 934, 1),
  (10, 3, false, 939, 74, 937, 938, 1),
  (10, 3, false, 952, 74, 950, 951, 1),
  (10, 5, false, 963, 74, 961, 962, 1),
  (10, 1, false, 972, 74, 970, 971, 1),
  (10, 2, false, 976, 74, 974, 975, 1),
  (10, 0, false, 980, 74, 978, 979, 1),
  (10, 0, false, 1011, 74, 1009, 1010, 1),
  (10, 1, false, 1015, 74, 1013, 1014, 1),
  (10, 1, false, 1019, 74, 1017, 1018, 1),
  (10, 1, false, 1023, 74, 1021, 1022, 1),
  (10, 1, false, 1039, 74, 1037, 1038, 1),
  (10, 1, false, 484, 74, 483, 0, 1),
  (10, 1, false, 571, 74, 570, 2, 1),
  (10, 3, false, 551, 74, 550, 1, 2),
  (10, 1, false, 579, 74, 578, 3, 1),
  (10, 1, true, 479, 74, 478, 0, 2),
  (10, 1, true, 708, 74, 707, 0, 2),
  (10, 2, true, 523, 74, 522, 0, 2),
  (10, 2, true, 507, 74, 506, 0, 2),
  (10, 1, true, 504, 74, 503, 0, 1),
  (10, 2, true, 959, 74, 958, 0, 1),
  (10, 3, true, 613, 74, 612, 0, 1),
  (10, 1, true, 603, 74, 602, 0, 1),
  (10, 2, true, 1030, 74, 1029, 0, 1),
  (10, 2, true, 991, 74, 990, 0, 0),
  (11, 1, false, 1130, 85, 1129, 24, 1),
  (11, 3, true, 1122, 85, 1121, 0, 2),
  (11, 3, true, 1284, 85, 1283, 0, 1),
  (11, 2, true, 1355, 85, 1354, 0, 0),
  (11, 1, false, 1143, 85, 1142, 26, 2),
  (11, 1, false, 1251, 85, 1250, 43, 2),
  (11, 2, false, 1151, 85, 1150, 28, 1),
  (11, 3, false, 1135, 85, 1134, 25, 0),
  (11, 2, false, 1255, 85, 1254, 44, 1),
  (11, 1, true, 1125, 85, 1124, 0, 2),
  (11, 3, false, 1119, 85, 1117, 1118, 1),
  (11, 2, false, 1331, 85, 1330, 57, 2),
  (11, 1, false, 1147, 85, 1146, 27, 1),
  (11, 1, false, 1155, 85, 1154, 29, 1),
  (11, 2, false, 1139, 85, 1137, 1138, 1),
  (11, 2, true, 1162, 85, 1161, 0, 2),
  (11, 2, false, 1159, 85, 1157, 1158, 1),
  (11, 3, false, 1166, 85, 1164, 1165, 1),
  (11, 3, false, 1170, 85, 1168, 1169, 1),
  (11, 2, false, 1174, 85, 1172, 1173, 1),
  (11, 2, false, 1178, 85, 1176, 1177, 1),
  (11, 0, false, 1211, 85, 1210, 36, 1),
  (11, 1, false, 1215, 85, 1214, 37, 2),
  (11, 2, false, 1219, 85, 1218, 38, 0),
  (11, 0, false, 1187, 85, 1186, 30, 2),
  (11, 0, false, 1191, 85, 1190, 31, 2),
  (11, 0, false, 1195, 85, 1194, 32, 2),
  (11, 0, false, 1199, 85, 1198, 33, 2),
  (11, 0, false, 1203, 85, 1202, 34, 2),
  (11, 0, false, 1223, 85, 1222, 39, 2),
  (11, 0, false, 1207, 85, 1206, 35, 2),
  (11, 1, false, 1231, 85, 1230, 40, 2),
  (11, 1, false, 1183, 85, 1181, 1182, 1),
  (11, 1, false, 1227, 85, 1225, 1226, 1),
  (11, 3, true, 1307, 85, 1306, 0, 1),
  (11, 1, false, 1304, 85, 1303, 54, 1),
  (11, 0, false, 1263, 85, 1262, 45, 0),
  (11, 1, false, 1279, 85, 1278, 49, 0),
  (11, 3, false, 1300, 85, 1299, 53, 1),
  (11, 3, false, 1296, 85, 1295, 52, 1),
  (11, 3, false, 1292, 85, 1291, 51, 1),
  (11, 3, false, 1271, 85, 1270, 47, 0),
  (11, 2, false, 1288, 85, 1287, 50, 2),
  (11, 3, false, 1275, 85, 1274, 48, 0),
  (11, 1, false, 1267, 85, 1266, 46, 0),
  (11, 0, false, 1375, 85, 1374, 63, 0),
  (11, 3, false, 1239, 85, 1238, 41, 2),
  (11, 3, false, 1243, 85, 1242, 42, 0),
  (11, 3, false, 1235, 85, 1233, 1234, 1),
  (11, 2, false, 1247, 85, 1245, 1246, 1),
  (11, 1, false, 1259, 85, 1257, 1258, 1),
  (11, 1, false, 1311, 85, 1309, 1310, 1),
  (11, 1, false, 1315, 85, 1313, 1314, 1),
  (11, 0, false, 1335, 85, 1334, 58, 1),
  (11, 1, false, 1327, 85, 1326, 56, 1),
  (11, 2, false, 1340, 85, 1339, 59, 0),
  (11, 0, false, 1323, 85, 1322, 55, 1),
  (11, 1, false, 1319, 85, 1317, 1318, 1),
  (11, 1, false, 1344, 85, 1342, 1343, 1),
  (11, 1, false, 1352, 85, 1351, 60, 0),
  (11, 1, false, 1363, 85, 1362, 61, 1),
  (11, 2, false, 1348, 85, 1346, 1347, 1),
  (11, 1, false, 1359, 85, 1357, 1358, 1),
  (11, 0, false, 1371, 85, 1370, 62, 0),
  (11, 1, false, 1367, 85, 1365, 1366, 1),
  (11, 2, false, 1379, 85, 1377, 1378, 3),
  (11, 1, false, 1384, 85, 1382, 1383, 1),
  (11, 1, false, 1388, 85, 1386, 1387, 1),
  (11, 0, false, 1392, 85, 1390, 1391, 1),
  (11, 1, false, 1408, 85, 1407, 66, 0),
  (11, 1, true, 1411, 85, 1410, 0, 1),
  (11, 0, false, 1400, 85, 1399, 64, 1),
  (11, 0, false, 1419, 85, 1418, 68, 1),
  (11, 2, false, 1404, 85, 1403, 65, 1),
  (11, 2, false, 1415, 85, 1414, 67, 1),
  (11, 2, false, 1423, 85, 1422, 69, 1),
  (11, 2, false, 1427, 85, 1426, 70, 1),
  (11, 3, false, 1396, 85, 1394, 1395, 1),
  (11, 1, false, 1431, 85, 1429, 1430, 1),
  (11, 1, true, 1438, 85, 1437, 0, 2),
  (11, 3, false, 1435, 85, 1433, 1434, 1),
  (11, 3, false, 1442, 85, 1440, 1441, 1),
  (11, 5, false, 1446, 85, 1444, 1445, 1),
  (11, 1, false, 1454, 85, 1453, 71, 1),
  (11, 1, false, 1450, 85, 1448, 1449, 1),
  (11, 2, false, 1458, 85, 1456, 1457, 1),
  (11, 0, false, 1462, 85, 1460, 1461, 1),
  (11, 0, false, 1466, 85, 1464, 1465, 1),
  (11, 1, false, 1470, 85, 1468, 1469, 1),
  (11, 1, false, 1474, 85, 1472, 1473, 1),
  (11, 3, false, 1482, 85, 1481, 72, 1),
  (11, 1, false, 1478, 85, 1476, 1477, 1),
  (11, 1, false, 1486, 85, 1484, 1485, 1),
  (13, 1, false, 746, 89, 744, 745, 1),
  (13, 2, false, 750, 89, 748, 749, 1),
  (13, 0, false, 754, 89, 752, 753, 2),
  (13, 0, false, 760, 89, 758, 759, 1),
  (13, 0, false, 764, 89, 762, 763, 5),
  (14, 1, true, 770, 90, 769, 0, 2),
  (14, 4, true, 767, 90, 766, 0, 1),
  (14, 4, true, 775, 90, 774, 0, 1),
  (15, 2, true, 589, 87, 588, 0, 0)]
def zm_i (y : Nat) : Nat × Nat × Bool × Nat × Nat × Nat × Nat × Nat := zm_mi.getD y (99, 0, true, 0, 0, 0, 0, 9)
def zm_yc (y : Nat) : Nat := (zm_i y).1
def zm_na (y : Nat) : Nat := (zm_i y).2.1
def zm_is (y : Nat) : Bool := (zm_i y).2.2.1
/-- the answer: 0 none, 1 int, 2 boolean, 3 long, 4 a reference, 5 byte -/
def zm_rk (y : Nat) : Nat := (zm_i y).2.2.2.2.2.2.2
def zm_N : Nat := 214
def zm_t0_0 : List (Nat × Instr × Nat) := [(0, .new 7, 3), (3, .dup, 1), (4, .invokespecial 9, 3), (7, .astore_n 1, 1), (8, .new 10, 3), (11, .dup, 1), (12, .invokespecial 12, 3), (15, .astore_n 2, 1), (16, .iconst 0, 1), (17, .istore_n 3, 1), (18, .iload_n 3, 1), (19, .aload_n 0, 1), (20, .arraylength, 1), (21, .bipush 6, 2), (23, .isub, 1), (24, .if_icmp .gt 1263, 3), (27, .aload_n 0, 1), (28, .iload_n 3, 1), (29, .iaload, 1), (30, .bipush 63, 2), (32, .iand, 1), (33, .tableswitch 1248 0 35 #[159, 202, 235, 268, 311, 354, 387, 430, 463, 486, 509, 532, 555, 578, 641, 664, 687, 720, 743, 766, 800, 823, 846, 859, 902, 925, 968, 1011, 1074, 1097, 1130, 1143, 1156, 1179, 1202, 1225], 159), (192, .aload_n 1, 1), (193, .aload_n 0, 1), (194, .iload_n 3, 1), (195, .iconst 1, 1), (196, .iadd, 1), (197, .iaload, 1), (198, .aload_n 0, 1), (199, .iload_n 3, 1), (200, .iconst 2, 1), (201, .iadd, 1), (202, .iaload, 1), (203, .aload_n 0, 1), (204, .iload_n 3, 1), (205, .iconst 3, 1), (206, .iadd, 1), (207, .iaload, 1), (208, .invokevirtual 13, 3), (211, .aload_n 2, 1)]
def zm_t0_1 : List (Nat × Instr × Nat) := [(212, .aload_n 0, 1), (213, .iload_n 3, 1), (214, .iconst 1, 1), (215, .iadd, 1), (216, .iaload, 1), (217, .aload_n 0, 1), (218, .iload_n 3, 1), (219, .iconst 2, 1), (220, .iadd, 1), (221, .iaload, 1), (222, .aload_n 0, 1), (223, .iload_n 3, 1), (224, .iconst 3, 1), (225, .iadd, 1), (226, .iaload, 1), (227, .invokevirtual 17, 3), (230, .if_icmp .eq 1051, 3), (233, .iconst 0, 1), (234, .ireturn, 1), (235, .aload_n 1, 1), (236, .aload_n 0, 1), (237, .iload_n 3, 1), (238, .iconst 1, 1), (239, .iadd, 1), (240, .iaload, 1), (241, .aload_n 0, 1), (242, .iload_n 3, 1), (243, .iconst 2, 1), (244, .iadd, 1), (245, .iaload, 1), (246, .invokevirtual 18, 3), (249, .aload_n 2, 1), (250, .aload_n 0, 1), (251, .iload_n 3, 1), (252, .iconst 1, 1), (253, .iadd, 1), (254, .iaload, 1), (255, .aload_n 0, 1), (256, .iload_n 3, 1), (257, .iconst 2, 1)]
def zm_t0_2 : List (Nat × Instr × Nat) := [(258, .iadd, 1), (259, .iaload, 1), (260, .invokevirtual 22, 3), (263, .if_icmp .eq 1018, 3), (266, .iconst 0, 1), (267, .ireturn, 1), (268, .aload_n 1, 1), (269, .aload_n 0, 1), (270, .iload_n 3, 1), (271, .iconst 1, 1), (272, .iadd, 1), (273, .iaload, 1), (274, .aload_n 0, 1), (275, .iload_n 3, 1), (276, .iconst 2, 1), (277, .iadd, 1), (278, .iaload, 1), (279, .invokevirtual 23, 3), (282, .aload_n 2, 1), (283, .aload_n 0, 1), (284, .iload_n 3, 1), (285, .iconst 1, 1), (286, .iadd, 1), (287, .iaload, 1), (288, .aload_n 0, 1), (289, .iload_n 3, 1), (290, .iconst 2, 1), (291, .iadd, 1), (292, .iaload, 1), (293, .invokevirtual 26, 3), (296, .if_icmp .eq 985, 3), (299, .iconst 0, 1), (300, .ireturn, 1), (301, .aload_n 1, 1), (302, .aload_n 0, 1), (303, .iload_n 3, 1), (304, .iconst 1, 1), (305, .iadd, 1), (306, .iaload, 1), (307, .aload_n 0, 1)]
def zm_t0_3 : List (Nat × Instr × Nat) := [(308, .iload_n 3, 1), (309, .iconst 2, 1), (310, .iadd, 1), (311, .iaload, 1), (312, .aload_n 0, 1), (313, .iload_n 3, 1), (314, .iconst 3, 1), (315, .iadd, 1), (316, .iaload, 1), (317, .invokevirtual 27, 3), (320, .aload_n 2, 1), (321, .aload_n 0, 1), (322, .iload_n 3, 1), (323, .iconst 1, 1), (324, .iadd, 1), (325, .iaload, 1), (326, .aload_n 0, 1), (327, .iload_n 3, 1), (328, .iconst 2, 1), (329, .iadd, 1), (330, .iaload, 1), (331, .aload_n 0, 1), (332, .iload_n 3, 1), (333, .iconst 3, 1), (334, .iadd, 1), (335, .iaload, 1), (336, .invokevirtual 30, 3), (339, .if_icmp .eq 942, 3), (342, .iconst 0, 1), (343, .ireturn, 1), (344, .aload_n 1, 1), (345, .aload_n 0, 1), (346, .iload_n 3, 1), (347, .iconst 1, 1), (348, .iadd, 1), (349, .iaload, 1), (350, .aload_n 0, 1), (351, .iload_n 3, 1), (352, .iconst 2, 1), (353, .iadd, 1)]
def zm_t0_4 : List (Nat × Instr × Nat) := [(354, .iaload, 1), (355, .aload_n 0, 1), (356, .iload_n 3, 1), (357, .iconst 3, 1), (358, .iadd, 1), (359, .iaload, 1), (360, .invokevirtual 31, 3), (363, .aload_n 2, 1), (364, .aload_n 0, 1), (365, .iload_n 3, 1), (366, .iconst 1, 1), (367, .iadd, 1), (368, .iaload, 1), (369, .aload_n 0, 1), (370, .iload_n 3, 1), (371, .iconst 2, 1), (372, .iadd, 1), (373, .iaload, 1), (374, .aload_n 0, 1), (375, .iload_n 3, 1), (376, .iconst 3, 1), (377, .iadd, 1), (378, .iaload, 1), (379, .invokevirtual 34, 3), (382, .if_icmp .eq 899, 3), (385, .iconst 0, 1), (386, .ireturn, 1), (387, .aload_n 1, 1), (388, .aload_n 0, 1), (389, .iload_n 3, 1), (390, .iconst 1, 1), (391, .iadd, 1), (392, .iaload, 1), (393, .aload_n 0, 1), (394, .iload_n 3, 1), (395, .iconst 2, 1), (396, .iadd, 1), (397, .iaload, 1), (398, .invokevirtual 35, 3), (401, .aload_n 2, 1)]
def zm_t0_5 : List (Nat × Instr × Nat) := [(402, .aload_n 0, 1), (403, .iload_n 3, 1), (404, .iconst 1, 1), (405, .iadd, 1), (406, .iaload, 1), (407, .aload_n 0, 1), (408, .iload_n 3, 1), (409, .iconst 2, 1), (410, .iadd, 1), (411, .iaload, 1), (412, .invokevirtual 38, 3), (415, .if_icmp .eq 866, 3), (418, .iconst 0, 1), (419, .ireturn, 1), (420, .aload_n 1, 1), (421, .aload_n 0, 1), (422, .iload_n 3, 1), (423, .iconst 1, 1), (424, .iadd, 1), (425, .iaload, 1), (426, .aload_n 0, 1), (427, .iload_n 3, 1), (428, .iconst 2, 1), (429, .iadd, 1), (430, .iaload, 1), (431, .aload_n 0, 1), (432, .iload_n 3, 1), (433, .iconst 3, 1), (434, .iadd, 1), (435, .iaload, 1), (436, .invokevirtual 39, 3), (439, .aload_n 2, 1), (440, .aload_n 0, 1), (441, .iload_n 3, 1), (442, .iconst 1, 1), (443, .iadd, 1), (444, .iaload, 1), (445, .aload_n 0, 1), (446, .iload_n 3, 1), (447, .iconst 2, 1)]
def zm_t0_6 : List (Nat × Instr × Nat) := [(448, .iadd, 1), (449, .iaload, 1), (450, .aload_n 0, 1), (451, .iload_n 3, 1), (452, .iconst 3, 1), (453, .iadd, 1), (454, .iaload, 1), (455, .invokevirtual 42, 3), (458, .if_icmp .eq 823, 3), (461, .iconst 0, 1), (462, .ireturn, 1), (463, .aload_n 1, 1), (464, .aload_n 0, 1), (465, .iload_n 3, 1), (466, .iconst 1, 1), (467, .iadd, 1), (468, .iaload, 1), (469, .aload_n 0, 1), (470, .iload_n 3, 1), (471, .iconst 2, 1), (472, .iadd, 1), (473, .iaload, 1), (474, .invokevirtual 43, 3), (477, .aload_n 2, 1), (478, .aload_n 0, 1), (479, .iload_n 3, 1), (480, .iconst 1, 1), (481, .iadd, 1), (482, .iaload, 1), (483, .aload_n 0, 1), (484, .iload_n 3, 1), (485, .iconst 2, 1), (486, .iadd, 1), (487, .iaload, 1), (488, .invokevirtual 46, 3), (491, .if_icmp .eq 790, 3), (494, .iconst 0, 1), (495, .ireturn, 1), (496, .aload_n 1, 1), (497, .aload_n 0, 1)]
def zm_t0_7 : List (Nat × Instr × Nat) := [(498, .iload_n 3, 1), (499, .iconst 1, 1), (500, .iadd, 1), (501, .iaload, 1), (502, .invokevirtual 47, 3), (505, .aload_n 2, 1), (506, .aload_n 0, 1), (507, .iload_n 3, 1), (508, .iconst 1, 1), (509, .iadd, 1), (510, .iaload, 1), (511, .invokevirtual 51, 3), (514, .if_icmp .eq 767, 3), (517, .iconst 0, 1), (518, .ireturn, 1), (519, .aload_n 1, 1), (520, .aload_n 0, 1), (521, .iload_n 3, 1), (522, .iconst 1, 1), (523, .iadd, 1), (524, .iaload, 1), (525, .invokevirtual 52, 3), (528, .aload_n 2, 1), (529, .aload_n 0, 1), (530, .iload_n 3, 1), (531, .iconst 1, 1), (532, .iadd, 1), (533, .iaload, 1), (534, .invokevirtual 55, 3), (537, .if_icmp .eq 744, 3), (540, .iconst 0, 1), (541, .ireturn, 1), (542, .aload_n 1, 1), (543, .aload_n 0, 1), (544, .iload_n 3, 1), (545, .iconst 1, 1), (546, .iadd, 1), (547, .iaload, 1), (548, .invokevirtual 56, 3), (551, .aload_n 2, 1)]
def zm_t0_8 : List (Nat × Instr × Nat) := [(552, .aload_n 0, 1), (553, .iload_n 3, 1), (554, .iconst 1, 1), (555, .iadd, 1), (556, .iaload, 1), (557, .invokevirtual 59, 3), (560, .if_icmp .eq 721, 3), (563, .iconst 0, 1), (564, .ireturn, 1), (565, .aload_n 1, 1), (566, .aload_n 0, 1), (567, .iload_n 3, 1), (568, .iconst 1, 1), (569, .iadd, 1), (570, .iaload, 1), (571, .invokevirtual 60, 3), (574, .aload_n 2, 1), (575, .aload_n 0, 1), (576, .iload_n 3, 1), (577, .iconst 1, 1), (578, .iadd, 1), (579, .iaload, 1), (580, .invokevirtual 63, 3), (583, .if_icmp .eq 698, 3), (586, .iconst 0, 1), (587, .ireturn, 1), (588, .aload_n 1, 1), (589, .aload_n 0, 1), (590, .iload_n 3, 1), (591, .iconst 1, 1), (592, .iadd, 1), (593, .iaload, 1), (594, .invokevirtual 64, 3), (597, .aload_n 2, 1), (598, .aload_n 0, 1), (599, .iload_n 3, 1), (600, .iconst 1, 1), (601, .iadd, 1), (602, .iaload, 1), (603, .invokevirtual 67, 3)]
def zm_t0_9 : List (Nat × Instr × Nat) := [(606, .if_icmp .eq 675, 3), (609, .iconst 0, 1), (610, .ireturn, 1), (611, .aload_n 1, 1), (612, .aload_n 0, 1), (613, .iload_n 3, 1), (614, .iconst 1, 1), (615, .iadd, 1), (616, .iaload, 1), (617, .i2l, 1), (618, .bipush 32, 2), (620, .lshl, 1), (621, .aload_n 0, 1), (622, .iload_n 3, 1), (623, .iconst 2, 1), (624, .iadd, 1), (625, .iaload, 1), (626, .i2l, 1), (627, .ldc2_w 68, 3), (630, .land, 1), (631, .lor, 1), (632, .aload_n 0, 1), (633, .iload_n 3, 1), (634, .iconst 3, 1), (635, .iadd, 1), (636, .iaload, 1), (637, .invokevirtual 70, 3), (640, .aload_n 2, 1), (641, .aload_n 0, 1), (642, .iload_n 3, 1), (643, .iconst 1, 1), (644, .iadd, 1), (645, .iaload, 1), (646, .i2l, 1), (647, .bipush 32, 2), (649, .lshl, 1), (650, .aload_n 0, 1), (651, .iload_n 3, 1), (652, .iconst 2, 1), (653, .iadd, 1)]
def zm_t0_10 : List (Nat × Instr × Nat) := [(654, .iaload, 1), (655, .i2l, 1), (656, .ldc2_w 68, 3), (659, .land, 1), (660, .lor, 1), (661, .aload_n 0, 1), (662, .iload_n 3, 1), (663, .iconst 3, 1), (664, .iadd, 1), (665, .iaload, 1), (666, .invokevirtual 74, 3), (669, .if_icmp .eq 612, 3), (672, .iconst 0, 1), (673, .ireturn, 1), (674, .aload_n 1, 1), (675, .aload_n 0, 1), (676, .iload_n 3, 1), (677, .iconst 1, 1), (678, .iadd, 1), (679, .iaload, 1), (680, .invokevirtual 75, 3), (683, .aload_n 2, 1), (684, .aload_n 0, 1), (685, .iload_n 3, 1), (686, .iconst 1, 1), (687, .iadd, 1), (688, .iaload, 1), (689, .invokevirtual 78, 3), (692, .if_icmp .eq 589, 3), (695, .iconst 0, 1), (696, .ireturn, 1), (697, .aload_n 1, 1), (698, .aload_n 0, 1), (699, .iload_n 3, 1), (700, .iconst 1, 1), (701, .iadd, 1), (702, .iaload, 1), (703, .invokevirtual 79, 3), (706, .aload_n 2, 1), (707, .aload_n 0, 1)]
def zm_t0_11 : List (Nat × Instr × Nat) := [(708, .iload_n 3, 1), (709, .iconst 1, 1), (710, .iadd, 1), (711, .iaload, 1), (712, .invokevirtual 82, 3), (715, .if_icmp .eq 566, 3), (718, .iconst 0, 1), (719, .ireturn, 1), (720, .aload_n 1, 1), (721, .aload_n 0, 1), (722, .iload_n 3, 1), (723, .iconst 1, 1), (724, .iadd, 1), (725, .iaload, 1), (726, .aload_n 0, 1), (727, .iload_n 3, 1), (728, .iconst 2, 1), (729, .iadd, 1), (730, .iaload, 1), (731, .invokevirtual 83, 3), (734, .aload_n 2, 1), (735, .aload_n 0, 1), (736, .iload_n 3, 1), (737, .iconst 1, 1), (738, .iadd, 1), (739, .iaload, 1), (740, .aload_n 0, 1), (741, .iload_n 3, 1), (742, .iconst 2, 1), (743, .iadd, 1), (744, .iaload, 1), (745, .invokevirtual 86, 3), (748, .if_icmp .eq 533, 3), (751, .iconst 0, 1), (752, .ireturn, 1), (753, .aload_n 1, 1), (754, .aload_n 0, 1), (755, .iload_n 3, 1), (756, .iconst 1, 1), (757, .iadd, 1)]
def zm_t0_12 : List (Nat × Instr × Nat) := [(758, .iaload, 1), (759, .invokevirtual 87, 3), (762, .aload_n 2, 1), (763, .aload_n 0, 1), (764, .iload_n 3, 1), (765, .iconst 1, 1), (766, .iadd, 1), (767, .iaload, 1), (768, .invokevirtual 90, 3), (771, .if_icmp .eq 510, 3), (774, .iconst 0, 1), (775, .ireturn, 1), (776, .aload_n 1, 1), (777, .aload_n 0, 1), (778, .iload_n 3, 1), (779, .iconst 1, 1), (780, .iadd, 1), (781, .iaload, 1), (782, .invokevirtual 91, 3), (785, .aload_n 2, 1), (786, .aload_n 0, 1), (787, .iload_n 3, 1), (788, .iconst 1, 1), (789, .iadd, 1), (790, .iaload, 1), (791, .invokevirtual 94, 3), (794, .if_icmp .eq 487, 3), (797, .iconst 0, 1), (798, .ireturn, 1), (799, .aload_n 1, 1), (800, .aload_n 0, 1), (801, .iload_n 3, 1), (802, .iconst 1, 1), (803, .iadd, 1), (804, .iaload, 1), (805, .aload_n 0, 1), (806, .iload_n 3, 1), (807, .iconst 2, 1), (808, .iadd, 1), (809, .iaload, 1)]
def zm_t0_13 : List (Nat × Instr × Nat) := [(810, .invokevirtual 95, 3), (813, .aload_n 2, 1), (814, .aload_n 0, 1), (815, .iload_n 3, 1), (816, .iconst 1, 1), (817, .iadd, 1), (818, .iaload, 1), (819, .aload_n 0, 1), (820, .iload_n 3, 1), (821, .iconst 2, 1), (822, .iadd, 1), (823, .iaload, 1), (824, .invokevirtual 99, 3), (827, .lcmp, 1), (828, .ifCond .eq 453, 3), (831, .iconst 0, 1), (832, .ireturn, 1), (833, .aload_n 1, 1), (834, .aload_n 0, 1), (835, .iload_n 3, 1), (836, .iconst 1, 1), (837, .iadd, 1), (838, .iaload, 1), (839, .invokevirtual 100, 3), (842, .aload_n 2, 1), (843, .aload_n 0, 1), (844, .iload_n 3, 1), (845, .iconst 1, 1), (846, .iadd, 1), (847, .iaload, 1), (848, .invokevirtual 103, 3), (851, .if_icmp .eq 430, 3), (854, .iconst 0, 1), (855, .ireturn, 1), (856, .aload_n 1, 1), (857, .aload_n 0, 1), (858, .iload_n 3, 1), (859, .iconst 1, 1), (860, .iadd, 1), (861, .iaload, 1)]
def zm_t0_14 : List (Nat × Instr × Nat) := [(862, .invokevirtual 104, 3), (865, .aload_n 2, 1), (866, .aload_n 0, 1), (867, .iload_n 3, 1), (868, .iconst 1, 1), (869, .iadd, 1), (870, .iaload, 1), (871, .invokevirtual 107, 3), (874, .if_icmp .eq 407, 3), (877, .iconst 0, 1), (878, .ireturn, 1), (879, .aload_n 1, 1), (880, .invokevirtual 108, 3), (883, .aload_n 2, 1), (884, .invokevirtual 112, 3), (887, .if_icmp .eq 394, 3), (890, .iconst 0, 1), (891, .ireturn, 1), (892, .aload_n 1, 1), (893, .aload_n 0, 1), (894, .iload_n 3, 1), (895, .iconst 1, 1), (896, .iadd, 1), (897, .iaload, 1), (898, .aload_n 0, 1), (899, .iload_n 3, 1), (900, .iconst 2, 1), (901, .iadd, 1), (902, .iaload, 1), (903, .aload_n 0, 1), (904, .iload_n 3, 1), (905, .iconst 3, 1), (906, .iadd, 1), (907, .iaload, 1), (908, .invokevirtual 113, 3), (911, .aload_n 2, 1), (912, .aload_n 0, 1), (913, .iload_n 3, 1), (914, .iconst 1, 1), (915, .iadd, 1)]
def zm_t0_15 : List (Nat × Instr × Nat) := [(916, .iaload, 1), (917, .aload_n 0, 1), (918, .iload_n 3, 1), (919, .iconst 2, 1), (920, .iadd, 1), (921, .iaload, 1), (922, .aload_n 0, 1), (923, .iload_n 3, 1), (924, .iconst 3, 1), (925, .iadd, 1), (926, .iaload, 1), (927, .invokevirtual 116, 3), (930, .if_icmp .eq 351, 3), (933, .iconst 0, 1), (934, .ireturn, 1), (935, .aload_n 1, 1), (936, .aload_n 0, 1), (937, .iload_n 3, 1), (938, .iconst 1, 1), (939, .iadd, 1), (940, .iaload, 1), (941, .invokevirtual 117, 3), (944, .aload_n 2, 1), (945, .aload_n 0, 1), (946, .iload_n 3, 1), (947, .iconst 1, 1), (948, .iadd, 1), (949, .iaload, 1), (950, .invokevirtual 120, 3), (953, .if_icmp .eq 328, 3), (956, .iconst 0, 1), (957, .ireturn, 1), (958, .aload_n 1, 1), (959, .aload_n 0, 1), (960, .iload_n 3, 1), (961, .iconst 1, 1), (962, .iadd, 1), (963, .iaload, 1), (964, .aload_n 0, 1), (965, .iload_n 3, 1)]
def zm_t0_16 : List (Nat × Instr × Nat) := [(966, .iconst 2, 1), (967, .iadd, 1), (968, .iaload, 1), (969, .aload_n 0, 1), (970, .iload_n 3, 1), (971, .iconst 3, 1), (972, .iadd, 1), (973, .iaload, 1), (974, .invokevirtual 121, 3), (977, .aload_n 2, 1), (978, .aload_n 0, 1), (979, .iload_n 3, 1), (980, .iconst 1, 1), (981, .iadd, 1), (982, .iaload, 1), (983, .aload_n 0, 1), (984, .iload_n 3, 1), (985, .iconst 2, 1), (986, .iadd, 1), (987, .iaload, 1), (988, .aload_n 0, 1), (989, .iload_n 3, 1), (990, .iconst 3, 1), (991, .iadd, 1), (992, .iaload, 1), (993, .invokevirtual 124, 3), (996, .if_icmp .eq 285, 3), (999, .iconst 0, 1), (1000, .ireturn, 1), (1001, .aload_n 1, 1), (1002, .aload_n 0, 1), (1003, .iload_n 3, 1), (1004, .iconst 1, 1), (1005, .iadd, 1), (1006, .iaload, 1), (1007, .aload_n 0, 1), (1008, .iload_n 3, 1), (1009, .iconst 2, 1), (1010, .iadd, 1), (1011, .iaload, 1)]
def zm_t0_17 : List (Nat × Instr × Nat) := [(1012, .aload_n 0, 1), (1013, .iload_n 3, 1), (1014, .iconst 3, 1), (1015, .iadd, 1), (1016, .iaload, 1), (1017, .invokevirtual 125, 3), (1020, .aload_n 2, 1), (1021, .aload_n 0, 1), (1022, .iload_n 3, 1), (1023, .iconst 1, 1), (1024, .iadd, 1), (1025, .iaload, 1), (1026, .aload_n 0, 1), (1027, .iload_n 3, 1), (1028, .iconst 2, 1), (1029, .iadd, 1), (1030, .iaload, 1), (1031, .aload_n 0, 1), (1032, .iload_n 3, 1), (1033, .iconst 3, 1), (1034, .iadd, 1), (1035, .iaload, 1), (1036, .invokevirtual 128, 3), (1039, .if_icmp .eq 242, 3), (1042, .iconst 0, 1), (1043, .ireturn, 1), (1044, .aload_n 1, 1), (1045, .aload_n 0, 1), (1046, .iload_n 3, 1), (1047, .iconst 1, 1), (1048, .iadd, 1), (1049, .iaload, 1), (1050, .aload_n 0, 1), (1051, .iload_n 3, 1), (1052, .iconst 2, 1), (1053, .iadd, 1), (1054, .iaload, 1), (1055, .aload_n 0, 1), (1056, .iload_n 3, 1), (1057, .iconst 3, 1)]
def zm_t0_18 : List (Nat × Instr × Nat) := [(1058, .iadd, 1), (1059, .iaload, 1), (1060, .aload_n 0, 1), (1061, .iload_n 3, 1), (1062, .iconst 4, 1), (1063, .iadd, 1), (1064, .iaload, 1), (1065, .aload_n 0, 1), (1066, .iload_n 3, 1), (1067, .iconst 5, 1), (1068, .iadd, 1), (1069, .iaload, 1), (1070, .invokevirtual 129, 3), (1073, .aload_n 2, 1), (1074, .aload_n 0, 1), (1075, .iload_n 3, 1), (1076, .iconst 1, 1), (1077, .iadd, 1), (1078, .iaload, 1), (1079, .aload_n 0, 1), (1080, .iload_n 3, 1), (1081, .iconst 2, 1), (1082, .iadd, 1), (1083, .iaload, 1), (1084, .aload_n 0, 1), (1085, .iload_n 3, 1), (1086, .iconst 3, 1), (1087, .iadd, 1), (1088, .iaload, 1), (1089, .aload_n 0, 1), (1090, .iload_n 3, 1), (1091, .iconst 4, 1), (1092, .iadd, 1), (1093, .iaload, 1), (1094, .aload_n 0, 1), (1095, .iload_n 3, 1), (1096, .iconst 5, 1), (1097, .iadd, 1), (1098, .iaload, 1), (1099, .invokevirtual 133, 3)]
def zm_t0_19 : List (Nat × Instr × Nat) := [(1102, .if_icmp .eq 179, 3), (1105, .iconst 0, 1), (1106, .ireturn, 1), (1107, .aload_n 1, 1), (1108, .aload_n 0, 1), (1109, .iload_n 3, 1), (1110, .iconst 1, 1), (1111, .iadd, 1), (1112, .iaload, 1), (1113, .invokevirtual 134, 3), (1116, .aload_n 2, 1), (1117, .aload_n 0, 1), (1118, .iload_n 3, 1), (1119, .iconst 1, 1), (1120, .iadd, 1), (1121, .iaload, 1), (1122, .invokevirtual 137, 3), (1125, .if_icmp .eq 156, 3), (1128, .iconst 0, 1), (1129, .ireturn, 1), (1130, .aload_n 1, 1), (1131, .aload_n 0, 1), (1132, .iload_n 3, 1), (1133, .iconst 1, 1), (1134, .iadd, 1), (1135, .iaload, 1), (1136, .aload_n 0, 1), (1137, .iload_n 3, 1), (1138, .iconst 2, 1), (1139, .iadd, 1), (1140, .iaload, 1), (1141, .invokevirtual 138, 3), (1144, .aload_n 2, 1), (1145, .aload_n 0, 1), (1146, .iload_n 3, 1), (1147, .iconst 1, 1), (1148, .iadd, 1), (1149, .iaload, 1), (1150, .aload_n 0, 1), (1151, .iload_n 3, 1)]
def zm_t0_20 : List (Nat × Instr × Nat) := [(1152, .iconst 2, 1), (1153, .iadd, 1), (1154, .iaload, 1), (1155, .invokevirtual 141, 3), (1158, .if_icmp .eq 123, 3), (1161, .iconst 0, 1), (1162, .ireturn, 1), (1163, .aload_n 1, 1), (1164, .invokevirtual 142, 3), (1167, .aload_n 2, 1), (1168, .invokevirtual 145, 3), (1171, .if_icmp .eq 110, 3), (1174, .iconst 0, 1), (1175, .ireturn, 1), (1176, .aload_n 1, 1), (1177, .invokevirtual 146, 3), (1180, .aload_n 2, 1), (1181, .invokevirtual 149, 3), (1184, .if_icmp .eq 97, 3), (1187, .iconst 0, 1), (1188, .ireturn, 1), (1189, .aload_n 1, 1), (1190, .aload_n 0, 1), (1191, .iload_n 3, 1), (1192, .iconst 1, 1), (1193, .iadd, 1), (1194, .iaload, 1), (1195, .invokevirtual 150, 3), (1198, .aload_n 2, 1), (1199, .aload_n 0, 1), (1200, .iload_n 3, 1), (1201, .iconst 1, 1), (1202, .iadd, 1), (1203, .iaload, 1), (1204, .invokevirtual 153, 3), (1207, .if_icmp .eq 74, 3), (1210, .iconst 0, 1), (1211, .ireturn, 1), (1212, .aload_n 1, 1), (1213, .aload_n 0, 1)]
def zm_t0_21 : List (Nat × Instr × Nat) := [(1214, .iload_n 3, 1), (1215, .iconst 1, 1), (1216, .iadd, 1), (1217, .iaload, 1), (1218, .invokevirtual 154, 3), (1221, .aload_n 2, 1), (1222, .aload_n 0, 1), (1223, .iload_n 3, 1), (1224, .iconst 1, 1), (1225, .iadd, 1), (1226, .iaload, 1), (1227, .invokevirtual 157, 3), (1230, .if_icmp .eq 51, 3), (1233, .iconst 0, 1), (1234, .ireturn, 1), (1235, .aload_n 1, 1), (1236, .aload_n 0, 1), (1237, .iload_n 3, 1), (1238, .iconst 1, 1), (1239, .iadd, 1), (1240, .iaload, 1), (1241, .invokevirtual 158, 3), (1244, .aload_n 2, 1), (1245, .aload_n 0, 1), (1246, .iload_n 3, 1), (1247, .iconst 1, 1), (1248, .iadd, 1), (1249, .iaload, 1), (1250, .invokevirtual 161, 3), (1253, .if_icmp .eq 28, 3), (1256, .iconst 0, 1), (1257, .ireturn, 1), (1258, .aload_n 1, 1), (1259, .aload_n 0, 1), (1260, .iload_n 3, 1), (1261, .iconst 1, 1), (1262, .iadd, 1), (1263, .iaload, 1), (1264, .invokevirtual 162, 3), (1267, .aload_n 2, 1)]
def zm_t0_22 : List (Nat × Instr × Nat) := [(1268, .aload_n 0, 1), (1269, .iload_n 3, 1), (1270, .iconst 1, 1), (1271, .iadd, 1), (1272, .iaload, 1), (1273, .invokevirtual 165, 3), (1276, .if_icmp .eq 5, 3), (1279, .iconst 0, 1), (1280, .ireturn, 1), (1281, .iinc 3 6, 3), (1284, .goto (-1266), 3), (1287, .iconst 1, 1), (1288, .ireturn, 1)]
def zm_t0 : List (Nat × Instr × Nat) := zm_t0_0 ++ (zm_t0_1 ++ (zm_t0_2 ++ (zm_t0_3 ++ (zm_t0_4 ++ (zm_t0_5 ++ (zm_t0_6 ++ (zm_t0_7 ++ (zm_t0_8 ++ (zm_t0_9 ++ (zm_t0_10 ++ (zm_t0_11 ++ (zm_t0_12 ++ (zm_t0_13 ++ (zm_t0_14 ++ (zm_t0_15 ++ (zm_t0_16 ++ (zm_t0_17 ++ (zm_t0_18 ++ (zm_t0_19 ++ (zm_t0_20 ++ (zm_t0_21 ++ (zm_t0_22))))))))))))))))))))))
def zm_t1 : List (Nat × Instr × Nat) := [(0, .iload_n 1, 1), (1, .ifCond .lt 15, 3), (4, .iload_n 1, 1), (5, .aload_n 0, 1), (6, .getfield 9, 3), (9, .if_icmp .ge 7, 3), (12, .iconst 1, 1), (13, .goto 4, 3), (16, .iconst 0, 1), (17, .ireturn, 1)]
def zm_t2 : List (Nat × Instr × Nat) := [(0, .aload_n 0, 1), (1, .getfield 30, 3), (4, .iload_n 1, 1), (5, .iaload, 1), (6, .iconst 1, 1), (7, .if_icmp .ne 7, 3), (10, .iconst 1, 1), (11, .goto 4, 3), (14, .iconst 0, 1), (15, .ireturn, 1)]
def zm_t3 : List (Nat × Instr × Nat) := [(0, .aload_n 0, 1), (1, .getfield 9, 3), (4, .istore 4, 2), (6, .aload_n 0, 1), (7, .getfield 20, 3), (10, .iload 4, 2), (12, .iload_n 1, 1), (13, .iastore, 1), (14, .aload_n 0, 1), (15, .getfield 24, 3), (18, .iload 4, 2), (20, .iload_n 2, 1), (21, .iastore, 1), (22, .aload_n 0, 1), (23, .getfield 27, 3), (26, .iload 4, 2), (28, .iload_n 3, 1), (29, .iastore, 1), (30, .aload_n 0, 1), (31, .getfield 30, 3), (34, .iload 4, 2), (36, .iconst 1, 1), (37, .iastore, 1), (38, .aload_n 0, 1), (39, .dup, 1), (40, .getfield 9, 3), (43, .iconst 1, 1), (44, .iadd, 1), (45, .putfield 9, 3), (48, .iload 4, 2), (50, .ireturn, 1)]
def zm_t4 : List (Nat × Instr × Nat) := [(0, .aload_n 0, 1), (1, .getfield 30, 3), (4, .aload_n 0, 1), (5, .getfield 9, 3), (8, .invokestatic 33, 3), (11, .ireturn, 1)]
def zm_t5 : List (Nat × Instr × Nat) := [(0, .aload_n 0, 1), (1, .aload_n 1, 1), (2, .getfield 9, 3), (5, .putfield 9, 3), (8, .aload_n 1, 1), (9, .getfield 17, 3), (12, .aload_n 0, 1), (13, .getfield 17, 3), (16, .invokestatic 37, 3), (19, .return_, 1)]
def zm_t6 : List (Nat × Instr × Nat) := [(0, .iconst 0, 1), (1, .istore_n 2, 1), (2, .iconst 0, 1), (3, .istore_n 3, 1), (4, .iload_n 3, 1), (5, .aload_n 0, 1), (6, .getfield 26, 3), (9, .getfield 34, 3), (12, .getfield 40, 3), (15, .if_icmp .ge 21, 3), (18, .aload_n 0, 1), (19, .iload_n 3, 1), (20, .iload_n 1, 1), (21, .invokevirtual 43, 3), (24, .ifCond .eq 6, 3), (27, .iinc 2 1, 3), (30, .iinc 3 1, 3), (33, .goto (-29), 3), (36, .iload_n 2, 1), (37, .ireturn, 1)]
def zm_t7 : List (Nat × Instr × Nat) := [(0, .aload_n 0, 1), (1, .aload_n 0, 1), (2, .getfield 26, 3), (5, .getfield 47, 3), (8, .getfield 51, 3), (11, .iload_n 1, 1), (12, .iaload, 1), (13, .invokevirtual 56, 3), (16, .aload_n 0, 1), (17, .lconst 0, 1), (18, .putfield 19, 3), (21, .aload_n 0, 1), (22, .lconst 1, 1), (23, .putfield 23, 3), (26, .iconst 0, 1), (27, .istore_n 2, 1), (28, .iload_n 2, 1), (29, .aload_n 0, 1), (30, .getfield 15, 3), (33, .if_icmp .ge 21, 3), (36, .aload_n 0, 1), (37, .dup, 1), (38, .getfield 23, 3), (41, .ldc2_w 60, 3), (44, .lmul, 1), (45, .putfield 23, 3), (48, .iinc 2 1, 3), (51, .goto (-23), 3), (54, .iconst 0, 1), (55, .istore_n 2, 1), (56, .iload_n 2, 1), (57, .iconst 1, 1), (58, .aload_n 0, 1), (59, .getfield 15, 3), (62, .ishl, 1), (63, .if_icmp .ge 49, 3), (66, .aload_n 0, 1), (67, .getfield 30, 3), (70, .invokevirtual 62, 3), (73, .aload_n 0, 1), (74, .iload_n 2, 1), (75, .invokevirtual 67, 3), (78, .lstore_n 3, 1), (79, .aload_n 0, 1), (80, .getfield 30, 3), (83, .iload_n 1, 1), (84, .invokevirtual 71, 3), (87, .aload_n 0, 1), (88, .dup, 1), (89, .getfield 19, 3), (92, .lload_n 3, 1), (93, .aload_n 0, 1), (94, .getfield 30, 3), (97, .getfield 74, 3), (100, .i2l, 1), (101, .lmul, 1), (102, .ladd, 1), (103, .putfield 19, 3), (106, .iinc 2 1, 3), (109, .goto (-53), 3), (112, .aload_n 0, 1), (113, .getfield 19, 3), (116, .aload_n 0, 1), (117, .getfield 23, 3), (120, .invokestatic 77, 3), (123, .lstore_n 2, 1), (124, .lload_n 2, 1), (125, .lconst 1, 1), (126, .lcmp, 1), (127, .ifCond .le 23, 3), (130, .aload_n 0, 1), (131, .dup, 1), (132, .getfield 19, 3), (135, .lload_n 2, 1), (136, .ldiv, 1), (137, .putfield 19, 3), (140, .aload_n 0, 1), (141, .dup, 1), (142, .getfield 23, 3), (145, .lload_n 2, 1), (146, .ldiv, 1), (147, .putfield 23, 3), (150, .return_, 1)]
def zm_t8 : List (Nat × Instr × Nat) := [(0, .iload_n 1, 1), (1, .iload_n 2, 1), (2, .if_icmp .eq 38, 3), (5, .aload_n 0, 1), (6, .getfield 26, 3), (9, .getfield 34, 3), (12, .getfield 81, 3), (15, .iload_n 1, 1), (16, .iaload, 1), (17, .iconst 1, 1), (18, .if_icmp .ne 22, 3), (21, .aload_n 0, 1), (22, .getfield 26, 3), (25, .getfield 34, 3), (28, .getfield 84, 3), (31, .iload_n 1, 1), (32, .iaload, 1), (33, .ifCond .le 7, 3), (36, .iconst 1, 1), (37, .goto 4, 3), (40, .iconst 0, 1), (41, .ireturn, 1)]
def zm_t9 : List (Nat × Instr × Nat) := [(0, .aload_n 0, 1), (1, .getfield 26, 3), (4, .getfield 34, 3), (7, .iload_n 1, 1), (8, .invokevirtual 85, 3), (11, .istore_n 2, 1), (12, .aload_n 0, 1), (13, .getfield 30, 3), (16, .invokevirtual 62, 3), (19, .aload_n 0, 1), (20, .iconst 0, 1), (21, .putfield 15, 3), (24, .iconst 0, 1), (25, .istore_n 3, 1), (26, .iload_n 3, 1), (27, .aload_n 0, 1), (28, .getfield 26, 3), (31, .getfield 34, 3), (34, .getfield 40, 3), (37, .if_icmp .ge 67, 3), (40, .aload_n 0, 1), (41, .getfield 15, 3), (44, .bipush 9, 2), (46, .if_icmp .ge 58, 3), (49, .aload_n 0, 1), (50, .iload_n 3, 1), (51, .iload_n 1, 1), (52, .invokevirtual 43, 3), (55, .ifCond .eq 43, 3), (58, .iload_n 2, 1), (59, .iload_n 3, 1), (60, .invokestatic 89, 3), (63, .ifCond .ne 15, 3), (66, .aload_n 0, 1), (67, .getfield 30, 3), (70, .iload_n 3, 1), (71, .iload_n 1, 1), (72, .invokevirtual 92, 3), (75, .ifCond .eq 23, 3), (78, .aload_n 0, 1), (79, .getfield 9, 3), (82, .aload_n 0, 1), (83, .getfield 15, 3), (86, .iload_n 3, 1), (87, .iastore, 1), (88, .aload_n 0, 1), (89, .dup, 1), (90, .getfield 15, 3), (93, .iconst 1, 1), (94, .iadd, 1), (95, .putfield 15, 3), (98, .iinc 3 1, 3), (101, .goto (-75), 3), (104, .return_, 1)]
def zm_t10 : List (Nat × Instr × Nat) := [(0, .lconst 1, 1), (1, .lstore_n 2, 1), (2, .iconst 0, 1), (3, .istore 4, 2), (5, .iload 4, 2), (7, .aload_n 0, 1), (8, .getfield 15, 3), (11, .if_icmp .ge 72, 3), (14, .aload_n 0, 1), (15, .getfield 26, 3), (18, .getfield 34, 3), (21, .getfield 84, 3), (24, .aload_n 0, 1), (25, .getfield 9, 3), (28, .iload 4, 2), (30, .iaload, 1), (31, .iaload, 1), (32, .istore 5, 2), (34, .iload_n 1, 1), (35, .iload 4, 2), (37, .invokestatic 89, 3), (40, .ifCond .eq 28, 3), (43, .aload_n 0, 1), (44, .getfield 30, 3), (47, .getfield 95, 3), (50, .aload_n 0, 1), (51, .getfield 9, 3), (54, .iload 4, 2), (56, .iaload, 1), (57, .iconst 0, 1), (58, .iastore, 1), (59, .lload_n 2, 1), (60, .iload 5, 2), (62, .i2l, 1), (63, .lmul, 1), (64, .lstore_n 2, 1), (65, .goto 12, 3), (68, .lload_n 2, 1), (69, .bipush 10, 2), (71, .iload 5, 2), (73, .isub, 1), (74, .i2l, 1), (75, .lmul, 1), (76, .lstore_n 2, 1), (77, .iinc 4 1, 3), (80, .goto (-75), 3), (83, .lload_n 2, 1), (84, .lreturn, 1)]
def zm_t11 : List (Nat × Instr × Nat) := [(0, .lload_n 0, 1), (1, .lstore 4, 2), (3, .lload_n 2, 1), (4, .lstore 6, 2), (6, .iconst 0, 1), (7, .istore 8, 2), (9, .iload 8, 2), (11, .sipush 1000, 3), (14, .if_icmp .ge 31, 3), (17, .lload 6, 2), (19, .lconst 0, 1), (20, .lcmp, 1), (21, .ifCond .eq 24, 3), (24, .lload 4, 2), (26, .lload 6, 2), (28, .lrem, 1), (29, .lstore 9, 2), (31, .lload 6, 2), (33, .lstore 4, 2), (35, .lload 9, 2), (37, .lstore 6, 2), (39, .iinc 8 1, 3), (42, .goto (-33), 3), (45, .lload 4, 2), (47, .lreturn, 1)]
def zm_t12 : List (Nat × Instr × Nat) := [(0, .aload_n 0, 1), (1, .getfield 9, 3), (4, .aload_n 0, 1), (5, .getfield 18, 3), (8, .iload_n 1, 1), (9, .iastore, 1), (10, .aload_n 0, 1), (11, .dup, 1), (12, .getfield 18, 3), (15, .iconst 1, 1), (16, .iadd, 1), (17, .putfield 18, 3), (20, .return_, 1)]
def zm_t13 : List (Nat × Instr × Nat) := [(0, .aload_n 1, 1), (1, .getfield 9, 3), (4, .iconst 0, 1), (5, .aload_n 0, 1), (6, .getfield 9, 3), (9, .iconst 0, 1), (10, .aload_n 0, 1), (11, .getfield 9, 3), (14, .arraylength, 1), (15, .invokestatic 25, 3), (18, .aload_n 1, 1), (19, .getfield 15, 3), (22, .iconst 0, 1), (23, .aload_n 0, 1), (24, .getfield 15, 3), (27, .iconst 0, 1), (28, .aload_n 0, 1), (29, .getfield 15, 3), (32, .arraylength, 1), (33, .invokestatic 25, 3), (36, .aload_n 0, 1), (37, .aload_n 1, 1), (38, .getfield 18, 3), (41, .putfield 18, 3), (44, .aload_n 0, 1), (45, .aload_n 1, 1), (46, .getfield 22, 3), (49, .putfield 22, 3), (52, .return_, 1)]
def zm_t14 : List (Nat × Instr × Nat) := [(0, .iload_n 1, 1), (1, .ifCond .lt 15, 3), (4, .iload_n 1, 1), (5, .aload_n 0, 1), (6, .getfield 9, 3), (9, .if_icmp .ge 7, 3), (12, .iconst 1, 1), (13, .goto 4, 3), (16, .iconst 0, 1), (17, .ireturn, 1)]
def zm_t15 : List (Nat × Instr × Nat) := [(0, .aload_n 0, 1), (1, .getfield 9, 3), (4, .istore 5, 2), (6, .aload_n 0, 1), (7, .getfield 20, 3), (10, .iload 5, 2), (12, .iload_n 1, 1), (13, .iastore, 1), (14, .aload_n 0, 1), (15, .getfield 24, 3), (18, .iload 5, 2), (20, .iload_n 2, 1), (21, .iastore, 1), (22, .aload_n 0, 1), (23, .getfield 27, 3), (26, .iload 5, 2), (28, .iconst (-1), 1), (29, .iastore, 1), (30, .aload_n 0, 1), (31, .getfield 30, 3), (34, .iload 5, 2), (36, .iconst (-1), 1), (37, .iastore, 1), (38, .aload_n 0, 1), (39, .getfield 33, 3), (42, .iload 5, 2), (44, .iconst 1, 1), (45, .iastore, 1), (46, .aload_n 0, 1), (47, .getfield 36, 3), (50, .iload 5, 2), (52, .iload_n 3, 1), (53, .iastore, 1), (54, .aload_n 0, 1), (55, .getfield 39, 3), (58, .iload 5, 2), (60, .iload 4, 2), (62, .iastore, 1), (63, .aload_n 0, 1), (64, .getfield 42, 3), (67, .iload 5, 2), (69, .iconst 0, 1), (70, .iastore, 1), (71, .aload_n 0, 1), (72, .dup, 1), (73, .getfield 9, 3), (76, .iconst 1, 1), (77, .iadd, 1), (78, .putfield 9, 3), (81, .iload 5, 2), (83, .ireturn, 1)]
def zm_t16 : List (Nat × Instr × Nat) := [(0, .aload_n 0, 1), (1, .aload_n 1, 1), (2, .getfield 9, 3), (5, .putfield 9, 3), (8, .aload_n 1, 1), (9, .getfield 17, 3), (12, .aload_n 0, 1), (13, .getfield 17, 3), (16, .invokestatic 45, 3), (19, .return_, 1)]
def zm_t17 : List (Nat × Instr × Nat) := [(0, .aload_n 0, 1), (1, .getfield 27, 3), (4, .iload_n 1, 1), (5, .iaload, 1), (6, .iload_n 2, 1), (7, .if_icmp .eq 13, 3), (10, .aload_n 0, 1), (11, .getfield 30, 3), (14, .iload_n 1, 1), (15, .iaload, 1), (16, .iload_n 2, 1), (17, .if_icmp .ne 7, 3), (20, .iconst 1, 1), (21, .goto 4, 3), (24, .iconst 0, 1), (25, .ireturn, 1)]
def zm_t18 : List (Nat × Instr × Nat) := [(0, .aload_n 0, 1), (1, .getfield 27, 3), (4, .iload_n 1, 1), (5, .iaload, 1), (6, .invokestatic 49, 3), (9, .aload_n 0, 1), (10, .getfield 30, 3), (13, .iload_n 1, 1), (14, .iaload, 1), (15, .invokestatic 49, 3), (18, .ior, 1), (19, .istore_n 2, 1), (20, .iconst 0, 1), (21, .istore_n 3, 1), (22, .iload_n 3, 1), (23, .aload_n 0, 1), (24, .getfield 9, 3), (27, .if_icmp .ge 60, 3), (30, .iconst 0, 1), (31, .istore 4, 2), (33, .iload 4, 2), (35, .aload_n 0, 1), (36, .getfield 9, 3), (39, .if_icmp .ge 42, 3), (42, .iload_n 2, 1), (43, .iload 4, 2), (45, .invokestatic 53, 3), (48, .ifCond .eq 27, 3), (51, .iload_n 2, 1), (52, .aload_n 0, 1), (53, .getfield 27, 3), (56, .iload 4, 2), (58, .iaload, 1), (59, .invokestatic 49, 3), (62, .aload_n 0, 1), (63, .getfield 30, 3), (66, .iload 4, 2), (68, .iaload, 1), (69, .invokestatic 49, 3), (72, .ior, 1), (73, .ior, 1), (74, .istore_n 2, 1), (75, .iinc 4 1, 3), (78, .goto (-45), 3), (81, .iinc 3 1, 3), (84, .goto (-62), 3), (87, .iload_n 2, 1), (88, .ireturn, 1)]
def zm_t19 : List (Nat × Instr × Nat) := [(0, .iconst 0, 1), (1, .istore_n 2, 1), (2, .iconst 0, 1), (3, .istore_n 3, 1), (4, .iload_n 3, 1), (5, .aload_n 0, 1), (6, .getfield 9, 3), (9, .if_icmp .ge 73, 3), (12, .iconst 0, 1), (13, .istore 4, 2), (15, .iload 4, 2), (17, .aload_n 0, 1), (18, .getfield 9, 3), (21, .if_icmp .ge 55, 3), (24, .aload_n 0, 1), (25, .iload 4, 2), (27, .iload_n 1, 1), (28, .invokevirtual 57, 3), (31, .ifCond .ne 31, 3), (34, .iload_n 2, 1), (35, .aload_n 0, 1), (36, .getfield 27, 3), (39, .iload 4, 2), (41, .iaload, 1), (42, .invokestatic 53, 3), (45, .ifCond .ne 17, 3), (48, .iload_n 2, 1), (49, .aload_n 0, 1), (50, .getfield 30, 3), (53, .iload 4, 2), (55, .iaload, 1), (56, .invokestatic 53, 3), (59, .ifCond .eq 11, 3), (62, .iload_n 2, 1), (63, .iload 4, 2), (65, .invokestatic 49, 3), (68, .ior, 1), (69, .istore_n 2, 1), (70, .iinc 4 1, 3), (73, .goto (-58), 3), (76, .iinc 3 1, 3), (79, .goto (-75), 3), (82, .iload_n 2, 1), (83, .ireturn, 1)]
def zm_t20 : List (Nat × Instr × Nat) := [(0, .aload_n 0, 1), (1, .getfield 33, 3), (4, .aload_n 0, 1), (5, .getfield 9, 3), (8, .invokestatic 60, 3), (11, .ireturn, 1)]
def zm_t21 : List (Nat × Instr × Nat) := [(0, .iconst 0, 1), (1, .istore_n 2, 1), (2, .iconst 0, 1), (3, .istore_n 3, 1), (4, .iload_n 3, 1), (5, .aload_n 0, 1), (6, .getfield 9, 3), (9, .if_icmp .ge 27, 3), (12, .aload_n 0, 1), (13, .iload_n 3, 1), (14, .iload_n 1, 1), (15, .invokevirtual 57, 3), (18, .ifCond .eq 12, 3), (21, .iload_n 2, 1), (22, .aload_n 0, 1), (23, .getfield 33, 3), (26, .iload_n 3, 1), (27, .iaload, 1), (28, .iadd, 1), (29, .istore_n 2, 1), (30, .iinc 3 1, 3), (33, .goto (-29), 3), (36, .iload_n 2, 1), (37, .ireturn, 1)]
def zm_t22 : List (Nat × Instr × Nat) := [(0, .iconst 0, 1), (1, .istore_n 2, 1), (2, .iload_n 2, 1), (3, .aload_n 0, 1), (4, .getfield 9, 3), (7, .if_icmp .ge 30, 3), (10, .aload_n 0, 1), (11, .getfield 33, 3), (14, .iload_n 2, 1), (15, .iaload, 1), (16, .iconst 1, 1), (17, .if_icmp .ne 14, 3), (20, .aload_n 0, 1), (21, .iload_n 2, 1), (22, .iload_n 1, 1), (23, .invokevirtual 57, 3), (26, .ifCond .eq 5, 3), (29, .iload_n 2, 1), (30, .ireturn, 1), (31, .iinc 2 1, 3), (34, .goto (-32), 3), (37, .iconst (-1), 1), (38, .ireturn, 1)]
def zm_t23 : List (Nat × Instr × Nat) := [(0, .aload_n 1, 1), (1, .iconst 0, 1), (2, .aload_n 0, 1), (3, .getfield 22, 3), (6, .iconst 0, 1), (7, .aload_n 0, 1), (8, .getfield 22, 3), (11, .arraylength, 1), (12, .invokestatic 34, 3), (15, .aload_n 0, 1), (16, .iload_n 2, 1), (17, .putfield 25, 3), (20, .aload_n 0, 1), (21, .aload_n 3, 1), (22, .putfield 30, 3), (25, .aload_n 0, 1), (26, .iconst 0, 1), (27, .putfield 15, 3), (30, .aload_n 0, 1), (31, .iconst 0, 1), (32, .putfield 19, 3), (35, .aload_n 0, 1), (36, .iconst 0, 1), (37, .iconst 0, 1), (38, .invokevirtual 40, 3), (41, .ifCond .eq 18, 3), (44, .aload_n 0, 1), (45, .getfield 19, 3), (48, .aload_n 0, 1), (49, .getfield 25, 3), (52, .if_icmp .ne 7, 3), (55, .iconst 1, 1), (56, .goto 4, 3), (59, .iconst 0, 1), (60, .ireturn, 1)]
def zm_t24 : List (Nat × Instr × Nat) := [(0, .iload_n 1, 1), (1, .iconst 5, 1), (2, .if_icmp .lt 9, 3), (5, .aload_n 0, 1), (6, .iload_n 2, 1), (7, .invokevirtual 44, 3), (10, .ireturn, 1), (11, .aload_n 0, 1), (12, .iload_n 1, 1), (13, .iconst 1, 1), (14, .iadd, 1), (15, .iload_n 2, 1), (16, .invokevirtual 40, 3), (19, .ifCond .ne 5, 3), (22, .iconst 0, 1), (23, .ireturn, 1), (24, .iconst 0, 1), (25, .istore_n 3, 1), (26, .iload_n 3, 1), (27, .bipush 60, 2), (29, .if_icmp .ge 66, 3), (32, .aload_n 0, 1), (33, .invokevirtual 48, 3), (36, .invokestatic 52, 3), (39, .iload_n 1, 1), (40, .if_icmp .ne 55, 3), (43, .aload_n 0, 1), (44, .invokevirtual 48, 3), (47, .istore 4, 2), (49, .aload_n 0, 1), (50, .dup, 1), (51, .getfield 19, 3), (54, .iconst 1, 1), (55, .iadd, 1), (56, .putfield 19, 3), (59, .aload_n 0, 1), (60, .iload_n 1, 1), (61, .iconst 1, 1), (62, .iadd, 1), (63, .iload_n 2, 1), (64, .invokevirtual 40, 3), (67, .ifCond .ne 5, 3), (70, .iconst 0, 1), (71, .ireturn, 1), (72, .aload_n 0, 1), (73, .sipush 10000, 3), (76, .iload 4, 2), (78, .iadd, 1), (79, .invokevirtual 58, 3), (82, .iload_n 1, 1), (83, .iconst 2, 1), (84, .if_icmp .ne 5, 3), (87, .iconst 1, 1), (88, .ireturn, 1), (89, .iinc 3 1, 3), (92, .goto (-66), 3), (95, .iconst 1, 1), (96, .ireturn, 1)]
def zm_t25 : List (Nat × Instr × Nat) := [(0, .aload_n 0, 1), (1, .invokevirtual 48, 3), (4, .istore_n 2, 1), (5, .iload_n 2, 1), (6, .invokestatic 62, 3), (9, .ifCond .eq 9, 3), (12, .aload_n 0, 1), (13, .invokevirtual 65, 3), (16, .iconst 1, 1), (17, .ireturn, 1), (18, .iload_n 2, 1), (19, .bipush 33, 2), (21, .if_icmp .eq 9, 3), (24, .iload_n 2, 1), (25, .bipush 40, 2), (27, .if_icmp .ne 25, 3), (30, .iload_n 1, 1), (31, .iconst 5, 1), (32, .if_icmp .ge 18, 3), (35, .aload_n 0, 1), (36, .iload_n 2, 1), (37, .iload_n 1, 1), (38, .iconst 1, 1), (39, .iadd, 1), (40, .invokevirtual 68, 3), (43, .ifCond .eq 7, 3), (46, .iconst 1, 1), (47, .goto 4, 3), (50, .iconst 0, 1), (51, .ireturn, 1), (52, .iload_n 2, 1), (53, .ifCond .ge 7, 3), (56, .iconst (-1), 1), (57, .goto 12, 3), (60, .aload_n 0, 1), (61, .getfield 30, 3), (64, .iload_n 2, 1), (65, .i2c, 1), (66, .invokevirtual 71, 3), (69, .istore_n 3, 1), (70, .iload_n 3, 1), (71, .ifCond .ge 5, 3), (74, .iconst 0, 1), (75, .ireturn, 1), (76, .aload_n 0, 1), (77, .dup, 1), (78, .getfield 19, 3), (81, .iconst 1, 1), (82, .iadd, 1), (83, .putfield 19, 3), (86, .aload_n 0, 1), (87, .iconst (-1), 1), (88, .iload_n 3, 1), (89, .isub, 1), (90, .invokevirtual 58, 3), (93, .iconst 1, 1), (94, .ireturn, 1)]
def zm_t26 : List (Nat × Instr × Nat) := [(0, .aload_n 0, 1), (1, .dup, 1), (2, .getfield 19, 3), (5, .iconst 1, 1), (6, .iadd, 1), (7, .putfield 19, 3), (10, .iload_n 1, 1), (11, .bipush 33, 2), (13, .if_icmp .ne 22, 3), (16, .aload_n 0, 1), (17, .iload_n 2, 1), (18, .invokevirtual 44, 3), (21, .ifCond .ne 5, 3), (24, .iconst 0, 1), (25, .ireturn, 1), (26, .aload_n 0, 1), (27, .sipush 10033, 3), (30, .invokevirtual 58, 3), (33, .iconst 1, 1), (34, .ireturn, 1), (35, .aload_n 0, 1), (36, .iconst 0, 1), (37, .iload_n 2, 1), (38, .invokevirtual 40, 3), (41, .ifCond .eq 12, 3), (44, .aload_n 0, 1), (45, .invokevirtual 48, 3), (48, .bipush 41, 2), (50, .if_icmp .eq 5, 3), (53, .iconst 0, 1), (54, .ireturn, 1), (55, .aload_n 0, 1), (56, .dup, 1), (57, .getfield 19, 3), (60, .iconst 1, 1), (61, .iadd, 1), (62, .putfield 19, 3), (65, .iconst 1, 1), (66, .ireturn, 1)]
def zm_t27 : List (Nat × Instr × Nat) := [(0, .iconst 0, 1), (1, .istore_n 1, 1), (2, .iconst 0, 1), (3, .istore_n 2, 1), (4, .iload_n 2, 1), (5, .iconst 4, 1), (6, .if_icmp .ge 42, 3), (9, .aload_n 0, 1), (10, .invokevirtual 48, 3), (13, .invokestatic 62, 3), (16, .ifCond .eq 32, 3), (19, .iload_n 1, 1), (20, .bipush 10, 2), (22, .imul, 1), (23, .aload_n 0, 1), (24, .invokevirtual 48, 3), (27, .iadd, 1), (28, .bipush 48, 2), (30, .isub, 1), (31, .istore_n 1, 1), (32, .aload_n 0, 1), (33, .dup, 1), (34, .getfield 19, 3), (37, .iconst 1, 1), (38, .iadd, 1), (39, .putfield 19, 3), (42, .iinc 2 1, 3), (45, .goto (-41), 3), (48, .aload_n 0, 1), (49, .iload_n 1, 1), (50, .invokevirtual 58, 3), (53, .return_, 1)]
def zm_t28 : List (Nat × Instr × Nat) := [(0, .aload_n 0, 1), (1, .getfield 15, 3), (4, .aload_n 0, 1), (5, .getfield 9, 3), (8, .arraylength, 1), (9, .if_icmp .ge 23, 3), (12, .aload_n 0, 1), (13, .getfield 9, 3), (16, .aload_n 0, 1), (17, .getfield 15, 3), (20, .iload_n 1, 1), (21, .iastore, 1), (22, .aload_n 0, 1), (23, .dup, 1), (24, .getfield 15, 3), (27, .iconst 1, 1), (28, .iadd, 1), (29, .putfield 15, 3), (32, .return_, 1)]
def zm_t29 : List (Nat × Instr × Nat) := [(0, .aload_n 0, 1), (1, .getfield 19, 3), (4, .aload_n 0, 1), (5, .getfield 25, 3), (8, .if_icmp .ge 15, 3), (11, .aload_n 0, 1), (12, .getfield 22, 3), (15, .aload_n 0, 1), (16, .getfield 19, 3), (19, .iaload, 1), (20, .goto 4, 3), (23, .iconst (-1), 1), (24, .ireturn, 1)]
def zm_t30 : List (Nat × Instr × Nat) := [(0, .iload_n 0, 1), (1, .bipush 48, 2), (3, .if_icmp .lt 13, 3), (6, .iload_n 0, 1), (7, .bipush 57, 2), (9, .if_icmp .gt 7, 3), (12, .iconst 1, 1), (13, .goto 4, 3), (16, .iconst 0, 1), (17, .ireturn, 1)]
def zm_t31 : List (Nat × Instr × Nat) := [(0, .iload_n 0, 1), (1, .lookupswitch 101 #[(37, 99), (38, 93), (42, 99), (43, 97), (45, 97), (47, 99), (60, 95), (61, 95), (62, 95), (124, 91)], 91), (92, .iconst 0, 1), (93, .ireturn, 1), (94, .iconst 1, 1), (95, .ireturn, 1), (96, .iconst 2, 1), (97, .ireturn, 1), (98, .iconst 3, 1), (99, .ireturn, 1), (100, .iconst 4, 1), (101, .ireturn, 1), (102, .iconst (-1), 1), (103, .ireturn, 1)]
def zm_t32 : List (Nat × Instr × Nat) := [(0, .iload_n 1, 1), (1, .ifCond .lt 12, 3), (4, .iload_n 1, 1), (5, .iconst 4, 1), (6, .if_icmp .ge 7, 3), (9, .iconst 1, 1), (10, .goto 4, 3), (13, .iconst 0, 1), (14, .ireturn, 1)]
def zm_t33 : List (Nat × Instr × Nat) := [(0, .aload_n 0, 1), (1, .getfield 9, 3), (4, .iload_n 1, 1), (5, .iaload, 1), (6, .ifCond .ne 7, 3), (9, .iconst 1, 1), (10, .goto 4, 3), (13, .iconst 0, 1), (14, .ireturn, 1)]
def zm_t34 : List (Nat × Instr × Nat) := [(0, .aload_n 0, 1), (1, .getfield 9, 3), (4, .iload_n 1, 1), (5, .iload_n 2, 1), (6, .iastore, 1), (7, .aload_n 0, 1), (8, .getfield 15, 3), (11, .iload_n 1, 1), (12, .iload_n 3, 1), (13, .iastore, 1), (14, .aload_n 0, 1), (15, .getfield 20, 3), (18, .iload_n 1, 1), (19, .aaload, 1), (20, .iconst 0, 1), (21, .invokestatic 23, 3), (24, .return_, 1)]
def zm_t35 : List (Nat × Instr × Nat) := [(0, .iload_n 3, 1), (1, .ifCond .lt 33, 3), (4, .iload_n 2, 1), (5, .ifCond .lt 29, 3), (8, .iload_n 3, 1), (9, .aload_n 0, 1), (10, .getfield 15, 3), (13, .iload_n 1, 1), (14, .iaload, 1), (15, .if_icmp .gt 19, 3), (18, .iload_n 2, 1), (19, .aload_n 0, 1), (20, .getfield 15, 3), (23, .iload_n 1, 1), (24, .iaload, 1), (25, .iload_n 3, 1), (26, .isub, 1), (27, .if_icmp .gt 7, 3), (30, .iconst 1, 1), (31, .goto 4, 3), (34, .iconst 0, 1), (35, .ireturn, 1)]
def zm_t36 : List (Nat × Instr × Nat) := [(0, .aload_n 1, 1), (1, .iconst 0, 1), (2, .aload_n 0, 1), (3, .getfield 19, 3), (6, .iconst 0, 1), (7, .aload_n 0, 1), (8, .getfield 19, 3), (11, .arraylength, 1), (12, .invokestatic 29, 3), (15, .aload_n 0, 1), (16, .iload_n 2, 1), (17, .putfield 15, 3), (20, .aload_n 0, 1), (21, .iconst 1, 1), (22, .putfield 9, 3), (25, .return_, 1)]
def zm_t37 : List (Nat × Instr × Nat) := [(0, .aload_n 0, 1), (1, .aload_n 1, 1), (2, .getfield 19, 3), (5, .aload_n 1, 1), (6, .getfield 15, 3), (9, .invokevirtual 35, 3), (12, .aload_n 0, 1), (13, .aload_n 1, 1), (14, .getfield 9, 3), (17, .putfield 9, 3), (20, .return_, 1)]
def zm_t38 : List (Nat × Instr × Nat) := [(0, .aload_n 0, 1), (1, .getfield 26, 3), (4, .iconst 0, 1), (5, .iload_n 1, 1), (6, .iastore, 1), (7, .aload_n 0, 1), (8, .getfield 26, 3), (11, .iconst 1, 1), (12, .iload_n 2, 1), (13, .iastore, 1), (14, .aload_n 0, 1), (15, .getfield 26, 3), (18, .iconst 2, 1), (19, .iload_n 3, 1), (20, .iastore, 1), (21, .aload_n 0, 1), (22, .getfield 26, 3), (25, .iconst 3, 1), (26, .iload 4, 2), (28, .iastore, 1), (29, .aload_n 0, 1), (30, .getfield 26, 3), (33, .iconst 4, 1), (34, .iload 5, 2), (36, .iastore, 1), (37, .iconst 0, 1), (38, .istore 6, 2), (40, .iconst 0, 1), (41, .istore 7, 2), (43, .iload 7, 2), (45, .aload_n 0, 1), (46, .getfield 15, 3), (49, .if_icmp .ge 184, 3), (52, .iload 7, 2), (54, .aload_n 0, 1), (55, .getfield 19, 3), (58, .arraylength, 1), (59, .if_icmp .ge 174, 3), (62, .aload_n 0, 1), (63, .getfield 19, 3), (66, .iload 7, 2), (68, .iaload, 1), (69, .istore 8, 2), (71, .iload 8, 2), (73, .sipush 10000, 3), (76, .if_icmp .ge 57, 3), (79, .iload 6, 2), (81, .aload_n 0, 1), (82, .getfield 23, 3), (85, .arraylength, 1), (86, .if_icmp .ge 47, 3), (89, .iconst (-1), 1), (90, .iload 8, 2), (92, .isub, 1), (93, .aload_n 0, 1), (94, .getfield 26, 3), (97, .arraylength, 1), (98, .if_icmp .ge 35, 3), (101, .aload_n 0, 1), (102, .getfield 23, 3), (105, .iload 6, 2), (107, .iload 8, 2), (109, .ifCond .lt 8, 3), (112, .iload 8, 2), (114, .goto 12, 3), (117, .aload_n 0, 1), (118, .getfield 26, 3), (121, .iconst (-1), 1), (122, .iload 8, 2), (124, .isub, 1), (125, .iaload, 1), (126, .iastore, 1), (127, .iinc 6 1, 3), (130, .goto 97, 3), (133, .iload 8, 2), (135, .sipush 10033, 3), (138, .if_icmp .ne 38, 3), (141, .iload 6, 2), (143, .iconst 1, 1), (144, .if_icmp .lt 32, 3), (147, .aload_n 0, 1), (148, .getfield 23, 3), (151, .iload 6, 2), (153, .iconst 1, 1), (154, .isub, 1), (155, .aload_n 0, 1), (156, .getfield 23, 3), (159, .iload 6, 2), (161, .iconst 1, 1), (162, .isub, 1), (163, .iaload, 1), (164, .ifCond .ne 7, 3), (167, .iconst 1, 1), (168, .goto 4, 3), (171, .iconst 0, 1), (172, .iastore, 1), (173, .goto 54, 3), (176, .iload 8, 2), (178, .sipush 10000, 3), (181, .if_icmp .le 46, 3), (184, .iload 6, 2), (186, .iconst 2, 1), (187, .if_icmp .lt 40, 3), (190, .iinc 6 (-1), 3), (193, .aload_n 0, 1), (194, .getfield 23, 3), (197, .iload 6, 2), (199, .iconst 1, 1), (200, .isub, 1), (201, .iload 8, 2), (203, .sipush 10000, 3), (206, .isub, 1), (207, .aload_n 0, 1), (208, .getfield 23, 3), (211, .iload 6, 2), (213, .iconst 1, 1), (214, .isub, 1), (215, .iaload, 1), (216, .aload_n 0, 1), (217, .getfield 23, 3), (220, .iload 6, 2), (222, .iaload, 1), (223, .invokestatic 39, 3), (226, .iastore, 1), (227, .iinc 7 1, 3), (230, .goto (-187), 3), (233, .aload_n 0, 1), (234, .getfield 23, 3), (237, .iconst 0, 1), (238, .iaload, 1), (239, .ireturn, 1)]
def zm_t39 : List (Nat × Instr × Nat) := [(0, .iload_n 0, 1), (1, .lookupswitch 188 #[(37, 176), (38, 105), (42, 160), (43, 152), (45, 156), (47, 164), (60, 119), (61, 130), (62, 141), (124, 91)], 91), (92, .iload_n 1, 1), (93, .ifCond .ne 7, 3), (96, .iload_n 2, 1), (97, .ifCond .eq 7, 3), (100, .iconst 1, 1), (101, .goto 4, 3), (104, .iconst 0, 1), (105, .ireturn, 1), (106, .iload_n 1, 1), (107, .ifCond .eq 11, 3), (110, .iload_n 2, 1), (111, .ifCond .eq 7, 3), (114, .iconst 1, 1), (115, .goto 4, 3), (118, .iconst 0, 1), (119, .ireturn, 1), (120, .iload_n 1, 1), (121, .iload_n 2, 1), (122, .if_icmp .ge 7, 3), (125, .iconst 1, 1), (126, .goto 4, 3), (129, .iconst 0, 1), (130, .ireturn, 1), (131, .iload_n 1, 1), (132, .iload_n 2, 1), (133, .if_icmp .ne 7, 3), (136, .iconst 1, 1), (137, .goto 4, 3), (140, .iconst 0, 1), (141, .ireturn, 1), (142, .iload_n 1, 1), (143, .iload_n 2, 1), (144, .if_icmp .le 7, 3), (147, .iconst 1, 1), (148, .goto 4, 3), (151, .iconst 0, 1), (152, .ireturn, 1), (153, .iload_n 1, 1), (154, .iload_n 2, 1), (155, .iadd, 1), (156, .ireturn, 1), (157, .iload_n 1, 1), (158, .iload_n 2, 1), (159, .isub, 1), (160, .ireturn, 1), (161, .iload_n 1, 1), (162, .iload_n 2, 1), (163, .imul, 1), (164, .ireturn, 1), (165, .iload_n 2, 1), (166, .ifCond .ne 7, 3), (169, .iconst 0, 1), (170, .goto 6, 3), (173, .iload_n 1, 1), (174, .iload_n 2, 1), (175, .idiv, 1), (176, .ireturn, 1), (177, .iload_n 2, 1), (178, .ifCond .ne 7, 3), (181, .iconst 0, 1), (182, .goto 6, 3), (185, .iload_n 1, 1), (186, .iload_n 2, 1), (187, .irem, 1), (188, .ireturn, 1), (189, .iconst 0, 1), (190, .ireturn, 1)]
def zm_t40 : List (Nat × Instr × Nat) := [(0, .iload_n 1, 1), (1, .ifCond .ne 10, 3), (4, .aload_n 0, 1), (5, .getfield 35, 3), (8, .goto 7, 3), (11, .aload_n 0, 1), (12, .getfield 39, 3), (15, .areturn, 1)]
def zm_t41 : List (Nat × Instr × Nat) := [(0, .aload_n 0, 1), (1, .getfield 12, 3), (4, .aload_n 1, 1), (5, .getfield 12, 3), (8, .invokevirtual 59, 3), (11, .aload_n 0, 1), (12, .getfield 21, 3), (15, .aload_n 1, 1), (16, .getfield 21, 3), (19, .invokevirtual 63, 3), (22, .aload_n 0, 1), (23, .getfield 28, 3), (26, .aload_n 1, 1), (27, .getfield 28, 3), (30, .invokevirtual 66, 3), (33, .aload_n 0, 1), (34, .getfield 35, 3), (37, .aload_n 1, 1), (38, .getfield 35, 3), (41, .invokevirtual 69, 3), (44, .aload_n 0, 1), (45, .getfield 39, 3), (48, .aload_n 1, 1), (49, .getfield 39, 3), (52, .invokevirtual 69, 3), (55, .aload_n 1, 1), (56, .getfield 42, 3), (59, .iconst 0, 1), (60, .aload_n 0, 1), (61, .getfield 42, 3), (64, .iconst 0, 1), (65, .aload_n 0, 1), (66, .getfield 42, 3), (69, .arraylength, 1), (70, .invokestatic 73, 3), (73, .aload_n 0, 1), (74, .aload_n 1, 1), (75, .getfield 46, 3), (78, .putfield 46, 3), (81, .aload_n 0, 1), (82, .aload_n 1, 1), (83, .getfield 50, 3), (86, .putfield 50, 3), (89, .aload_n 0, 1), (90, .aload_n 1, 1), (91, .getfield 53, 3), (94, .putfield 53, 3), (97, .return_, 1)]
def zm_t42 : List (Nat × Instr × Nat) := [(0, .aload_n 0, 1), (1, .aload_n 0, 1), (2, .getfield 50, 3), (5, .iload_n 1, 1), (6, .iadd, 1), (7, .ldc 79, 2), (9, .ldc 80, 2), (11, .invokestatic 81, 3), (14, .putfield 50, 3), (17, .return_, 1)]
def zm_t43 : List (Nat × Instr × Nat) := [(0, .iconst 0, 1), (1, .istore_n 1, 1), (2, .iconst 0, 1), (3, .istore_n 2, 1), (4, .iload_n 2, 1), (5, .aload_n 0, 1), (6, .getfield 12, 3), (9, .getfield 85, 3), (12, .if_icmp .ge 78, 3), (15, .aload_n 0, 1), (16, .getfield 12, 3), (19, .getfield 88, 3), (22, .iload_n 2, 1), (23, .iaload, 1), (24, .iconst 1, 1), (25, .if_icmp .ne 59, 3), (28, .aload_n 0, 1), (29, .getfield 12, 3), (32, .getfield 91, 3), (35, .iload_n 2, 1), (36, .ldc 93, 2), (38, .aload_n 0, 1), (39, .getfield 12, 3), (42, .getfield 91, 3), (45, .iload_n 2, 1), (46, .iaload, 1), (47, .aload_n 0, 1), (48, .iload_n 2, 1), (49, .invokevirtual 94, 3), (52, .iadd, 1), (53, .invokestatic 98, 3), (56, .iastore, 1), (57, .aload_n 0, 1), (58, .invokevirtual 104, 3), (61, .bipush 10, 2), (63, .irem, 1), (64, .aload_n 0, 1), (65, .getfield 12, 3), (68, .getfield 108, 3), (71, .iload_n 2, 1), (72, .iaload, 1), (73, .if_icmp .ge 11, 3), (76, .aload_n 0, 1), (77, .iload_n 2, 1), (78, .invokevirtual 111, 3), (81, .iinc 1 1, 3), (84, .iinc 2 1, 3), (87, .goto (-83), 3), (90, .iload_n 1, 1), (91, .ireturn, 1)]
def zm_t44 : List (Nat × Instr × Nat) := [(0, .aload_n 0, 1), (1, .getfield 39, 3), (4, .getfield 115, 3), (7, .ifCond .ne 16, 3), (10, .aload_n 0, 1), (11, .getfield 12, 3), (14, .getfield 119, 3), (17, .iload_n 1, 1), (18, .iaload, 1), (19, .bipush 20, 2), (21, .idiv, 1), (22, .ireturn, 1), (23, .aload_n 0, 1), (24, .getfield 39, 3), (27, .aload_n 0, 1), (28, .getfield 12, 3), (31, .getfield 91, 3), (34, .iload_n 1, 1), (35, .iaload, 1), (36, .aload_n 0, 1), (37, .getfield 12, 3), (40, .getfield 119, 3), (43, .iload_n 1, 1), (44, .iaload, 1), (45, .aload_n 0, 1), (46, .getfield 12, 3), (49, .iload_n 1, 1), (50, .invokevirtual 122, 3), (53, .iconst 0, 1), (54, .iconst 0, 1), (55, .invokevirtual 125, 3), (58, .iconst 0, 1), (59, .sipush 9999, 3), (62, .invokestatic 81, 3), (65, .ireturn, 1)]
def zm_t45 : List (Nat × Instr × Nat) := [(0, .aload_n 0, 1), (1, .aload_n 0, 1), (2, .getfield 53, 3), (5, .ldc 129, 2), (7, .imul, 1), (8, .sipush 12345, 3), (11, .iadd, 1), (12, .putfield 53, 3), (15, .aload_n 0, 1), (16, .getfield 53, 3), (19, .bipush 8, 2), (21, .iushr, 1), (22, .ireturn, 1)]
def zm_t46 : List (Nat × Instr × Nat) := [(0, .aload_n 0, 1), (1, .getfield 12, 3), (4, .getfield 88, 3), (7, .iload_n 1, 1), (8, .iconst 0, 1), (9, .iastore, 1), (10, .aload_n 0, 1), (11, .getfield 12, 3), (14, .iload_n 1, 1), (15, .invokevirtual 130, 3), (18, .istore_n 2, 1), (19, .aload_n 0, 1), (20, .aload_n 0, 1), (21, .getfield 12, 3), (24, .getfield 91, 3), (27, .iload_n 1, 1), (28, .iload_n 2, 1), (29, .invokevirtual 133, 3), (32, .aload_n 0, 1), (33, .aload_n 0, 1), (34, .getfield 12, 3), (37, .getfield 119, 3), (40, .iload_n 1, 1), (41, .iload_n 2, 1), (42, .invokevirtual 133, 3), (45, .return_, 1)]
def zm_t47 : List (Nat × Instr × Nat) := [(0, .iload_n 3, 1), (1, .ifCond .ge 7, 3), (4, .iconst 0, 1), (5, .goto 15, 3), (8, .aload_n 1, 1), (9, .iload_n 2, 1), (10, .iaload, 1), (11, .ldc 93, 2), (13, .aload_n 1, 1), (14, .iload_n 3, 1), (15, .iaload, 1), (16, .isub, 1), (17, .invokestatic 98, 3), (20, .istore 4, 2), (22, .iload_n 3, 1), (23, .ifCond .lt 11, 3), (26, .aload_n 1, 1), (27, .iload_n 3, 1), (28, .dup2, 1), (29, .iaload, 1), (30, .iload 4, 2), (32, .iadd, 1), (33, .iastore, 1), (34, .aload_n 0, 1), (35, .aload_n 1, 1), (36, .iload_n 2, 1), (37, .iaload, 1), (38, .iload 4, 2), (40, .isub, 1), (41, .invokevirtual 137, 3), (44, .aload_n 1, 1), (45, .iload_n 2, 1), (46, .iconst 0, 1), (47, .iastore, 1), (48, .return_, 1)]
def zm_t48 : List (Nat × Instr × Nat) := [(0, .aload_n 0, 1), (1, .getfield 44, 3), (4, .getfield 45, 3), (7, .iconst 0, 1), (8, .aload_n 0, 1), (9, .getfield 9, 3), (12, .iconst 0, 1), (13, .bipush 12, 2), (15, .invokestatic 48, 3), (18, .aload_n 0, 1), (19, .getfield 44, 3), (22, .getfield 54, 3), (25, .iconst 0, 1), (26, .aload_n 0, 1), (27, .getfield 15, 3), (30, .iconst 0, 1), (31, .bipush 12, 2), (33, .invokestatic 48, 3), (36, .aload_n 0, 1), (37, .getfield 44, 3), (40, .getfield 55, 3), (43, .iconst 0, 1), (44, .aload_n 0, 1), (45, .getfield 18, 3), (48, .iconst 0, 1), (49, .bipush 12, 2), (51, .invokestatic 48, 3), (54, .aload_n 0, 1), (55, .getfield 44, 3), (58, .getfield 56, 3), (61, .iconst 0, 1), (62, .aload_n 0, 1), (63, .getfield 21, 3), (66, .iconst 0, 1), (67, .bipush 12, 2), (69, .invokestatic 48, 3), (72, .aload_n 0, 1), (73, .getfield 44, 3), (76, .getfield 57, 3), (79, .iconst 0, 1), (80, .aload_n 0, 1), (81, .getfield 24, 3), (84, .iconst 0, 1), (85, .bipush 12, 2), (87, .invokestatic 48, 3), (90, .aload_n 0, 1), (91, .getfield 27, 3), (94, .iconst 0, 1), (95, .invokestatic 58, 3), (98, .aload_n 0, 1), (99, .iconst 0, 1), (100, .putfield 30, 3), (103, .return_, 1)]
def zm_t49 : List (Nat × Instr × Nat) := [(0, .aload_n 0, 1), (1, .getfield 21, 3), (4, .iconst 0, 1), (5, .aload_n 0, 1), (6, .getfield 44, 3), (9, .getfield 56, 3), (12, .iconst 0, 1), (13, .bipush 12, 2), (15, .invokestatic 48, 3), (18, .aload_n 0, 1), (19, .getfield 24, 3), (22, .iconst 0, 1), (23, .aload_n 0, 1), (24, .getfield 44, 3), (27, .getfield 57, 3), (30, .iconst 0, 1), (31, .bipush 12, 2), (33, .invokestatic 48, 3), (36, .return_, 1)]
def zm_t50 : List (Nat × Instr × Nat) := [(0, .aload_n 0, 1), (1, .getfield 9, 3), (4, .iload_n 1, 1), (5, .iaload, 1), (6, .iload_n 2, 1), (7, .if_icmp .ne 10, 3), (10, .aload_n 0, 1), (11, .getfield 9, 3), (14, .iload_n 1, 1), (15, .iconst (-1), 1), (16, .iastore, 1), (17, .aload_n 0, 1), (18, .getfield 15, 3), (21, .iload_n 1, 1), (22, .iaload, 1), (23, .iload_n 2, 1), (24, .if_icmp .ne 10, 3), (27, .aload_n 0, 1), (28, .getfield 15, 3), (31, .iload_n 1, 1), (32, .iconst (-1), 1), (33, .iastore, 1), (34, .return_, 1)]
def zm_t51 : List (Nat × Instr × Nat) := [(0, .aload_n 0, 1), (1, .getfield 34, 3), (4, .getfield 64, 3), (7, .getfield 68, 3), (10, .iload_n 1, 1), (11, .iaload, 1), (12, .istore_n 2, 1), (13, .aload_n 0, 1), (14, .getfield 34, 3), (17, .getfield 64, 3), (20, .getfield 73, 3), (23, .iload_n 1, 1), (24, .iaload, 1), (25, .istore_n 3, 1), (26, .aload_n 0, 1), (27, .getfield 18, 3), (30, .iload_n 2, 1), (31, .iaload, 1), (32, .iconst 1, 1), (33, .if_icmp .ne 18, 3), (36, .iload_n 3, 1), (37, .aload_n 0, 1), (38, .iload_n 2, 1), (39, .aload_n 0, 1), (40, .iload_n 2, 1), (41, .iload_n 3, 1), (42, .iconst 0, 1), (43, .invokevirtual 76, 3), (46, .invokevirtual 80, 3), (49, .isub, 1), (50, .istore_n 3, 1), (51, .iconst 0, 1), (52, .istore 4, 2), (54, .iload 4, 2), (56, .aload_n 0, 1), (57, .getfield 44, 3), (60, .getfield 84, 3), (63, .if_icmp .ge 47, 3), (66, .aload_n 0, 1), (67, .getfield 18, 3), (70, .iload 4, 2), (72, .iaload, 1), (73, .iconst 1, 1), (74, .if_icmp .ne 30, 3), (77, .aload_n 0, 1), (78, .iload 4, 2), (80, .iload_n 2, 1), (81, .invokevirtual 87, 3), (84, .ifCond .eq 20, 3), (87, .iload_n 3, 1), (88, .aload_n 0, 1), (89, .iload 4, 2), (91, .aload_n 0, 1), (92, .iload 4, 2), (94, .iload_n 3, 1), (95, .iconst 0, 1), (96, .invokevirtual 76, 3), (99, .invokevirtual 80, 3), (102, .isub, 1), (103, .istore_n 3, 1), (104, .iinc 4 1, 3), (107, .goto (-53), 3), (110, .aload_n 0, 1), (111, .iload_n 2, 1), (112, .iload_n 3, 1), (113, .iconst 0, 1), (114, .invokevirtual 91, 3), (117, .return_, 1)]
def zm_t52 : List (Nat × Instr × Nat) := [(0, .iconst 0, 1), (1, .istore_n 1, 1), (2, .iload_n 1, 1), (3, .aload_n 0, 1), (4, .getfield 34, 3), (7, .getfield 64, 3), (10, .getfield 95, 3), (13, .if_icmp .ge 28, 3), (16, .aload_n 0, 1), (17, .getfield 34, 3), (20, .getfield 64, 3), (23, .iload_n 1, 1), (24, .invokevirtual 96, 3), (27, .ifCond .eq 8, 3), (30, .aload_n 0, 1), (31, .iload_n 1, 1), (32, .invokevirtual 100, 3), (35, .iinc 1 1, 3), (38, .goto (-36), 3), (41, .return_, 1)]
def zm_t53 : List (Nat × Instr × Nat) := [(0, .aload_n 0, 1), (1, .getfield 34, 3), (4, .getfield 104, 3), (7, .iconst 2, 1), (8, .iaload, 1), (9, .iconst 1, 1), (10, .if_icmp .ne 60, 3), (13, .iload_n 1, 1), (14, .iload_n 2, 1), (15, .if_icmp .eq 55, 3), (18, .aload_n 0, 1), (19, .getfield 9, 3), (22, .iload_n 2, 1), (23, .iaload, 1), (24, .ifCond .lt 46, 3), (27, .aload_n 0, 1), (28, .getfield 15, 3), (31, .iload_n 2, 1), (32, .iaload, 1), (33, .ifCond .lt 37, 3), (36, .aload_n 0, 1), (37, .getfield 9, 3), (40, .iload_n 1, 1), (41, .iaload, 1), (42, .aload_n 0, 1), (43, .getfield 9, 3), (46, .iload_n 2, 1), (47, .iaload, 1), (48, .if_icmp .ne 22, 3), (51, .aload_n 0, 1), (52, .getfield 15, 3), (55, .iload_n 1, 1), (56, .iaload, 1), (57, .aload_n 0, 1), (58, .getfield 15, 3), (61, .iload_n 2, 1), (62, .iaload, 1), (63, .if_icmp .ne 7, 3), (66, .iconst 1, 1), (67, .goto 4, 3), (70, .iconst 0, 1), (71, .ireturn, 1)]
def zm_t54 : List (Nat × Instr × Nat) := [(0, .iload_n 3, 1), (1, .aload_n 0, 1), (2, .getfield 34, 3), (5, .getfield 104, 3), (8, .iconst 0, 1), (9, .iaload, 1), (10, .if_icmp .ge 21, 3), (13, .aload_n 0, 1), (14, .getfield 9, 3), (17, .iload_n 1, 1), (18, .iaload, 1), (19, .ifCond .ge 23, 3), (22, .aload_n 0, 1), (23, .getfield 15, 3), (26, .iload_n 1, 1), (27, .iaload, 1), (28, .ifCond .ge 14, 3), (31, .aload_n 0, 1), (32, .dup, 1), (33, .getfield 30, 3), (36, .iload_n 2, 1), (37, .iadd, 1), (38, .putfield 30, 3), (41, .return_, 1), (42, .aload_n 0, 1), (43, .getfield 34, 3), (46, .getfield 104, 3), (49, .iconst 1, 1), (50, .iaload, 1), (51, .iconst 1, 1), (52, .if_icmp .ne 9, 3), (55, .iload_n 2, 1), (56, .iconst 2, 1), (57, .idiv, 1), (58, .goto 4, 3), (61, .iload_n 2, 1), (62, .istore 4, 2), (64, .aload_n 0, 1), (65, .dup, 1), (66, .getfield 30, 3), (69, .iload_n 2, 1), (70, .iload 4, 2), (72, .isub, 1), (73, .iadd, 1), (74, .putfield 30, 3), (77, .aload_n 0, 1), (78, .getfield 15, 3), (81, .iload_n 1, 1), (82, .iaload, 1), (83, .ifCond .ge 21, 3), (86, .aload_n 0, 1), (87, .aload_n 0, 1), (88, .getfield 9, 3), (91, .iload_n 1, 1), (92, .iaload, 1), (93, .iload 4, 2), (95, .iload_n 3, 1), (96, .iconst 1, 1), (97, .iadd, 1), (98, .invokevirtual 107, 3), (101, .goto 65, 3), (104, .aload_n 0, 1), (105, .getfield 9, 3), (108, .iload_n 1, 1), (109, .iaload, 1), (110, .ifCond .ge 21, 3), (113, .aload_n 0, 1), (114, .aload_n 0, 1), (115, .getfield 15, 3), (118, .iload_n 1, 1), (119, .iaload, 1), (120, .iload 4, 2), (122, .iload_n 3, 1), (123, .iconst 1, 1), (124, .iadd, 1), (125, .invokevirtual 107, 3), (128, .goto 38, 3), (131, .aload_n 0, 1), (132, .aload_n 0, 1), (133, .getfield 9, 3), (136, .iload_n 1, 1), (137, .iaload, 1), (138, .iload 4, 2), (140, .invokestatic 110, 3), (143, .iload_n 3, 1), (144, .iconst 1, 1), (145, .iadd, 1), (146, .invokevirtual 107, 3), (149, .aload_n 0, 1), (150, .aload_n 0, 1), (151, .getfield 15, 3), (154, .iload_n 1, 1), (155, .iaload, 1), (156, .iload 4, 2), (158, .iconst 2, 1), (159, .idiv, 1), (160, .iload_n 3, 1), (161, .iconst 1, 1), (162, .iadd, 1), (163, .invokevirtual 107, 3), (166, .return_, 1)]
def zm_t55 : List (Nat × Instr × Nat) := [(0, .iload_n 2, 1), (1, .ifCond .ne 4, 3), (4, .return_, 1), (5, .aload_n 0, 1), (6, .getfield 18, 3), (9, .iload_n 1, 1), (10, .iaload, 1), (11, .ifCond .ne 11, 3), (14, .aload_n 0, 1), (15, .iload_n 1, 1), (16, .iload_n 2, 1), (17, .iload_n 3, 1), (18, .invokevirtual 91, 3), (21, .return_, 1), (22, .iload_n 2, 1), (23, .aload_n 0, 1), (24, .iload_n 1, 1), (25, .aload_n 0, 1), (26, .iload_n 1, 1), (27, .iload_n 2, 1), (28, .iload_n 3, 1), (29, .invokevirtual 76, 3), (32, .invokevirtual 80, 3), (35, .isub, 1), (36, .istore 4, 2), (38, .aload_n 0, 1), (39, .getfield 44, 3), (42, .getfield 114, 3), (45, .iload_n 1, 1), (46, .iaload, 1), (47, .iconst 2, 1), (48, .if_icmp .ne 17, 3), (51, .aload_n 0, 1), (52, .dup, 1), (53, .getfield 30, 3), (56, .iload 4, 2), (58, .iadd, 1), (59, .putfield 30, 3), (62, .goto 11, 3), (65, .aload_n 0, 1), (66, .iload_n 1, 1), (67, .iload 4, 2), (69, .iload_n 3, 1), (70, .invokevirtual 91, 3), (73, .return_, 1)]
def zm_t56 : List (Nat × Instr × Nat) := [(0, .aload_n 0, 1), (1, .getfield 44, 3), (4, .getfield 117, 3), (7, .iload_n 1, 1), (8, .iaload, 1), (9, .istore 4, 2), (11, .aload_n 0, 1), (12, .getfield 44, 3), (15, .getfield 114, 3), (18, .iload_n 1, 1), (19, .iaload, 1), (20, .tableswitch 161 1 6 #[40, 50, 60, 73, 92, 112], 40), (60, .iload_n 2, 1), (61, .bipush 100, 2), (63, .iload 4, 2), (65, .imul, 1), (66, .invokestatic 120, 3), (69, .ireturn, 1), (70, .iload_n 3, 1), (71, .ifCond .le 7, 3), (74, .iconst 0, 1), (75, .goto 4, 3), (78, .iload_n 2, 1), (79, .ireturn, 1), (80, .iload_n 3, 1), (81, .ifCond .le 10, 3), (84, .iload_n 2, 1), (85, .invokestatic 110, 3), (88, .goto 4, 3), (91, .iload_n 2, 1), (92, .ireturn, 1), (93, .iload_n 3, 1), (94, .iconst 2, 1), (95, .if_icmp .lt 7, 3), (98, .iconst 0, 1), (99, .goto 12, 3), (102, .iload_n 2, 1), (103, .bipush 100, 2), (105, .iload 4, 2), (107, .imul, 1), (108, .invokestatic 120, 3), (111, .ireturn, 1), (112, .iload_n 2, 1), (113, .iload_n 3, 1), (114, .ifCond .le 10, 3), (117, .iload_n 2, 1), (118, .invokestatic 110, 3), (121, .goto 4, 3), (124, .iload_n 2, 1), (125, .iload 4, 2), (127, .iadd, 1), (128, .invokestatic 120, 3), (131, .ireturn, 1), (132, .aload_n 0, 1), (133, .getfield 34, 3), (136, .getfield 125, 3), (139, .getfield 129, 3), (142, .ifCond .eq 37, 3), (145, .aload_n 0, 1), (146, .getfield 34, 3), (149, .getfield 125, 3), (152, .iload_n 2, 1), (153, .aload_n 0, 1), (154, .getfield 21, 3), (157, .iload_n 1, 1), (158, .iaload, 1), (159, .aload_n 0, 1), (160, .getfield 24, 3), (163, .iload_n 1, 1), (164, .iaload, 1), (165, .iload_n 3, 1), (166, .iload 4, 2), (168, .invokevirtual 135, 3), (171, .iconst 0, 1), (172, .iload_n 2, 1), (173, .invokestatic 139, 3), (176, .goto 4, 3), (179, .iload_n 2, 1), (180, .ireturn, 1), (181, .iload_n 2, 1), (182, .ireturn, 1)]
def zm_t57 : List (Nat × Instr × Nat) := [(0, .iload_n 2, 1), (1, .aload_n 0, 1), (2, .getfield 21, 3), (5, .iload_n 1, 1), (6, .iaload, 1), (7, .aload_n 0, 1), (8, .getfield 24, 3), (11, .iload_n 1, 1), (12, .iaload, 1), (13, .iadd, 1), (14, .invokestatic 120, 3), (17, .istore_n 3, 1), (18, .iload_n 3, 1), (19, .aload_n 0, 1), (20, .getfield 21, 3), (23, .iload_n 1, 1), (24, .iaload, 1), (25, .invokestatic 120, 3), (28, .istore 4, 2), (30, .aload_n 0, 1), (31, .getfield 21, 3), (34, .iload_n 1, 1), (35, .dup2, 1), (36, .iaload, 1), (37, .iload 4, 2), (39, .isub, 1), (40, .iastore, 1), (41, .aload_n 0, 1), (42, .getfield 24, 3), (45, .iload_n 1, 1), (46, .dup2, 1), (47, .iaload, 1), (48, .iload_n 3, 1), (49, .iload 4, 2), (51, .isub, 1), (52, .isub, 1), (53, .iastore, 1), (54, .aload_n 0, 1), (55, .getfield 27, 3), (58, .iload_n 1, 1), (59, .dup2, 1), (60, .iaload, 1), (61, .iload_n 3, 1), (62, .iadd, 1), (63, .iastore, 1), (64, .iload_n 3, 1), (65, .ireturn, 1)]
def zm_t58 : List (Nat × Instr × Nat) := [(0, .aload_n 0, 1), (1, .iload_n 1, 1), (2, .putfield 23, 3), (5, .aload_n 0, 1), (6, .iload_n 2, 1), (7, .putfield 26, 3), (10, .aload_n 0, 1), (11, .iload_n 3, 1), (12, .putfield 29, 3), (15, .aload_n 0, 1), (16, .iconst 0, 1), (17, .putfield 15, 3), (20, .aload_n 0, 1), (21, .iconst 0, 1), (22, .putfield 19, 3), (25, .aload_n 0, 1), (26, .iload_n 1, 1), (27, .iload 4, 2), (29, .iload 5, 2), (31, .iconst 0, 1), (32, .invokevirtual 32, 3), (35, .ireturn, 1)]
def zm_t59 : List (Nat × Instr × Nat) := [(0, .iload_n 1, 1), (1, .istore 5, 2), (3, .iconst 0, 1), (4, .istore 6, 2), (6, .iload 6, 2), (8, .getstatic 36, 3), (11, .arraylength, 1), (12, .if_icmp .ge 35, 3), (15, .iload 5, 2), (17, .ifCond .le 30, 3), (20, .getstatic 39, 3), (23, .iload 5, 2), (25, .iconst 4, 1), (26, .imul, 1), (27, .iload_n 2, 1), (28, .iadd, 1), (29, .iaload, 1), (30, .ifCond .ne 17, 3), (33, .getstatic 36, 3), (36, .iload 5, 2), (38, .iaload, 1), (39, .istore 5, 2), (41, .iinc 6 1, 3), (44, .goto (-38), 3), (47, .iload 5, 2), (49, .ifCond .lt 10, 3), (52, .iload 4, 2), (54, .bipush 30, 2), (56, .if_icmp .le 5, 3), (59, .iconst 0, 1), (60, .ireturn, 1), (61, .getstatic 39, 3), (64, .iload 5, 2), (66, .iconst 4, 1), (67, .imul, 1), (68, .iload_n 2, 1), (69, .iadd, 1), (70, .iaload, 1), (71, .istore 6, 2), (73, .aload_n 0, 1), (74, .getfield 15, 3), (77, .aload_n 0, 1), (78, .getfield 9, 3), (81, .arraylength, 1), (82, .if_icmp .ge 24, 3), (85, .aload_n 0, 1), (86, .getfield 9, 3), (89, .aload_n 0, 1), (90, .getfield 15, 3), (93, .iload 6, 2), (95, .iastore, 1), (96, .aload_n 0, 1), (97, .dup, 1), (98, .getfield 15, 3), (101, .iconst 1, 1), (102, .iadd, 1), (103, .putfield 15, 3), (106, .aload_n 0, 1), (107, .iload 6, 2), (109, .getstatic 36, 3), (112, .iload 5, 2), (114, .iaload, 1), (115, .iload_n 3, 1), (116, .iload 4, 2), (118, .iconst 1, 1), (119, .iadd, 1), (120, .invokevirtual 42, 3), (123, .ireturn, 1)]
def zm_t60 : List (Nat × Instr × Nat) := [(0, .iload_n 1, 1), (1, .lookupswitch 293 #[(10, 115), (11, 122), (12, 137), (13, 155), (20, 161), (21, 174), (30, 212), (40, 224), (50, 236), (51, 248), (60, 263), (70, 275), (71, 278)], 115), (116, .iload_n 3, 1), (117, .aload_n 0, 1), (118, .getfield 26, 3), (121, .iadd, 1), (122, .ireturn, 1), (123, .aload_n 0, 1), (124, .aload_n 0, 1), (125, .getfield 23, 3), (128, .iconst 0, 1), (129, .iload_n 3, 1), (130, .iload 4, 2), (132, .invokevirtual 32, 3), (135, .iconst 2, 1), (136, .imul, 1), (137, .ireturn, 1), (138, .aload_n 0, 1), (139, .aload_n 0, 1), (140, .getfield 23, 3), (143, .iconst 1, 1), (144, .iload_n 3, 1), (145, .iload 4, 2), (147, .invokevirtual 32, 3), (150, .aload_n 0, 1), (151, .getfield 29, 3), (154, .isub, 1), (155, .ireturn, 1), (156, .aload_n 0, 1), (157, .iload_n 3, 1), (158, .invokevirtual 45, 3), (161, .ireturn, 1), (162, .aload_n 0, 1), (163, .iload_n 2, 1), (164, .iconst 0, 1), (165, .iload_n 3, 1), (166, .iload 4, 2), (168, .invokevirtual 32, 3), (171, .bipush 6, 2), (173, .isub, 1), (174, .ireturn, 1), (175, .aload_n 0, 1), (176, .iload_n 2, 1), (177, .iconst 3, 1), (178, .iload_n 3, 1), (179, .iload 4, 2), (181, .invokevirtual 32, 3), (184, .istore 5, 2), (186, .aload_n 0, 1), (187, .getfield 19, 3), (190, .ifCond .eq 7, 3), (193, .iconst 0, 1), (194, .goto 18, 3), (197, .iload 5, 2), (199, .aload_n 0, 1), (200, .aload_n 0, 1), (201, .getfield 23, 3), (204, .iconst 1, 1), (205, .iconst 1, 1), (206, .iload 4, 2), (208, .invokevirtual 32, 3), (211, .iadd, 1), (212, .ireturn, 1), (213, .iconst 0, 1), (214, .aload_n 0, 1), (215, .iload_n 2, 1), (216, .iconst 1, 1), (217, .iload_n 3, 1), (218, .iload 4, 2), (220, .invokevirtual 32, 3), (223, .isub, 1), (224, .ireturn, 1), (225, .aload_n 0, 1), (226, .iload_n 2, 1), (227, .iconst 2, 1), (228, .iload_n 3, 1), (229, .iconst 2, 1), (230, .idiv, 1), (231, .iload 4, 2), (233, .invokevirtual 32, 3), (236, .ireturn, 1), (237, .aload_n 0, 1), (238, .iload_n 2, 1), (239, .iconst 0, 1), (240, .iload_n 3, 1), (241, .iload 4, 2), (243, .invokevirtual 32, 3), (246, .iconst 3, 1), (247, .imul, 1), (248, .ireturn, 1), (249, .aload_n 0, 1), (250, .iload_n 2, 1), (251, .iconst 2, 1), (252, .iload_n 3, 1), (253, .iload 4, 2), (255, .invokevirtual 32, 3), (258, .aload_n 0, 1), (259, .getfield 26, 3), (262, .ixor, 1), (263, .ireturn, 1), (264, .aload_n 0, 1), (265, .iload_n 2, 1), (266, .iconst 1, 1), (267, .iload_n 3, 1), (268, .iconst 1, 1), (269, .iadd, 1), (270, .iload 4, 2), (272, .invokevirtual 32, 3), (275, .ireturn, 1), (276, .bipush 7, 2), (278, .ireturn, 1), (279, .aload_n 0, 1), (280, .iload_n 2, 1), (281, .iconst 1, 1), (282, .iload_n 3, 1), (283, .iload 4, 2), (285, .invokevirtual 32, 3), (288, .aload_n 0, 1), (289, .getfield 29, 3), (292, .iadd, 1), (293, .ireturn, 1), (294, .iconst 0, 1), (295, .ireturn, 1)]
def zm_t61 : List (Nat × Instr × Nat) := [(0, .aload_n 0, 1), (1, .getfield 29, 3), (4, .aload_n 0, 1), (5, .getfield 26, 3), (8, .if_icmp .ne 10, 3), (11, .aload_n 0, 1), (12, .iconst 1, 1), (13, .putfield 19, 3), (16, .iconst 0, 1), (17, .ireturn, 1), (18, .iload_n 1, 1), (19, .aload_n 0, 1), (20, .getfield 29, 3), (23, .aload_n 0, 1), (24, .getfield 26, 3), (27, .isub, 1), (28, .idiv, 1), (29, .ireturn, 1)]
def zm_t62 : List (Nat × Instr × Nat) := [(0, .iload_n 1, 1), (1, .ifCond .lt 24, 3), (4, .iload_n 1, 1), (5, .sipush 700, 3), (8, .if_icmp .ge 17, 3), (11, .iload_n 2, 1), (12, .invokestatic 66, 3), (15, .ifCond .eq 10, 3), (18, .iload_n 3, 1), (19, .invokestatic 66, 3), (22, .ifCond .ne 9, 3), (25, .aload_n 0, 1), (26, .iconst 1, 1), (27, .invokevirtual 70, 3), (30, .ireturn, 1), (31, .aload_n 0, 1), (32, .getfield 10, 3), (35, .getfield 74, 3), (38, .getfield 78, 3), (41, .bipush 12, 2), (43, .if_icmp .lt 9, 3), (46, .aload_n 0, 1), (47, .iconst 4, 1), (48, .invokevirtual 70, 3), (51, .ireturn, 1), (52, .aload_n 0, 1), (53, .getfield 10, 3), (56, .getfield 74, 3), (59, .iload_n 1, 1), (60, .bipush 100, 2), (62, .idiv, 1), (63, .iload_n 1, 1), (64, .bipush 100, 2), (66, .irem, 1), (67, .iload_n 2, 1), (68, .iload_n 3, 1), (69, .invokevirtual 83, 3), (72, .ireturn, 1)]
def zm_t63 : List (Nat × Instr × Nat) := [(0, .aload_n 0, 1), (1, .getfield 10, 3), (4, .getfield 74, 3), (7, .iload_n 1, 1), (8, .invokevirtual 87, 3), (11, .ifCond .eq 13, 3), (14, .iload_n 2, 1), (15, .ifCond .lt 9, 3), (18, .iload_n 2, 1), (19, .bipush 9, 2), (21, .if_icmp .le 9, 3), (24, .aload_n 0, 1), (25, .iconst 1, 1), (26, .invokevirtual 70, 3), (29, .ireturn, 1), (30, .iload_n 2, 1), (31, .bipush 8, 2), (33, .if_icmp .ne 15, 3), (36, .aload_n 0, 1), (37, .getfield 10, 3), (40, .getfield 74, 3), (43, .iload_n 1, 1), (44, .invokevirtual 90, 3), (47, .ireturn, 1), (48, .iload_n 2, 1), (49, .bipush 9, 2), (51, .if_icmp .ne 15, 3), (54, .aload_n 0, 1), (55, .getfield 10, 3), (58, .getfield 74, 3), (61, .iload_n 1, 1), (62, .invokevirtual 93, 3), (65, .ireturn, 1), (66, .aload_n 0, 1), (67, .getfield 10, 3), (70, .getfield 74, 3), (73, .getfield 96, 3), (76, .iload_n 2, 1), (77, .aaload, 1), (78, .iload_n 1, 1), (79, .iaload, 1), (80, .ireturn, 1)]
def zm_t64 : List (Nat × Instr × Nat) := [(0, .aload_n 0, 1), (1, .getfield 10, 3), (4, .getfield 74, 3), (7, .iload_n 1, 1), (8, .invokevirtual 87, 3), (11, .ifCond .eq 13, 3), (14, .iload_n 2, 1), (15, .ifCond .lt 9, 3), (18, .iload_n 2, 1), (19, .bipush 6, 2), (21, .if_icmp .le 9, 3), (24, .aload_n 0, 1), (25, .iconst 1, 1), (26, .invokevirtual 70, 3), (29, .ireturn, 1), (30, .aload_n 0, 1), (31, .getfield 10, 3), (34, .getfield 74, 3), (37, .getfield 100, 3), (40, .iload_n 1, 1), (41, .iaload, 1), (42, .iload_n 2, 1), (43, .invokestatic 103, 3), (46, .ifCond .ne 9, 3), (49, .aload_n 0, 1), (50, .iconst 5, 1), (51, .invokevirtual 70, 3), (54, .ireturn, 1), (55, .aload_n 0, 1), (56, .getfield 10, 3), (59, .getfield 74, 3), (62, .getfield 107, 3), (65, .iload_n 1, 1), (66, .iaload, 1), (67, .ireturn, 1)]
def zm_t65 : List (Nat × Instr × Nat) := [(0, .aload_n 0, 1), (1, .getfield 10, 3), (4, .getfield 74, 3), (7, .iload_n 1, 1), (8, .invokevirtual 87, 3), (11, .ifCond .eq 26, 3), (14, .iload_n 2, 1), (15, .ifCond .lt 22, 3), (18, .iload_n 2, 1), (19, .bipush 7, 2), (21, .if_icmp .gt 16, 3), (24, .iload_n 3, 1), (25, .ifCond .lt 12, 3), (28, .iload_n 3, 1), (29, .getstatic 110, 3), (32, .iload_n 2, 1), (33, .iaload, 1), (34, .if_icmp .le 9, 3), (37, .aload_n 0, 1), (38, .iconst 1, 1), (39, .invokevirtual 70, 3), (42, .ireturn, 1), (43, .aload_n 0, 1), (44, .getfield 10, 3), (47, .getfield 74, 3), (50, .getfield 96, 3), (53, .iload_n 2, 1), (54, .aaload, 1), (55, .iload_n 1, 1), (56, .iaload, 1), (57, .istore 4, 2), (59, .aload_n 0, 1), (60, .getfield 10, 3), (63, .getfield 74, 3), (66, .getfield 96, 3), (69, .iload_n 2, 1), (70, .aaload, 1), (71, .iload_n 1, 1), (72, .iload_n 3, 1), (73, .iastore, 1), (74, .iload 4, 2), (76, .ireturn, 1)]
def zm_t66 : List (Nat × Instr × Nat) := [(0, .aload_n 0, 1), (1, .getfield 10, 3), (4, .getfield 74, 3), (7, .astore 4, 2), (9, .aload 4, 2), (11, .iload_n 1, 1), (12, .invokevirtual 87, 3), (15, .ifCond .eq 26, 3), (18, .iload_n 2, 1), (19, .ifCond .lt 22, 3), (22, .iload_n 2, 1), (23, .iconst 1, 1), (24, .if_icmp .gt 17, 3), (27, .iload_n 3, 1), (28, .iconst (-1), 1), (29, .if_icmp .eq 18, 3), (32, .aload 4, 2), (34, .iload_n 3, 1), (35, .invokevirtual 87, 3), (38, .ifCond .ne 9, 3), (41, .aload_n 0, 1), (42, .iconst 1, 1), (43, .invokevirtual 70, 3), (46, .ireturn, 1), (47, .iload_n 2, 1), (48, .ifCond .ne 11, 3), (51, .aload 4, 2), (53, .getfield 113, 3), (56, .goto 8, 3), (59, .aload 4, 2), (61, .getfield 116, 3), (64, .astore 5, 2), (66, .iload_n 2, 1), (67, .ifCond .ne 11, 3), (70, .aload 4, 2), (72, .getfield 116, 3), (75, .goto 8, 3), (78, .aload 4, 2), (80, .getfield 113, 3), (83, .astore 6, 2), (85, .iload_n 3, 1), (86, .iconst (-1), 1), (87, .if_icmp .eq 35, 3), (90, .iload_n 3, 1), (91, .iload_n 1, 1), (92, .if_icmp .eq 24, 3), (95, .aload 6, 2), (97, .iload_n 1, 1), (98, .iaload, 1), (99, .iload_n 3, 1), (100, .if_icmp .eq 16, 3), (103, .aload 4, 2), (105, .iload_n 1, 1), (106, .invokevirtual 93, 3), (109, .iload_n 3, 1), (110, .invokestatic 119, 3), (113, .ifCond .eq 9, 3), (116, .aload_n 0, 1), (117, .iconst 3, 1), (118, .invokevirtual 70, 3), (121, .ireturn, 1), (122, .aload 5, 2), (124, .iload_n 1, 1), (125, .iaload, 1), (126, .istore 7, 2), (128, .aload 5, 2), (130, .iload_n 1, 1), (131, .iload_n 3, 1), (132, .iastore, 1), (133, .iload 7, 2), (135, .ireturn, 1)]
def zm_t67 : List (Nat × Instr × Nat) := [(0, .iload_n 1, 1), (1, .ifCond .lt 26, 3), (4, .iload_n 1, 1), (5, .iconst 2, 1), (6, .if_icmp .gt 21, 3), (9, .iload_n 2, 1), (10, .getstatic 122, 3), (13, .iload_n 1, 1), (14, .iaload, 1), (15, .if_icmp .lt 12, 3), (18, .iload_n 2, 1), (19, .getstatic 125, 3), (22, .iload_n 1, 1), (23, .iaload, 1), (24, .if_icmp .le 9, 3), (27, .aload_n 0, 1), (28, .iconst 1, 1), (29, .invokevirtual 70, 3), (32, .ireturn, 1), (33, .aload_n 0, 1), (34, .getfield 10, 3), (37, .getfield 128, 3), (40, .iload_n 1, 1), (41, .iaload, 1), (42, .istore_n 3, 1), (43, .aload_n 0, 1), (44, .getfield 10, 3), (47, .getfield 128, 3), (50, .iload_n 1, 1), (51, .iload_n 2, 1), (52, .iastore, 1), (53, .iload_n 3, 1), (54, .ireturn, 1)]
def zm_t68 : List (Nat × Instr × Nat) := [(0, .aload_n 0, 1), (1, .iload_n 1, 1), (2, .iload_n 2, 1), (3, .iload_n 3, 1), (4, .invokevirtual 131, 3), (7, .ifCond .ne 9, 3), (10, .aload_n 0, 1), (11, .iconst 1, 1), (12, .invokevirtual 70, 3), (15, .ireturn, 1), (16, .aload_n 0, 1), (17, .getfield 10, 3), (20, .getfield 135, 3), (23, .getfield 139, 3), (26, .bipush 10, 2), (28, .if_icmp .lt 9, 3), (31, .aload_n 0, 1), (32, .iconst 4, 1), (33, .invokevirtual 70, 3), (36, .ireturn, 1), (37, .aload_n 0, 1), (38, .getfield 10, 3), (41, .getfield 135, 3), (44, .iload_n 1, 1), (45, .iload_n 2, 1), (46, .iload_n 3, 1), (47, .invokevirtual 142, 3), (50, .ireturn, 1)]
def zm_t69 : List (Nat × Instr × Nat) := [(0, .aload_n 0, 1), (1, .getfield 10, 3), (4, .getfield 135, 3), (7, .iload_n 1, 1), (8, .invokevirtual 145, 3), (11, .ifCond .eq 22, 3), (14, .iload_n 2, 1), (15, .ifCond .lt 18, 3), (18, .iload_n 2, 1), (19, .aload_n 0, 1), (20, .getfield 10, 3), (23, .getfield 135, 3), (26, .getfield 146, 3), (29, .arraylength, 1), (30, .if_icmp .lt 9, 3), (33, .aload_n 0, 1), (34, .iconst 1, 1), (35, .invokevirtual 70, 3), (38, .ireturn, 1), (39, .aload_n 0, 1), (40, .getfield 10, 3), (43, .getfield 135, 3), (46, .getfield 146, 3), (49, .iload_n 2, 1), (50, .aaload, 1), (51, .iload_n 1, 1), (52, .iaload, 1), (53, .ireturn, 1)]
def zm_t70 : List (Nat × Instr × Nat) := [(0, .aload_n 0, 1), (1, .iload_n 1, 1), (2, .invokevirtual 147, 3), (5, .istore_n 2, 1), (6, .iload_n 2, 1), (7, .ifCond .eq 9, 3), (10, .aload_n 0, 1), (11, .iload_n 2, 1), (12, .invokevirtual 70, 3), (15, .ireturn, 1), (16, .aload_n 0, 1), (17, .iload_n 1, 1), (18, .invokevirtual 150, 3), (21, .ireturn, 1)]
def zm_t71 : List (Nat × Instr × Nat) := [(0, .aload_n 0, 1), (1, .getfield 10, 3), (4, .getfield 135, 3), (7, .iload_n 1, 1), (8, .invokevirtual 145, 3), (11, .ifCond .ne 9, 3), (14, .aload_n 0, 1), (15, .iconst 1, 1), (16, .invokevirtual 70, 3), (19, .ireturn, 1), (20, .aload_n 0, 1), (21, .getfield 10, 3), (24, .getfield 74, 3), (27, .astore_n 2, 1), (28, .aload_n 0, 1), (29, .getfield 10, 3), (32, .getfield 135, 3), (35, .getfield 153, 3), (38, .iload_n 1, 1), (39, .iaload, 1), (40, .istore_n 3, 1), (41, .aload_n 0, 1), (42, .getfield 10, 3), (45, .getfield 135, 3), (48, .getfield 156, 3), (51, .iload_n 1, 1), (52, .iaload, 1), (53, .istore 4, 2), (55, .aload_n 0, 1), (56, .getfield 10, 3), (59, .getfield 135, 3), (62, .iload_n 1, 1), (63, .invokevirtual 159, 3), (66, .ifCond .eq 30, 3), (69, .aload_n 2, 1), (70, .getfield 162, 3), (73, .iload_n 3, 1), (74, .iaload, 1), (75, .ifCond .eq 21, 3), (78, .aload_n 2, 1), (79, .getfield 165, 3), (82, .iload_n 3, 1), (83, .iaload, 1), (84, .aload_n 2, 1), (85, .getfield 168, 3), (88, .iload_n 3, 1), (89, .iaload, 1), (90, .iadd, 1), (91, .iload 4, 2), (93, .if_icmp .ge 9, 3), (96, .aload_n 0, 1), (97, .iconst 3, 1), (98, .invokevirtual 70, 3), (101, .ireturn, 1), (102, .iload 4, 2), (104, .aload_n 2, 1), (105, .getfield 165, 3), (108, .iload_n 3, 1), (109, .iaload, 1), (110, .invokestatic 171, 3), (113, .istore 5, 2), (115, .aload_n 2, 1), (116, .getfield 165, 3), (119, .iload_n 3, 1), (120, .dup2, 1), (121, .iaload, 1), (122, .iload 5, 2), (124, .isub, 1), (125, .iastore, 1), (126, .aload_n 2, 1), (127, .getfield 168, 3), (130, .iload_n 3, 1), (131, .dup2, 1), (132, .iaload, 1), (133, .iload 4, 2), (135, .iload 5, 2), (137, .isub, 1), (138, .isub, 1), (139, .iastore, 1), (140, .aload_n 0, 1), (141, .getfield 10, 3), (144, .getfield 135, 3), (147, .getfield 177, 3), (150, .iload_n 1, 1), (151, .iconst 0, 1), (152, .iastore, 1), (153, .aload_n 2, 1), (154, .getfield 165, 3), (157, .iload_n 3, 1), (158, .iaload, 1), (159, .aload_n 2, 1), (160, .getfield 168, 3), (163, .iload_n 3, 1), (164, .iaload, 1), (165, .iadd, 1), (166, .ireturn, 1)]
def zm_t72 : List (Nat × Instr × Nat) := [(0, .iload_n 1, 1), (1, .iconst 1, 1), (2, .if_icmp .lt 9, 3), (5, .iload_n 1, 1), (6, .bipush 60, 2), (8, .if_icmp .le 9, 3), (11, .aload_n 0, 1), (12, .iconst 1, 1), (13, .invokevirtual 70, 3), (16, .ireturn, 1), (17, .aload_n 0, 1), (18, .getfield 10, 3), (21, .getfield 180, 3), (24, .iload_n 1, 1), (25, .iadd, 1), (26, .sipush 9999, 3), (29, .if_icmp .le 9, 3), (32, .aload_n 0, 1), (33, .iconst 3, 1), (34, .invokevirtual 70, 3), (37, .ireturn, 1), (38, .iconst 0, 1), (39, .istore_n 2, 1), (40, .iload_n 2, 1), (41, .iload_n 1, 1), (42, .if_icmp .ge 86, 3), (45, .iconst 0, 1), (46, .istore_n 3, 1), (47, .iload_n 3, 1), (48, .aload_n 0, 1), (49, .getfield 10, 3), (52, .getfield 135, 3), (55, .getfield 139, 3), (58, .if_icmp .ge 51, 3), (61, .aload_n 0, 1), (62, .getfield 10, 3), (65, .getfield 135, 3), (68, .iload_n 3, 1), (69, .invokevirtual 159, 3), (72, .ifCond .eq 31, 3), (75, .aload_n 0, 1), (76, .getfield 10, 3), (79, .getfield 135, 3), (82, .getfield 183, 3), (85, .iload_n 3, 1), (86, .iaload, 1), (87, .aload_n 0, 1), (88, .getfield 10, 3), (91, .getfield 180, 3), (94, .if_icmp .gt 9, 3), (97, .aload_n 0, 1), (98, .iload_n 3, 1), (99, .invokevirtual 150, 3), (102, .pop, 1), (103, .iinc 3 1, 3), (106, .goto (-59), 3), (109, .aload_n 0, 1), (110, .getfield 10, 3), (113, .dup, 1), (114, .getfield 180, 3), (117, .iconst 1, 1), (118, .iadd, 1), (119, .putfield 180, 3), (122, .iinc 2 1, 3), (125, .goto (-85), 3), (128, .aload_n 0, 1), (129, .getfield 10, 3), (132, .getfield 180, 3), (135, .ireturn, 1)]
def zm_t73 : List (Nat × Instr × Nat) := [(0, .iload_n 1, 1), (1, .iconst 1, 1), (2, .if_icmp .lt 9, 3), (5, .iload_n 1, 1), (6, .bipush 20, 2), (8, .if_icmp .le 9, 3), (11, .aload_n 0, 1), (12, .iconst 1, 1), (13, .invokevirtual 70, 3), (16, .ireturn, 1), (17, .iconst 0, 1), (18, .istore_n 2, 1), (19, .iconst 0, 1), (20, .istore_n 3, 1), (21, .iload_n 3, 1), (22, .iload_n 1, 1), (23, .if_icmp .ge 19, 3), (26, .iload_n 2, 1), (27, .aload_n 0, 1), (28, .getfield 10, 3), (31, .invokevirtual 186, 3), (34, .iadd, 1), (35, .istore_n 2, 1), (36, .iinc 3 1, 3), (39, .goto (-18), 3), (42, .iload_n 2, 1), (43, .ireturn, 1)]
def zm_t74 : List (Nat × Instr × Nat) := [(0, .aload_n 0, 1), (1, .getfield 10, 3), (4, .getfield 190, 3), (7, .istore_n 2, 1), (8, .aload_n 0, 1), (9, .getfield 10, 3), (12, .iload_n 1, 1), (13, .putfield 190, 3), (16, .iload_n 2, 1), (17, .ireturn, 1)]
def zm_t75 : List (Nat × Instr × Nat) := [(0, .iload_n 3, 1), (1, .iconst 1, 1), (2, .if_icmp .lt 9, 3), (5, .iload_n 3, 1), (6, .bipush 8, 2), (8, .if_icmp .le 9, 3), (11, .aload_n 0, 1), (12, .iconst 1, 1), (13, .invokevirtual 70, 3), (16, .ireturn, 1), (17, .aload_n 0, 1), (18, .getfield 10, 3), (21, .getfield 193, 3), (24, .getfield 197, 3), (27, .iload_n 3, 1), (28, .iadd, 1), (29, .bipush 60, 2), (31, .if_icmp .le 9, 3), (34, .aload_n 0, 1), (35, .iconst 4, 1), (36, .invokevirtual 70, 3), (39, .ireturn, 1), (40, .iconst 0, 1), (41, .istore 4, 2), (43, .iload 4, 2), (45, .iload_n 3, 1), (46, .if_icmp .ge 31, 3), (49, .aload_n 0, 1), (50, .getfield 10, 3), (53, .getfield 193, 3), (56, .lload_n 1, 1), (57, .bipush 8, 2), (59, .iload 4, 2), (61, .imul, 1), (62, .lushr, 1), (63, .l2i, 1), (64, .sipush 255, 3), (67, .iand, 1), (68, .invokevirtual 202, 3), (71, .iinc 4 1, 3), (74, .goto (-31), 3), (77, .aload_n 0, 1), (78, .getfield 10, 3), (81, .getfield 193, 3), (84, .getfield 197, 3), (87, .ireturn, 1)]
def zm_t76 : List (Nat × Instr × Nat) := [(0, .iload_n 1, 1), (1, .invokestatic 206, 3), (4, .ifCond .ne 9, 3), (7, .aload_n 0, 1), (8, .iconst 1, 1), (9, .invokevirtual 70, 3), (12, .ireturn, 1), (13, .iload_n 1, 1), (14, .ifCond .ne 8, 3), (17, .ldc 209, 2), (19, .goto 5, 3), (22, .ldc 211, 2), (24, .astore_n 2, 1), (25, .aload_n 0, 1), (26, .getfield 40, 3), (29, .aload_n 0, 1), (30, .getfield 10, 3), (33, .getfield 193, 3), (36, .getfield 213, 3), (39, .aload_n 0, 1), (40, .getfield 10, 3), (43, .getfield 193, 3), (46, .getfield 197, 3), (49, .aload_n 2, 1), (50, .invokevirtual 216, 3), (53, .istore_n 3, 1), (54, .aload_n 0, 1), (55, .getfield 10, 3), (58, .getfield 193, 3), (61, .iconst 0, 1), (62, .putfield 197, 3), (65, .iload_n 3, 1), (66, .ifCond .ne 14, 3), (69, .bipush (-10), 2), (71, .aload_n 0, 1), (72, .getfield 40, 3), (75, .getfield 220, 3), (78, .isub, 1), (79, .ireturn, 1), (80, .aload_n 0, 1), (81, .getfield 10, 3), (84, .iload_n 1, 1), (85, .invokevirtual 223, 3), (88, .aload_n 0, 1), (89, .getfield 40, 3), (92, .getfield 227, 3), (95, .aload_n 0, 1), (96, .getfield 40, 3), (99, .getfield 230, 3), (102, .invokevirtual 233, 3), (105, .iconst 1, 1), (106, .ireturn, 1)]
def zm_t77 : List (Nat × Instr × Nat) := [(0, .iload_n 1, 1), (1, .invokestatic 206, 3), (4, .ifCond .ne 9, 3), (7, .aload_n 0, 1), (8, .iconst 1, 1), (9, .invokevirtual 70, 3), (12, .ireturn, 1), (13, .aload_n 0, 1), (14, .getfield 10, 3), (17, .iload_n 1, 1), (18, .invokevirtual 223, 3), (21, .astore_n 2, 1), (22, .aload_n 2, 1), (23, .getfield 239, 3), (26, .ifCond .eq 7, 3), (29, .iconst 1, 1), (30, .goto 4, 3), (33, .iconst 0, 1), (34, .istore_n 3, 1), (35, .aload_n 2, 1), (36, .iconst 0, 1), (37, .putfield 239, 3), (40, .iload_n 3, 1), (41, .ireturn, 1)]
def zm_t78 : List (Nat × Instr × Nat) := [(0, .aload_n 0, 1), (1, .getfield 10, 3), (4, .getfield 135, 3), (7, .iload_n 1, 1), (8, .invokevirtual 145, 3), (11, .ifCond .eq 17, 3), (14, .aload_n 0, 1), (15, .getfield 10, 3), (18, .getfield 74, 3), (21, .iload_n 2, 1), (22, .invokevirtual 87, 3), (25, .ifCond .ne 9, 3), (28, .aload_n 0, 1), (29, .iconst 1, 1), (30, .invokevirtual 70, 3), (33, .ireturn, 1), (34, .aload_n 0, 1), (35, .getfield 10, 3), (38, .getfield 135, 3), (41, .iload_n 1, 1), (42, .invokevirtual 159, 3), (45, .ifCond .ne 9, 3), (48, .aload_n 0, 1), (49, .iconst 3, 1), (50, .invokevirtual 70, 3), (53, .ireturn, 1), (54, .aload_n 0, 1), (55, .getfield 24, 3), (58, .invokevirtual 243, 3), (61, .aload_n 0, 1), (62, .getfield 24, 3), (65, .iload_n 1, 1), (66, .invokevirtual 246, 3), (69, .aload_n 0, 1), (70, .getfield 24, 3), (73, .getfield 249, 3), (76, .iload_n 2, 1), (77, .iaload, 1), (78, .ireturn, 1)]
def zm_t79 : List (Nat × Instr × Nat) := [(0, .aload_n 0, 1), (1, .iload_n 1, 1), (2, .invokevirtual 147, 3), (5, .istore_n 2, 1), (6, .iload_n 2, 1), (7, .ifCond .eq 9, 3), (10, .aload_n 0, 1), (11, .iload_n 2, 1), (12, .invokevirtual 70, 3), (15, .ireturn, 1), (16, .aload_n 0, 1), (17, .getfield 24, 3), (20, .invokevirtual 243, 3), (23, .aload_n 0, 1), (24, .getfield 24, 3), (27, .iload_n 1, 1), (28, .invokevirtual 246, 3), (31, .aload_n 0, 1), (32, .getfield 24, 3), (35, .getfield 252, 3), (38, .ireturn, 1)]
def zm_t80 : List (Nat × Instr × Nat) := [(0, .aload_n 0, 1), (1, .getfield 10, 3), (4, .getfield 74, 3), (7, .iload_n 1, 1), (8, .invokevirtual 87, 3), (11, .ifCond .ne 9, 3), (14, .aload_n 0, 1), (15, .iconst 1, 1), (16, .invokevirtual 70, 3), (19, .ireturn, 1), (20, .aload_n 0, 1), (21, .getfield 24, 3), (24, .invokevirtual 243, 3), (27, .aload_n 0, 1), (28, .getfield 24, 3), (31, .invokevirtual 255, 3), (34, .aload_n 0, 1), (35, .getfield 24, 3), (38, .getfield 249, 3), (41, .iload_n 1, 1), (42, .iaload, 1), (43, .ireturn, 1)]
def zm_t81 : List (Nat × Instr × Nat) := [(0, .aload_n 0, 1), (1, .getfield 10, 3), (4, .getfield 135, 3), (7, .iload_n 1, 1), (8, .invokevirtual 145, 3), (11, .ifCond .eq 12, 3), (14, .iload_n 2, 1), (15, .ifCond .lt 8, 3), (18, .iload_n 2, 1), (19, .iconst 1, 1), (20, .if_icmp .le 10, 3), (23, .aload_n 0, 1), (24, .iconst 1, 1), (25, .invokevirtual 70, 3), (28, .i2l, 1), (29, .lreturn, 1), (30, .aload_n 0, 1), (31, .getfield 10, 3), (34, .getfield 135, 3), (37, .iload_n 1, 1), (38, .invokevirtual 159, 3), (41, .ifCond .eq 27, 3), (44, .aload_n 0, 1), (45, .getfield 33, 3), (48, .aload_n 0, 1), (49, .getfield 10, 3), (52, .getfield 135, 3), (55, .getfield 153, 3), (58, .iload_n 1, 1), (59, .iaload, 1), (60, .invokevirtual 258, 3), (63, .bipush 9, 2), (65, .if_icmp .le 10, 3), (68, .aload_n 0, 1), (69, .iconst 3, 1), (70, .invokevirtual 70, 3), (73, .i2l, 1), (74, .lreturn, 1), (75, .aload_n 0, 1), (76, .getfield 33, 3), (79, .iload_n 1, 1), (80, .invokevirtual 261, 3), (83, .iload_n 2, 1), (84, .ifCond .ne 13, 3), (87, .aload_n 0, 1), (88, .getfield 33, 3), (91, .getfield 264, 3), (94, .goto 10, 3), (97, .aload_n 0, 1), (98, .getfield 33, 3), (101, .getfield 268, 3), (104, .lreturn, 1)]
def zm_t82 : List (Nat × Instr × Nat) := [(0, .aload_n 0, 1), (1, .getfield 10, 3), (4, .getfield 74, 3), (7, .astore_n 2, 1), (8, .aload_n 2, 1), (9, .iload_n 1, 1), (10, .invokevirtual 87, 3), (13, .ifCond .ne 9, 3), (16, .aload_n 0, 1), (17, .iconst 1, 1), (18, .invokevirtual 70, 3), (21, .ireturn, 1), (22, .iconst (-1), 1), (23, .istore_n 3, 1), (24, .iconst 0, 1), (25, .istore 4, 2), (27, .iconst 0, 1), (28, .istore 5, 2), (30, .iload 5, 2), (32, .aload_n 2, 1), (33, .getfield 78, 3), (36, .if_icmp .ge 75, 3), (39, .aload_n 2, 1), (40, .iload 5, 2), (42, .iload_n 1, 1), (43, .invokevirtual 271, 3), (46, .ifCond .eq 59, 3), (49, .aload_n 0, 1), (50, .getfield 24, 3), (53, .invokevirtual 243, 3), (56, .aload_n 0, 1), (57, .getfield 24, 3), (60, .iload 5, 2), (62, .iload_n 1, 1), (63, .invokevirtual 274, 3), (66, .aload_n 0, 1), (67, .getfield 24, 3), (70, .invokevirtual 255, 3), (73, .iload_n 3, 1), (74, .ifCond .lt 17, 3), (77, .aload_n 0, 1), (78, .getfield 24, 3), (81, .getfield 249, 3), (84, .iload_n 1, 1), (85, .iaload, 1), (86, .iload 4, 2), (88, .if_icmp .ge 17, 3), (91, .iload 5, 2), (93, .istore_n 3, 1), (94, .aload_n 0, 1), (95, .getfield 24, 3), (98, .getfield 249, 3), (101, .iload_n 1, 1), (102, .iaload, 1), (103, .istore 4, 2), (105, .iinc 5 1, 3), (108, .goto (-78), 3), (111, .iload_n 3, 1), (112, .ifCond .ge 11, 3), (115, .aload_n 0, 1), (116, .iconst 2, 1), (117, .invokevirtual 70, 3), (120, .goto 4, 3), (123, .iload_n 3, 1), (124, .ireturn, 1)]
def zm_t83 : List (Nat × Instr × Nat) := [(0, .aload_n 0, 1), (1, .getfield 10, 3), (4, .getfield 74, 3), (7, .astore_n 2, 1), (8, .aload_n 0, 1), (9, .getfield 10, 3), (12, .getfield 135, 3), (15, .iload_n 1, 1), (16, .invokevirtual 145, 3), (19, .ifCond .ne 9, 3), (22, .aload_n 0, 1), (23, .iconst 1, 1), (24, .invokevirtual 70, 3), (27, .ireturn, 1), (28, .aload_n 0, 1), (29, .getfield 10, 3), (32, .getfield 135, 3), (35, .getfield 153, 3), (38, .iload_n 1, 1), (39, .iaload, 1), (40, .istore_n 3, 1), (41, .aload_n 0, 1), (42, .getfield 10, 3), (45, .getfield 135, 3), (48, .iload_n 1, 1), (49, .invokevirtual 159, 3), (52, .ifCond .eq 13, 3), (55, .aload_n 2, 1), (56, .getfield 113, 3), (59, .iload_n 3, 1), (60, .iaload, 1), (61, .iconst (-1), 1), (62, .if_icmp .eq 9, 3), (65, .aload_n 0, 1), (66, .iconst 3, 1), (67, .invokevirtual 70, 3), (70, .ireturn, 1), (71, .aload_n 2, 1), (72, .iload_n 3, 1), (73, .invokevirtual 93, 3), (76, .istore 4, 2), (78, .iconst (-1), 1), (79, .istore 5, 2), (81, .iconst 0, 1), (82, .istore 6, 2), (84, .iconst 0, 1), (85, .istore 7, 2), (87, .iload 7, 2), (89, .aload_n 2, 1), (90, .getfield 78, 3), (93, .if_icmp .ge 92, 3), (96, .iload 7, 2), (98, .iload_n 3, 1), (99, .if_icmp .eq 80, 3), (102, .iload 7, 2), (104, .aload_n 2, 1), (105, .getfield 116, 3), (108, .iload_n 3, 1), (109, .iaload, 1), (110, .if_icmp .eq 69, 3), (113, .iload 4, 2), (115, .iload 7, 2), (117, .invokestatic 119, 3), (120, .ifCond .ne 59, 3), (123, .aload_n 0, 1), (124, .getfield 24, 3), (127, .invokevirtual 243, 3), (130, .aload_n 0, 1), (131, .getfield 24, 3), (134, .getfield 278, 3), (137, .iload_n 3, 1), (138, .iload 7, 2), (140, .iastore, 1), (141, .aload_n 0, 1), (142, .getfield 24, 3), (145, .iload_n 1, 1), (146, .invokevirtual 246, 3), (149, .iload 5, 2), (151, .ifCond .lt 15, 3), (154, .aload_n 0, 1), (155, .getfield 24, 3), (158, .getfield 252, 3), (161, .iload 6, 2), (163, .if_icmp .ge 16, 3), (166, .iload 7, 2), (168, .istore 5, 2), (170, .aload_n 0, 1), (171, .getfield 24, 3), (174, .getfield 252, 3), (177, .istore 6, 2), (179, .iinc 7 1, 3), (182, .goto (-95), 3), (185, .iload 5, 2), (187, .ifCond .ge 11, 3), (190, .aload_n 0, 1), (191, .iconst 2, 1), (192, .invokevirtual 70, 3), (195, .goto 5, 3), (198, .iload 5, 2), (200, .ireturn, 1)]
def zm_t84 : List (Nat × Instr × Nat) := [(0, .aload_n 0, 1), (1, .getfield 24, 3), (4, .invokevirtual 243, 3), (7, .aload_n 0, 1), (8, .getfield 24, 3), (11, .invokevirtual 255, 3), (14, .aload_n 0, 1), (15, .getfield 24, 3), (18, .getfield 252, 3), (21, .ireturn, 1)]
def zm_t85 : List (Nat × Instr × Nat) := [(0, .aload_n 0, 1), (1, .getfield 10, 3), (4, .getfield 74, 3), (7, .iload_n 1, 1), (8, .invokevirtual 87, 3), (11, .ifCond .eq 12, 3), (14, .iload_n 2, 1), (15, .ifCond .lt 8, 3), (18, .iload_n 2, 1), (19, .iconst 3, 1), (20, .if_icmp .le 9, 3), (23, .aload_n 0, 1), (24, .iconst 1, 1), (25, .invokevirtual 70, 3), (28, .ireturn, 1), (29, .aload_n 0, 1), (30, .getfield 47, 3), (33, .aload_n 0, 1), (34, .getfield 10, 3), (37, .getfield 74, 3), (40, .getfield 100, 3), (43, .iload_n 1, 1), (44, .iaload, 1), (45, .iload_n 1, 1), (46, .aload_n 0, 1), (47, .getfield 10, 3), (50, .getfield 74, 3), (53, .getfield 107, 3), (56, .iload_n 1, 1), (57, .iaload, 1), (58, .iload_n 2, 1), (59, .iload_n 3, 1), (60, .invokevirtual 279, 3), (63, .istore 4, 2), (65, .aload_n 0, 1), (66, .getfield 47, 3), (69, .getfield 283, 3), (72, .ifCond .eq 12, 3), (75, .aload_n 0, 1), (76, .bipush 6, 2), (78, .invokevirtual 70, 3), (81, .goto 5, 3), (84, .iload 4, 2), (86, .ireturn, 1)]
def zm_t86 : List (Nat × Instr × Nat) := [(0, .iload_n 1, 1), (1, .ifCond .lt 14, 3), (4, .iload_n 1, 1), (5, .aload_n 0, 1), (6, .getfield 47, 3), (9, .getfield 286, 3), (12, .if_icmp .lt 9, 3), (15, .aload_n 0, 1), (16, .iconst 2, 1), (17, .invokevirtual 70, 3), (20, .ireturn, 1), (21, .aload_n 0, 1), (22, .getfield 47, 3), (25, .getfield 289, 3), (28, .iload_n 1, 1), (29, .iaload, 1), (30, .ireturn, 1)]
def zm_t87 : List (Nat × Instr × Nat) := [(0, .aload_n 0, 1), (1, .getfield 54, 3), (4, .iload_n 1, 1), (5, .invokevirtual 292, 3), (8, .ifCond .eq 25, 3), (11, .iload_n 2, 1), (12, .ifCond .eq 27, 3), (15, .iload_n 2, 1), (16, .bipush 8, 2), (18, .if_icmp .eq 21, 3), (21, .iload_n 2, 1), (22, .bipush 16, 2), (24, .if_icmp .eq 15, 3), (27, .iload_n 2, 1), (28, .bipush 32, 2), (30, .if_icmp .eq 9, 3), (33, .aload_n 0, 1), (34, .iconst 1, 1), (35, .invokevirtual 70, 3), (38, .ireturn, 1), (39, .iload_n 2, 1), (40, .ifCond .eq 13, 3), (43, .iload_n 3, 1), (44, .ifCond .ge 9, 3), (47, .aload_n 0, 1), (48, .iconst 3, 1), (49, .invokevirtual 70, 3), (52, .ireturn, 1), (53, .iload_n 2, 1), (54, .ifCond .eq 15, 3), (57, .iload_n 3, 1), (58, .bipush 24, 2), (60, .if_icmp .le 9, 3), (63, .aload_n 0, 1), (64, .iconst 1, 1), (65, .invokevirtual 70, 3), (68, .ireturn, 1), (69, .aload_n 0, 1), (70, .getfield 54, 3), (73, .iload_n 1, 1), (74, .iload_n 2, 1), (75, .iload_n 2, 1), (76, .ifCond .ne 7, 3), (79, .iconst 0, 1), (80, .goto 4, 3), (83, .iload_n 3, 1), (84, .invokevirtual 293, 3), (87, .iconst 1, 1), (88, .ireturn, 1)]
def zm_t88 : List (Nat × Instr × Nat) := [(0, .aload_n 0, 1), (1, .getfield 54, 3), (4, .iload_n 1, 1), (5, .invokevirtual 292, 3), (8, .ifCond .ne 9, 3), (11, .aload_n 0, 1), (12, .iconst 1, 1), (13, .invokevirtual 70, 3), (16, .ireturn, 1), (17, .aload_n 0, 1), (18, .getfield 54, 3), (21, .iload_n 1, 1), (22, .invokevirtual 297, 3), (25, .ifCond .eq 9, 3), (28, .aload_n 0, 1), (29, .iconst 2, 1), (30, .invokevirtual 70, 3), (33, .ireturn, 1), (34, .iload_n 2, 1), (35, .ifCond .lt 16, 3), (38, .iload_n 2, 1), (39, .aload_n 0, 1), (40, .getfield 54, 3), (43, .getfield 300, 3), (46, .iload_n 1, 1), (47, .iaload, 1), (48, .if_icmp .lt 9, 3), (51, .aload_n 0, 1), (52, .iconst 1, 1), (53, .invokevirtual 70, 3), (56, .ireturn, 1), (57, .aload_n 0, 1), (58, .getfield 54, 3), (61, .getfield 302, 3), (64, .iload_n 1, 1), (65, .aaload, 1), (66, .iload_n 2, 1), (67, .iload_n 3, 1), (68, .aload_n 0, 1), (69, .getfield 54, 3), (72, .getfield 305, 3), (75, .iload_n 1, 1), (76, .iaload, 1), (77, .invokestatic 308, 3), (80, .iastore, 1), (81, .iconst 1, 1), (82, .ireturn, 1)]
def zm_t89 : List (Nat × Instr × Nat) := [(0, .aload_n 0, 1), (1, .getfield 54, 3), (4, .iload_n 1, 1), (5, .invokevirtual 292, 3), (8, .ifCond .eq 14, 3), (11, .aload_n 0, 1), (12, .getfield 54, 3), (15, .iload_n 3, 1), (16, .invokevirtual 292, 3), (19, .ifCond .ne 9, 3), (22, .aload_n 0, 1), (23, .iconst 1, 1), (24, .invokevirtual 70, 3), (27, .ireturn, 1), (28, .aload_n 0, 1), (29, .getfield 54, 3), (32, .iload_n 1, 1), (33, .invokevirtual 297, 3), (36, .ifCond .ne 14, 3), (39, .aload_n 0, 1), (40, .getfield 54, 3), (43, .iload_n 3, 1), (44, .invokevirtual 297, 3), (47, .ifCond .eq 9, 3), (50, .aload_n 0, 1), (51, .iconst 2, 1), (52, .invokevirtual 70, 3), (55, .ireturn, 1), (56, .aload_n 0, 1), (57, .getfield 54, 3), (60, .getfield 305, 3), (63, .iload_n 1, 1), (64, .iaload, 1), (65, .aload_n 0, 1), (66, .getfield 54, 3), (69, .getfield 305, 3), (72, .iload_n 3, 1), (73, .iaload, 1), (74, .if_icmp .eq 9, 3), (77, .aload_n 0, 1), (78, .iconst 5, 1), (79, .invokevirtual 70, 3), (82, .ireturn, 1), (83, .aload_n 0, 1), (84, .getfield 54, 3), (87, .iload_n 1, 1), (88, .iload_n 2, 1), (89, .iload 5, 2), (91, .invokevirtual 311, 3), (94, .ifCond .eq 18, 3), (97, .aload_n 0, 1), (98, .getfield 54, 3), (101, .iload_n 3, 1), (102, .iload 4, 2), (104, .iload 5, 2), (106, .invokevirtual 311, 3), (109, .ifCond .ne 9, 3), (112, .aload_n 0, 1), (113, .iconst 1, 1), (114, .invokevirtual 70, 3), (117, .ireturn, 1), (118, .aload_n 0, 1), (119, .getfield 54, 3), (122, .getfield 302, 3), (125, .iload_n 1, 1), (126, .aaload, 1), (127, .iload_n 2, 1), (128, .aload_n 0, 1), (129, .getfield 54, 3), (132, .getfield 302, 3), (135, .iload_n 3, 1), (136, .aaload, 1), (137, .iload 4, 2), (139, .iload 5, 2), (141, .invokestatic 314, 3), (144, .iload 5, 2), (146, .ireturn, 1)]
def zm_t90 : List (Nat × Instr × Nat) := [(0, .aload_n 0, 1), (1, .getfield 54, 3), (4, .iload_n 1, 1), (5, .invokevirtual 292, 3), (8, .ifCond .ne 9, 3), (11, .aload_n 0, 1), (12, .iconst 1, 1), (13, .invokevirtual 70, 3), (16, .ireturn, 1), (17, .aload_n 0, 1), (18, .getfield 54, 3), (21, .iload_n 1, 1), (22, .invokevirtual 297, 3), (25, .ifCond .eq 9, 3), (28, .aload_n 0, 1), (29, .iconst 2, 1), (30, .invokevirtual 70, 3), (33, .ireturn, 1), (34, .aload_n 0, 1), (35, .getfield 54, 3), (38, .getfield 302, 3), (41, .iload_n 1, 1), (42, .aaload, 1), (43, .astore_n 2, 1), (44, .iconst 0, 1), (45, .istore_n 3, 1), (46, .iconst 0, 1), (47, .istore 4, 2), (49, .iload 4, 2), (51, .iconst 2, 1), (52, .iadd, 1), (53, .aload_n 0, 1), (54, .getfield 54, 3), (57, .getfield 300, 3), (60, .iload_n 1, 1), (61, .iaload, 1), (62, .if_icmp .ge 79, 3), (65, .aload_n 0, 1), (66, .getfield 10, 3), (69, .getfield 135, 3), (72, .getfield 139, 3), (75, .bipush 10, 2), (77, .if_icmp .ge 64, 3), (80, .aload_n 0, 1), (81, .aload_n 2, 1), (82, .iload 4, 2), (84, .iaload, 1), (85, .aload_n 2, 1), (86, .iload 4, 2), (88, .iconst 1, 1), (89, .iadd, 1), (90, .iaload, 1), (91, .aload_n 2, 1), (92, .iload 4, 2), (94, .iconst 2, 1), (95, .iadd, 1), (96, .iaload, 1), (97, .invokevirtual 131, 3), (100, .ifCond .ne 5, 3), (103, .iload_n 3, 1), (104, .ireturn, 1), (105, .aload_n 0, 1), (106, .getfield 10, 3), (109, .getfield 135, 3), (112, .aload_n 2, 1), (113, .iload 4, 2), (115, .iaload, 1), (116, .aload_n 2, 1), (117, .iload 4, 2), (119, .iconst 1, 1), (120, .iadd, 1), (121, .iaload, 1), (122, .aload_n 2, 1), (123, .iload 4, 2), (125, .iconst 2, 1), (126, .iadd, 1), (127, .iaload, 1), (128, .invokevirtual 142, 3), (131, .pop, 1), (132, .iinc 3 1, 3), (135, .iinc 4 3, 3), (138, .goto (-89), 3), (141, .iload_n 3, 1), (142, .ireturn, 1)]
def zm_t91 : List (Nat × Instr × Nat) := [(0, .aload_n 0, 1), (1, .getfield 54, 3), (4, .iload_n 1, 1), (5, .invokevirtual 292, 3), (8, .ifCond .eq 17, 3), (11, .aload_n 0, 1), (12, .getfield 10, 3), (15, .getfield 135, 3), (18, .iload_n 2, 1), (19, .invokevirtual 145, 3), (22, .ifCond .ne 9, 3), (25, .aload_n 0, 1), (26, .iconst 1, 1), (27, .invokevirtual 70, 3), (30, .ireturn, 1), (31, .aload_n 0, 1), (32, .getfield 54, 3), (35, .iload_n 1, 1), (36, .invokevirtual 297, 3), (39, .ifCond .eq 9, 3), (42, .aload_n 0, 1), (43, .iconst 2, 1), (44, .invokevirtual 70, 3), (47, .ireturn, 1), (48, .aload_n 0, 1), (49, .getfield 10, 3), (52, .getfield 135, 3), (55, .iload_n 2, 1), (56, .invokevirtual 159, 3), (59, .ifCond .ne 9, 3), (62, .aload_n 0, 1), (63, .iconst 3, 1), (64, .invokevirtual 70, 3), (67, .ireturn, 1), (68, .aload_n 0, 1), (69, .getfield 24, 3), (72, .invokevirtual 243, 3), (75, .aload_n 0, 1), (76, .getfield 24, 3), (79, .iload_n 2, 1), (80, .invokevirtual 246, 3), (83, .iconst 0, 1), (84, .istore_n 3, 1), (85, .iload_n 3, 1), (86, .aload_n 0, 1), (87, .getfield 10, 3), (90, .getfield 74, 3), (93, .getfield 78, 3), (96, .if_icmp .ge 45, 3), (99, .iload_n 3, 1), (100, .aload_n 0, 1), (101, .getfield 54, 3), (104, .getfield 300, 3), (107, .iload_n 1, 1), (108, .iaload, 1), (109, .if_icmp .ge 32, 3), (112, .aload_n 0, 1), (113, .getfield 54, 3), (116, .getfield 302, 3), (119, .iload_n 1, 1), (120, .aaload, 1), (121, .iload_n 3, 1), (122, .iaload, 1), (123, .aload_n 0, 1), (124, .getfield 24, 3), (127, .getfield 320, 3), (130, .iload_n 3, 1), (131, .iaload, 1), (132, .if_icmp .ne 9, 3), (135, .iinc 3 1, 3), (138, .goto (-53), 3), (141, .iload_n 3, 1), (142, .ireturn, 1)]
def zm_t92 : List (Nat × Instr × Nat) := [(0, .aload_n 0, 1), (1, .getfield 16, 3), (4, .aload_n 0, 1), (5, .getfield 10, 3), (8, .invokevirtual 321, 3), (11, .aload_n 0, 1), (12, .dup, 1), (13, .getfield 62, 3), (16, .iconst 1, 1), (17, .iadd, 1), (18, .putfield 62, 3), (21, .aload_n 0, 1), (22, .getfield 62, 3), (25, .ireturn, 1)]
def zm_t93 : List (Nat × Instr × Nat) := [(0, .aload_n 0, 1), (1, .getfield 62, 3), (4, .ifCond .ne 9, 3), (7, .aload_n 0, 1), (8, .iconst 2, 1), (9, .invokevirtual 70, 3), (12, .ireturn, 1), (13, .aload_n 0, 1), (14, .getfield 10, 3), (17, .aload_n 0, 1), (18, .getfield 16, 3), (21, .invokevirtual 321, 3), (24, .aload_n 0, 1), (25, .getfield 10, 3), (28, .getfield 180, 3), (31, .ireturn, 1)]
def zm_t94 : List (Nat × Instr × Nat) := [(0, .aload_n 0, 1), (1, .getfield 10, 3), (4, .getfield 193, 3), (7, .getfield 323, 3), (10, .bipush 24, 2), (12, .if_icmp .lt 9, 3), (15, .aload_n 0, 1), (16, .iconst 4, 1), (17, .invokevirtual 70, 3), (20, .ireturn, 1), (21, .aload_n 0, 1), (22, .getfield 10, 3), (25, .getfield 193, 3), (28, .getfield 326, 3), (31, .aload_n 0, 1), (32, .getfield 10, 3), (35, .getfield 193, 3), (38, .getfield 323, 3), (41, .iload_n 1, 1), (42, .iastore, 1), (43, .aload_n 0, 1), (44, .getfield 10, 3), (47, .getfield 193, 3), (50, .dup, 1), (51, .getfield 323, 3), (54, .iconst 1, 1), (55, .iadd, 1), (56, .putfield 323, 3), (59, .aload_n 0, 1), (60, .getfield 10, 3), (63, .getfield 193, 3), (66, .getfield 323, 3), (69, .ireturn, 1)]
def zm_t95 : List (Nat × Instr × Nat) := [(0, .aload_n 0, 1), (1, .getfield 10, 3), (4, .getfield 193, 3), (7, .getfield 323, 3), (10, .istore_n 2, 1), (11, .aload_n 0, 1), (12, .getfield 10, 3), (15, .getfield 193, 3), (18, .iconst 0, 1), (19, .putfield 323, 3), (22, .aload_n 0, 1), (23, .iload_n 1, 1), (24, .invokevirtual 147, 3), (27, .istore_n 3, 1), (28, .iload_n 3, 1), (29, .ifCond .eq 9, 3), (32, .aload_n 0, 1), (33, .iload_n 3, 1), (34, .invokevirtual 70, 3), (37, .ireturn, 1), (38, .aload_n 0, 1), (39, .getfield 24, 3), (42, .invokevirtual 243, 3), (45, .aload_n 0, 1), (46, .getfield 24, 3), (49, .iload_n 1, 1), (50, .invokevirtual 246, 3), (53, .iconst 0, 1), (54, .istore 4, 2), (56, .iconst 0, 1), (57, .istore 5, 2), (59, .iload 5, 2), (61, .aload_n 0, 1), (62, .getfield 10, 3), (65, .getfield 74, 3), (68, .getfield 78, 3), (71, .if_icmp .ge 54, 3), (74, .aload_n 0, 1), (75, .getfield 24, 3), (78, .getfield 249, 3), (81, .iload 5, 2), (83, .iaload, 1), (84, .ifCond .le 35, 3), (87, .iload 4, 2), (89, .iload_n 2, 1), (90, .if_icmp .ge 21, 3), (93, .aload_n 0, 1), (94, .getfield 10, 3), (97, .getfield 193, 3), (100, .getfield 326, 3), (103, .iload 4, 2), (105, .iaload, 1), (106, .iload 5, 2), (108, .if_icmp .eq 8, 3), (111, .iconst 1, 1), (112, .iload 4, 2), (114, .iadd, 1), (115, .ireturn, 1), (116, .iinc 4 1, 3), (119, .iinc 5 1, 3), (122, .goto (-63), 3), (125, .iload 4, 2), (127, .iload_n 2, 1), (128, .if_icmp .ge 10, 3), (131, .iconst 1, 1), (132, .iload 4, 2), (134, .iadd, 1), (135, .goto 4, 3), (138, .iconst 0, 1), (139, .ireturn, 1)]
def zm_t96 : List (Nat × Instr × Nat) := [(0, .iload_n 1, 1), (1, .tableswitch 153 0 9 #[55, 66, 77, 88, 99, 107, 115, 126, 137, 145], 55), (56, .aload_n 0, 1), (57, .getfield 10, 3), (60, .getfield 74, 3), (63, .getfield 78, 3), (66, .ireturn, 1), (67, .aload_n 0, 1), (68, .getfield 10, 3), (71, .getfield 74, 3), (74, .invokevirtual 329, 3), (77, .ireturn, 1), (78, .aload_n 0, 1), (79, .getfield 10, 3), (82, .getfield 135, 3), (85, .getfield 139, 3), (88, .ireturn, 1), (89, .aload_n 0, 1), (90, .getfield 10, 3), (93, .getfield 135, 3), (96, .invokevirtual 332, 3), (99, .ireturn, 1), (100, .aload_n 0, 1), (101, .getfield 10, 3), (104, .getfield 180, 3), (107, .ireturn, 1), (108, .aload_n 0, 1), (109, .getfield 10, 3), (112, .getfield 335, 3), (115, .ireturn, 1), (116, .aload_n 0, 1), (117, .getfield 10, 3), (120, .getfield 193, 3), (123, .getfield 197, 3), (126, .ireturn, 1), (127, .aload_n 0, 1), (128, .getfield 10, 3), (131, .getfield 193, 3), (134, .getfield 323, 3), (137, .ireturn, 1), (138, .aload_n 0, 1), (139, .getfield 47, 3), (142, .getfield 286, 3), (145, .ireturn, 1), (146, .aload_n 0, 1), (147, .getfield 10, 3), (150, .getfield 190, 3), (153, .ireturn, 1), (154, .aload_n 0, 1), (155, .iconst 1, 1), (156, .invokevirtual 70, 3), (159, .ireturn, 1)]
def zm_t97 : List (Nat × Instr × Nat) := [(0, .iload_n 1, 1), (1, .iconst 1, 1), (2, .if_icmp .lt 9, 3), (5, .iload_n 1, 1), (6, .bipush 6, 2), (8, .if_icmp .le 9, 3), (11, .aload_n 0, 1), (12, .iconst 1, 1), (13, .invokevirtual 70, 3), (16, .ireturn, 1), (17, .aload_n 0, 1), (18, .getfield 58, 3), (21, .iload_n 1, 1), (22, .iaload, 1), (23, .ireturn, 1)]
def zm_t98 : List (Nat × Instr × Nat) := [(0, .aload_n 0, 1), (1, .getfield 58, 3), (4, .iload_n 1, 1), (5, .dup2, 1), (6, .iaload, 1), (7, .iconst 1, 1), (8, .iadd, 1), (9, .iastore, 1), (10, .ldc_w 337, 3), (13, .iload_n 1, 1), (14, .isub, 1), (15, .ireturn, 1)]
def zm_t99 : List (Nat × Instr × Nat) := [(0, .aload_n 0, 1), (1, .getfield 10, 3), (4, .getfield 135, 3), (7, .iload_n 1, 1), (8, .invokevirtual 145, 3), (11, .ifCond .ne 5, 3), (14, .iconst 1, 1), (15, .ireturn, 1), (16, .aload_n 0, 1), (17, .getfield 10, 3), (20, .getfield 135, 3), (23, .iload_n 1, 1), (24, .invokevirtual 159, 3), (27, .ifCond .eq 7, 3), (30, .iconst 0, 1), (31, .goto 4, 3), (34, .iconst 3, 1), (35, .ireturn, 1)]
def zm_t100 : List (Nat × Instr × Nat) := [(0, .aload_n 0, 1), (1, .getfield 10, 3), (4, .getfield 74, 3), (7, .iload_n 1, 1), (8, .invokevirtual 87, 3), (11, .ifCond .eq 30, 3), (14, .iload_n 2, 1), (15, .iconst 1, 1), (16, .if_icmp .lt 25, 3), (19, .iload_n 2, 1), (20, .ldc_w 338, 3), (23, .if_icmp .gt 18, 3), (26, .iload_n 3, 1), (27, .ifCond .lt 14, 3), (30, .iload_n 3, 1), (31, .sipush 9999, 3), (34, .if_icmp .gt 7, 3), (37, .iconst 1, 1), (38, .goto 4, 3), (41, .iconst 0, 1), (42, .ireturn, 1)]
def zm_t101 : List (Nat × Instr × Nat) := [(0, .aload_n 0, 1), (1, .getfield 24, 3), (4, .invokevirtual 243, 3), (7, .aload_n 0, 1), (8, .getfield 24, 3), (11, .iload_n 1, 1), (12, .invokevirtual 246, 3), (15, .aload_n 0, 1), (16, .getfield 24, 3), (19, .invokevirtual 339, 3), (22, .aload_n 0, 1), (23, .getfield 10, 3), (26, .getfield 135, 3), (29, .getfield 177, 3), (32, .iload_n 1, 1), (33, .iconst 0, 1), (34, .iastore, 1), (35, .aload_n 0, 1), (36, .getfield 10, 3), (39, .aload_n 0, 1), (40, .getfield 24, 3), (43, .getfield 252, 3), (46, .ineg, 1), (47, .invokevirtual 342, 3), (50, .aload_n 0, 1), (51, .getfield 24, 3), (54, .getfield 252, 3), (57, .ireturn, 1)]
def zm_t102 : List (Nat × Instr × Nat) := [(0, .iload_n 0, 1), (1, .ifCond .lt 14, 3), (4, .iload_n 0, 1), (5, .ldc_w 338, 3), (8, .if_icmp .gt 7, 3), (11, .iconst 1, 1), (12, .goto 4, 3), (15, .iconst 0, 1), (16, .ireturn, 1)]
def zm_t103 : List (Nat × Instr × Nat) := [(0, .iload_n 0, 1), (1, .ifCond .eq 8, 3), (4, .iload_n 0, 1), (5, .iconst 1, 1), (6, .if_icmp .ne 7, 3), (9, .iconst 1, 1), (10, .goto 4, 3), (13, .iconst 0, 1), (14, .ireturn, 1)]
def zm_t104 : List (Nat × Instr × Nat) := [(0, .iload_n 0, 1), (1, .istore_n 2, 1), (2, .iconst 0, 1), (3, .istore_n 3, 1), (4, .iload_n 3, 1), (5, .getstatic 345, 3), (8, .arraylength, 1), (9, .if_icmp .ge 24, 3), (12, .iload_n 2, 1), (13, .iload_n 1, 1), (14, .if_icmp .eq 19, 3), (17, .iload_n 2, 1), (18, .ifCond .le 15, 3), (21, .getstatic 345, 3), (24, .iload_n 2, 1), (25, .iaload, 1), (26, .istore_n 2, 1), (27, .iinc 3 1, 3), (30, .goto (-26), 3), (33, .iload_n 2, 1), (34, .iload_n 1, 1), (35, .if_icmp .ne 7, 3), (38, .iconst 1, 1), (39, .goto 4, 3), (42, .iconst 0, 1), (43, .ireturn, 1)]
def zm_t105 : List (Nat × Instr × Nat) := [(0, .iload_n 0, 1), (1, .iload_n 1, 1), (2, .invokestatic 348, 3), (5, .iand, 1), (6, .ifCond .eq 7, 3), (9, .iconst 1, 1), (10, .goto 4, 3), (13, .iconst 0, 1), (14, .ireturn, 1)]
def zm_t106 : List (Nat × Instr × Nat) := [(0, .iload_n 0, 1), (1, .ifCond .ge 7, 3), (4, .iconst 0, 1), (5, .goto 6, 3), (8, .iconst 1, 1), (9, .iload_n 0, 1), (10, .ishl, 1), (11, .ireturn, 1)]
def zm_t107 : List (Nat × Instr × Nat) := [(0, .iload_n 1, 1), (1, .bipush 8, 2), (3, .if_icmp .ne 8, 3), (6, .iload_n 0, 1), (7, .i2b, 1), (8, .goto 15, 3), (11, .iload_n 1, 1), (12, .bipush 16, 2), (14, .if_icmp .ne 8, 3), (17, .iload_n 0, 1), (18, .i2s, 1), (19, .goto 4, 3), (22, .iload_n 0, 1), (23, .ireturn, 1)]
def zm_t108 : List (Nat × Instr × Nat) := [(0, .iload_n 1, 1), (1, .iload_n 2, 1), (2, .iload_n 0, 1), (3, .invokestatic 171, 3), (6, .invokestatic 351, 3), (9, .ireturn, 1)]
def zm_t109 : List (Nat × Instr × Nat) := [(0, .iload_n 0, 1), (1, .iload_n 0, 1), (2, .iconst 2, 1), (3, .idiv, 1), (4, .isub, 1), (5, .ireturn, 1)]
def zm_t110 : List (Nat × Instr × Nat) := [(0, .iconst 0, 1), (1, .istore_n 2, 1), (2, .iconst 0, 1), (3, .istore_n 3, 1), (4, .iload_n 3, 1), (5, .iload_n 1, 1), (6, .if_icmp .ge 21, 3), (9, .iload_n 3, 1), (10, .aload_n 0, 1), (11, .arraylength, 1), (12, .if_icmp .ge 15, 3), (15, .iload_n 2, 1), (16, .aload_n 0, 1), (17, .iload_n 3, 1), (18, .iaload, 1), (19, .iadd, 1), (20, .istore_n 2, 1), (21, .iinc 3 1, 3), (24, .goto (-20), 3), (27, .iload_n 2, 1), (28, .ireturn, 1)]
def zm_t111 : List (Nat × Instr × Nat) := [(0, .iconst 0, 1), (1, .istore_n 2, 1), (2, .iload_n 2, 1), (3, .aload_n 0, 1), (4, .arraylength, 1), (5, .if_icmp .ge 37, 3), (8, .iload_n 2, 1), (9, .aload_n 1, 1), (10, .arraylength, 1), (11, .if_icmp .ge 31, 3), (14, .aload_n 0, 1), (15, .iload_n 2, 1), (16, .aaload, 1), (17, .iconst 0, 1), (18, .aload_n 1, 1), (19, .iload_n 2, 1), (20, .aaload, 1), (21, .iconst 0, 1), (22, .aload_n 0, 1), (23, .iload_n 2, 1), (24, .aaload, 1), (25, .arraylength, 1), (26, .aload_n 1, 1), (27, .iload_n 2, 1), (28, .aaload, 1), (29, .arraylength, 1), (30, .invokestatic 171, 3), (33, .invokestatic 314, 3), (36, .iinc 2 1, 3), (39, .goto (-37), 3), (42, .return_, 1)]
def zm_t112 : List (Nat × Instr × Nat) := [(0, .aload_n 0, 1), (1, .getfield 19, 3), (4, .iload_n 1, 1), (5, .dup2, 1), (6, .iaload, 1), (7, .iconst 1, 1), (8, .iadd, 1), (9, .iastore, 1), (10, .ldc 52, 2), (12, .iload_n 1, 1), (13, .isub, 1), (14, .ireturn, 1)]
def zm_t113 : List (Nat × Instr × Nat) := [(0, .iload_n 0, 1), (1, .iload_n 1, 1), (2, .if_icmp .lt 12, 3), (5, .iload_n 0, 1), (6, .iload_n 2, 1), (7, .if_icmp .gt 7, 3), (10, .iconst 1, 1), (11, .goto 4, 3), (14, .iconst 0, 1), (15, .ireturn, 1)]
def zm_t114 : List (Nat × Instr × Nat) := [(0, .iload_n 0, 1), (1, .iload_n 1, 1), (2, .if_icmp .ge 7, 3), (5, .iload_n 1, 1), (6, .goto 13, 3), (9, .iload_n 0, 1), (10, .iload_n 2, 1), (11, .if_icmp .le 7, 3), (14, .iload_n 2, 1), (15, .goto 4, 3), (18, .iload_n 0, 1), (19, .ireturn, 1)]
def zm_t115 : List (Nat × Instr × Nat) := [(0, .iconst 0, 1), (1, .istore_n 2, 1), (2, .iload_n 2, 1), (3, .sipush 480, 3), (6, .if_icmp .ge 15, 3), (9, .aload_n 1, 1), (10, .iload_n 2, 1), (11, .aload_n 0, 1), (12, .iload_n 2, 1), (13, .iaload, 1), (14, .iastore, 1), (15, .iinc 2 1, 3), (18, .goto (-16), 3), (21, .return_, 1)]
def zm_t116 : List (Nat × Instr × Nat) := [(0, .iload_n 1, 1), (1, .iconst 0, 1), (2, .aload_n 0, 1), (3, .getfield 7, 3), (6, .iconst 0, 1), (7, .iaload, 1), (8, .iconst 1, 1), (9, .isub, 1), (10, .invokestatic 53, 3), (13, .ireturn, 1)]
def zm_t117 : List (Nat × Instr × Nat) := [(0, .iload_n 1, 1), (1, .iconst 0, 1), (2, .aload_n 0, 1), (3, .getfield 7, 3), (6, .iconst 1, 1), (7, .iaload, 1), (8, .iconst 1, 1), (9, .isub, 1), (10, .invokestatic 53, 3), (13, .ireturn, 1)]
def zm_t118 : List (Nat × Instr × Nat) := [(0, .aload_n 0, 1), (1, .getfield 7, 3), (4, .bipush 10, 2), (6, .bipush 8, 2), (8, .iload_n 1, 1), (9, .imul, 1), (10, .iadd, 1), (11, .iload_n 2, 1), (12, .iadd, 1), (13, .iaload, 1), (14, .ireturn, 1)]
def zm_t119 : List (Nat × Instr × Nat) := [(0, .aload_n 0, 1), (1, .getfield 7, 3), (4, .bipush 10, 2), (6, .bipush 8, 2), (8, .iload_n 1, 1), (9, .imul, 1), (10, .iadd, 1), (11, .iload_n 2, 1), (12, .iadd, 1), (13, .iload_n 3, 1), (14, .iastore, 1), (15, .return_, 1)]
def zm_t120 : List (Nat × Instr × Nat) := [(0, .aload_n 0, 1), (1, .getfield 7, 3), (4, .bipush 106, 2), (6, .iconst 4, 1), (7, .iload_n 1, 1), (8, .imul, 1), (9, .iadd, 1), (10, .iload_n 2, 1), (11, .iadd, 1), (12, .iaload, 1), (13, .ireturn, 1)]
def zm_t121 : List (Nat × Instr × Nat) := [(0, .iload_n 0, 1), (1, .iconst 0, 1), (2, .ldc 57, 2), (4, .invokestatic 53, 3), (7, .ireturn, 1)]
def zm_t122 : List (Nat × Instr × Nat) := [(0, .iload_n 1, 1), (1, .iconst 0, 1), (2, .sipush 699, 3), (5, .invokestatic 53, 3), (8, .ifCond .eq 17, 3), (11, .iload_n 2, 1), (12, .invokestatic 58, 3), (15, .ifCond .eq 10, 3), (18, .iload_n 3, 1), (19, .invokestatic 58, 3), (22, .ifCond .ne 9, 3), (25, .aload_n 0, 1), (26, .iconst 1, 1), (27, .invokevirtual 62, 3), (30, .ireturn, 1), (31, .aload_n 0, 1), (32, .getfield 7, 3), (35, .iconst 0, 1), (36, .iaload, 1), (37, .bipush 12, 2), (39, .if_icmp .ne 9, 3), (42, .aload_n 0, 1), (43, .iconst 4, 1), (44, .invokevirtual 62, 3), (47, .ireturn, 1), (48, .aload_n 0, 1), (49, .getfield 7, 3), (52, .iconst 0, 1), (53, .iaload, 1), (54, .istore 4, 2), (56, .aload_n 0, 1), (57, .iload 4, 2), (59, .iconst 0, 1), (60, .iload_n 1, 1), (61, .bipush 100, 2), (63, .idiv, 1), (64, .invokevirtual 66, 3), (67, .aload_n 0, 1), (68, .iload 4, 2), (70, .iconst 1, 1), (71, .iload_n 1, 1), (72, .bipush 100, 2), (74, .irem, 1), (75, .invokevirtual 66, 3), (78, .aload_n 0, 1), (79, .iload 4, 2), (81, .iconst 2, 1), (82, .iconst (-1), 1), (83, .invokevirtual 66, 3), (86, .aload_n 0, 1), (87, .iload 4, 2), (89, .iconst 3, 1), (90, .iconst (-1), 1), (91, .invokevirtual 66, 3), (94, .aload_n 0, 1), (95, .iload 4, 2), (97, .iconst 4, 1), (98, .iconst 1, 1), (99, .invokevirtual 66, 3), (102, .aload_n 0, 1), (103, .iload 4, 2), (105, .iconst 5, 1), (106, .iload_n 2, 1), (107, .invokevirtual 66, 3), (110, .aload_n 0, 1), (111, .iload 4, 2), (113, .bipush 6, 2), (115, .iload_n 3, 1), (116, .invokevirtual 66, 3), (119, .aload_n 0, 1), (120, .iload 4, 2), (122, .bipush 7, 2), (124, .iconst 0, 1), (125, .invokevirtual 66, 3), (128, .aload_n 0, 1), (129, .getfield 7, 3), (132, .iconst 0, 1), (133, .dup2, 1), (134, .iaload, 1), (135, .iconst 1, 1), (136, .iadd, 1), (137, .iastore, 1), (138, .iload 4, 2), (140, .ireturn, 1)]
def zm_t123 : List (Nat × Instr × Nat) := [(0, .aload_n 0, 1), (1, .iload_n 1, 1), (2, .iconst 2, 1), (3, .invokevirtual 70, 3), (6, .iload_n 2, 1), (7, .if_icmp .eq 13, 3), (10, .aload_n 0, 1), (11, .iload_n 1, 1), (12, .iconst 3, 1), (13, .invokevirtual 70, 3), (16, .iload_n 2, 1), (17, .if_icmp .ne 7, 3), (20, .iconst 1, 1), (21, .goto 4, 3), (24, .iconst 0, 1), (25, .ireturn, 1)]
def zm_t124 : List (Nat × Instr × Nat) := [(0, .iconst 0, 1), (1, .istore_n 2, 1), (2, .iconst (-1), 1), (3, .istore_n 3, 1), (4, .iload_n 2, 1), (5, .iload_n 3, 1), (6, .if_icmp .eq 98, 3), (9, .iload_n 2, 1), (10, .istore_n 3, 1), (11, .iconst 0, 1), (12, .istore 4, 2), (14, .iload 4, 2), (16, .aload_n 0, 1), (17, .getfield 7, 3), (20, .iconst 0, 1), (21, .iaload, 1), (22, .if_icmp .ge 79, 3), (25, .iload 4, 2), (27, .iload_n 1, 1), (28, .if_icmp .eq 13, 3), (31, .iload_n 3, 1), (32, .iload 4, 2), (34, .ishr, 1), (35, .iconst 1, 1), (36, .iand, 1), (37, .iconst 1, 1), (38, .if_icmp .ne 57, 3), (41, .iload_n 2, 1), (42, .aload_n 0, 1), (43, .iload 4, 2), (45, .iconst 2, 1), (46, .invokevirtual 70, 3), (49, .iconst (-1), 1), (50, .if_icmp .ne 7, 3), (53, .iconst 0, 1), (54, .goto 12, 3), (57, .iconst 1, 1), (58, .aload_n 0, 1), (59, .iload 4, 2), (61, .iconst 2, 1), (62, .invokevirtual 70, 3), (65, .ishl, 1), (66, .ior, 1), (67, .istore_n 2, 1), (68, .iload_n 2, 1), (69, .aload_n 0, 1), (70, .iload 4, 2), (72, .iconst 3, 1), (73, .invokevirtual 70, 3), (76, .iconst (-1), 1), (77, .if_icmp .ne 7, 3), (80, .iconst 0, 1), (81, .goto 12, 3), (84, .iconst 1, 1), (85, .aload_n 0, 1), (86, .iload 4, 2), (88, .iconst 3, 1), (89, .invokevirtual 70, 3), (92, .ishl, 1), (93, .ior, 1), (94, .istore_n 2, 1), (95, .iinc 4 1, 3), (98, .goto (-84), 3), (101, .goto (-97), 3), (104, .iload_n 2, 1), (105, .ireturn, 1)]
def zm_t125 : List (Nat × Instr × Nat) := [(0, .iconst 0, 1), (1, .istore_n 2, 1), (2, .iconst 0, 1), (3, .istore_n 3, 1), (4, .iload_n 3, 1), (5, .aload_n 0, 1), (6, .getfield 7, 3), (9, .iconst 0, 1), (10, .iaload, 1), (11, .if_icmp .ge 23, 3), (14, .iload_n 2, 1), (15, .aload_n 0, 1), (16, .iload_n 3, 1), (17, .invokevirtual 74, 3), (20, .iload_n 1, 1), (21, .ishr, 1), (22, .iconst 1, 1), (23, .iand, 1), (24, .iload_n 3, 1), (25, .ishl, 1), (26, .ior, 1), (27, .istore_n 2, 1), (28, .iinc 3 1, 3), (31, .goto (-27), 3), (34, .iload_n 2, 1), (35, .ireturn, 1)]
def zm_t126 : List (Nat × Instr × Nat) := [(0, .aload_n 0, 1), (1, .iload_n 1, 1), (2, .invokevirtual 77, 3), (5, .ifCond .eq 13, 3), (8, .iload_n 2, 1), (9, .iconst 0, 1), (10, .bipush 9, 2), (12, .invokestatic 53, 3), (15, .ifCond .ne 9, 3), (18, .aload_n 0, 1), (19, .iconst 1, 1), (20, .invokevirtual 62, 3), (23, .ireturn, 1), (24, .iload_n 2, 1), (25, .bipush 8, 2), (27, .if_icmp .ne 11, 3), (30, .aload_n 0, 1), (31, .iload_n 1, 1), (32, .invokevirtual 74, 3), (35, .goto 23, 3), (38, .iload_n 2, 1), (39, .bipush 9, 2), (41, .if_icmp .ne 11, 3), (44, .aload_n 0, 1), (45, .iload_n 1, 1), (46, .invokevirtual 80, 3), (49, .goto 9, 3), (52, .aload_n 0, 1), (53, .iload_n 1, 1), (54, .iload_n 2, 1), (55, .invokevirtual 70, 3), (58, .ireturn, 1)]
def zm_t127 : List (Nat × Instr × Nat) := [(0, .iload_n 1, 1), (1, .ifCond .eq 28, 3), (4, .iload_n 0, 1), (5, .iload_n 1, 1), (6, .if_icmp .eq 23, 3), (9, .iload_n 1, 1), (10, .iconst 1, 1), (11, .if_icmp .ne 8, 3), (14, .iload_n 0, 1), (15, .iconst 4, 1), (16, .if_icmp .eq 13, 3), (19, .iload_n 1, 1), (20, .iconst 3, 1), (21, .if_icmp .ne 12, 3), (24, .iload_n 0, 1), (25, .iconst 5, 1), (26, .if_icmp .ne 7, 3), (29, .iconst 1, 1), (30, .goto 4, 3), (33, .iconst 0, 1), (34, .ireturn, 1)]
def zm_t128 : List (Nat × Instr × Nat) := [(0, .aload_n 0, 1), (1, .iload_n 1, 1), (2, .invokevirtual 77, 3), (5, .ifCond .eq 13, 3), (8, .iload_n 2, 1), (9, .iconst 0, 1), (10, .bipush 6, 2), (12, .invokestatic 53, 3), (15, .ifCond .ne 9, 3), (18, .aload_n 0, 1), (19, .iconst 1, 1), (20, .invokevirtual 62, 3), (23, .ireturn, 1), (24, .aload_n 0, 1), (25, .iload_n 1, 1), (26, .iconst 0, 1), (27, .invokevirtual 70, 3), (30, .iload_n 2, 1), (31, .invokestatic 83, 3), (34, .ifCond .eq 12, 3), (37, .aload_n 0, 1), (38, .iload_n 1, 1), (39, .iconst 1, 1), (40, .invokevirtual 70, 3), (43, .goto 8, 3), (46, .aload_n 0, 1), (47, .iconst 5, 1), (48, .invokevirtual 62, 3), (51, .ireturn, 1)]
def zm_t129 : List (Nat × Instr × Nat) := [(0, .aload_n 0, 1), (1, .iload_n 1, 1), (2, .invokevirtual 77, 3), (5, .ifCond .eq 27, 3), (8, .iload_n 2, 1), (9, .iconst 0, 1), (10, .bipush 7, 2), (12, .invokestatic 53, 3), (15, .ifCond .eq 17, 3), (18, .iload_n 2, 1), (19, .iconst 2, 1), (20, .if_icmp .eq 12, 3), (23, .iload_n 2, 1), (24, .iconst 3, 1), (25, .if_icmp .eq 7, 3), (28, .iconst 1, 1), (29, .goto 4, 3), (32, .iconst 0, 1), (33, .istore 4, 2), (35, .iload_n 2, 1), (36, .ifCond .ne 8, 3), (39, .bipush 6, 2), (41, .goto 35, 3), (44, .iload_n 2, 1), (45, .iconst 1, 1), (46, .if_icmp .ne 8, 3), (49, .bipush 99, 2), (51, .goto 25, 3), (54, .iload_n 2, 1), (55, .iconst 4, 1), (56, .if_icmp .ne 7, 3), (59, .iconst 1, 1), (60, .goto 16, 3), (63, .iload_n 2, 1), (64, .bipush 7, 2), (66, .if_icmp .ne 8, 3), (69, .bipush 9, 2), (71, .goto 5, 3), (74, .ldc 57, 2), (76, .istore 5, 2), (78, .iload 4, 2), (80, .ifCond .eq 13, 3), (83, .iload_n 3, 1), (84, .iconst 0, 1), (85, .iload 5, 2), (87, .invokestatic 53, 3), (90, .ifCond .ne 9, 3), (93, .aload_n 0, 1), (94, .iconst 1, 1), (95, .invokevirtual 62, 3), (98, .ireturn, 1), (99, .aload_n 0, 1), (100, .iload_n 1, 1), (101, .iload_n 2, 1), (102, .invokevirtual 70, 3), (105, .istore 6, 2), (107, .aload_n 0, 1), (108, .iload_n 1, 1), (109, .iload_n 2, 1), (110, .iload_n 3, 1), (111, .invokevirtual 66, 3), (114, .iload 6, 2), (116, .ireturn, 1)]
def zm_t130 : List (Nat × Instr × Nat) := [(0, .aload_n 0, 1), (1, .iload_n 1, 1), (2, .invokevirtual 77, 3), (5, .ifCond .eq 25, 3), (8, .iload_n 2, 1), (9, .iconst 0, 1), (10, .iconst 1, 1), (11, .invokestatic 53, 3), (14, .ifCond .eq 16, 3), (17, .iload_n 3, 1), (18, .iconst (-1), 1), (19, .if_icmp .eq 17, 3), (22, .aload_n 0, 1), (23, .iload_n 3, 1), (24, .invokevirtual 77, 3), (27, .ifCond .ne 9, 3), (30, .aload_n 0, 1), (31, .iconst 1, 1), (32, .invokevirtual 62, 3), (35, .ireturn, 1), (36, .aload_n 0, 1), (37, .iload_n 1, 1), (38, .iconst 2, 1), (39, .iload_n 2, 1), (40, .iadd, 1), (41, .invokevirtual 70, 3), (44, .istore 4, 2), (46, .iload_n 3, 1), (47, .iload_n 1, 1), (48, .if_icmp .eq 21, 3), (51, .iload_n 3, 1), (52, .iconst (-1), 1), (53, .if_icmp .eq 20, 3), (56, .aload_n 0, 1), (57, .iload_n 3, 1), (58, .invokevirtual 74, 3), (61, .iload_n 1, 1), (62, .ishr, 1), (63, .iconst 1, 1), (64, .iand, 1), (65, .iconst 1, 1), (66, .if_icmp .ne 7, 3), (69, .iconst 1, 1), (70, .goto 4, 3), (73, .iconst 0, 1), (74, .istore 5, 2), (76, .iload 5, 2), (78, .ifCond .ne 26, 3), (81, .iload_n 3, 1), (82, .iconst (-1), 1), (83, .if_icmp .eq 27, 3), (86, .aload_n 0, 1), (87, .iload_n 1, 1), (88, .iload_n 2, 1), (89, .ifCond .ne 7, 3), (92, .iconst 3, 1), (93, .goto 4, 3), (96, .iconst 2, 1), (97, .invokevirtual 70, 3), (100, .iload_n 3, 1), (101, .if_icmp .ne 9, 3), (104, .aload_n 0, 1), (105, .iconst 3, 1), (106, .invokevirtual 62, 3), (109, .ireturn, 1), (110, .aload_n 0, 1), (111, .iload_n 1, 1), (112, .iconst 2, 1), (113, .iload_n 2, 1), (114, .iadd, 1), (115, .iload_n 3, 1), (116, .invokevirtual 66, 3), (119, .iload 4, 2), (121, .ireturn, 1)]
def zm_t131 : List (Nat × Instr × Nat) := [(0, .iload_n 1, 1), (1, .iconst 0, 1), (2, .iconst 2, 1), (3, .invokestatic 53, 3), (6, .ifCond .eq 29, 3), (9, .iload_n 2, 1), (10, .iload_n 1, 1), (11, .ifCond .ne 7, 3), (14, .iconst 1, 1), (15, .goto 4, 3), (18, .iconst 0, 1), (19, .iload_n 1, 1), (20, .ifCond .ne 8, 3), (23, .bipush 9, 2), (25, .goto 4, 3), (28, .iconst 1, 1), (29, .invokestatic 53, 3), (32, .ifCond .ne 9, 3), (35, .aload_n 0, 1), (36, .iconst 1, 1), (37, .invokevirtual 62, 3), (40, .ireturn, 1), (41, .aload_n 0, 1), (42, .getfield 7, 3), (45, .bipush 7, 2), (47, .iload_n 1, 1), (48, .iadd, 1), (49, .iaload, 1), (50, .istore_n 3, 1), (51, .aload_n 0, 1), (52, .getfield 7, 3), (55, .bipush 7, 2), (57, .iload_n 1, 1), (58, .iadd, 1), (59, .iload_n 2, 1), (60, .iastore, 1), (61, .iload_n 3, 1), (62, .ireturn, 1)]
def zm_t132 : List (Nat × Instr × Nat) := [(0, .iload_n 3, 1), (1, .iconst 1, 1), (2, .bipush 8, 2), (4, .invokestatic 53, 3), (7, .ifCond .ne 9, 3), (10, .aload_n 0, 1), (11, .iconst 1, 1), (12, .invokevirtual 62, 3), (15, .ireturn, 1), (16, .aload_n 0, 1), (17, .getfield 7, 3), (20, .iconst 4, 1), (21, .iaload, 1), (22, .iload_n 3, 1), (23, .iadd, 1), (24, .bipush 60, 2), (26, .if_icmp .le 9, 3), (29, .aload_n 0, 1), (30, .iconst 4, 1), (31, .invokevirtual 62, 3), (34, .ireturn, 1), (35, .iconst 0, 1), (36, .istore 4, 2), (38, .iload 4, 2), (40, .iload_n 3, 1), (41, .if_icmp .ge 46, 3), (44, .aload_n 0, 1), (45, .getfield 7, 3), (48, .sipush 396, 3), (51, .aload_n 0, 1), (52, .getfield 7, 3), (55, .iconst 4, 1), (56, .iaload, 1), (57, .iadd, 1), (58, .lload_n 1, 1), (59, .bipush 8, 2), (61, .iload 4, 2), (63, .imul, 1), (64, .lshr, 1), (65, .ldc2_w 87, 3), (68, .land, 1), (69, .l2i, 1), (70, .iastore, 1), (71, .aload_n 0, 1), (72, .getfield 7, 3), (75, .iconst 4, 1), (76, .dup2, 1), (77, .iaload, 1), (78, .iconst 1, 1), (79, .iadd, 1), (80, .iastore, 1), (81, .iinc 4 1, 3), (84, .goto (-46), 3), (87, .aload_n 0, 1), (88, .getfield 7, 3), (91, .iconst 4, 1), (92, .iaload, 1), (93, .ireturn, 1)]
def zm_t133 : List (Nat × Instr × Nat) := [(0, .aload_n 0, 1), (1, .getfield 89, 3), (4, .aload_n 0, 1), (5, .getfield 7, 3), (8, .iconst 4, 1), (9, .iaload, 1), (10, .if_icmp .ge 19, 3), (13, .aload_n 0, 1), (14, .getfield 7, 3), (17, .sipush 396, 3), (20, .aload_n 0, 1), (21, .getfield 89, 3), (24, .iadd, 1), (25, .iaload, 1), (26, .goto 4, 3), (29, .iconst (-1), 1), (30, .ireturn, 1)]
def zm_t134 : List (Nat × Instr × Nat) := [(0, .iload_n 1, 1), (1, .bipush 112, 2), (3, .if_icmp .eq 9, 3), (6, .iload_n 1, 1), (7, .bipush 104, 2), (9, .if_icmp .ne 5, 3), (12, .iconst 1, 1), (13, .ireturn, 1), (14, .aload_n 0, 1), (15, .getfield 93, 3), (18, .ifCond .ne 29, 3), (21, .iload_n 1, 1), (22, .bipush 99, 2), (24, .if_icmp .eq 15, 3), (27, .iload_n 1, 1), (28, .bipush 115, 2), (30, .if_icmp .eq 9, 3), (33, .iload_n 1, 1), (34, .bipush 109, 2), (36, .if_icmp .ne 7, 3), (39, .iconst 1, 1), (40, .goto 18, 3), (43, .iconst 0, 1), (44, .goto 14, 3), (47, .iload_n 1, 1), (48, .bipush 110, 2), (50, .if_icmp .ne 7, 3), (53, .iconst 1, 1), (54, .goto 4, 3), (57, .iconst 0, 1), (58, .ireturn, 1)]
def zm_t135 : List (Nat × Instr × Nat) := [(0, .aload_n 0, 1), (1, .getfield 22, 3), (4, .iconst 2, 1), (5, .aload_n 0, 1), (6, .getfield 96, 3), (9, .imul, 1), (10, .iload_n 1, 1), (11, .iastore, 1), (12, .aload_n 0, 1), (13, .getfield 22, 3), (16, .iconst 2, 1), (17, .aload_n 0, 1), (18, .getfield 96, 3), (21, .imul, 1), (22, .iconst 1, 1), (23, .iadd, 1), (24, .iload_n 2, 1), (25, .iastore, 1), (26, .aload_n 0, 1), (27, .dup, 1), (28, .getfield 96, 3), (31, .iconst 1, 1), (32, .iadd, 1), (33, .putfield 96, 3), (36, .return_, 1)]
def zm_t136 : List (Nat × Instr × Nat) := [(0, .aload_n 0, 1), (1, .invokevirtual 99, 3), (4, .ifCond .ne 5, 3), (7, .iconst 0, 1), (8, .ireturn, 1), (9, .aload_n 0, 1), (10, .invokevirtual 103, 3), (13, .bipush 124, 2), (15, .if_icmp .ne 32, 3), (18, .aload_n 0, 1), (19, .dup, 1), (20, .getfield 89, 3), (23, .iconst 1, 1), (24, .iadd, 1), (25, .putfield 89, 3), (28, .aload_n 0, 1), (29, .invokevirtual 99, 3), (32, .ifCond .ne 5, 3), (35, .iconst 0, 1), (36, .ireturn, 1), (37, .aload_n 0, 1), (38, .iconst 3, 1), (39, .bipush 124, 2), (41, .invokevirtual 107, 3), (44, .goto (-35), 3), (47, .iconst 1, 1), (48, .ireturn, 1)]
def zm_t137 : List (Nat × Instr × Nat) := [(0, .aload_n 0, 1), (1, .invokevirtual 111, 3), (4, .ifCond .ne 5, 3), (7, .iconst 0, 1), (8, .ireturn, 1), (9, .aload_n 0, 1), (10, .invokevirtual 103, 3), (13, .bipush 38, 2), (15, .if_icmp .ne 32, 3), (18, .aload_n 0, 1), (19, .dup, 1), (20, .getfield 89, 3), (23, .iconst 1, 1), (24, .iadd, 1), (25, .putfield 89, 3), (28, .aload_n 0, 1), (29, .invokevirtual 111, 3), (32, .ifCond .ne 5, 3), (35, .iconst 0, 1), (36, .ireturn, 1), (37, .aload_n 0, 1), (38, .iconst 3, 1), (39, .bipush 38, 2), (41, .invokevirtual 107, 3), (44, .goto (-35), 3), (47, .iconst 1, 1), (48, .ireturn, 1)]
def zm_t138 : List (Nat × Instr × Nat) := [(0, .aload_n 0, 1), (1, .invokevirtual 114, 3), (4, .ifCond .ne 5, 3), (7, .iconst 0, 1), (8, .ireturn, 1), (9, .aload_n 0, 1), (10, .invokevirtual 103, 3), (13, .istore_n 1, 1), (14, .iload_n 1, 1), (15, .bipush 60, 2), (17, .if_icmp .eq 17, 3), (20, .iload_n 1, 1), (21, .bipush 61, 2), (23, .if_icmp .eq 11, 3), (26, .iload_n 1, 1), (27, .bipush 62, 2), (29, .if_icmp .eq 5, 3), (32, .iconst 1, 1), (33, .ireturn, 1), (34, .aload_n 0, 1), (35, .dup, 1), (36, .getfield 89, 3), (39, .iconst 1, 1), (40, .iadd, 1), (41, .putfield 89, 3), (44, .aload_n 0, 1), (45, .invokevirtual 114, 3), (48, .ifCond .ne 5, 3), (51, .iconst 0, 1), (52, .ireturn, 1), (53, .aload_n 0, 1), (54, .iconst 3, 1), (55, .iload_n 1, 1), (56, .invokevirtual 107, 3), (59, .iconst 1, 1), (60, .ireturn, 1)]
def zm_t139 : List (Nat × Instr × Nat) := [(0, .aload_n 0, 1), (1, .invokevirtual 117, 3), (4, .ifCond .ne 5, 3), (7, .iconst 0, 1), (8, .ireturn, 1), (9, .aload_n 0, 1), (10, .invokevirtual 103, 3), (13, .bipush 43, 2), (15, .if_icmp .eq 12, 3), (18, .aload_n 0, 1), (19, .invokevirtual 103, 3), (22, .bipush 45, 2), (24, .if_icmp .ne 36, 3), (27, .aload_n 0, 1), (28, .invokevirtual 103, 3), (31, .istore_n 1, 1), (32, .aload_n 0, 1), (33, .dup, 1), (34, .getfield 89, 3), (37, .iconst 1, 1), (38, .iadd, 1), (39, .putfield 89, 3), (42, .aload_n 0, 1), (43, .invokevirtual 117, 3), (46, .ifCond .ne 5, 3), (49, .iconst 0, 1), (50, .ireturn, 1), (51, .aload_n 0, 1), (52, .iconst 3, 1), (53, .iload_n 1, 1), (54, .invokevirtual 107, 3), (57, .goto (-48), 3), (60, .iconst 1, 1), (61, .ireturn, 1)]
def zm_t140 : List (Nat × Instr × Nat) := [(0, .aload_n 0, 1), (1, .invokevirtual 120, 3), (4, .ifCond .ne 5, 3), (7, .iconst 0, 1), (8, .ireturn, 1), (9, .aload_n 0, 1), (10, .invokevirtual 103, 3), (13, .bipush 42, 2), (15, .if_icmp .eq 21, 3), (18, .aload_n 0, 1), (19, .invokevirtual 103, 3), (22, .bipush 47, 2), (24, .if_icmp .eq 12, 3), (27, .aload_n 0, 1), (28, .invokevirtual 103, 3), (31, .bipush 37, 2), (33, .if_icmp .ne 36, 3), (36, .aload_n 0, 1), (37, .invokevirtual 103, 3), (40, .istore_n 1, 1), (41, .aload_n 0, 1), (42, .dup, 1), (43, .getfield 89, 3), (46, .iconst 1, 1), (47, .iadd, 1), (48, .putfield 89, 3), (51, .aload_n 0, 1), (52, .invokevirtual 120, 3), (55, .ifCond .ne 5, 3), (58, .iconst 0, 1), (59, .ireturn, 1), (60, .aload_n 0, 1), (61, .iconst 3, 1), (62, .iload_n 1, 1), (63, .invokevirtual 107, 3), (66, .goto (-57), 3), (69, .iconst 1, 1), (70, .ireturn, 1)]
def zm_t141 : List (Nat × Instr × Nat) := [(0, .aload_n 0, 1), (1, .getfield 123, 3), (4, .iconst 5, 1), (5, .if_icmp .ne 5, 3), (8, .iconst 0, 1), (9, .ireturn, 1), (10, .aload_n 0, 1), (11, .dup, 1), (12, .getfield 123, 3), (15, .iconst 1, 1), (16, .iadd, 1), (17, .putfield 123, 3), (20, .aload_n 0, 1), (21, .dup, 1), (22, .getfield 89, 3), (25, .iconst 1, 1), (26, .iadd, 1), (27, .putfield 89, 3), (30, .iconst 1, 1), (31, .ireturn, 1)]
def zm_t142 : List (Nat × Instr × Nat) := [(0, .aload_n 0, 1), (1, .invokevirtual 103, 3), (4, .istore_n 1, 1), (5, .aload_n 0, 1), (6, .iload_n 1, 1), (7, .invokevirtual 126, 3), (10, .ifCond .eq 21, 3), (13, .aload_n 0, 1), (14, .dup, 1), (15, .getfield 89, 3), (18, .iconst 1, 1), (19, .iadd, 1), (20, .putfield 89, 3), (23, .aload_n 0, 1), (24, .iconst 1, 1), (25, .iload_n 1, 1), (26, .invokevirtual 107, 3), (29, .iconst 1, 1), (30, .ireturn, 1), (31, .iload_n 1, 1), (32, .bipush 48, 2), (34, .bipush 57, 2), (36, .invokestatic 53, 3), (39, .ifCond .eq 63, 3), (42, .iconst 0, 1), (43, .istore_n 2, 1), (44, .iconst 0, 1), (45, .istore_n 3, 1), (46, .iload_n 3, 1), (47, .iconst 4, 1), (48, .if_icmp .ge 46, 3), (51, .aload_n 0, 1), (52, .invokevirtual 103, 3), (55, .bipush 48, 2), (57, .bipush 57, 2), (59, .invokestatic 53, 3), (62, .ifCond .eq 32, 3), (65, .bipush 10, 2), (67, .iload_n 2, 1), (68, .imul, 1), (69, .aload_n 0, 1), (70, .invokevirtual 103, 3), (73, .iadd, 1), (74, .bipush 48, 2), (76, .isub, 1), (77, .istore_n 2, 1), (78, .aload_n 0, 1), (79, .dup, 1), (80, .getfield 89, 3), (83, .iconst 1, 1), (84, .iadd, 1), (85, .putfield 89, 3), (88, .iinc 3 1, 3), (91, .goto (-45), 3), (94, .aload_n 0, 1), (95, .iconst 0, 1), (96, .iload_n 2, 1), (97, .invokevirtual 107, 3), (100, .iconst 1, 1), (101, .ireturn, 1), (102, .iload_n 1, 1), (103, .bipush 33, 2), (105, .if_icmp .ne 37, 3), (108, .aload_n 0, 1), (109, .invokevirtual 129, 3), (112, .ifCond .eq 10, 3), (115, .aload_n 0, 1), (116, .invokevirtual 120, 3), (119, .ifCond .ne 5, 3), (122, .iconst 0, 1), (123, .ireturn, 1), (124, .aload_n 0, 1), (125, .dup, 1), (126, .getfield 123, 3), (129, .iconst 1, 1), (130, .isub, 1), (131, .putfield 123, 3), (134, .aload_n 0, 1), (135, .iconst 2, 1), (136, .iconst 0, 1), (137, .invokevirtual 107, 3), (140, .iconst 1, 1), (141, .ireturn, 1), (142, .iload_n 1, 1), (143, .bipush 40, 2), (145, .if_icmp .ne 26, 3), (148, .aload_n 0, 1), (149, .invokevirtual 129, 3), (152, .ifCond .eq 19, 3), (155, .aload_n 0, 1), (156, .invokevirtual 132, 3), (159, .ifCond .eq 12, 3), (162, .aload_n 0, 1), (163, .invokevirtual 103, 3), (166, .bipush 41, 2), (168, .if_icmp .eq 5, 3), (171, .iconst 0, 1), (172, .ireturn, 1), (173, .aload_n 0, 1), (174, .dup, 1), (175, .getfield 89, 3), (178, .iconst 1, 1), (179, .iadd, 1), (180, .putfield 89, 3), (183, .aload_n 0, 1), (184, .dup, 1), (185, .getfield 123, 3), (188, .iconst 1, 1), (189, .isub, 1), (190, .putfield 123, 3), (193, .iconst 1, 1), (194, .ireturn, 1)]
def zm_t143 : List (Nat × Instr × Nat) := [(0, .aload_n 0, 1), (1, .getfield 7, 3), (4, .sipush 146, 3), (7, .bipush 125, 2), (9, .iload_n 1, 1), (10, .imul, 1), (11, .iadd, 1), (12, .iaload, 1), (13, .ifCond .le 7, 3), (16, .iconst 1, 1), (17, .goto 4, 3), (20, .iconst 0, 1), (21, .ireturn, 1)]
def zm_t144 : List (Nat × Instr × Nat) := [(0, .iload_n 1, 1), (1, .iconst 0, 1), (2, .iconst 1, 1), (3, .invokestatic 53, 3), (6, .ifCond .ne 9, 3), (9, .aload_n 0, 1), (10, .iconst 1, 1), (11, .invokevirtual 62, 3), (14, .ireturn, 1), (15, .aload_n 0, 1), (16, .iload_n 1, 1), (17, .putfield 93, 3), (20, .aload_n 0, 1), (21, .iconst 0, 1), (22, .putfield 89, 3), (25, .aload_n 0, 1), (26, .iconst 0, 1), (27, .putfield 123, 3), (30, .aload_n 0, 1), (31, .iconst 0, 1), (32, .putfield 96, 3), (35, .aload_n 0, 1), (36, .invokevirtual 132, 3), (39, .ifCond .eq 20, 3), (42, .aload_n 0, 1), (43, .getfield 89, 3), (46, .aload_n 0, 1), (47, .getfield 7, 3), (50, .iconst 4, 1), (51, .iaload, 1), (52, .if_icmp .ne 7, 3), (55, .iconst 1, 1), (56, .goto 4, 3), (59, .iconst 0, 1), (60, .istore_n 2, 1), (61, .aload_n 0, 1), (62, .getfield 7, 3), (65, .iconst 4, 1), (66, .iconst 0, 1), (67, .iastore, 1), (68, .iload_n 2, 1), (69, .ifCond .ne 11, 3), (72, .bipush (-10), 2), (74, .aload_n 0, 1), (75, .getfield 89, 3), (78, .isub, 1), (79, .ireturn, 1), (80, .sipush 146, 3), (83, .bipush 125, 2), (85, .iload_n 1, 1), (86, .imul, 1), (87, .iadd, 1), (88, .istore_n 3, 1), (89, .aload_n 0, 1), (90, .getfield 7, 3), (93, .iload_n 3, 1), (94, .aload_n 0, 1), (95, .getfield 96, 3), (98, .iastore, 1), (99, .iconst 0, 1), (100, .istore 4, 2), (102, .iload 4, 2), (104, .iconst 2, 1), (105, .aload_n 0, 1), (106, .getfield 96, 3), (109, .imul, 1), (110, .if_icmp .ge 27, 3), (113, .aload_n 0, 1), (114, .getfield 7, 3), (117, .iload_n 3, 1), (118, .iconst 1, 1), (119, .iadd, 1), (120, .iload 4, 2), (122, .iadd, 1), (123, .aload_n 0, 1), (124, .getfield 22, 3), (127, .iload 4, 2), (129, .iaload, 1), (130, .iastore, 1), (131, .iinc 4 1, 3), (134, .goto (-32), 3), (137, .iconst 1, 1), (138, .ireturn, 1)]
def zm_t145 : List (Nat × Instr × Nat) := [(0, .iload_n 1, 1), (1, .iconst 0, 1), (2, .iconst 1, 1), (3, .invokestatic 53, 3), (6, .ifCond .ne 9, 3), (9, .aload_n 0, 1), (10, .iconst 1, 1), (11, .invokevirtual 62, 3), (14, .ireturn, 1), (15, .aload_n 0, 1), (16, .iload_n 1, 1), (17, .invokevirtual 135, 3), (20, .ifCond .eq 7, 3), (23, .iconst 1, 1), (24, .goto 4, 3), (27, .iconst 0, 1), (28, .istore_n 2, 1), (29, .aload_n 0, 1), (30, .getfield 7, 3), (33, .sipush 146, 3), (36, .bipush 125, 2), (38, .iload_n 1, 1), (39, .imul, 1), (40, .iadd, 1), (41, .iconst 0, 1), (42, .iastore, 1), (43, .iload_n 2, 1), (44, .ireturn, 1)]
def zm_t146 : List (Nat × Instr × Nat) := [(0, .iload_n 0, 1), (1, .tableswitch 217 37 62 #[153, 203, 217, 217, 217, 127, 119, 217, 123, 217, 131, 217, 217, 217, 217, 217, 217, 217, 217, 217, 217, 217, 217, 170, 192, 181], 119), (120, .iload_n 1, 1), (121, .iload_n 2, 1), (122, .iadd, 1), (123, .ireturn, 1), (124, .iload_n 1, 1), (125, .iload_n 2, 1), (126, .isub, 1), (127, .ireturn, 1), (128, .iload_n 1, 1), (129, .iload_n 2, 1), (130, .imul, 1), (131, .ireturn, 1), (132, .iload_n 2, 1), (133, .ifCond .ne 7, 3), (136, .iconst 0, 1), (137, .goto 16, 3), (140, .iload_n 2, 1), (141, .iconst (-1), 1), (142, .if_icmp .ne 8, 3), (145, .iload_n 1, 1), (146, .ineg, 1), (147, .goto 6, 3), (150, .iload_n 1, 1), (151, .iload_n 2, 1), (152, .idiv, 1), (153, .ireturn, 1), (154, .iload_n 2, 1), (155, .ifCond .eq 8, 3), (158, .iload_n 2, 1), (159, .iconst (-1), 1), (160, .if_icmp .ne 7, 3), (163, .iconst 0, 1), (164, .goto 6, 3), (167, .iload_n 1, 1), (168, .iload_n 2, 1), (169, .irem, 1), (170, .ireturn, 1), (171, .iload_n 1, 1), (172, .iload_n 2, 1), (173, .if_icmp .ge 7, 3), (176, .iconst 1, 1), (177, .goto 4, 3), (180, .iconst 0, 1), (181, .ireturn, 1), (182, .iload_n 1, 1), (183, .iload_n 2, 1), (184, .if_icmp .le 7, 3), (187, .iconst 1, 1), (188, .goto 4, 3), (191, .iconst 0, 1), (192, .ireturn, 1), (193, .iload_n 1, 1), (194, .iload_n 2, 1), (195, .if_icmp .ne 7, 3), (198, .iconst 1, 1), (199, .goto 4, 3), (202, .iconst 0, 1), (203, .ireturn, 1), (204, .iload_n 1, 1), (205, .ifCond .eq 11, 3), (208, .iload_n 2, 1), (209, .ifCond .eq 7, 3), (212, .iconst 1, 1), (213, .goto 4, 3), (216, .iconst 0, 1), (217, .ireturn, 1), (218, .iload_n 1, 1), (219, .ifCond .ne 7, 3), (222, .iload_n 2, 1), (223, .ifCond .eq 7, 3), (226, .iconst 1, 1), (227, .goto 4, 3), (230, .iconst 0, 1), (231, .ireturn, 1)]
def zm_t147 : List (Nat × Instr × Nat) := [(0, .sipush 146, 3), (3, .bipush 125, 2), (5, .iload_n 1, 1), (6, .imul, 1), (7, .iadd, 1), (8, .istore_n 2, 1), (9, .iconst 0, 1), (10, .istore_n 3, 1), (11, .iconst 0, 1), (12, .istore 4, 2), (14, .iload 4, 2), (16, .aload_n 0, 1), (17, .getfield 7, 3), (20, .iload_n 2, 1), (21, .iaload, 1), (22, .if_icmp .ge 142, 3), (25, .aload_n 0, 1), (26, .getfield 7, 3), (29, .iload_n 2, 1), (30, .iconst 1, 1), (31, .iadd, 1), (32, .iconst 2, 1), (33, .iload 4, 2), (35, .imul, 1), (36, .iadd, 1), (37, .iaload, 1), (38, .istore 5, 2), (40, .aload_n 0, 1), (41, .getfield 7, 3), (44, .iload_n 2, 1), (45, .iconst 2, 1), (46, .iadd, 1), (47, .iconst 2, 1), (48, .iload 4, 2), (50, .imul, 1), (51, .iadd, 1), (52, .iaload, 1), (53, .istore 6, 2), (55, .iload 5, 2), (57, .ifCond .eq 9, 3), (60, .iload 5, 2), (62, .iconst 1, 1), (63, .if_icmp .ne 32, 3), (66, .aload_n 0, 1), (67, .getfield 28, 3), (70, .iload_n 3, 1), (71, .iload 5, 2), (73, .ifCond .ne 8, 3), (76, .iload 6, 2), (78, .goto 10, 3), (81, .aload_n 0, 1), (82, .getfield 25, 3), (85, .iload 6, 2), (87, .iaload, 1), (88, .iastore, 1), (89, .iinc 3 1, 3), (92, .goto 66, 3), (95, .iload 5, 2), (97, .iconst 2, 1), (98, .if_icmp .ne 30, 3), (101, .aload_n 0, 1), (102, .getfield 28, 3), (105, .iload_n 3, 1), (106, .iconst 1, 1), (107, .isub, 1), (108, .aload_n 0, 1), (109, .getfield 28, 3), (112, .iload_n 3, 1), (113, .iconst 1, 1), (114, .isub, 1), (115, .iaload, 1), (116, .ifCond .ne 7, 3), (119, .iconst 1, 1), (120, .goto 4, 3), (123, .iconst 0, 1), (124, .iastore, 1), (125, .goto 33, 3), (128, .iinc 3 (-1), 3), (131, .aload_n 0, 1), (132, .getfield 28, 3), (135, .iload_n 3, 1), (136, .iconst 1, 1), (137, .isub, 1), (138, .iload 6, 2), (140, .aload_n 0, 1), (141, .getfield 28, 3), (144, .iload_n 3, 1), (145, .iconst 1, 1), (146, .isub, 1), (147, .iaload, 1), (148, .aload_n 0, 1), (149, .getfield 28, 3), (152, .iload_n 3, 1), (153, .iaload, 1), (154, .invokestatic 138, 3), (157, .iastore, 1), (158, .iinc 4 1, 3), (161, .goto (-147), 3), (164, .aload_n 0, 1), (165, .getfield 28, 3), (168, .iconst 0, 1), (169, .iaload, 1), (170, .ireturn, 1)]
def zm_t148 : List (Nat × Instr × Nat) := [(0, .aload_n 0, 1), (1, .iconst 0, 1), (2, .putfield 142, 3), (5, .iconst 0, 1), (6, .istore_n 1, 1), (7, .iload_n 1, 1), (8, .bipush 12, 2), (10, .if_icmp .ge 16, 3), (13, .aload_n 0, 1), (14, .getfield 31, 3), (17, .iload_n 1, 1), (18, .iconst 0, 1), (19, .iastore, 1), (20, .iinc 1 1, 3), (23, .goto (-16), 3), (26, .return_, 1)]
def zm_t149 : List (Nat × Instr × Nat) := [(0, .aload_n 0, 1), (1, .dup, 1), (2, .getfield 142, 3), (5, .iload_n 1, 1), (6, .iadd, 1), (7, .putfield 142, 3), (10, .aload_n 0, 1), (11, .getfield 7, 3), (14, .iconst 3, 1), (15, .aload_n 0, 1), (16, .getfield 7, 3), (19, .iconst 3, 1), (20, .iaload, 1), (21, .iload_n 1, 1), (22, .isub, 1), (23, .ldc 145, 2), (25, .ldc 146, 2), (27, .invokestatic 147, 3), (30, .iastore, 1), (31, .return_, 1)]
def zm_t150 : List (Nat × Instr × Nat) := [(0, .aload_n 0, 1), (1, .iconst 0, 1), (2, .invokevirtual 135, 3), (5, .ifCond .ne 5, 3), (8, .iload_n 2, 1), (9, .ireturn, 1), (10, .aload_n 0, 1), (11, .getfield 25, 3), (14, .bipush 99, 2), (16, .iload_n 2, 1), (17, .iastore, 1), (18, .aload_n 0, 1), (19, .getfield 25, 3), (22, .bipush 112, 2), (24, .aload_n 0, 1), (25, .iload_n 1, 1), (26, .iconst 5, 1), (27, .invokevirtual 70, 3), (30, .iastore, 1), (31, .aload_n 0, 1), (32, .getfield 25, 3), (35, .bipush 104, 2), (37, .aload_n 0, 1), (38, .iload_n 1, 1), (39, .bipush 6, 2), (41, .invokevirtual 70, 3), (44, .iastore, 1), (45, .aload_n 0, 1), (46, .getfield 25, 3), (49, .bipush 115, 2), (51, .iload_n 3, 1), (52, .iastore, 1), (53, .aload_n 0, 1), (54, .getfield 25, 3), (57, .bipush 109, 2), (59, .aload_n 0, 1), (60, .iload_n 1, 1), (61, .iconst 1, 1), (62, .invokevirtual 70, 3), (65, .iastore, 1), (66, .aload_n 0, 1), (67, .iconst 0, 1), (68, .invokevirtual 150, 3), (71, .ireturn, 1)]
def zm_t151 : List (Nat × Instr × Nat) := [(0, .aload_n 0, 1), (1, .iload_n 1, 1), (2, .iconst 1, 1), (3, .invokevirtual 70, 3), (6, .istore 4, 2), (8, .iload_n 3, 1), (9, .ifCond .le 11, 3), (12, .iload_n 2, 1), (13, .iconst 1, 1), (14, .iadd, 1), (15, .iconst 2, 1), (16, .idiv, 1), (17, .goto 4, 3), (20, .iload_n 2, 1), (21, .istore 5, 2), (23, .aload_n 0, 1), (24, .iload_n 1, 1), (25, .iconst 0, 1), (26, .invokevirtual 70, 3), (29, .tableswitch 107 1 6 #[39, 50, 60, 63, 83, 94], 39), (68, .iload_n 2, 1), (69, .iconst 0, 1), (70, .bipush 100, 2), (72, .iload 4, 2), (74, .imul, 1), (75, .invokestatic 147, 3), (78, .ireturn, 1), (79, .iload_n 3, 1), (80, .ifCond .le 7, 3), (83, .iconst 0, 1), (84, .goto 4, 3), (87, .iload_n 2, 1), (88, .ireturn, 1), (89, .iload 5, 2), (91, .ireturn, 1), (92, .iload_n 3, 1), (93, .iconst 2, 1), (94, .if_icmp .lt 7, 3), (97, .iconst 0, 1), (98, .goto 13, 3), (101, .iload_n 2, 1), (102, .iconst 0, 1), (103, .bipush 100, 2), (105, .iload 4, 2), (107, .imul, 1), (108, .invokestatic 147, 3), (111, .ireturn, 1), (112, .iload 5, 2), (114, .iload 4, 2), (116, .iadd, 1), (117, .iconst 0, 1), (118, .iload_n 2, 1), (119, .invokestatic 147, 3), (122, .ireturn, 1), (123, .aload_n 0, 1), (124, .iload_n 1, 1), (125, .iload_n 2, 1), (126, .iload_n 3, 1), (127, .invokevirtual 153, 3), (130, .iconst 0, 1), (131, .iload_n 2, 1), (132, .invokestatic 147, 3), (135, .ireturn, 1), (136, .iload_n 2, 1), (137, .ireturn, 1)]
def zm_t152 : List (Nat × Instr × Nat) := [(0, .aload_n 0, 1), (1, .iload_n 1, 1), (2, .iconst 5, 1), (3, .invokevirtual 70, 3), (6, .aload_n 0, 1), (7, .iload_n 1, 1), (8, .bipush 6, 2), (10, .invokevirtual 70, 3), (13, .iadd, 1), (14, .istore 4, 2), (16, .aload_n 0, 1), (17, .iload_n 1, 1), (18, .iload_n 2, 1), (19, .iload_n 3, 1), (20, .invokevirtual 156, 3), (23, .istore 5, 2), (25, .iload 5, 2), (27, .iload 4, 2), (29, .if_icmp .le 8, 3), (32, .iload 4, 2), (34, .goto 5, 3), (37, .iload 5, 2), (39, .istore 6, 2), (41, .iload 6, 2), (43, .aload_n 0, 1), (44, .iload_n 1, 1), (45, .iconst 5, 1), (46, .invokevirtual 70, 3), (49, .if_icmp .le 12, 3), (52, .aload_n 0, 1), (53, .iload_n 1, 1), (54, .iconst 5, 1), (55, .invokevirtual 70, 3), (58, .goto 5, 3), (61, .iload 6, 2), (63, .istore 7, 2), (65, .aload_n 0, 1), (66, .iload_n 1, 1), (67, .iconst 5, 1), (68, .aload_n 0, 1), (69, .iload_n 1, 1), (70, .iconst 5, 1), (71, .invokevirtual 70, 3), (74, .iload 7, 2), (76, .isub, 1), (77, .invokevirtual 66, 3), (80, .aload_n 0, 1), (81, .iload_n 1, 1), (82, .bipush 6, 2), (84, .aload_n 0, 1), (85, .iload_n 1, 1), (86, .bipush 6, 2), (88, .invokevirtual 70, 3), (91, .iload 6, 2), (93, .iload 7, 2), (95, .isub, 1), (96, .isub, 1), (97, .invokevirtual 66, 3), (100, .aload_n 0, 1), (101, .getfield 31, 3), (104, .iload_n 1, 1), (105, .dup2, 1), (106, .iaload, 1), (107, .iload 6, 2), (109, .iadd, 1), (110, .iastore, 1), (111, .iload 6, 2), (113, .ireturn, 1)]
def zm_t153 : List (Nat × Instr × Nat) := [(0, .aload_n 0, 1), (1, .iload_n 1, 1), (2, .iconst 4, 1), (3, .invokevirtual 70, 3), (6, .ifCond .ne 11, 3), (9, .aload_n 0, 1), (10, .iload_n 1, 1), (11, .iload_n 2, 1), (12, .iload_n 3, 1), (13, .invokevirtual 159, 3), (16, .return_, 1), (17, .iload_n 2, 1), (18, .aload_n 0, 1), (19, .iload_n 1, 1), (20, .iload_n 2, 1), (21, .iload_n 3, 1), (22, .invokevirtual 162, 3), (25, .isub, 1), (26, .istore 4, 2), (28, .aload_n 0, 1), (29, .iload_n 1, 1), (30, .iconst 0, 1), (31, .invokevirtual 70, 3), (34, .iconst 2, 1), (35, .if_icmp .ne 16, 3), (38, .iload_n 3, 1), (39, .ifCond .le 12, 3), (42, .aload_n 0, 1), (43, .iload 4, 2), (45, .invokevirtual 165, 3), (48, .goto 11, 3), (51, .aload_n 0, 1), (52, .iload_n 1, 1), (53, .iload 4, 2), (55, .iload_n 3, 1), (56, .invokevirtual 159, 3), (59, .return_, 1)]
def zm_t154 : List (Nat × Instr × Nat) := [(0, .aload_n 0, 1), (1, .iload_n 1, 1), (2, .iconst 2, 1), (3, .invokevirtual 70, 3), (6, .iconst (-1), 1), (7, .if_icmp .eq 17, 3), (10, .aload_n 0, 1), (11, .iload_n 1, 1), (12, .iconst 3, 1), (13, .invokevirtual 70, 3), (16, .iconst (-1), 1), (17, .if_icmp .eq 7, 3), (20, .iconst 1, 1), (21, .goto 4, 3), (24, .iconst 0, 1), (25, .istore_n 3, 1), (26, .iload_n 1, 1), (27, .iload_n 2, 1), (28, .if_icmp .eq 41, 3), (31, .iload_n 3, 1), (32, .ifCond .eq 37, 3), (35, .aload_n 0, 1), (36, .iload_n 1, 1), (37, .iconst 2, 1), (38, .invokevirtual 70, 3), (41, .aload_n 0, 1), (42, .iload_n 2, 1), (43, .iconst 2, 1), (44, .invokevirtual 70, 3), (47, .if_icmp .ne 22, 3), (50, .aload_n 0, 1), (51, .iload_n 1, 1), (52, .iconst 3, 1), (53, .invokevirtual 70, 3), (56, .aload_n 0, 1), (57, .iload_n 2, 1), (58, .iconst 3, 1), (59, .invokevirtual 70, 3), (62, .if_icmp .ne 7, 3), (65, .iconst 1, 1), (66, .goto 4, 3), (69, .iconst 0, 1), (70, .ireturn, 1)]
def zm_t155 : List (Nat × Instr × Nat) := [(0, .iload_n 3, 1), (1, .aload_n 0, 1), (2, .getfield 7, 3), (5, .bipush 7, 2), (7, .iaload, 1), (8, .if_icmp .lt 9, 3), (11, .aload_n 0, 1), (12, .iload_n 2, 1), (13, .invokevirtual 165, 3), (16, .return_, 1), (17, .iload_n 2, 1), (18, .istore 4, 2), (20, .iconst 0, 1), (21, .istore 5, 2), (23, .iload 5, 2), (25, .aload_n 0, 1), (26, .getfield 7, 3), (29, .iconst 0, 1), (30, .iaload, 1), (31, .if_icmp .ge 63, 3), (34, .iload_n 3, 1), (35, .ifCond .ne 59, 3), (38, .aload_n 0, 1), (39, .getfield 7, 3), (42, .bipush 9, 2), (44, .iaload, 1), (45, .iconst 1, 1), (46, .if_icmp .ne 48, 3), (49, .iload 4, 2), (51, .aload_n 0, 1), (52, .iload_n 1, 1), (53, .iload 5, 2), (55, .invokevirtual 169, 3), (58, .ifCond .eq 26, 3), (61, .aload_n 0, 1), (62, .iload 5, 2), (64, .iconst 4, 1), (65, .invokevirtual 70, 3), (68, .iconst 1, 1), (69, .if_icmp .ne 15, 3), (72, .aload_n 0, 1), (73, .iload 5, 2), (75, .iload 4, 2), (77, .iconst 0, 1), (78, .invokevirtual 162, 3), (81, .goto 4, 3), (84, .iconst 0, 1), (85, .isub, 1), (86, .istore 4, 2), (88, .iinc 5 1, 3), (91, .goto (-68), 3), (94, .aload_n 0, 1), (95, .iload_n 1, 1), (96, .iconst 2, 1), (97, .invokevirtual 70, 3), (100, .istore 5, 2), (102, .aload_n 0, 1), (103, .iload_n 1, 1), (104, .iconst 3, 1), (105, .invokevirtual 70, 3), (108, .istore 6, 2), (110, .iload 5, 2), (112, .iconst (-1), 1), (113, .if_icmp .ne 13, 3), (116, .iload 6, 2), (118, .iconst (-1), 1), (119, .if_icmp .ne 7, 3), (122, .iconst 0, 1), (123, .goto 23, 3), (126, .aload_n 0, 1), (127, .getfield 7, 3), (130, .bipush 8, 2), (132, .iaload, 1), (133, .iconst 1, 1), (134, .if_icmp .ne 10, 3), (137, .iload 4, 2), (139, .iconst 2, 1), (140, .idiv, 1), (141, .goto 5, 3), (144, .iload 4, 2), (146, .istore 7, 2), (148, .aload_n 0, 1), (149, .iload 4, 2), (151, .iload 7, 2), (153, .isub, 1), (154, .invokevirtual 165, 3), (157, .iload 7, 2), (159, .ifCond .ne 4, 3), (162, .return_, 1), (163, .iload 6, 2), (165, .iconst (-1), 1), (166, .if_icmp .ne 8, 3), (169, .iload 7, 2), (171, .goto 19, 3), (174, .iload 5, 2), (176, .iconst (-1), 1), (177, .if_icmp .ne 7, 3), (180, .iconst 0, 1), (181, .goto 9, 3), (184, .iload 7, 2), (186, .iconst 1, 1), (187, .iadd, 1), (188, .iconst 2, 1), (189, .idiv, 1), (190, .istore 8, 2), (192, .iload 5, 2), (194, .iconst (-1), 1), (195, .if_icmp .eq 14, 3), (198, .aload_n 0, 1), (199, .iload 5, 2), (201, .iload 8, 2), (203, .iload_n 3, 1), (204, .iconst 1, 1), (205, .iadd, 1), (206, .invokevirtual 172, 3), (209, .iload 6, 2), (211, .iconst (-1), 1), (212, .if_icmp .eq 17, 3), (215, .aload_n 0, 1), (216, .iload 6, 2), (218, .iload 7, 2), (220, .iload 8, 2), (222, .isub, 1), (223, .iload_n 3, 1), (224, .iconst 1, 1), (225, .iadd, 1), (226, .invokevirtual 172, 3), (229, .return_, 1)]
def zm_t156 : List (Nat × Instr × Nat) := [(0, .aload_n 0, 1), (1, .getfield 7, 3), (4, .bipush 106, 2), (6, .iconst 4, 1), (7, .iload_n 1, 1), (8, .imul, 1), (9, .iadd, 1), (10, .iconst 3, 1), (11, .iadd, 1), (12, .iconst 0, 1), (13, .iastore, 1), (14, .aload_n 0, 1), (15, .aload_n 0, 1), (16, .iload_n 1, 1), (17, .iconst 0, 1), (18, .invokevirtual 175, 3), (21, .aload_n 0, 1), (22, .iload_n 1, 1), (23, .iconst 1, 1), (24, .invokevirtual 175, 3), (27, .iconst 0, 1), (28, .invokevirtual 172, 3), (31, .return_, 1)]
def zm_t157 : List (Nat × Instr × Nat) := [(0, .iconst 0, 1), (1, .istore_n 1, 1), (2, .iload_n 1, 1), (3, .aload_n 0, 1), (4, .getfield 7, 3), (7, .iconst 1, 1), (8, .iaload, 1), (9, .if_icmp .ge 24, 3), (12, .aload_n 0, 1), (13, .iload_n 1, 1), (14, .iconst 3, 1), (15, .invokevirtual 175, 3), (18, .iconst 1, 1), (19, .if_icmp .ne 8, 3), (22, .aload_n 0, 1), (23, .iload_n 1, 1), (24, .invokevirtual 178, 3), (27, .iinc 1 1, 3), (30, .goto (-28), 3), (33, .return_, 1)]
def zm_t158 : List (Nat × Instr × Nat) := [(0, .aload_n 0, 1), (1, .iload_n 1, 1), (2, .invokevirtual 77, 3), (5, .ifCond .eq 28, 3), (8, .iload_n 2, 1), (9, .iconst 1, 1), (10, .ldc 57, 2), (12, .invokestatic 53, 3), (15, .ifCond .eq 18, 3), (18, .iload_n 3, 1), (19, .iconst 0, 1), (20, .sipush 9999, 3), (23, .invokestatic 53, 3), (26, .ifCond .eq 7, 3), (29, .iconst 1, 1), (30, .goto 4, 3), (33, .iconst 0, 1), (34, .ireturn, 1)]
def zm_t159 : List (Nat × Instr × Nat) := [(0, .bipush 106, 2), (2, .iconst 4, 1), (3, .aload_n 0, 1), (4, .getfield 7, 3), (7, .iconst 1, 1), (8, .iaload, 1), (9, .imul, 1), (10, .iadd, 1), (11, .istore 4, 2), (13, .aload_n 0, 1), (14, .getfield 7, 3), (17, .iload 4, 2), (19, .iconst 0, 1), (20, .iadd, 1), (21, .iload_n 1, 1), (22, .iastore, 1), (23, .aload_n 0, 1), (24, .getfield 7, 3), (27, .iload 4, 2), (29, .iconst 1, 1), (30, .iadd, 1), (31, .iload_n 2, 1), (32, .iastore, 1), (33, .aload_n 0, 1), (34, .getfield 7, 3), (37, .iload 4, 2), (39, .iconst 2, 1), (40, .iadd, 1), (41, .iload_n 3, 1), (42, .iastore, 1), (43, .aload_n 0, 1), (44, .getfield 7, 3), (47, .iload 4, 2), (49, .iconst 3, 1), (50, .iadd, 1), (51, .iconst 1, 1), (52, .iastore, 1), (53, .aload_n 0, 1), (54, .getfield 7, 3), (57, .iconst 1, 1), (58, .dup2, 1), (59, .iaload, 1), (60, .iconst 1, 1), (61, .iadd, 1), (62, .iastore, 1), (63, .return_, 1)]
def zm_t160 : List (Nat × Instr × Nat) := [(0, .aload_n 0, 1), (1, .iload_n 1, 1), (2, .iload_n 2, 1), (3, .iload_n 3, 1), (4, .invokevirtual 181, 3), (7, .ifCond .ne 9, 3), (10, .aload_n 0, 1), (11, .iconst 1, 1), (12, .invokevirtual 62, 3), (15, .ireturn, 1), (16, .aload_n 0, 1), (17, .getfield 7, 3), (20, .iconst 1, 1), (21, .iaload, 1), (22, .bipush 10, 2), (24, .if_icmp .ne 9, 3), (27, .aload_n 0, 1), (28, .iconst 4, 1), (29, .invokevirtual 62, 3), (32, .ireturn, 1), (33, .aload_n 0, 1), (34, .iload_n 1, 1), (35, .iload_n 2, 1), (36, .iload_n 3, 1), (37, .invokevirtual 184, 3), (40, .aload_n 0, 1), (41, .getfield 7, 3), (44, .iconst 1, 1), (45, .iaload, 1), (46, .iconst 1, 1), (47, .isub, 1), (48, .ireturn, 1)]
def zm_t161 : List (Nat × Instr × Nat) := [(0, .aload_n 0, 1), (1, .iload_n 1, 1), (2, .invokevirtual 187, 3), (5, .ifCond .eq 21, 3), (8, .iload_n 2, 1), (9, .iconst 0, 1), (10, .iconst 3, 1), (11, .invokestatic 53, 3), (14, .ifCond .eq 12, 3), (17, .aload_n 0, 1), (18, .iload_n 1, 1), (19, .iload_n 2, 1), (20, .invokevirtual 175, 3), (23, .goto 8, 3), (26, .aload_n 0, 1), (27, .iconst 1, 1), (28, .invokevirtual 62, 3), (31, .ireturn, 1)]
def zm_t162 : List (Nat × Instr × Nat) := [(0, .aload_n 0, 1), (1, .iload_n 1, 1), (2, .invokevirtual 187, 3), (5, .ifCond .ne 9, 3), (8, .aload_n 0, 1), (9, .iconst 1, 1), (10, .invokevirtual 62, 3), (13, .ireturn, 1), (14, .aload_n 0, 1), (15, .iload_n 1, 1), (16, .iconst 3, 1), (17, .invokevirtual 175, 3), (20, .ifCond .ne 9, 3), (23, .aload_n 0, 1), (24, .iconst 3, 1), (25, .invokevirtual 62, 3), (28, .ireturn, 1), (29, .aload_n 0, 1), (30, .invokevirtual 190, 3), (33, .aload_n 0, 1), (34, .iload_n 1, 1), (35, .invokevirtual 178, 3), (38, .aload_n 0, 1), (39, .getfield 142, 3), (42, .ireturn, 1)]
def zm_t163 : List (Nat × Instr × Nat) := [(0, .aload_n 0, 1), (1, .iload_n 1, 1), (2, .invokevirtual 187, 3), (5, .ifCond .ne 9, 3), (8, .aload_n 0, 1), (9, .iconst 1, 1), (10, .invokevirtual 62, 3), (13, .ireturn, 1), (14, .aload_n 0, 1), (15, .iload_n 1, 1), (16, .iconst 0, 1), (17, .invokevirtual 175, 3), (20, .istore_n 2, 1), (21, .aload_n 0, 1), (22, .iload_n 2, 1), (23, .iconst 5, 1), (24, .invokevirtual 70, 3), (27, .aload_n 0, 1), (28, .iload_n 2, 1), (29, .bipush 6, 2), (31, .invokevirtual 70, 3), (34, .iadd, 1), (35, .istore_n 3, 1), (36, .aload_n 0, 1), (37, .iload_n 1, 1), (38, .iconst 1, 1), (39, .invokevirtual 175, 3), (42, .istore 4, 2), (44, .aload_n 0, 1), (45, .iload_n 1, 1), (46, .iconst 3, 1), (47, .invokevirtual 175, 3), (50, .ifCond .eq 18, 3), (53, .aload_n 0, 1), (54, .iload_n 2, 1), (55, .iconst 4, 1), (56, .invokevirtual 70, 3), (59, .ifCond .eq 9, 3), (62, .iload_n 3, 1), (63, .iload 4, 2), (65, .if_icmp .ge 9, 3), (68, .aload_n 0, 1), (69, .iconst 3, 1), (70, .invokevirtual 62, 3), (73, .ireturn, 1), (74, .iload 4, 2), (76, .aload_n 0, 1), (77, .iload_n 2, 1), (78, .iconst 5, 1), (79, .invokevirtual 70, 3), (82, .if_icmp .le 12, 3), (85, .aload_n 0, 1), (86, .iload_n 2, 1), (87, .iconst 5, 1), (88, .invokevirtual 70, 3), (91, .goto 5, 3), (94, .iload 4, 2), (96, .istore 5, 2), (98, .aload_n 0, 1), (99, .iload_n 2, 1), (100, .iconst 5, 1), (101, .aload_n 0, 1), (102, .iload_n 2, 1), (103, .iconst 5, 1), (104, .invokevirtual 70, 3), (107, .iload 5, 2), (109, .isub, 1), (110, .invokevirtual 66, 3), (113, .aload_n 0, 1), (114, .iload_n 2, 1), (115, .bipush 6, 2), (117, .aload_n 0, 1), (118, .iload_n 2, 1), (119, .bipush 6, 2), (121, .invokevirtual 70, 3), (124, .iload 4, 2), (126, .iload 5, 2), (128, .isub, 1), (129, .isub, 1), (130, .invokevirtual 66, 3), (133, .aload_n 0, 1), (134, .getfield 7, 3), (137, .bipush 106, 2), (139, .iconst 4, 1), (140, .iload_n 1, 1), (141, .imul, 1), (142, .iadd, 1), (143, .iconst 3, 1), (144, .iadd, 1), (145, .iconst 0, 1), (146, .iastore, 1), (147, .iload_n 3, 1), (148, .iload 4, 2), (150, .isub, 1), (151, .ireturn, 1)]
def zm_t164 : List (Nat × Instr × Nat) := [(0, .iload_n 1, 1), (1, .iconst 1, 1), (2, .bipush 60, 2), (4, .invokestatic 53, 3), (7, .ifCond .ne 9, 3), (10, .aload_n 0, 1), (11, .iconst 1, 1), (12, .invokevirtual 62, 3), (15, .ireturn, 1), (16, .aload_n 0, 1), (17, .getfield 7, 3), (20, .iconst 2, 1), (21, .iaload, 1), (22, .iload_n 1, 1), (23, .iadd, 1), (24, .sipush 9999, 3), (27, .if_icmp .le 9, 3), (30, .aload_n 0, 1), (31, .iconst 3, 1), (32, .invokevirtual 62, 3), (35, .ireturn, 1), (36, .iconst 0, 1), (37, .istore_n 2, 1), (38, .iload_n 2, 1), (39, .iload_n 1, 1), (40, .if_icmp .ge 67, 3), (43, .iconst 0, 1), (44, .istore_n 3, 1), (45, .iload_n 3, 1), (46, .aload_n 0, 1), (47, .getfield 7, 3), (50, .iconst 1, 1), (51, .iaload, 1), (52, .if_icmp .ge 39, 3), (55, .aload_n 0, 1), (56, .iload_n 3, 1), (57, .iconst 3, 1), (58, .invokevirtual 175, 3), (61, .iconst 1, 1), (62, .if_icmp .ne 23, 3), (65, .aload_n 0, 1), (66, .iload_n 3, 1), (67, .iconst 2, 1), (68, .invokevirtual 175, 3), (71, .aload_n 0, 1), (72, .getfield 7, 3), (75, .iconst 2, 1), (76, .iaload, 1), (77, .if_icmp .gt 8, 3), (80, .aload_n 0, 1), (81, .iload_n 3, 1), (82, .invokevirtual 178, 3), (85, .iinc 3 1, 3), (88, .goto (-43), 3), (91, .aload_n 0, 1), (92, .getfield 7, 3), (95, .iconst 2, 1), (96, .dup2, 1), (97, .iaload, 1), (98, .iconst 1, 1), (99, .iadd, 1), (100, .iastore, 1), (101, .iinc 2 1, 3), (104, .goto (-66), 3), (107, .aload_n 0, 1), (108, .getfield 7, 3), (111, .iconst 2, 1), (112, .iaload, 1), (113, .ireturn, 1)]
def zm_t165 : List (Nat × Instr × Nat) := [(0, .aload_n 0, 1), (1, .getfield 7, 3), (4, .bipush 6, 2), (6, .aload_n 0, 1), (7, .getfield 7, 3), (10, .bipush 6, 2), (12, .iaload, 1), (13, .ldc 193, 2), (15, .imul, 1), (16, .sipush 12345, 3), (19, .iadd, 1), (20, .iastore, 1), (21, .aload_n 0, 1), (22, .getfield 7, 3), (25, .bipush 6, 2), (27, .iaload, 1), (28, .bipush 8, 2), (30, .iushr, 1), (31, .ireturn, 1)]
def zm_t166 : List (Nat × Instr × Nat) := [(0, .iconst 0, 1), (1, .istore_n 2, 1), (2, .iconst 0, 1), (3, .istore_n 3, 1), (4, .iload_n 3, 1), (5, .aload_n 0, 1), (6, .getfield 7, 3), (9, .iconst 0, 1), (10, .iaload, 1), (11, .if_icmp .ge 36, 3), (14, .iload_n 2, 1), (15, .aload_n 0, 1), (16, .iload_n 3, 1), (17, .iconst 4, 1), (18, .invokevirtual 70, 3), (21, .iconst 1, 1), (22, .if_icmp .ne 16, 3), (25, .aload_n 0, 1), (26, .iload_n 3, 1), (27, .iload_n 1, 1), (28, .invokevirtual 194, 3), (31, .ifCond .eq 7, 3), (34, .iconst 1, 1), (35, .goto 4, 3), (38, .iconst 0, 1), (39, .iadd, 1), (40, .istore_n 2, 1), (41, .iinc 3 1, 3), (44, .goto (-40), 3), (47, .aload_n 0, 1), (48, .iconst 1, 1), (49, .invokevirtual 135, 3), (52, .ifCond .ne 21, 3), (55, .aload_n 0, 1), (56, .iload_n 1, 1), (57, .bipush 6, 2), (59, .invokevirtual 70, 3), (62, .bipush 20, 2), (64, .idiv, 1), (65, .iconst 0, 1), (66, .sipush 9999, 3), (69, .invokestatic 147, 3), (72, .ireturn, 1), (73, .aload_n 0, 1), (74, .getfield 25, 3), (77, .bipush 112, 2), (79, .aload_n 0, 1), (80, .iload_n 1, 1), (81, .iconst 5, 1), (82, .invokevirtual 70, 3), (85, .iastore, 1), (86, .aload_n 0, 1), (87, .getfield 25, 3), (90, .bipush 104, 2), (92, .aload_n 0, 1), (93, .iload_n 1, 1), (94, .bipush 6, 2), (96, .invokevirtual 70, 3), (99, .iastore, 1), (100, .aload_n 0, 1), (101, .getfield 25, 3), (104, .bipush 110, 2), (106, .iload_n 2, 1), (107, .iastore, 1), (108, .aload_n 0, 1), (109, .iconst 1, 1), (110, .invokevirtual 150, 3), (113, .iconst 0, 1), (114, .sipush 9999, 3), (117, .invokestatic 147, 3), (120, .ireturn, 1)]
def zm_t167 : List (Nat × Instr × Nat) := [(0, .aload_n 0, 1), (1, .iload_n 1, 1), (2, .iload_n 2, 1), (3, .invokevirtual 70, 3), (6, .istore_n 3, 1), (7, .aload_n 0, 1), (8, .iload_n 1, 1), (9, .iload_n 2, 1), (10, .iconst 0, 1), (11, .invokevirtual 66, 3), (14, .iconst (-1), 1), (15, .istore 4, 2), (17, .aload_n 0, 1), (18, .getfield 7, 3), (21, .iconst 0, 1), (22, .iaload, 1), (23, .iconst 1, 1), (24, .isub, 1), (25, .istore 5, 2), (27, .iload 5, 2), (29, .ifCond .lt 39, 3), (32, .aload_n 0, 1), (33, .iload 5, 2), (35, .iconst 4, 1), (36, .invokevirtual 70, 3), (39, .iconst 1, 1), (40, .if_icmp .ne 18, 3), (43, .aload_n 0, 1), (44, .iload 5, 2), (46, .iload_n 1, 1), (47, .invokevirtual 194, 3), (50, .ifCond .eq 8, 3), (53, .iload 5, 2), (55, .goto 5, 3), (58, .iload 4, 2), (60, .istore 4, 2), (62, .iinc 5 (-1), 3), (65, .goto (-38), 3), (68, .iload 4, 2), (70, .iconst (-1), 1), (71, .if_icmp .eq 51, 3), (74, .ldc 57, 2), (76, .aload_n 0, 1), (77, .iload 4, 2), (79, .iload_n 2, 1), (80, .invokevirtual 70, 3), (83, .isub, 1), (84, .istore 5, 2), (86, .iload_n 3, 1), (87, .iload 5, 2), (89, .if_icmp .le 8, 3), (92, .iload 5, 2), (94, .goto 4, 3), (97, .iload_n 3, 1), (98, .istore 6, 2), (100, .aload_n 0, 1), (101, .iload 4, 2), (103, .iload_n 2, 1), (104, .aload_n 0, 1), (105, .iload 4, 2), (107, .iload_n 2, 1), (108, .invokevirtual 70, 3), (111, .iload 6, 2), (113, .iadd, 1), (114, .invokevirtual 66, 3), (117, .iload_n 3, 1), (118, .iload 6, 2), (120, .isub, 1), (121, .istore_n 3, 1), (122, .aload_n 0, 1), (123, .getfield 7, 3), (126, .iconst 3, 1), (127, .aload_n 0, 1), (128, .getfield 7, 3), (131, .iconst 3, 1), (132, .iaload, 1), (133, .iload_n 3, 1), (134, .iadd, 1), (135, .ldc 145, 2), (137, .ldc 146, 2), (139, .invokestatic 147, 3), (142, .iastore, 1), (143, .return_, 1)]
def zm_t168 : List (Nat × Instr × Nat) := [(0, .iconst 0, 1), (1, .istore_n 1, 1), (2, .iconst 0, 1), (3, .istore_n 2, 1), (4, .iload_n 2, 1), (5, .aload_n 0, 1), (6, .getfield 7, 3), (9, .iconst 0, 1), (10, .iaload, 1), (11, .if_icmp .ge 83, 3), (14, .aload_n 0, 1), (15, .iload_n 2, 1), (16, .iconst 4, 1), (17, .invokevirtual 70, 3), (20, .iconst 1, 1), (21, .if_icmp .ne 67, 3), (24, .aload_n 0, 1), (25, .iload_n 2, 1), (26, .iconst 5, 1), (27, .aload_n 0, 1), (28, .iload_n 2, 1), (29, .iconst 5, 1), (30, .invokevirtual 70, 3), (33, .aload_n 0, 1), (34, .iload_n 2, 1), (35, .invokevirtual 197, 3), (38, .iadd, 1), (39, .iconst 0, 1), (40, .ldc 57, 2), (42, .invokestatic 147, 3), (45, .invokevirtual 66, 3), (48, .aload_n 0, 1), (49, .invokevirtual 200, 3), (52, .bipush 10, 2), (54, .irem, 1), (55, .aload_n 0, 1), (56, .iload_n 2, 1), (57, .bipush 7, 2), (59, .invokevirtual 70, 3), (62, .if_icmp .ge 26, 3), (65, .aload_n 0, 1), (66, .iload_n 2, 1), (67, .iconst 4, 1), (68, .iconst 0, 1), (69, .invokevirtual 66, 3), (72, .aload_n 0, 1), (73, .iload_n 2, 1), (74, .iconst 5, 1), (75, .invokevirtual 203, 3), (78, .aload_n 0, 1), (79, .iload_n 2, 1), (80, .bipush 6, 2), (82, .invokevirtual 203, 3), (85, .iinc 1 1, 3), (88, .iinc 2 1, 3), (91, .goto (-87), 3), (94, .iload_n 1, 1), (95, .ireturn, 1)]
def zm_t169 : List (Nat × Instr × Nat) := [(0, .iload_n 1, 1), (1, .iconst 1, 1), (2, .bipush 20, 2), (4, .invokestatic 53, 3), (7, .ifCond .ne 9, 3), (10, .aload_n 0, 1), (11, .iconst 1, 1), (12, .invokevirtual 62, 3), (15, .ireturn, 1), (16, .iconst 0, 1), (17, .istore_n 2, 1), (18, .iconst 0, 1), (19, .istore_n 3, 1), (20, .iload_n 3, 1), (21, .iload_n 1, 1), (22, .if_icmp .ge 16, 3), (25, .iload_n 2, 1), (26, .aload_n 0, 1), (27, .invokevirtual 206, 3), (30, .iadd, 1), (31, .istore_n 2, 1), (32, .iinc 3 1, 3), (35, .goto (-15), 3), (38, .iload_n 2, 1), (39, .ireturn, 1)]
def zm_t170 : List (Nat × Instr × Nat) := [(0, .aload_n 0, 1), (1, .getfield 7, 3), (4, .bipush 6, 2), (6, .iaload, 1), (7, .istore_n 2, 1), (8, .aload_n 0, 1), (9, .getfield 7, 3), (12, .bipush 6, 2), (14, .iload_n 1, 1), (15, .iastore, 1), (16, .iload_n 2, 1), (17, .ireturn, 1)]
def zm_t171 : List (Nat × Instr × Nat) := [(0, .aload_n 0, 1), (1, .getfield 7, 3), (4, .aload_n 0, 1), (5, .getfield 16, 3), (8, .invokestatic 209, 3), (11, .aload_n 0, 1), (12, .invokevirtual 190, 3), (15, .aload_n 0, 1), (16, .iload_n 1, 1), (17, .invokevirtual 178, 3), (20, .aload_n 0, 1), (21, .getfield 16, 3), (24, .aload_n 0, 1), (25, .getfield 7, 3), (28, .invokestatic 209, 3), (31, .return_, 1)]
def zm_t172 : List (Nat × Instr × Nat) := [(0, .aload_n 0, 1), (1, .iload_n 1, 1), (2, .invokevirtual 187, 3), (5, .ifCond .ne 7, 3), (8, .iconst 1, 1), (9, .goto 17, 3), (12, .aload_n 0, 1), (13, .iload_n 1, 1), (14, .iconst 3, 1), (15, .invokevirtual 175, 3), (18, .ifCond .ne 7, 3), (21, .iconst 3, 1), (22, .goto 4, 3), (25, .iconst 0, 1), (26, .ireturn, 1)]
def zm_t173 : List (Nat × Instr × Nat) := [(0, .aload_n 0, 1), (1, .iload_n 1, 1), (2, .invokevirtual 187, 3), (5, .ifCond .eq 11, 3), (8, .aload_n 0, 1), (9, .iload_n 2, 1), (10, .invokevirtual 77, 3), (13, .ifCond .ne 9, 3), (16, .aload_n 0, 1), (17, .iconst 1, 1), (18, .invokevirtual 62, 3), (21, .ireturn, 1), (22, .aload_n 0, 1), (23, .iload_n 1, 1), (24, .iconst 3, 1), (25, .invokevirtual 175, 3), (28, .ifCond .ne 9, 3), (31, .aload_n 0, 1), (32, .iconst 3, 1), (33, .invokevirtual 62, 3), (36, .ireturn, 1), (37, .aload_n 0, 1), (38, .iload_n 1, 1), (39, .invokevirtual 213, 3), (42, .aload_n 0, 1), (43, .getfield 31, 3), (46, .iload_n 2, 1), (47, .iaload, 1), (48, .ireturn, 1)]
def zm_t174 : List (Nat × Instr × Nat) := [(0, .aload_n 0, 1), (1, .iload_n 1, 1), (2, .invokevirtual 216, 3), (5, .istore_n 2, 1), (6, .iload_n 2, 1), (7, .ifCond .le 9, 3), (10, .aload_n 0, 1), (11, .iload_n 2, 1), (12, .invokevirtual 62, 3), (15, .ireturn, 1), (16, .aload_n 0, 1), (17, .iload_n 1, 1), (18, .invokevirtual 213, 3), (21, .aload_n 0, 1), (22, .getfield 142, 3), (25, .ireturn, 1)]
def zm_t175 : List (Nat × Instr × Nat) := [(0, .aload_n 0, 1), (1, .getfield 7, 3), (4, .aload_n 0, 1), (5, .getfield 16, 3), (8, .invokestatic 209, 3), (11, .aload_n 0, 1), (12, .invokevirtual 190, 3), (15, .aload_n 0, 1), (16, .invokevirtual 219, 3), (19, .aload_n 0, 1), (20, .getfield 16, 3), (23, .aload_n 0, 1), (24, .getfield 7, 3), (27, .invokestatic 209, 3), (30, .return_, 1)]
def zm_t176 : List (Nat × Instr × Nat) := [(0, .aload_n 0, 1), (1, .iload_n 1, 1), (2, .invokevirtual 77, 3), (5, .ifCond .ne 9, 3), (8, .aload_n 0, 1), (9, .iconst 1, 1), (10, .invokevirtual 62, 3), (13, .ireturn, 1), (14, .aload_n 0, 1), (15, .invokevirtual 222, 3), (18, .aload_n 0, 1), (19, .getfield 31, 3), (22, .iload_n 1, 1), (23, .iaload, 1), (24, .ireturn, 1)]
def zm_t177 : List (Nat × Instr × Nat) := [(0, .aload_n 0, 1), (1, .iload_n 1, 1), (2, .invokevirtual 187, 3), (5, .ifCond .eq 12, 3), (8, .iload_n 2, 1), (9, .iconst 0, 1), (10, .iconst 1, 1), (11, .invokestatic 53, 3), (14, .ifCond .ne 10, 3), (17, .aload_n 0, 1), (18, .iconst 1, 1), (19, .invokevirtual 62, 3), (22, .i2l, 1), (23, .lreturn, 1), (24, .aload_n 0, 1), (25, .iload_n 1, 1), (26, .iconst 3, 1), (27, .invokevirtual 175, 3), (30, .ifCond .ne 10, 3), (33, .aload_n 0, 1), (34, .iconst 3, 1), (35, .invokevirtual 62, 3), (38, .i2l, 1), (39, .lreturn, 1), (40, .iconst 0, 1), (41, .istore_n 3, 1), (42, .iconst 0, 1), (43, .istore 4, 2), (45, .iload 4, 2), (47, .aload_n 0, 1), (48, .getfield 7, 3), (51, .iconst 0, 1), (52, .iaload, 1), (53, .if_icmp .ge 66, 3), (56, .iload 4, 2), (58, .aload_n 0, 1), (59, .iload_n 1, 1), (60, .iconst 0, 1), (61, .invokevirtual 175, 3), (64, .if_icmp .eq 49, 3), (67, .aload_n 0, 1), (68, .iload 4, 2), (70, .iconst 4, 1), (71, .invokevirtual 70, 3), (74, .iconst 1, 1), (75, .if_icmp .ne 38, 3), (78, .aload_n 0, 1), (79, .iload 4, 2), (81, .bipush 7, 2), (83, .invokevirtual 70, 3), (86, .ifCond .le 27, 3), (89, .iload_n 3, 1), (90, .bipush 9, 2), (92, .if_icmp .ne 10, 3), (95, .aload_n 0, 1), (96, .iconst 3, 1), (97, .invokevirtual 62, 3), (100, .i2l, 1), (101, .lreturn, 1), (102, .aload_n 0, 1), (103, .getfield 34, 3), (106, .iload_n 3, 1), (107, .iload 4, 2), (109, .iastore, 1), (110, .iinc 3 1, 3), (113, .iinc 4 1, 3), (116, .goto (-71), 3), (119, .lconst 0, 1), (120, .lstore 4, 2), (122, .lconst 1, 1), (123, .lstore 6, 2), (125, .iconst 0, 1), (126, .istore 8, 2), (128, .iload 8, 2), (130, .iload_n 3, 1), (131, .if_icmp .ge 17, 3), (134, .lload 6, 2), (136, .ldc2_w 225, 3), (139, .lmul, 1), (140, .lstore 6, 2), (142, .iinc 8 1, 3), (145, .goto (-17), 3), (148, .iconst 0, 1), (149, .istore 8, 2), (151, .iload 8, 2), (153, .iconst 1, 1), (154, .iload_n 3, 1), (155, .ishl, 1), (156, .if_icmp .ge 129, 3), (159, .lconst 1, 1), (160, .lstore 9, 2), (162, .iconst 0, 1), (163, .istore 11, 2), (165, .iload 11, 2), (167, .iload_n 3, 1), (168, .if_icmp .ge 93, 3), (171, .iload 8, 2), (173, .iload 11, 2), (175, .ishr, 1), (176, .iconst 1, 1), (177, .iand, 1), (178, .iconst 1, 1), (179, .if_icmp .ne 7, 3), (182, .iconst 1, 1), (183, .goto 4, 3), (186, .iconst 0, 1), (187, .istore 12, 2), (189, .lload 9, 2), (191, .iload 12, 2), (193, .ifCond .eq 20, 3), (196, .aload_n 0, 1), (197, .aload_n 0, 1), (198, .getfield 34, 3), (201, .iload 11, 2), (203, .iaload, 1), (204, .bipush 7, 2), (206, .invokevirtual 70, 3), (209, .i2l, 1), (210, .goto 20, 3), (213, .bipush 10, 2), (215, .aload_n 0, 1), (216, .aload_n 0, 1), (217, .getfield 34, 3), (220, .iload 11, 2), (222, .iaload, 1), (223, .bipush 7, 2), (225, .invokevirtual 70, 3), (228, .isub, 1), (229, .i2l, 1), (230, .lmul, 1), (231, .lstore 9, 2), (233, .aload_n 0, 1), (234, .aload_n 0, 1), (235, .getfield 34, 3), (238, .iload 11, 2), (240, .iaload, 1), (241, .iconst 4, 1), (242, .iload 12, 2), (244, .ifCond .eq 7, 3), (247, .iconst 0, 1), (248, .goto 4, 3), (251, .iconst 1, 1), (252, .invokevirtual 66, 3), (255, .iinc 11 1, 3), (258, .goto (-93), 3), (261, .aload_n 0, 1), (262, .iload_n 1, 1), (263, .invokevirtual 213, 3), (266, .lload 4, 2), (268, .lload 9, 2), (270, .aload_n 0, 1), (271, .getfield 142, 3), (274, .i2l, 1), (275, .lmul, 1), (276, .ladd, 1), (277, .lstore 4, 2), (279, .iinc 8 1, 3), (282, .goto (-131), 3), (285, .iconst 0, 1), (286, .istore 8, 2), (288, .iload 8, 2), (290, .iload_n 3, 1), (291, .if_icmp .ge 22, 3), (294, .aload_n 0, 1), (295, .aload_n 0, 1), (296, .getfield 34, 3), (299, .iload 8, 2), (301, .iaload, 1), (302, .iconst 4, 1), (303, .iconst 1, 1), (304, .invokevirtual 66, 3), (307, .iinc 8 1, 3), (310, .goto (-22), 3), (313, .lload 4, 2), (315, .lstore 8, 2), (317, .lload 6, 2), (319, .lstore 10, 2), (321, .lload 10, 2), (323, .lconst 0, 1), (324, .lcmp, 1), (325, .ifCond .eq 21, 3), (328, .lload 8, 2), (330, .lload 10, 2), (332, .lrem, 1), (333, .lstore 12, 2), (335, .lload 10, 2), (337, .lstore 8, 2), (339, .lload 12, 2), (341, .lstore 10, 2), (343, .goto (-22), 3), (346, .iload_n 2, 1), (347, .ifCond .ne 11, 3), (350, .lload 4, 2), (352, .lload 8, 2), (354, .ldiv, 1), (355, .goto 8, 3), (358, .lload 6, 2), (360, .lload 8, 2), (362, .ldiv, 1), (363, .lreturn, 1)]
def zm_t178 : List (Nat × Instr × Nat) := [(0, .aload_n 0, 1), (1, .iload_n 1, 1), (2, .invokevirtual 77, 3), (5, .ifCond .ne 9, 3), (8, .aload_n 0, 1), (9, .iconst 1, 1), (10, .invokevirtual 62, 3), (13, .ireturn, 1), (14, .iconst (-1), 1), (15, .istore_n 2, 1), (16, .iconst 0, 1), (17, .istore_n 3, 1), (18, .iconst 0, 1), (19, .istore 4, 2), (21, .iload 4, 2), (23, .aload_n 0, 1), (24, .getfield 7, 3), (27, .iconst 0, 1), (28, .iaload, 1), (29, .if_icmp .ge 84, 3), (32, .aload_n 0, 1), (33, .iload 4, 2), (35, .iload_n 1, 1), (36, .invokevirtual 194, 3), (39, .ifCond .eq 68, 3), (42, .aload_n 0, 1), (43, .iload 4, 2), (45, .iconst 2, 1), (46, .invokevirtual 70, 3), (49, .iload_n 1, 1), (50, .if_icmp .ne 7, 3), (53, .iconst 2, 1), (54, .goto 4, 3), (57, .iconst 3, 1), (58, .istore 5, 2), (60, .aload_n 0, 1), (61, .iload 4, 2), (63, .iload 5, 2), (65, .iconst (-1), 1), (66, .invokevirtual 66, 3), (69, .aload_n 0, 1), (70, .invokevirtual 222, 3), (73, .aload_n 0, 1), (74, .iload 4, 2), (76, .iload 5, 2), (78, .iload_n 1, 1), (79, .invokevirtual 66, 3), (82, .iload_n 2, 1), (83, .iconst (-1), 1), (84, .if_icmp .eq 13, 3), (87, .aload_n 0, 1), (88, .getfield 31, 3), (91, .iload_n 1, 1), (92, .iaload, 1), (93, .iload_n 3, 1), (94, .if_icmp .ge 13, 3), (97, .iload 4, 2), (99, .istore_n 2, 1), (100, .aload_n 0, 1), (101, .getfield 31, 3), (104, .iload_n 1, 1), (105, .iaload, 1), (106, .istore_n 3, 1), (107, .iinc 4 1, 3), (110, .goto (-89), 3), (113, .iload_n 2, 1), (114, .iconst (-1), 1), (115, .if_icmp .ne 11, 3), (118, .aload_n 0, 1), (119, .iconst 2, 1), (120, .invokevirtual 62, 3), (123, .goto 4, 3), (126, .iload_n 2, 1), (127, .ireturn, 1)]
def zm_t179 : List (Nat × Instr × Nat) := [(0, .aload_n 0, 1), (1, .iload_n 1, 1), (2, .invokevirtual 216, 3), (5, .istore_n 2, 1), (6, .iload_n 2, 1), (7, .ifCond .le 9, 3), (10, .aload_n 0, 1), (11, .iload_n 2, 1), (12, .invokevirtual 62, 3), (15, .ireturn, 1), (16, .aload_n 0, 1), (17, .iload_n 1, 1), (18, .iconst 0, 1), (19, .invokevirtual 175, 3), (22, .istore_n 3, 1), (23, .aload_n 0, 1), (24, .iload_n 3, 1), (25, .iconst 2, 1), (26, .invokevirtual 70, 3), (29, .iconst (-1), 1), (30, .if_icmp .eq 9, 3), (33, .aload_n 0, 1), (34, .iconst 3, 1), (35, .invokevirtual 62, 3), (38, .ireturn, 1), (39, .aload_n 0, 1), (40, .iload_n 3, 1), (41, .invokevirtual 80, 3), (44, .istore 4, 2), (46, .iconst (-1), 1), (47, .istore 5, 2), (49, .iconst 0, 1), (50, .istore 6, 2), (52, .iconst 0, 1), (53, .istore 7, 2), (55, .iload 7, 2), (57, .aload_n 0, 1), (58, .getfield 7, 3), (61, .iconst 0, 1), (62, .iaload, 1), (63, .if_icmp .ge 81, 3), (66, .iload 7, 2), (68, .iload_n 3, 1), (69, .if_icmp .eq 69, 3), (72, .iload 4, 2), (74, .iload 7, 2), (76, .ishr, 1), (77, .iconst 1, 1), (78, .iand, 1), (79, .ifCond .ne 59, 3), (82, .aload_n 0, 1), (83, .iload_n 3, 1), (84, .iconst 3, 1), (85, .invokevirtual 70, 3), (88, .iload 7, 2), (90, .if_icmp .eq 48, 3), (93, .aload_n 0, 1), (94, .iload_n 3, 1), (95, .iconst 2, 1), (96, .iload 7, 2), (98, .invokevirtual 66, 3), (101, .aload_n 0, 1), (102, .iload_n 1, 1), (103, .invokevirtual 213, 3), (106, .aload_n 0, 1), (107, .iload_n 3, 1), (108, .iconst 2, 1), (109, .iconst (-1), 1), (110, .invokevirtual 66, 3), (113, .iload 5, 2), (115, .iconst (-1), 1), (116, .if_icmp .eq 12, 3), (119, .aload_n 0, 1), (120, .getfield 142, 3), (123, .iload 6, 2), (125, .if_icmp .ge 13, 3), (128, .iload 7, 2), (130, .istore 5, 2), (132, .aload_n 0, 1), (133, .getfield 142, 3), (136, .istore 6, 2), (138, .iinc 7 1, 3), (141, .goto (-86), 3), (144, .iload 5, 2), (146, .iconst (-1), 1), (147, .if_icmp .ne 11, 3), (150, .aload_n 0, 1), (151, .iconst 2, 1), (152, .invokevirtual 62, 3), (155, .goto 5, 3), (158, .iload 5, 2), (160, .ireturn, 1)]
def zm_t180 : List (Nat × Instr × Nat) := [(0, .aload_n 0, 1), (1, .invokevirtual 222, 3), (4, .aload_n 0, 1), (5, .getfield 142, 3), (8, .ireturn, 1)]
def zm_t181 : List (Nat × Instr × Nat) := [(0, .aload_n 0, 1), (1, .getfield 227, 3), (4, .bipush 30, 2), (6, .if_icmp .ge 23, 3), (9, .aload_n 0, 1), (10, .getfield 37, 3), (13, .aload_n 0, 1), (14, .getfield 227, 3), (17, .iload_n 1, 1), (18, .iastore, 1), (19, .aload_n 0, 1), (20, .dup, 1), (21, .getfield 227, 3), (24, .iconst 1, 1), (25, .iadd, 1), (26, .putfield 227, 3), (29, .return_, 1)]
def zm_t182 : List (Nat × Instr × Nat) := [(0, .iload_n 0, 1), (1, .iconst 4, 1), (2, .if_icmp .ne 7, 3), (5, .iconst 1, 1), (6, .goto 13, 3), (9, .iload_n 0, 1), (10, .iconst 5, 1), (11, .if_icmp .ne 7, 3), (14, .iconst 3, 1), (15, .goto 4, 3), (18, .iconst 0, 1), (19, .ireturn, 1)]
def zm_t183 : List (Nat × Instr × Nat) := [(0, .aload_n 0, 1), (1, .aload_n 0, 1), (2, .getfield 230, 3), (5, .iconst 0, 1), (6, .invokevirtual 70, 3), (9, .ireturn, 1)]
def zm_t184 : List (Nat × Instr × Nat) := [(0, .aload_n 0, 1), (1, .aload_n 0, 1), (2, .getfield 230, 3), (5, .iconst 1, 1), (6, .invokevirtual 70, 3), (9, .ireturn, 1)]
def zm_t185 : List (Nat × Instr × Nat) := [(0, .iload_n 1, 1), (1, .tableswitch 102 0 6 #[43, 56, 102, 102, 75, 102, 93], 43), (44, .aload_n 0, 1), (45, .bipush 10, 2), (47, .invokevirtual 233, 3), (50, .iload_n 2, 1), (51, .aload_n 0, 1), (52, .getfield 230, 3), (55, .iadd, 1), (56, .ireturn, 1), (57, .aload_n 0, 1), (58, .bipush 20, 2), (60, .invokevirtual 233, 3), (63, .aload_n 0, 1), (64, .iconst 1, 1), (65, .invokestatic 236, 3), (68, .iload_n 2, 1), (69, .invokevirtual 239, 3), (72, .bipush 6, 2), (74, .isub, 1), (75, .ireturn, 1), (76, .aload_n 0, 1), (77, .bipush 50, 2), (79, .invokevirtual 233, 3), (82, .aload_n 0, 1), (83, .iconst 4, 1), (84, .invokestatic 236, 3), (87, .iload_n 2, 1), (88, .invokevirtual 239, 3), (91, .iconst 3, 1), (92, .imul, 1), (93, .ireturn, 1), (94, .aload_n 0, 1), (95, .bipush 70, 2), (97, .invokevirtual 233, 3), (100, .bipush 7, 2), (102, .ireturn, 1), (103, .aload_n 0, 1), (104, .iload_n 1, 1), (105, .invokestatic 236, 3), (108, .iload_n 2, 1), (109, .invokevirtual 239, 3), (112, .ireturn, 1)]
def zm_t186 : List (Nat × Instr × Nat) := [(0, .iload_n 1, 1), (1, .tableswitch 119 0 6 #[43, 119, 61, 119, 119, 79, 97], 43), (44, .aload_n 0, 1), (45, .bipush 11, 2), (47, .invokevirtual 233, 3), (50, .aload_n 0, 1), (51, .aload_n 0, 1), (52, .invokevirtual 242, 3), (55, .iload_n 2, 1), (56, .invokevirtual 239, 3), (59, .iconst 2, 1), (60, .imul, 1), (61, .ireturn, 1), (62, .aload_n 0, 1), (63, .bipush 30, 2), (65, .invokevirtual 233, 3), (68, .iconst 0, 1), (69, .aload_n 0, 1), (70, .iconst 2, 1), (71, .invokestatic 236, 3), (74, .iload_n 2, 1), (75, .invokevirtual 245, 3), (78, .isub, 1), (79, .ireturn, 1), (80, .aload_n 0, 1), (81, .bipush 60, 2), (83, .invokevirtual 233, 3), (86, .aload_n 0, 1), (87, .iconst 5, 1), (88, .invokestatic 236, 3), (91, .iload_n 2, 1), (92, .iconst 1, 1), (93, .iadd, 1), (94, .invokevirtual 245, 3), (97, .ireturn, 1), (98, .aload_n 0, 1), (99, .bipush 71, 2), (101, .invokevirtual 233, 3), (104, .aload_n 0, 1), (105, .bipush 6, 2), (107, .invokestatic 236, 3), (110, .iload_n 2, 1), (111, .invokevirtual 245, 3), (114, .aload_n 0, 1), (115, .invokevirtual 248, 3), (118, .iadd, 1), (119, .ireturn, 1), (120, .aload_n 0, 1), (121, .iload_n 1, 1), (122, .invokestatic 236, 3), (125, .iload_n 2, 1), (126, .invokevirtual 245, 3), (129, .ireturn, 1)]
def zm_t187 : List (Nat × Instr × Nat) := [(0, .iload_n 1, 1), (1, .tableswitch 95 0 4 #[35, 95, 95, 56, 74], 35), (36, .aload_n 0, 1), (37, .bipush 12, 2), (39, .invokevirtual 233, 3), (42, .aload_n 0, 1), (43, .aload_n 0, 1), (44, .invokevirtual 242, 3), (47, .iload_n 2, 1), (48, .invokevirtual 245, 3), (51, .aload_n 0, 1), (52, .invokevirtual 248, 3), (55, .isub, 1), (56, .ireturn, 1), (57, .aload_n 0, 1), (58, .bipush 40, 2), (60, .invokevirtual 233, 3), (63, .aload_n 0, 1), (64, .iconst 3, 1), (65, .invokestatic 236, 3), (68, .iload_n 2, 1), (69, .iconst 2, 1), (70, .idiv, 1), (71, .invokevirtual 251, 3), (74, .ireturn, 1), (75, .aload_n 0, 1), (76, .bipush 51, 2), (78, .invokevirtual 233, 3), (81, .aload_n 0, 1), (82, .iconst 4, 1), (83, .invokestatic 236, 3), (86, .iload_n 2, 1), (87, .invokevirtual 251, 3), (90, .aload_n 0, 1), (91, .getfield 230, 3), (94, .ixor, 1), (95, .ireturn, 1), (96, .aload_n 0, 1), (97, .iload_n 1, 1), (98, .invokestatic 236, 3), (101, .iload_n 2, 1), (102, .invokevirtual 251, 3), (105, .ireturn, 1)]
def zm_t188 : List (Nat × Instr × Nat) := [(0, .iload_n 1, 1), (1, .lookupswitch 119 #[(0, 27), (1, 78)], 27), (28, .aload_n 0, 1), (29, .bipush 13, 2), (31, .invokevirtual 233, 3), (34, .aload_n 0, 1), (35, .invokevirtual 248, 3), (38, .aload_n 0, 1), (39, .getfield 230, 3), (42, .isub, 1), (43, .istore_n 3, 1), (44, .aload_n 0, 1), (45, .iload_n 3, 1), (46, .ifCond .ne 7, 3), (49, .iconst 1, 1), (50, .goto 4, 3), (53, .iconst 0, 1), (54, .putfield 254, 3), (57, .iload_n 3, 1), (58, .ifCond .ne 7, 3), (61, .iconst 0, 1), (62, .goto 16, 3), (65, .iload_n 3, 1), (66, .iconst (-1), 1), (67, .if_icmp .ne 8, 3), (70, .iload_n 2, 1), (71, .ineg, 1), (72, .goto 6, 3), (75, .iload_n 2, 1), (76, .iload_n 3, 1), (77, .idiv, 1), (78, .ireturn, 1), (79, .aload_n 0, 1), (80, .bipush 21, 2), (82, .invokevirtual 233, 3), (85, .aload_n 0, 1), (86, .iconst 1, 1), (87, .invokestatic 236, 3), (90, .iload_n 2, 1), (91, .invokevirtual 258, 3), (94, .istore 4, 2), (96, .aload_n 0, 1), (97, .getfield 254, 3), (100, .ifCond .eq 7, 3), (103, .iconst 0, 1), (104, .goto 15, 3), (107, .iload 4, 2), (109, .aload_n 0, 1), (110, .aload_n 0, 1), (111, .invokevirtual 242, 3), (114, .iconst 1, 1), (115, .invokevirtual 245, 3), (118, .iadd, 1), (119, .ireturn, 1), (120, .aload_n 0, 1), (121, .iload_n 1, 1), (122, .invokestatic 236, 3), (125, .iload_n 2, 1), (126, .invokevirtual 258, 3), (129, .ireturn, 1)]
def zm_t189 : List (Nat × Instr × Nat) := [(0, .aload_n 0, 1), (1, .iload_n 1, 1), (2, .invokevirtual 77, 3), (5, .ifCond .eq 12, 3), (8, .iload_n 2, 1), (9, .iconst 0, 1), (10, .iconst 3, 1), (11, .invokestatic 53, 3), (14, .ifCond .ne 9, 3), (17, .aload_n 0, 1), (18, .iconst 1, 1), (19, .invokevirtual 62, 3), (22, .ireturn, 1), (23, .aload_n 0, 1), (24, .iconst 0, 1), (25, .putfield 227, 3), (28, .aload_n 0, 1), (29, .iload_n 1, 1), (30, .putfield 230, 3), (33, .aload_n 0, 1), (34, .iconst 0, 1), (35, .putfield 254, 3), (38, .aload_n 0, 1), (39, .invokevirtual 242, 3), (42, .istore 4, 2), (44, .iload_n 2, 1), (45, .ifCond .ne 13, 3), (48, .aload_n 0, 1), (49, .iload 4, 2), (51, .iload_n 3, 1), (52, .invokevirtual 239, 3), (55, .goto 40, 3), (58, .iload_n 2, 1), (59, .iconst 1, 1), (60, .if_icmp .ne 13, 3), (63, .aload_n 0, 1), (64, .iload 4, 2), (66, .iload_n 3, 1), (67, .invokevirtual 245, 3), (70, .goto 25, 3), (73, .iload_n 2, 1), (74, .iconst 2, 1), (75, .if_icmp .ne 13, 3), (78, .aload_n 0, 1), (79, .iload 4, 2), (81, .iload_n 3, 1), (82, .invokevirtual 251, 3), (85, .goto 10, 3), (88, .aload_n 0, 1), (89, .iload 4, 2), (91, .iload_n 3, 1), (92, .invokevirtual 258, 3), (95, .istore 5, 2), (97, .aload_n 0, 1), (98, .getfield 254, 3), (101, .ifCond .eq 12, 3), (104, .aload_n 0, 1), (105, .bipush 6, 2), (107, .invokevirtual 62, 3), (110, .goto 5, 3), (113, .iload 5, 2), (115, .ireturn, 1)]
def zm_t190 : List (Nat × Instr × Nat) := [(0, .iload_n 1, 1), (1, .iconst 0, 1), (2, .aload_n 0, 1), (3, .getfield 227, 3), (6, .iconst 1, 1), (7, .isub, 1), (8, .invokestatic 53, 3), (11, .ifCond .eq 12, 3), (14, .aload_n 0, 1), (15, .getfield 37, 3), (18, .iload_n 1, 1), (19, .iaload, 1), (20, .goto 8, 3), (23, .aload_n 0, 1), (24, .iconst 2, 1), (25, .invokevirtual 62, 3), (28, .ireturn, 1)]
def zm_t191 : List (Nat × Instr × Nat) := [(0, .iload_n 0, 1), (1, .iconst 0, 1), (2, .iconst 3, 1), (3, .invokestatic 53, 3), (6, .ireturn, 1)]
def zm_t192 : List (Nat × Instr × Nat) := [(0, .iload_n 1, 1), (1, .invokestatic 261, 3), (4, .ifCond .eq 25, 3), (7, .iload_n 2, 1), (8, .ifCond .eq 27, 3), (11, .iload_n 2, 1), (12, .bipush 8, 2), (14, .if_icmp .eq 21, 3), (17, .iload_n 2, 1), (18, .bipush 16, 2), (20, .if_icmp .eq 15, 3), (23, .iload_n 2, 1), (24, .bipush 32, 2), (26, .if_icmp .eq 9, 3), (29, .aload_n 0, 1), (30, .iconst 1, 1), (31, .invokevirtual 62, 3), (34, .ireturn, 1), (35, .iload_n 2, 1), (36, .ifCond .eq 13, 3), (39, .iload_n 3, 1), (40, .ifCond .ge 9, 3), (43, .aload_n 0, 1), (44, .iconst 3, 1), (45, .invokevirtual 62, 3), (48, .ireturn, 1), (49, .iload_n 2, 1), (50, .ifCond .eq 15, 3), (53, .iload_n 3, 1), (54, .bipush 24, 2), (56, .if_icmp .le 9, 3), (59, .aload_n 0, 1), (60, .iconst 1, 1), (61, .invokevirtual 62, 3), (64, .ireturn, 1), (65, .aload_n 0, 1), (66, .getfield 40, 3), (69, .iload_n 1, 1), (70, .iload_n 2, 1), (71, .iastore, 1), (72, .aload_n 0, 1), (73, .getfield 43, 3), (76, .iload_n 1, 1), (77, .iload_n 2, 1), (78, .ifCond .ne 7, 3), (81, .iconst 0, 1), (82, .goto 4, 3), (85, .iload_n 3, 1), (86, .iastore, 1), (87, .iconst 0, 1), (88, .istore 4, 2), (90, .iload 4, 2), (92, .bipush 24, 2), (94, .if_icmp .ge 22, 3), (97, .aload_n 0, 1), (98, .getfield 46, 3), (101, .bipush 24, 2), (103, .iload_n 1, 1), (104, .imul, 1), (105, .iload 4, 2), (107, .iadd, 1), (108, .iconst 0, 1), (109, .iastore, 1), (110, .iinc 4 1, 3), (113, .goto (-23), 3), (116, .iconst 1, 1), (117, .ireturn, 1)]
def zm_t193 : List (Nat × Instr × Nat) := [(0, .iload_n 1, 1), (1, .invokestatic 261, 3), (4, .ifCond .ne 9, 3), (7, .aload_n 0, 1), (8, .iconst 1, 1), (9, .invokevirtual 62, 3), (12, .ireturn, 1), (13, .aload_n 0, 1), (14, .getfield 40, 3), (17, .iload_n 1, 1), (18, .iaload, 1), (19, .ifCond .ne 9, 3), (22, .aload_n 0, 1), (23, .iconst 2, 1), (24, .invokevirtual 62, 3), (27, .ireturn, 1), (28, .iload_n 2, 1), (29, .iconst 0, 1), (30, .aload_n 0, 1), (31, .getfield 43, 3), (34, .iload_n 1, 1), (35, .iaload, 1), (36, .iconst 1, 1), (37, .isub, 1), (38, .invokestatic 53, 3), (41, .ifCond .ne 9, 3), (44, .aload_n 0, 1), (45, .iconst 1, 1), (46, .invokevirtual 62, 3), (49, .ireturn, 1), (50, .bipush 32, 2), (52, .aload_n 0, 1), (53, .getfield 40, 3), (56, .iload_n 1, 1), (57, .iaload, 1), (58, .isub, 1), (59, .istore 4, 2), (61, .aload_n 0, 1), (62, .getfield 46, 3), (65, .bipush 24, 2), (67, .iload_n 1, 1), (68, .imul, 1), (69, .iload_n 2, 1), (70, .iadd, 1), (71, .iload_n 3, 1), (72, .iload 4, 2), (74, .ishl, 1), (75, .iload 4, 2), (77, .ishr, 1), (78, .iastore, 1), (79, .iconst 1, 1), (80, .ireturn, 1)]
def zm_t194 : List (Nat × Instr × Nat) := [(0, .iload_n 1, 1), (1, .invokestatic 261, 3), (4, .ifCond .eq 10, 3), (7, .iload_n 3, 1), (8, .invokestatic 261, 3), (11, .ifCond .ne 9, 3), (14, .aload_n 0, 1), (15, .iconst 1, 1), (16, .invokevirtual 62, 3), (19, .ireturn, 1), (20, .aload_n 0, 1), (21, .getfield 40, 3), (24, .iload_n 1, 1), (25, .iaload, 1), (26, .ifCond .eq 12, 3), (29, .aload_n 0, 1), (30, .getfield 40, 3), (33, .iload_n 3, 1), (34, .iaload, 1), (35, .ifCond .ne 9, 3), (38, .aload_n 0, 1), (39, .iconst 2, 1), (40, .invokevirtual 62, 3), (43, .ireturn, 1), (44, .aload_n 0, 1), (45, .getfield 40, 3), (48, .iload_n 1, 1), (49, .iaload, 1), (50, .aload_n 0, 1), (51, .getfield 40, 3), (54, .iload_n 3, 1), (55, .iaload, 1), (56, .if_icmp .eq 9, 3), (59, .aload_n 0, 1), (60, .iconst 5, 1), (61, .invokevirtual 62, 3), (64, .ireturn, 1), (65, .iload 5, 2), (67, .ifCond .lt 39, 3), (70, .iload_n 2, 1), (71, .ifCond .lt 35, 3), (74, .iload 4, 2), (76, .ifCond .lt 30, 3), (79, .iload_n 2, 1), (80, .aload_n 0, 1), (81, .getfield 43, 3), (84, .iload_n 1, 1), (85, .iaload, 1), (86, .iload 5, 2), (88, .isub, 1), (89, .if_icmp .gt 17, 3), (92, .iload 4, 2), (94, .aload_n 0, 1), (95, .getfield 43, 3), (98, .iload_n 3, 1), (99, .iaload, 1), (100, .iload 5, 2), (102, .isub, 1), (103, .if_icmp .le 9, 3), (106, .aload_n 0, 1), (107, .iconst 1, 1), (108, .invokevirtual 62, 3), (111, .ireturn, 1), (112, .iconst 0, 1), (113, .istore 6, 2), (115, .iload 6, 2), (117, .iload 5, 2), (119, .if_icmp .ge 30, 3), (122, .aload_n 0, 1), (123, .getfield 49, 3), (126, .iload 6, 2), (128, .aload_n 0, 1), (129, .getfield 46, 3), (132, .bipush 24, 2), (134, .iload_n 1, 1), (135, .imul, 1), (136, .iload_n 2, 1), (137, .iadd, 1), (138, .iload 6, 2), (140, .iadd, 1), (141, .iaload, 1), (142, .iastore, 1), (143, .iinc 6 1, 3), (146, .goto (-31), 3), (149, .iconst 0, 1), (150, .istore 6, 2), (152, .iload 6, 2), (154, .iload 5, 2), (156, .if_icmp .ge 31, 3), (159, .aload_n 0, 1), (160, .getfield 46, 3), (163, .bipush 24, 2), (165, .iload_n 3, 1), (166, .imul, 1), (167, .iload 4, 2), (169, .iadd, 1), (170, .iload 6, 2), (172, .iadd, 1), (173, .aload_n 0, 1), (174, .getfield 49, 3), (177, .iload 6, 2), (179, .iaload, 1), (180, .iastore, 1), (181, .iinc 6 1, 3), (184, .goto (-32), 3), (187, .iload 5, 2), (189, .ireturn, 1)]
def zm_t195 : List (Nat × Instr × Nat) := [(0, .iload_n 1, 1), (1, .invokestatic 261, 3), (4, .ifCond .ne 7, 3), (7, .iconst 1, 1), (8, .goto 17, 3), (11, .aload_n 0, 1), (12, .getfield 40, 3), (15, .iload_n 1, 1), (16, .iaload, 1), (17, .ifCond .ne 7, 3), (20, .iconst 2, 1), (21, .goto 4, 3), (24, .iconst 0, 1), (25, .ireturn, 1)]
def zm_t196 : List (Nat × Instr × Nat) := [(0, .aload_n 0, 1), (1, .iload_n 1, 1), (2, .invokevirtual 264, 3), (5, .istore_n 2, 1), (6, .iload_n 2, 1), (7, .ifCond .le 9, 3), (10, .aload_n 0, 1), (11, .iload_n 2, 1), (12, .invokevirtual 62, 3), (15, .ireturn, 1), (16, .iconst 0, 1), (17, .istore_n 3, 1), (18, .bipush 24, 2), (20, .iload_n 1, 1), (21, .imul, 1), (22, .istore 4, 2), (24, .iconst 3, 1), (25, .iload_n 3, 1), (26, .imul, 1), (27, .iconst 2, 1), (28, .iadd, 1), (29, .aload_n 0, 1), (30, .getfield 43, 3), (33, .iload_n 1, 1), (34, .iaload, 1), (35, .if_icmp .ge 105, 3), (38, .aload_n 0, 1), (39, .getfield 7, 3), (42, .iconst 1, 1), (43, .iaload, 1), (44, .bipush 10, 2), (46, .if_icmp .ge 94, 3), (49, .aload_n 0, 1), (50, .aload_n 0, 1), (51, .getfield 46, 3), (54, .iload 4, 2), (56, .iconst 3, 1), (57, .iload_n 3, 1), (58, .imul, 1), (59, .iadd, 1), (60, .iaload, 1), (61, .aload_n 0, 1), (62, .getfield 46, 3), (65, .iload 4, 2), (67, .iconst 3, 1), (68, .iload_n 3, 1), (69, .imul, 1), (70, .iadd, 1), (71, .iconst 1, 1), (72, .iadd, 1), (73, .iaload, 1), (74, .aload_n 0, 1), (75, .getfield 46, 3), (78, .iload 4, 2), (80, .iconst 3, 1), (81, .iload_n 3, 1), (82, .imul, 1), (83, .iadd, 1), (84, .iconst 2, 1), (85, .iadd, 1), (86, .iaload, 1), (87, .invokevirtual 181, 3), (90, .ifCond .eq 50, 3), (93, .aload_n 0, 1), (94, .aload_n 0, 1), (95, .getfield 46, 3), (98, .iload 4, 2), (100, .iconst 3, 1), (101, .iload_n 3, 1), (102, .imul, 1), (103, .iadd, 1), (104, .iaload, 1), (105, .aload_n 0, 1), (106, .getfield 46, 3), (109, .iload 4, 2), (111, .iconst 3, 1), (112, .iload_n 3, 1), (113, .imul, 1), (114, .iadd, 1), (115, .iconst 1, 1), (116, .iadd, 1), (117, .iaload, 1), (118, .aload_n 0, 1), (119, .getfield 46, 3), (122, .iload 4, 2), (124, .iconst 3, 1), (125, .iload_n 3, 1), (126, .imul, 1), (127, .iadd, 1), (128, .iconst 2, 1), (129, .iadd, 1), (130, .iaload, 1), (131, .invokevirtual 184, 3), (134, .iinc 3 1, 3), (137, .goto (-113), 3), (140, .iload_n 3, 1), (141, .ireturn, 1)]
def zm_t197 : List (Nat × Instr × Nat) := [(0, .iload_n 1, 1), (1, .invokestatic 261, 3), (4, .ifCond .eq 11, 3), (7, .aload_n 0, 1), (8, .iload_n 2, 1), (9, .invokevirtual 187, 3), (12, .ifCond .ne 9, 3), (15, .aload_n 0, 1), (16, .iconst 1, 1), (17, .invokevirtual 62, 3), (20, .ireturn, 1), (21, .aload_n 0, 1), (22, .getfield 40, 3), (25, .iload_n 1, 1), (26, .iaload, 1), (27, .ifCond .ne 9, 3), (30, .aload_n 0, 1), (31, .iconst 2, 1), (32, .invokevirtual 62, 3), (35, .ireturn, 1), (36, .aload_n 0, 1), (37, .iload_n 2, 1), (38, .iconst 3, 1), (39, .invokevirtual 175, 3), (42, .ifCond .ne 9, 3), (45, .aload_n 0, 1), (46, .iconst 3, 1), (47, .invokevirtual 62, 3), (50, .ireturn, 1), (51, .aload_n 0, 1), (52, .getfield 7, 3), (55, .aload_n 0, 1), (56, .getfield 16, 3), (59, .invokestatic 209, 3), (62, .aload_n 0, 1), (63, .invokevirtual 190, 3), (66, .aload_n 0, 1), (67, .iload_n 2, 1), (68, .invokevirtual 178, 3), (71, .iconst 0, 1), (72, .istore_n 3, 1), (73, .iload_n 3, 1), (74, .aload_n 0, 1), (75, .getfield 7, 3), (78, .iconst 0, 1), (79, .iaload, 1), (80, .if_icmp .ge 39, 3), (83, .iload_n 3, 1), (84, .aload_n 0, 1), (85, .getfield 43, 3), (88, .iload_n 1, 1), (89, .iaload, 1), (90, .if_icmp .ge 29, 3), (93, .aload_n 0, 1), (94, .getfield 46, 3), (97, .bipush 24, 2), (99, .iload_n 1, 1), (100, .imul, 1), (101, .iload_n 3, 1), (102, .iadd, 1), (103, .iaload, 1), (104, .aload_n 0, 1), (105, .iload_n 3, 1), (106, .iconst 5, 1), (107, .invokevirtual 70, 3), (110, .if_icmp .ne 9, 3), (113, .iinc 3 1, 3), (116, .goto (-43), 3), (119, .aload_n 0, 1), (120, .getfield 16, 3), (123, .aload_n 0, 1), (124, .getfield 7, 3), (127, .invokestatic 209, 3), (130, .iload_n 3, 1), (131, .ireturn, 1)]
def zm_t198 : List (Nat × Instr × Nat) := [(0, .aload_n 0, 1), (1, .getfield 7, 3), (4, .aload_n 0, 1), (5, .getfield 13, 3), (8, .invokestatic 209, 3), (11, .aload_n 0, 1), (12, .dup, 1), (13, .getfield 267, 3), (16, .iconst 1, 1), (17, .iadd, 1), (18, .putfield 267, 3), (21, .aload_n 0, 1), (22, .getfield 267, 3), (25, .ireturn, 1)]
def zm_t199 : List (Nat × Instr × Nat) := [(0, .aload_n 0, 1), (1, .getfield 267, 3), (4, .ifCond .ne 9, 3), (7, .aload_n 0, 1), (8, .iconst 2, 1), (9, .invokevirtual 62, 3), (12, .ireturn, 1), (13, .aload_n 0, 1), (14, .getfield 13, 3), (17, .aload_n 0, 1), (18, .getfield 7, 3), (21, .invokestatic 209, 3), (24, .aload_n 0, 1), (25, .getfield 7, 3), (28, .iconst 2, 1), (29, .iaload, 1), (30, .ireturn, 1)]
def zm_t200 : List (Nat × Instr × Nat) := [(0, .aload_n 0, 1), (1, .getfield 7, 3), (4, .iconst 5, 1), (5, .iaload, 1), (6, .bipush 24, 2), (8, .if_icmp .ne 9, 3), (11, .aload_n 0, 1), (12, .iconst 4, 1), (13, .invokevirtual 62, 3), (16, .ireturn, 1), (17, .aload_n 0, 1), (18, .getfield 7, 3), (21, .sipush 456, 3), (24, .aload_n 0, 1), (25, .getfield 7, 3), (28, .iconst 5, 1), (29, .iaload, 1), (30, .iadd, 1), (31, .iload_n 1, 1), (32, .iastore, 1), (33, .aload_n 0, 1), (34, .getfield 7, 3), (37, .iconst 5, 1), (38, .dup2, 1), (39, .iaload, 1), (40, .iconst 1, 1), (41, .iadd, 1), (42, .iastore, 1), (43, .aload_n 0, 1), (44, .getfield 7, 3), (47, .iconst 5, 1), (48, .iaload, 1), (49, .ireturn, 1)]
def zm_t201 : List (Nat × Instr × Nat) := [(0, .aload_n 0, 1), (1, .getfield 7, 3), (4, .iconst 5, 1), (5, .iaload, 1), (6, .istore_n 2, 1), (7, .aload_n 0, 1), (8, .getfield 7, 3), (11, .iconst 5, 1), (12, .iconst 0, 1), (13, .iastore, 1), (14, .aload_n 0, 1), (15, .iload_n 1, 1), (16, .invokevirtual 216, 3), (19, .istore_n 3, 1), (20, .iload_n 3, 1), (21, .ifCond .le 9, 3), (24, .aload_n 0, 1), (25, .iload_n 3, 1), (26, .invokevirtual 62, 3), (29, .ireturn, 1), (30, .aload_n 0, 1), (31, .iload_n 1, 1), (32, .invokevirtual 213, 3), (35, .iconst 0, 1), (36, .istore 4, 2), (38, .iconst 1, 1), (39, .istore 5, 2), (41, .iconst 0, 1), (42, .istore 6, 2), (44, .iload 6, 2), (46, .aload_n 0, 1), (47, .getfield 7, 3), (50, .iconst 0, 1), (51, .iaload, 1), (52, .if_icmp .ge 68, 3), (55, .iload 5, 2), (57, .ifCond .eq 63, 3), (60, .aload_n 0, 1), (61, .getfield 31, 3), (64, .iload 6, 2), (66, .iaload, 1), (67, .ifCond .le 47, 3), (70, .iload 4, 2), (72, .iload_n 2, 1), (73, .if_icmp .ge 23, 3), (76, .aload_n 0, 1), (77, .getfield 7, 3), (80, .sipush 456, 3), (83, .iload 4, 2), (85, .iadd, 1), (86, .iaload, 1), (87, .iload 6, 2), (89, .if_icmp .ne 7, 3), (92, .iconst 1, 1), (93, .goto 4, 3), (96, .iconst 0, 1), (97, .istore 5, 2), (99, .iload 4, 2), (101, .iload 5, 2), (103, .ifCond .eq 7, 3), (106, .iconst 1, 1), (107, .goto 4, 3), (110, .iconst 0, 1), (111, .iadd, 1), (112, .istore 4, 2), (114, .iinc 6 1, 3), (117, .goto (-73), 3), (120, .iload 5, 2), (122, .ifCond .eq 13, 3), (125, .iload 4, 2), (127, .iload_n 2, 1), (128, .if_icmp .ne 7, 3), (131, .iconst 0, 1), (132, .goto 7, 3), (135, .iconst 1, 1), (136, .iload 4, 2), (138, .iadd, 1), (139, .ireturn, 1)]
def zm_t202 : List (Nat × Instr × Nat) := [(0, .iconst 0, 1), (1, .istore 4, 2), (3, .iconst 0, 1), (4, .istore 5, 2), (6, .iload 5, 2), (8, .iload_n 3, 1), (9, .if_icmp .ge 25, 3), (12, .iload 4, 2), (14, .aload_n 0, 1), (15, .getfield 7, 3), (18, .iload_n 1, 1), (19, .iload_n 2, 1), (20, .iload 5, 2), (22, .imul, 1), (23, .iadd, 1), (24, .iaload, 1), (25, .iadd, 1), (26, .istore 4, 2), (28, .iinc 5 1, 3), (31, .goto (-25), 3), (34, .iload 4, 2), (36, .ireturn, 1)]
def zm_t203 : List (Nat × Instr × Nat) := [(0, .iload_n 1, 1), (1, .tableswitch 139 0 9 #[55, 62, 77, 84, 98, 105, 112, 119, 126, 131], 55), (56, .aload_n 0, 1), (57, .getfield 7, 3), (60, .iconst 0, 1), (61, .iaload, 1), (62, .ireturn, 1), (63, .aload_n 0, 1), (64, .bipush 14, 2), (66, .bipush 8, 2), (68, .aload_n 0, 1), (69, .getfield 7, 3), (72, .iconst 0, 1), (73, .iaload, 1), (74, .invokevirtual 270, 3), (77, .ireturn, 1), (78, .aload_n 0, 1), (79, .getfield 7, 3), (82, .iconst 1, 1), (83, .iaload, 1), (84, .ireturn, 1), (85, .aload_n 0, 1), (86, .bipush 109, 2), (88, .iconst 4, 1), (89, .aload_n 0, 1), (90, .getfield 7, 3), (93, .iconst 1, 1), (94, .iaload, 1), (95, .invokevirtual 270, 3), (98, .ireturn, 1), (99, .aload_n 0, 1), (100, .getfield 7, 3), (103, .iconst 2, 1), (104, .iaload, 1), (105, .ireturn, 1), (106, .aload_n 0, 1), (107, .getfield 7, 3), (110, .iconst 3, 1), (111, .iaload, 1), (112, .ireturn, 1), (113, .aload_n 0, 1), (114, .getfield 7, 3), (117, .iconst 4, 1), (118, .iaload, 1), (119, .ireturn, 1), (120, .aload_n 0, 1), (121, .getfield 7, 3), (124, .iconst 5, 1), (125, .iaload, 1), (126, .ireturn, 1), (127, .aload_n 0, 1), (128, .getfield 227, 3), (131, .ireturn, 1), (132, .aload_n 0, 1), (133, .getfield 7, 3), (136, .bipush 6, 2), (138, .iaload, 1), (139, .ireturn, 1), (140, .aload_n 0, 1), (141, .iconst 1, 1), (142, .invokevirtual 62, 3), (145, .ireturn, 1)]
def zm_t204 : List (Nat × Instr × Nat) := [(0, .iload_n 1, 1), (1, .iconst 1, 1), (2, .bipush 6, 2), (4, .invokestatic 53, 3), (7, .ifCond .eq 12, 3), (10, .aload_n 0, 1), (11, .getfield 19, 3), (14, .iload_n 1, 1), (15, .iaload, 1), (16, .goto 8, 3), (19, .aload_n 0, 1), (20, .iconst 1, 1), (21, .invokevirtual 62, 3), (24, .ireturn, 1)]
def zm_t205 : List (Nat × Instr × Nat) := [(0, .aload_n 0, 1), (1, .iload_n 1, 1), (2, .iconst 0, 1), (3, .invokevirtual 633, 3), (6, .ireturn, 1)]
def zm_t206 : List (Nat × Instr × Nat) := [(0, .aload_n 0, 1), (1, .invokevirtual 492, 3), (4, .ifCond .eq 19, 3), (7, .aload_n 0, 1), (8, .getfield 9, 3), (11, .iload_n 1, 1), (12, .iload_n 2, 1), (13, .aload_n 0, 1), (14, .invokevirtual 505, 3), (17, .invokestatic 637, 3), (20, .goto 16, 3), (23, .aload_n 0, 1), (24, .getfield 9, 3), (27, .iload_n 1, 1), (28, .iload_n 2, 1), (29, .aload_n 0, 1), (30, .invokevirtual 505, 3), (33, .invokestatic 640, 3), (36, .ireturn, 1)]
def zm_t207 : List (Nat × Instr × Nat) := [(0, .getstatic 38, 3), (3, .ifCond .eq 14, 3), (6, .aload_n 0, 1), (7, .getfield 15, 3), (10, .ifCond .ne 7, 3), (13, .iconst 1, 1), (14, .goto 4, 3), (17, .iconst 0, 1), (18, .ireturn, 1)]
def zm_t208 : List (Nat × Instr × Nat) := [(0, .aload_n 0, 1), (1, .getfield 9, 3), (4, .arraylength, 1), (5, .aload_n 0, 1), (6, .invokevirtual 335, 3), (9, .ishr, 1), (10, .ireturn, 1)]
def zm_t209 : List (Nat × Instr × Nat) := [(0, .getstatic 38, 3), (3, .ifCond .eq 10, 3), (6, .aload_n 0, 1), (7, .getfield 15, 3), (10, .goto 4, 3), (13, .iconst 1, 1), (14, .ireturn, 1)]
def zm_t210 : List (Nat × Instr × Nat) := [(0, .iload_n 0, 1), (1, .ifCond .lt 14, 3), (4, .iload_n 0, 1), (5, .sipush 255, 3), (8, .if_icmp .gt 7, 3), (11, .iconst 1, 1), (12, .goto 4, 3), (15, .iconst 0, 1), (16, .ireturn, 1)]
def zm_t211 : List (Nat × Instr × Nat) := [(0, .iload_n 1, 1), (1, .invokestatic 88, 3), (4, .ifCond .ne 5, 3), (7, .iconst (-1), 1), (8, .ireturn, 1), (9, .iload_n 2, 1), (10, .iconst 0, 1), (11, .invokestatic 92, 3), (14, .istore_n 2, 1), (15, .iload_n 3, 1), (16, .aload_n 0, 1), (17, .arraylength, 1), (18, .invokestatic 38, 3), (21, .istore_n 3, 1), (22, .iload_n 2, 1), (23, .iload_n 3, 1), (24, .if_icmp .lt 5, 3), (27, .iconst (-1), 1), (28, .ireturn, 1), (29, .aload_n 0, 1), (30, .iload_n 1, 1), (31, .iload_n 2, 1), (32, .iload_n 3, 1), (33, .invokestatic 95, 3), (36, .ireturn, 1)]
def zm_t212 : List (Nat × Instr × Nat) := [(0, .iload_n 1, 1), (1, .i2b, 1), (2, .istore 4, 2), (4, .iload_n 2, 1), (5, .istore 5, 2), (7, .iload 5, 2), (9, .iload_n 3, 1), (10, .if_icmp .ge 21, 3), (13, .aload_n 0, 1), (14, .iload 5, 2), (16, .baload, 1), (17, .iload 4, 2), (19, .if_icmp .ne 6, 3), (22, .iload 5, 2), (24, .ireturn, 1), (25, .iinc 5 1, 3), (28, .goto (-21), 3), (31, .iconst (-1), 1), (32, .ireturn, 1)]
def zm_t213 : List (Nat × Instr × Nat) := [(0, .iconst 0, 1), (1, .istore_n 2, 1), (2, .aload_n 0, 1), (3, .arraylength, 1), (4, .istore_n 3, 1), (5, .iload_n 2, 1), (6, .iload_n 3, 1), (7, .if_icmp .ge 13, 3), (10, .aload_n 0, 1), (11, .iload_n 2, 1), (12, .iload_n 1, 1), (13, .iastore, 1), (14, .iinc 2 1, 3), (17, .goto (-12), 3), (20, .return_, 1)]
def zm_tb : List (List (Nat × Instr × Nat)) := [zm_t0, zm_t1, zm_t2, zm_t3, zm_t4, zm_t5, zm_t6, zm_t7, zm_t8, zm_t9, zm_t10, zm_t11, zm_t12, zm_t13, zm_t14, zm_t15, zm_t16, zm_t17, zm_t18, zm_t19, zm_t20, zm_t21, zm_t22, zm_t23, zm_t24, zm_t25, zm_t26, zm_t27, zm_t28, zm_t29, zm_t30, zm_t31, zm_t32, zm_t33, zm_t34, zm_t35, zm_t36, zm_t37, zm_t38, zm_t39, zm_t40, zm_t41, zm_t42, zm_t43, zm_t44, zm_t45, zm_t46, zm_t47, zm_t48, zm_t49, zm_t50, zm_t51, zm_t52, zm_t53, zm_t54, zm_t55, zm_t56, zm_t57, zm_t58, zm_t59, zm_t60, zm_t61, zm_t62, zm_t63, zm_t64, zm_t65, zm_t66, zm_t67, zm_t68, zm_t69, zm_t70, zm_t71, zm_t72, zm_t73, zm_t74, zm_t75, zm_t76, zm_t77, zm_t78, zm_t79, zm_t80, zm_t81, zm_t82, zm_t83, zm_t84, zm_t85, zm_t86, zm_t87, zm_t88, zm_t89, zm_t90, zm_t91, zm_t92, zm_t93, zm_t94, zm_t95, zm_t96, zm_t97, zm_t98, zm_t99, zm_t100, zm_t101, zm_t102, zm_t103, zm_t104, zm_t105, zm_t106, zm_t107, zm_t108, zm_t109, zm_t110, zm_t111, zm_t112, zm_t113, zm_t114, zm_t115, zm_t116, zm_t117, zm_t118, zm_t119, zm_t120, zm_t121, zm_t122, zm_t123, zm_t124, zm_t125, zm_t126, zm_t127, zm_t128, zm_t129, zm_t130, zm_t131, zm_t132, zm_t133, zm_t134, zm_t135, zm_t136, zm_t137, zm_t138, zm_t139, zm_t140, zm_t141, zm_t142, zm_t143, zm_t144, zm_t145, zm_t146, zm_t147, zm_t148, zm_t149, zm_t150, zm_t151, zm_t152, zm_t153, zm_t154, zm_t155, zm_t156, zm_t157, zm_t158, zm_t159, zm_t160, zm_t161, zm_t162, zm_t163, zm_t164, zm_t165, zm_t166, zm_t167, zm_t168, zm_t169, zm_t170, zm_t171, zm_t172, zm_t173, zm_t174, zm_t175, zm_t176, zm_t177, zm_t178, zm_t179, zm_t180, zm_t181, zm_t182, zm_t183, zm_t184, zm_t185, zm_t186, zm_t187, zm_t188, zm_t189, zm_t190, zm_t191, zm_t192, zm_t193, zm_t194, zm_t195, zm_t196, zm_t197, zm_t198, zm_t199, zm_t200, zm_t201, zm_t202, zm_t203, zm_t204, zm_t205, zm_t206, zm_t207, zm_t208, zm_t209, zm_t210, zm_t211, zm_t212, zm_t213]
def zm_lk : List (Nat × Instr × Nat) → Nat → Option (Instr × Nat)
  | [], _ => none
  | e :: l, pc => bif Nat.beq e.1 pc then some e.2 else zm_lk l pc
def zm_at (y pc : Nat) : Option (Instr × Nat) := zm_lk (zm_tb.getD y []) pc
def zm_la {α : Type} : List (Nat × α) → Nat → Option α
  | [], _ => none
  | e :: l, k => bif Nat.beq e.1 k then some e.2 else zm_la l k
/-- fields by the pool: place, class, slot, place of the word -/
def zm_flT : List (List (Nat × Nat × Nat × Nat)) := [[(9, 0, 0, 180), (17, 0, 1, 183), (20, 0, 2, 185), (24, 0, 3, 189), (27, 0, 4, 192), (30, 0, 5, 194)],
  [(9, 1, 2, 348), (15, 1, 3, 349), (19, 1, 4, 350), (23, 1, 5, 352), (26, 1, 0, 346), (30, 1, 1, 347), (34, 7, 0, 261), (40, 3, 0, 117), (47, 7, 1, 264), (51, 0, 2, 186), (74, 8, 8, 319), (81, 3, 6, 137), (84, 3, 9, 149), (95, 8, 4, 312)],
  [(9, 2, 0, 215), (15, 2, 1, 217), (18, 2, 2, 219), (22, 2, 3, 221)],
  [(9, 3, 0, 116), (17, 3, 1, 121), (20, 3, 2, 123), (24, 3, 3, 126), (27, 3, 4, 129), (30, 3, 5, 132), (33, 3, 6, 135), (36, 3, 7, 140), (39, 3, 8, 144), (42, 3, 9, 148)],
  [(9, 4, 0, 374), (15, 4, 1, 376), (19, 4, 2, 378), (22, 4, 3, 380), (25, 4, 4, 381), (30, 4, 5, 382)],
  [(9, 5, 0, 432), (15, 5, 1, 434), (20, 5, 2, 436)],
  [(9, 6, 0, 238), (15, 6, 1, 242), (19, 6, 2, 243), (23, 6, 3, 244), (26, 6, 4, 245)],
  [(12, 7, 0, 259), (21, 7, 1, 263), (28, 7, 2, 267), (35, 7, 3, 269), (39, 7, 4, 271), (42, 7, 5, 272), (46, 7, 6, 275), (50, 7, 7, 277), (53, 7, 8, 279), (85, 3, 0, 119), (88, 3, 6, 138), (91, 3, 7, 142), (108, 3, 9, 150), (115, 6, 0, 239), (119, 3, 8, 146)],
  [(9, 8, 2, 308), (15, 8, 3, 310), (18, 8, 4, 311), (21, 8, 5, 313), (24, 8, 6, 315), (27, 8, 7, 316), (30, 8, 8, 318), (34, 8, 0, 306), (44, 8, 1, 307), (45, 3, 4, 130), (54, 3, 5, 133), (55, 3, 6, 136), (56, 3, 7, 141), (57, 3, 8, 145), (64, 7, 1, 265), (68, 0, 2, 187), (73, 0, 3, 190), (84, 3, 0, 120), (95, 0, 0, 181), (104, 7, 5, 273), (114, 3, 2, 125), (117, 3, 3, 128), (125, 7, 3, 270), (129, 6, 0, 240)],
  [(9, 9, 0, 403), (15, 9, 1, 405), (19, 9, 2, 407), (23, 9, 3, 409), (26, 9, 4, 410), (29, 9, 5, 411)],
  [(10, 10, 0, 445), (16, 10, 1, 446), (24, 10, 2, 447), (33, 10, 3, 448), (40, 10, 4, 449), (47, 10, 5, 450), (54, 10, 6, 451), (58, 10, 7, 452), (62, 10, 8, 453), (74, 7, 0, 262), (78, 3, 0, 118), (96, 3, 1, 122), (100, 3, 2, 124), (107, 3, 3, 127), (113, 3, 4, 131), (116, 3, 5, 134), (128, 7, 5, 274), (135, 7, 1, 266), (139, 0, 0, 182), (146, 0, 1, 184), (153, 0, 2, 188), (156, 0, 3, 191), (162, 3, 6, 139), (165, 3, 7, 143), (168, 3, 8, 147), (177, 0, 5, 195), (180, 7, 6, 276), (183, 0, 4, 193), (190, 7, 8, 280), (193, 7, 2, 268), (197, 2, 2, 220), (213, 2, 0, 216), (220, 4, 2, 379), (227, 4, 0, 375), (230, 4, 1, 377), (239, 6, 0, 241), (249, 8, 7, 317), (252, 8, 8, 320), (264, 1, 4, 351), (268, 1, 5, 353), (278, 8, 2, 309), (283, 9, 2, 408), (286, 9, 1, 406), (289, 9, 0, 404), (300, 5, 1, 435), (302, 5, 2, 437), (305, 5, 0, 433), (320, 8, 5, 314), (323, 2, 3, 222), (326, 2, 1, 218), (335, 7, 7, 278)],
  [(7, 11, 0, 1046), (13, 11, 1, 1047), (16, 11, 2, 1048), (19, 11, 4, 1050), (22, 11, 9, 1055), (25, 11, 10, 1056), (28, 11, 11, 1057), (31, 11, 12, 1058), (34, 11, 14, 1060), (37, 11, 15, 1061), (40, 11, 19, 1065), (43, 11, 20, 1066), (46, 11, 21, 1067), (49, 11, 22, 1068), (89, 11, 5, 1051), (93, 11, 8, 1054), (96, 11, 7, 1053), (123, 11, 6, 1052), (142, 11, 13, 1059), (227, 11, 16, 1062), (230, 11, 17, 1063), (254, 11, 18, 1064), (267, 11, 3, 1049)],
  [],
  [],
  [],
  []]
def zm_fl (o k : Nat) : Option (Nat × Nat × Nat) := zm_la (zm_flT.getD o []) k
/-- methods by the pool: place, method, by nest mates, place of the word -/
def zm_mlT : List (List (Nat × Nat × Bool × Nat)) := [[(33, 110, true, 1035), (37, 111, true, 996)],
  [(77, 11, false, 889), (89, 105, true, 881), (43, 8, false, 867), (56, 9, false, 875), (62, 48, false, 880), (67, 10, false, 884), (71, 51, false, 888), (85, 18, false, 879), (92, 53, false, 882)],
  [],
  [(45, 111, true, 989), (49, 106, true, 502), (53, 105, true, 505), (60, 110, true, 1028), (57, 17, false, 513)],
  [(52, 31, false, 825), (62, 30, false, 728), (40, 24, false, 716), (44, 25, false, 720), (48, 29, false, 724), (58, 28, false, 735), (65, 27, false, 731), (68, 26, false, 739), (71, 205, false, 743)],
  [(23, 213, false, 948)],
  [(39, 39, false, 608), (35, 36, false, 1006)],
  [(81, 108, true, 644), (59, 16, false, 985), (63, 5, false, 992), (66, 13, false, 997), (69, 37, false, 1002), (94, 44, false, 662), (104, 45, false, 672), (111, 46, false, 677), (122, 21, false, 666), (125, 38, false, 670), (130, 22, false, 681), (133, 47, false, 685), (137, 42, false, 689)],
  [(58, 213, false, 587), (110, 109, true, 601), (139, 108, true, 611), (76, 56, false, 594), (80, 57, false, 618), (87, 53, false, 622), (91, 54, false, 626), (96, 2, false, 857), (100, 51, false, 858), (107, 55, false, 630), (135, 38, false, 604)],
  [(32, 59, false, 917), (42, 60, false, 924), (45, 61, false, 928)],
  [(66, 102, false, 477), (103, 104, false, 521), (119, 105, false, 536), (206, 103, false, 706), (308, 107, false, 957), (348, 106, false, 508), (70, 98, false, 481), (83, 15, false, 486), (87, 14, false, 494), (90, 18, false, 498), (93, 19, false, 509), (131, 100, false, 548), (142, 3, false, 552), (145, 1, false, 560), (147, 99, false, 568), (150, 101, false, 576), (159, 2, false, 572), (186, 43, false, 657), (202, 12, false, 698), (216, 23, false, 711), (223, 40, false, 828), (233, 36, false, 832), (243, 48, false, 580), (246, 51, false, 590), (255, 52, false, 853), (258, 6, false, 863), (261, 7, false, 871), (271, 17, false, 896), (274, 50, false, 897), (279, 58, false, 913), (292, 32, false, 940), (293, 34, false, 944), (297, 33, false, 953), (311, 35, false, 964), (321, 41, false, 981), (329, 20, false, 1024), (332, 4, false, 1031), (339, 49, false, 634), (342, 42, false, 638)],
  [(53, 113, false, 1120), (58, 121, false, 1123), (83, 127, false, 1160), (138, 146, false, 1305), (147, 114, false, 1282), (209, 115, false, 1353), (236, 182, false, 1409), (261, 191, false, 1436), (62, 112, false, 1127), (66, 119, false, 1132), (70, 118, false, 1148), (74, 124, false, 1144), (77, 116, false, 1140), (80, 125, false, 1152), (99, 137, false, 1188), (103, 133, false, 1208), (107, 135, false, 1216), (111, 138, false, 1192), (114, 139, false, 1196), (117, 140, false, 1200), (120, 142, false, 1204), (126, 134, false, 1212), (129, 141, false, 1220), (132, 136, false, 1184), (135, 143, false, 1228), (150, 147, false, 1301), (153, 150, false, 1297), (156, 151, false, 1293), (159, 155, false, 1272), (162, 152, false, 1289), (165, 149, false, 1276), (169, 154, false, 1285), (172, 153, false, 1268), (175, 120, false, 1252), (178, 156, false, 1264), (181, 158, false, 1236), (184, 159, false, 1240), (187, 117, false, 1248), (190, 148, false, 1260), (194, 123, false, 1328), (197, 166, false, 1324), (200, 165, false, 1332), (203, 167, false, 1337), (206, 168, false, 1320), (213, 171, false, 1349), (216, 172, false, 1360), (219, 157, false, 1372), (222, 175, false, 1368), (233, 181, false, 1405), (239, 185, false, 1401), (242, 183, false, 1397), (245, 186, false, 1412), (248, 184, false, 1416), (251, 187, false, 1420), (258, 188, false, 1424), (264, 195, false, 1451), (270, 202, false, 1479)],
  [(13, 62, false, 473), (17, 122, false, 1116), (18, 63, false, 490), (22, 126, false, 1136), (23, 64, false, 517), (26, 128, false, 1156), (27, 65, false, 526), (30, 129, false, 1163), (31, 66, false, 532), (34, 130, false, 1167), (35, 67, false, 537), (38, 131, false, 1171), (39, 68, false, 544), (42, 160, false, 1232), (43, 69, false, 556), (46, 161, false, 1244), (47, 70, false, 564), (51, 162, false, 1256), (52, 71, false, 645), (55, 163, false, 1308), (56, 72, false, 649), (59, 164, false, 1312), (60, 73, false, 653), (63, 169, false, 1316), (64, 74, false, 690), (67, 170, false, 1341), (70, 75, false, 694), (74, 132, false, 1175), (75, 76, false, 702), (78, 144, false, 1180), (79, 77, false, 837), (82, 145, false, 1224), (83, 78, false, 841), (86, 173, false, 1345), (87, 79, false, 845), (90, 174, false, 1356), (91, 80, false, 849), (94, 176, false, 1364), (95, 81, false, 859), (99, 177, false, 1376), (100, 82, false, 892), (103, 178, false, 1381), (104, 83, false, 901), (107, 179, false, 1385), (108, 84, false, 905), (112, 180, false, 1389), (113, 85, false, 909), (116, 189, false, 1393), (117, 86, false, 932), (120, 190, false, 1428), (121, 87, false, 936), (124, 192, false, 1432), (125, 88, false, 949), (128, 193, false, 1439), (129, 89, false, 960), (133, 194, false, 1443), (134, 90, false, 969), (137, 196, false, 1447), (138, 91, false, 973), (141, 197, false, 1455), (142, 92, false, 977), (145, 198, false, 1459), (146, 93, false, 1008), (149, 199, false, 1463), (150, 94, false, 1012), (153, 200, false, 1467), (154, 95, false, 1016), (157, 201, false, 1471), (158, 96, false, 1020), (161, 203, false, 1475), (162, 97, false, 1036), (165, 204, false, 1483)],
  [(637, 211, false, 765), (335, 209, false, 761), (492, 207, false, 751), (505, 208, false, 757), (633, 206, false, 747)],
  [(88, 210, false, 768), (95, 212, false, 773)],
  []]
def zm_ml (o k : Nat) : Option (Nat × Bool × Nat) := zm_la (zm_mlT.getD o []) k
/-- Math.min 1, Math.max 2, System.arraycopy 3 by the pool -/
def zm_biT : List (List (Nat × Nat × Nat)) := [[],
  [],
  [(25, 3, 1001)],
  [],
  [(34, 3, 715)],
  [],
  [(29, 3, 836)],
  [(73, 3, 1007), (98, 1, 671)],
  [(48, 3, 584), (120, 1, 598)],
  [],
  [(171, 1, 614), (314, 3, 968), (351, 2, 615)],
  [],
  [],
  [],
  [(38, 1, 772), (92, 2, 771)],
  []]
def zm_bi (o k : Nat) : Option (Nat × Nat) := zm_la (zm_biT.getD o []) k
/-- static fields by the pool: place, which table (9: COMPACT_STRINGS), by nest mates, place of the word -/
def zm_gsT : List (List (Nat × Nat × Bool × Nat)) := [[],
  [],
  [],
  [],
  [],
  [],
  [],
  [],
  [],
  [(36, 0, true, 921), (39, 4, true, 922)],
  [(110, 1, false, 530), (122, 2, false, 541), (125, 3, false, 543), (345, 0, false, 524)],
  [],
  [],
  [(38, 9, false, 755)],
  [],
  []]
def zm_gs (o k : Nat) : Option (Nat × Bool × Nat) := zm_la (zm_gsT.getD o []) k
def zm_ldT : List (List (Nat × Int32 × Nat)) := [[],
  [],
  [],
  [],
  [],
  [],
  [],
  [(79, -999999, 642), (80, 999999, 643), (93, 99999, 661), (129, 1103515245, 676)],
  [],
  [],
  [(337, -1000000000, 485), (338, 99999, 480)],
  [(52, -1000000000, 1131), (57, 99999, 1126), (145, -999999, 1280), (146, 999999, 1281), (193, 1103515245, 1336)],
  [],
  [],
  [],
  []]
def zm_ld (o k : Nat) : Option (Int32 × Nat) := zm_la (zm_ldT.getD o []) k
def zm_l2T : List (List (Nat × Int64 × Nat)) := [[],
  [(60, 10, 883)],
  [],
  [],
  [],
  [],
  [],
  [],
  [],
  [],
  [],
  [(87, 255, 1179), (225, 10, 1380)],
  [(68, 4294967295, 1487)],
  [],
  [],
  []]
def zm_l2 (o k : Nat) : Option (Int64 × Nat) := zm_la (zm_l2T.getD o []) k
/-- cells: below 12 an object of that class, 20 ints, 21 rows of ints, 30 a static table, 13 a String, 32 its bytes, 40 the script -/
def zm_kdT : List Nat := [10, 7, 3, 21, 20, 20, 20, 20, 20, 20, 20, 20, 0, 21, 20, 20, 20, 20, 2, 20, 20, 6, 20, 20, 20, 6, 20, 20, 20, 20, 7, 3, 21, 20, 20, 20, 20, 20, 20, 20, 20, 0, 21, 20, 20, 20, 20, 2, 20, 20, 6, 20, 20, 20, 6, 20, 20, 20, 20, 8, 20, 20, 20, 20, 20, 20, 1, 20, 4, 20, 20, 9, 20, 5, 20, 20, 21, 20, 20, 20, 20, 20, 11, 20, 20, 20, 20, 20, 20, 20, 20, 20, 20, 20, 20, 20, 20, 99, 99, 99, 30, 30, 30, 30, 30, 99, 99, 99, 99, 99, 13, 13, 32, 32, 99, 99, 99, 99, 99, 99, 40]
def zm_kd (k : Nat) : Nat := zm_kdT.getD k 99
def zm_lnT : List Nat := [0, 0, 0, 8, 12, 12, 12, 12, 12, 12, 12, 12, 0, 4, 10, 10, 10, 10, 0, 60, 24, 0, 60, 60, 5, 0, 60, 60, 5, 3, 0, 0, 8, 12, 12, 12, 12, 12, 12, 12, 12, 0, 4, 10, 10, 10, 10, 0, 60, 24, 0, 60, 60, 5, 0, 60, 60, 5, 3, 0, 12, 12, 12, 12, 12, 12, 0, 9, 0, 60, 60, 0, 30, 0, 4, 4, 4, 24, 24, 24, 24, 7, 0, 480, 480, 480, 7, 124, 128, 64, 12, 9, 30, 4, 4, 96, 24, 0, 0, 0, 7, 8, 3, 3, 28, 0, 0, 0, 0, 0, 0, 0, 5, 3, 0, 0, 0, 0, 0, 0, 0]
def zm_ln (k : Nat) : Nat := zm_lnT.getD k 0
def zm_rfT : List (List (Option Nat)) := [[some 1, some 30, some 59, some 66, some 68, some 71, some 73, some 81, none], [some 2, some 12, some 18, some 21, some 25, some 29, none, none, none], [none, some 3, some 4, some 5, some 6, some 7, some 8, some 9, some 10, some 11], [some 4, some 5, some 6, some 7, some 8, some 9, some 10, some 11], [], [], [], [], [], [], [], [], [none, some 13, some 14, some 15, some 16, some 17], [some 14, some 15, some 16, some 17], [], [], [], [], [some 19, some 20, none, none], [], [], [none, none, some 22, some 23, some 24], [], [], [], [none, none, some 26, some 27, some 28], [], [], [], [], [some 31, some 41, some 47, some 50, some 54, some 58, none, none, none], [none, some 32, some 33, some 34, some 35, some 36, some 37, some 38, some 39, some 40], [some 33, some 34, some 35, some 36, some 37, some 38, some 39, some 40], [], [], [], [], [], [], [], [], [none, some 42, some 43, some 44, some 45, some 46], [some 43, some 44, some 45, some 46], [], [], [], [], [some 48, some 49, none, none], [], [], [none, none, some 51, some 52, some 53], [], [], [], [none, none, some 55, some 56, some 57], [], [], [], [], [some 1, some 2, some 60, some 61, some 62, some 63, some 64, some 65, none], [], [], [], [], [], [], [some 1, some 59, some 67, none, none, none], [], [some 69, none, none, some 70, none, none], [], [], [some 72, none, none, none, none, none], [], [some 74, some 75, some 76], [], [], [some 77, some 78, some 79, some 80], [], [], [], [], [], [some 83, some 84, some 85, none, some 86, none, none, none, none, some 87, some 88, some 89, some 90, none, some 91, some 92, none, none, none, some 93, some 94, some 95, some 96], [], [], [], [], [], [], [], [], [], [], [], [], [], []]
def zm_rf (k j : Nat) : Option Nat := (zm_rfT.getD k []).getD j none
def zm_sn : List String := ["KIND_ABOVE", "MOST_SET", "LEAST_LAW", "MOST_LAW", "BODIES"]
def zm_svT : List (List Int32) := [[-1, 0, 0, 0, 1, 3, 0], [6, 99, -1, -1, 1, 99999, 99999, 9], [1, 0, 0], [9, 1, 1], [10, 11, 12, 13, 20, 0, 0, 21, 0, 30, 0, 0, 0, 0, 40, 0, 50, 0, 51, 0, 0, 60, 0, 0, 70, 71, 0, 0]]
def zm_sbT : List (List Int32) := [[99, 112, 104, 115, 109], [112, 104, 110]]
def zm_sv (k j : Nat) : Int32 := (zm_svT.getD (k - 100) []).getD j 0
def zm_sb (k j : Nat) : Int32 := (zm_sbT.getD (k - 112) []).getD j 0
/-- links by nest mates: methods, static tables -/
def zm_nwm : List (Nat × Nat × Nat × Nat) := [(0, 33, 110, 1035), (0, 37, 111, 996), (1, 89, 105, 881), (3, 45, 111, 989), (3, 49, 106, 502), (3, 53, 105, 505), (3, 60, 110, 1028), (7, 81, 108, 644), (8, 110, 109, 601), (8, 139, 108, 611)]
def zm_nwf : List (Nat × Nat × Nat × Nat) := [(9, 36, 0, 921), (9, 39, 4, 922)]
end
section
/-! The tables hold: every row of theirs against the Statement, by the kernel. Printed by wip/whole/gen_chk.py. -/
theorem zm_lk_mem {l : List (Nat × Instr × Nat)} {pc : Nat} {e : Instr × Nat} (h : zm_lk l pc = some e) : (pc, e) ∈ l := by
  induction l with
  | nil => cases h
  | cons a l ih =>
    unfold zm_lk at h
    cases hb : Nat.beq a.1 pc with
    | true =>
      rw [hb] at h
      cases Nat.eq_of_beq_eq_true hb
      cases h
      exact List.mem_cons_self
    | false =>
      rw [hb] at h
      exact List.mem_cons_of_mem _ (ih h)
theorem zm_la_mem {α : Type} {l : List (Nat × α)} {k : Nat} {e : α} (h : zm_la l k = some e) : (k, e) ∈ l := by
  induction l with
  | nil => cases h
  | cons a l ih =>
    unfold zm_la at h
    cases hb : Nat.beq a.1 k with
    | true =>
      rw [hb] at h
      cases Nat.eq_of_beq_eq_true hb
      cases h
      exact List.mem_cons_self
    | false =>
      rw [hb] at h
      exact List.mem_cons_of_mem _ (ih h)
theorem zm_tabs {α : Type} {tb : List (List α)} {f : Nat → α → Bool} {n : Nat} (h : ((List.range n).all fun o => (tb.getD o []).all (f o)) = true) (hn : tb.length ≤ n) {o : Nat} {e : α} (he : e ∈ tb.getD o []) : f o e = true := by
  by_cases ho : o < n
  · exact List.all_eq_true.mp (List.all_eq_true.mp h o (List.mem_range.mpr ho)) e he
  · rw [List.getD_eq_getElem?_getD, List.getElem?_eq_none (by omega)] at he
    cases he
def zm_chk (y : Nat) (e : Nat × Instr × Nat) : Bool := decide (decode (zm_cd y) e.1 = .ok (e.2.1, e.2.2))
theorem zm_ok0_0 : zm_t0_0.all (zm_chk 0) = true := by decide +kernel
theorem zm_ok0_1 : zm_t0_1.all (zm_chk 0) = true := by decide +kernel
theorem zm_ok0_2 : zm_t0_2.all (zm_chk 0) = true := by decide +kernel
theorem zm_ok0_3 : zm_t0_3.all (zm_chk 0) = true := by decide +kernel
theorem zm_ok0_4 : zm_t0_4.all (zm_chk 0) = true := by decide +kernel
theorem zm_ok0_5 : zm_t0_5.all (zm_chk 0) = true := by decide +kernel
theorem zm_ok0_6 : zm_t0_6.all (zm_chk 0) = true := by decide +kernel
theorem zm_ok0_7 : zm_t0_7.all (zm_chk 0) = true := by decide +kernel
theorem zm_ok0_8 : zm_t0_8.all (zm_chk 0) = true := by decide +kernel
theorem zm_ok0_9 : zm_t0_9.all (zm_chk 0) = true := by decide +kernel
theorem zm_ok0_10 : zm_t0_10.all (zm_chk 0) = true := by decide +kernel
theorem zm_ok0_11 : zm_t0_11.all (zm_chk 0) = true := by decide +kernel
theorem zm_ok0_12 : zm_t0_12.all (zm_chk 0) = true := by decide +kernel
theorem zm_ok0_13 : zm_t0_13.all (zm_chk 0) = true := by decide +kernel
theorem zm_ok0_14 : zm_t0_14.all (zm_chk 0) = true := by decide +kernel
theorem zm_ok0_15 : zm_t0_15.all (zm_chk 0) = true := by decide +kernel
theorem zm_ok0_16 : zm_t0_16.all (zm_chk 0) = true := by decide +kernel
theorem zm_ok0_17 : zm_t0_17.all (zm_chk 0) = true := by decide +kernel
theorem zm_ok0_18 : zm_t0_18.all (zm_chk 0) = true := by decide +kernel
theorem zm_ok0_19 : zm_t0_19.all (zm_chk 0) = true := by decide +kernel
theorem zm_ok0_20 : zm_t0_20.all (zm_chk 0) = true := by decide +kernel
theorem zm_ok0_21 : zm_t0_21.all (zm_chk 0) = true := by decide +kernel
theorem zm_ok0_22 : zm_t0_22.all (zm_chk 0) = true := by decide +kernel
theorem zm_ok0 : zm_t0.all (zm_chk 0) = true := by
  unfold zm_t0
  simp only [List.all_append, Bool.and_eq_true]
  exact ⟨zm_ok0_0, ⟨zm_ok0_1, ⟨zm_ok0_2, ⟨zm_ok0_3, ⟨zm_ok0_4, ⟨zm_ok0_5, ⟨zm_ok0_6, ⟨zm_ok0_7, ⟨zm_ok0_8, ⟨zm_ok0_9, ⟨zm_ok0_10, ⟨zm_ok0_11, ⟨zm_ok0_12, ⟨zm_ok0_13, ⟨zm_ok0_14, ⟨zm_ok0_15, ⟨zm_ok0_16, ⟨zm_ok0_17, ⟨zm_ok0_18, ⟨zm_ok0_19, ⟨zm_ok0_20, ⟨zm_ok0_21, zm_ok0_22⟩⟩⟩⟩⟩⟩⟩⟩⟩⟩⟩⟩⟩⟩⟩⟩⟩⟩⟩⟩⟩⟩
theorem zm_ok1 : zm_t1.all (zm_chk 1) = true := by decide +kernel
theorem zm_ok2 : zm_t2.all (zm_chk 2) = true := by decide +kernel
theorem zm_ok3 : zm_t3.all (zm_chk 3) = true := by decide +kernel
theorem zm_ok4 : zm_t4.all (zm_chk 4) = true := by decide +kernel
theorem zm_ok5 : zm_t5.all (zm_chk 5) = true := by decide +kernel
theorem zm_ok6 : zm_t6.all (zm_chk 6) = true := by decide +kernel
theorem zm_ok7 : zm_t7.all (zm_chk 7) = true := by decide +kernel
theorem zm_ok8 : zm_t8.all (zm_chk 8) = true := by decide +kernel
theorem zm_ok9 : zm_t9.all (zm_chk 9) = true := by decide +kernel
theorem zm_ok10 : zm_t10.all (zm_chk 10) = true := by decide +kernel
theorem zm_ok11 : zm_t11.all (zm_chk 11) = true := by decide +kernel
theorem zm_ok12 : zm_t12.all (zm_chk 12) = true := by decide +kernel
theorem zm_ok13 : zm_t13.all (zm_chk 13) = true := by decide +kernel
theorem zm_ok14 : zm_t14.all (zm_chk 14) = true := by decide +kernel
theorem zm_ok15 : zm_t15.all (zm_chk 15) = true := by decide +kernel
theorem zm_ok16 : zm_t16.all (zm_chk 16) = true := by decide +kernel
theorem zm_ok17 : zm_t17.all (zm_chk 17) = true := by decide +kernel
theorem zm_ok18 : zm_t18.all (zm_chk 18) = true := by decide +kernel
theorem zm_ok19 : zm_t19.all (zm_chk 19) = true := by decide +kernel
theorem zm_ok20 : zm_t20.all (zm_chk 20) = true := by decide +kernel
theorem zm_ok21 : zm_t21.all (zm_chk 21) = true := by decide +kernel
theorem zm_ok22 : zm_t22.all (zm_chk 22) = true := by decide +kernel
theorem zm_ok23 : zm_t23.all (zm_chk 23) = true := by decide +kernel
theorem zm_ok24 : zm_t24.all (zm_chk 24) = true := by decide +kernel
theorem zm_ok25 : zm_t25.all (zm_chk 25) = true := by decide +kernel
theorem zm_ok26 : zm_t26.all (zm_chk 26) = true := by decide +kernel
theorem zm_ok27 : zm_t27.all (zm_chk 27) = true := by decide +kernel
theorem zm_ok28 : zm_t28.all (zm_chk 28) = true := by decide +kernel
theorem zm_ok29 : zm_t29.all (zm_chk 29) = true := by decide +kernel
theorem zm_ok30 : zm_t30.all (zm_chk 30) = true := by decide +kernel
theorem zm_ok31 : zm_t31.all (zm_chk 31) = true := by decide +kernel
theorem zm_ok32 : zm_t32.all (zm_chk 32) = true := by decide +kernel
theorem zm_ok33 : zm_t33.all (zm_chk 33) = true := by decide +kernel
theorem zm_ok34 : zm_t34.all (zm_chk 34) = true := by decide +kernel
theorem zm_ok35 : zm_t35.all (zm_chk 35) = true := by decide +kernel
theorem zm_ok36 : zm_t36.all (zm_chk 36) = true := by decide +kernel
theorem zm_ok37 : zm_t37.all (zm_chk 37) = true := by decide +kernel
theorem zm_ok38 : zm_t38.all (zm_chk 38) = true := by decide +kernel
theorem zm_ok39 : zm_t39.all (zm_chk 39) = true := by decide +kernel
theorem zm_ok40 : zm_t40.all (zm_chk 40) = true := by decide +kernel
theorem zm_ok41 : zm_t41.all (zm_chk 41) = true := by decide +kernel
theorem zm_ok42 : zm_t42.all (zm_chk 42) = true := by decide +kernel
theorem zm_ok43 : zm_t43.all (zm_chk 43) = true := by decide +kernel
theorem zm_ok44 : zm_t44.all (zm_chk 44) = true := by decide +kernel
theorem zm_ok45 : zm_t45.all (zm_chk 45) = true := by decide +kernel
theorem zm_ok46 : zm_t46.all (zm_chk 46) = true := by decide +kernel
theorem zm_ok47 : zm_t47.all (zm_chk 47) = true := by decide +kernel
theorem zm_ok48 : zm_t48.all (zm_chk 48) = true := by decide +kernel
theorem zm_ok49 : zm_t49.all (zm_chk 49) = true := by decide +kernel
theorem zm_ok50 : zm_t50.all (zm_chk 50) = true := by decide +kernel
theorem zm_ok51 : zm_t51.all (zm_chk 51) = true := by decide +kernel
theorem zm_ok52 : zm_t52.all (zm_chk 52) = true := by decide +kernel
theorem zm_ok53 : zm_t53.all (zm_chk 53) = true := by decide +kernel
theorem zm_ok54 : zm_t54.all (zm_chk 54) = true := by decide +kernel
theorem zm_ok55 : zm_t55.all (zm_chk 55) = true := by decide +kernel
theorem zm_ok56 : zm_t56.all (zm_chk 56) = true := by decide +kernel
theorem zm_ok57 : zm_t57.all (zm_chk 57) = true := by decide +kernel
theorem zm_ok58 : zm_t58.all (zm_chk 58) = true := by decide +kernel
theorem zm_ok59 : zm_t59.all (zm_chk 59) = true := by decide +kernel
theorem zm_ok60 : zm_t60.all (zm_chk 60) = true := by decide +kernel
theorem zm_ok61 : zm_t61.all (zm_chk 61) = true := by decide +kernel
theorem zm_ok62 : zm_t62.all (zm_chk 62) = true := by decide +kernel
theorem zm_ok63 : zm_t63.all (zm_chk 63) = true := by decide +kernel
theorem zm_ok64 : zm_t64.all (zm_chk 64) = true := by decide +kernel
theorem zm_ok65 : zm_t65.all (zm_chk 65) = true := by decide +kernel
theorem zm_ok66 : zm_t66.all (zm_chk 66) = true := by decide +kernel
theorem zm_ok67 : zm_t67.all (zm_chk 67) = true := by decide +kernel
theorem zm_ok68 : zm_t68.all (zm_chk 68) = true := by decide +kernel
theorem zm_ok69 : zm_t69.all (zm_chk 69) = true := by decide +kernel
theorem zm_ok70 : zm_t70.all (zm_chk 70) = true := by decide +kernel
theorem zm_ok71 : zm_t71.all (zm_chk 71) = true := by decide +kernel
theorem zm_ok72 : zm_t72.all (zm_chk 72) = true := by decide +kernel
theorem zm_ok73 : zm_t73.all (zm_chk 73) = true := by decide +kernel
theorem zm_ok74 : zm_t74.all (zm_chk 74) = true := by decide +kernel
theorem zm_ok75 : zm_t75.all (zm_chk 75) = true := by decide +kernel
theorem zm_ok76 : zm_t76.all (zm_chk 76) = true := by decide +kernel
theorem zm_ok77 : zm_t77.all (zm_chk 77) = true := by decide +kernel
theorem zm_ok78 : zm_t78.all (zm_chk 78) = true := by decide +kernel
theorem zm_ok79 : zm_t79.all (zm_chk 79) = true := by decide +kernel
theorem zm_ok80 : zm_t80.all (zm_chk 80) = true := by decide +kernel
theorem zm_ok81 : zm_t81.all (zm_chk 81) = true := by decide +kernel
theorem zm_ok82 : zm_t82.all (zm_chk 82) = true := by decide +kernel
theorem zm_ok83 : zm_t83.all (zm_chk 83) = true := by decide +kernel
theorem zm_ok84 : zm_t84.all (zm_chk 84) = true := by decide +kernel
theorem zm_ok85 : zm_t85.all (zm_chk 85) = true := by decide +kernel
theorem zm_ok86 : zm_t86.all (zm_chk 86) = true := by decide +kernel
theorem zm_ok87 : zm_t87.all (zm_chk 87) = true := by decide +kernel
theorem zm_ok88 : zm_t88.all (zm_chk 88) = true := by decide +kernel
theorem zm_ok89 : zm_t89.all (zm_chk 89) = true := by decide +kernel
theorem zm_ok90 : zm_t90.all (zm_chk 90) = true := by decide +kernel
theorem zm_ok91 : zm_t91.all (zm_chk 91) = true := by decide +kernel
theorem zm_ok92 : zm_t92.all (zm_chk 92) = true := by decide +kernel
theorem zm_ok93 : zm_t93.all (zm_chk 93) = true := by decide +kernel
theorem zm_ok94 : zm_t94.all (zm_chk 94) = true := by decide +kernel
theorem zm_ok95 : zm_t95.all (zm_chk 95) = true := by decide +kernel
theorem zm_ok96 : zm_t96.all (zm_chk 96) = true := by decide +kernel
theorem zm_ok97 : zm_t97.all (zm_chk 97) = true := by decide +kernel
theorem zm_ok98 : zm_t98.all (zm_chk 98) = true := by decide +kernel
theorem zm_ok99 : zm_t99.all (zm_chk 99) = true := by decide +kernel
theorem zm_ok100 : zm_t100.all (zm_chk 100) = true := by decide +kernel
theorem zm_ok101 : zm_t101.all (zm_chk 101) = true := by decide +kernel
theorem zm_ok102 : zm_t102.all (zm_chk 102) = true := by decide +kernel
theorem zm_ok103 : zm_t103.all (zm_chk 103) = true := by decide +kernel
theorem zm_ok104 : zm_t104.all (zm_chk 104) = true := by decide +kernel
theorem zm_ok105 : zm_t105.all (zm_chk 105) = true := by decide +kernel
theorem zm_ok106 : zm_t106.all (zm_chk 106) = true := by decide +kernel
theorem zm_ok107 : zm_t107.all (zm_chk 107) = true := by decide +kernel
theorem zm_ok108 : zm_t108.all (zm_chk 108) = true := by decide +kernel
theorem zm_ok109 : zm_t109.all (zm_chk 109) = true := by decide +kernel
theorem zm_ok110 : zm_t110.all (zm_chk 110) = true := by decide +kernel
theorem zm_ok111 : zm_t111.all (zm_chk 111) = true := by decide +kernel
theorem zm_ok112 : zm_t112.all (zm_chk 112) = true := by decide +kernel
theorem zm_ok113 : zm_t113.all (zm_chk 113) = true := by decide +kernel
theorem zm_ok114 : zm_t114.all (zm_chk 114) = true := by decide +kernel
theorem zm_ok115 : zm_t115.all (zm_chk 115) = true := by decide +kernel
theorem zm_ok116 : zm_t116.all (zm_chk 116) = true := by decide +kernel
theorem zm_ok117 : zm_t117.all (zm_chk 117) = true := by decide +kernel
theorem zm_ok118 : zm_t118.all (zm_chk 118) = true := by decide +kernel
theorem zm_ok119 : zm_t119.all (zm_chk 119) = true := by decide +kernel
theorem zm_ok120 : zm_t120.all (zm_chk 120) = true := by decide +kernel
theorem zm_ok121 : zm_t121.all (zm_chk 121) = true := by decide +kernel
theorem zm_ok122 : zm_t122.all (zm_chk 122) = true := by decide +kernel
theorem zm_ok123 : zm_t123.all (zm_chk 123) = true := by decide +kernel
theorem zm_ok124 : zm_t124.all (zm_chk 124) = true := by decide +kernel
theorem zm_ok125 : zm_t125.all (zm_chk 125) = true := by decide +kernel
theorem zm_ok126 : zm_t126.all (zm_chk 126) = true := by decide +kernel
theorem zm_ok127 : zm_t127.all (zm_chk 127) = true := by decide +kernel
theorem zm_ok128 : zm_t128.all (zm_chk 128) = true := by decide +kernel
theorem zm_ok129 : zm_t129.all (zm_chk 129) = true := by decide +kernel
theorem zm_ok130 : zm_t130.all (zm_chk 130) = true := by decide +kernel
theorem zm_ok131 : zm_t131.all (zm_chk 131) = true := by decide +kernel
theorem zm_ok132 : zm_t132.all (zm_chk 132) = true := by decide +kernel
theorem zm_ok133 : zm_t133.all (zm_chk 133) = true := by decide +kernel
theorem zm_ok134 : zm_t134.all (zm_chk 134) = true := by decide +kernel
theorem zm_ok135 : zm_t135.all (zm_chk 135) = true := by decide +kernel
theorem zm_ok136 : zm_t136.all (zm_chk 136) = true := by decide +kernel
theorem zm_ok137 : zm_t137.all (zm_chk 137) = true := by decide +kernel
theorem zm_ok138 : zm_t138.all (zm_chk 138) = true := by decide +kernel
theorem zm_ok139 : zm_t139.all (zm_chk 139) = true := by decide +kernel
theorem zm_ok140 : zm_t140.all (zm_chk 140) = true := by decide +kernel
theorem zm_ok141 : zm_t141.all (zm_chk 141) = true := by decide +kernel
theorem zm_ok142 : zm_t142.all (zm_chk 142) = true := by decide +kernel
theorem zm_ok143 : zm_t143.all (zm_chk 143) = true := by decide +kernel
theorem zm_ok144 : zm_t144.all (zm_chk 144) = true := by decide +kernel
theorem zm_ok145 : zm_t145.all (zm_chk 145) = true := by decide +kernel
theorem zm_ok146 : zm_t146.all (zm_chk 146) = true := by decide +kernel
theorem zm_ok147 : zm_t147.all (zm_chk 147) = true := by decide +kernel
theorem zm_ok148 : zm_t148.all (zm_chk 148) = true := by decide +kernel
theorem zm_ok149 : zm_t149.all (zm_chk 149) = true := by decide +kernel
theorem zm_ok150 : zm_t150.all (zm_chk 150) = true := by decide +kernel
theorem zm_ok151 : zm_t151.all (zm_chk 151) = true := by decide +kernel
theorem zm_ok152 : zm_t152.all (zm_chk 152) = true := by decide +kernel
theorem zm_ok153 : zm_t153.all (zm_chk 153) = true := by decide +kernel
theorem zm_ok154 : zm_t154.all (zm_chk 154) = true := by decide +kernel
theorem zm_ok155 : zm_t155.all (zm_chk 155) = true := by decide +kernel
theorem zm_ok156 : zm_t156.all (zm_chk 156) = true := by decide +kernel
theorem zm_ok157 : zm_t157.all (zm_chk 157) = true := by decide +kernel
theorem zm_ok158 : zm_t158.all (zm_chk 158) = true := by decide +kernel
theorem zm_ok159 : zm_t159.all (zm_chk 159) = true := by decide +kernel
theorem zm_ok160 : zm_t160.all (zm_chk 160) = true := by decide +kernel
theorem zm_ok161 : zm_t161.all (zm_chk 161) = true := by decide +kernel
theorem zm_ok162 : zm_t162.all (zm_chk 162) = true := by decide +kernel
theorem zm_ok163 : zm_t163.all (zm_chk 163) = true := by decide +kernel
theorem zm_ok164 : zm_t164.all (zm_chk 164) = true := by decide +kernel
theorem zm_ok165 : zm_t165.all (zm_chk 165) = true := by decide +kernel
theorem zm_ok166 : zm_t166.all (zm_chk 166) = true := by decide +kernel
theorem zm_ok167 : zm_t167.all (zm_chk 167) = true := by decide +kernel
theorem zm_ok168 : zm_t168.all (zm_chk 168) = true := by decide +kernel
theorem zm_ok169 : zm_t169.all (zm_chk 169) = true := by decide +kernel
theorem zm_ok170 : zm_t170.all (zm_chk 170) = true := by decide +kernel
theorem zm_ok171 : zm_t171.all (zm_chk 171) = true := by decide +kernel
theorem zm_ok172 : zm_t172.all (zm_chk 172) = true := by decide +kernel
theorem zm_ok173 : zm_t173.all (zm_chk 173) = true := by decide +kernel
theorem zm_ok174 : zm_t174.all (zm_chk 174) = true := by decide +kernel
theorem zm_ok175 : zm_t175.all (zm_chk 175) = true := by decide +kernel
theorem zm_ok176 : zm_t176.all (zm_chk 176) = true := by decide +kernel
theorem zm_ok177 : zm_t177.all (zm_chk 177) = true := by decide +kernel
theorem zm_ok178 : zm_t178.all (zm_chk 178) = true := by decide +kernel
theorem zm_ok179 : zm_t179.all (zm_chk 179) = true := by decide +kernel
theorem zm_ok180 : zm_t180.all (zm_chk 180) = true := by decide +kernel
theorem zm_ok181 : zm_t181.all (zm_chk 181) = true := by decide +kernel
theorem zm_ok182 : zm_t182.all (zm_chk 182) = true := by decide +kernel
theorem zm_ok183 : zm_t183.all (zm_chk 183) = true := by decide +kernel
theorem zm_ok184 : zm_t184.all (zm_chk 184) = true := by decide +kernel
theorem zm_ok185 : zm_t185.all (zm_chk 185) = true := by decide +kernel
theorem zm_ok186 : zm_t186.all (zm_chk 186) = true := by decide +kernel
theorem zm_ok187 : zm_t187.all (zm_chk 187) = true := by decide +kernel
theorem zm_ok188 : zm_t188.all (zm_chk 188) = true := by decide +kernel
theorem zm_ok189 : zm_t189.all (zm_chk 189) = true := by decide +kernel
theorem zm_ok190 : zm_t190.all (zm_chk 190) = true := by decide +kernel
theorem zm_ok191 : zm_t191.all (zm_chk 191) = true := by decide +kernel
theorem zm_ok192 : zm_t192.all (zm_chk 192) = true := by decide +kernel
theorem zm_ok193 : zm_t193.all (zm_chk 193) = true := by decide +kernel
theorem zm_ok194 : zm_t194.all (zm_chk 194) = true := by decide +kernel
theorem zm_ok195 : zm_t195.all (zm_chk 195) = true := by decide +kernel
theorem zm_ok196 : zm_t196.all (zm_chk 196) = true := by decide +kernel
theorem zm_ok197 : zm_t197.all (zm_chk 197) = true := by decide +kernel
theorem zm_ok198 : zm_t198.all (zm_chk 198) = true := by decide +kernel
theorem zm_ok199 : zm_t199.all (zm_chk 199) = true := by decide +kernel
theorem zm_ok200 : zm_t200.all (zm_chk 200) = true := by decide +kernel
theorem zm_ok201 : zm_t201.all (zm_chk 201) = true := by decide +kernel
theorem zm_ok202 : zm_t202.all (zm_chk 202) = true := by decide +kernel
theorem zm_ok203 : zm_t203.all (zm_chk 203) = true := by decide +kernel
theorem zm_ok204 : zm_t204.all (zm_chk 204) = true := by decide +kernel
theorem zm_ok205 : zm_t205.all (zm_chk 205) = true := by decide +kernel
theorem zm_ok206 : zm_t206.all (zm_chk 206) = true := by decide +kernel
theorem zm_ok207 : zm_t207.all (zm_chk 207) = true := by decide +kernel
theorem zm_ok208 : zm_t208.all (zm_chk 208) = true := by decide +kernel
theorem zm_ok209 : zm_t209.all (zm_chk 209) = true := by decide +kernel
theorem zm_ok210 : zm_t210.all (zm_chk 210) = true := by decide +kernel
theorem zm_ok211 : zm_t211.all (zm_chk 211) = true := by decide +kernel
theorem zm_ok212 : zm_t212.all (zm_chk 212) = true := by decide +kernel
theorem zm_ok213 : zm_t213.all (zm_chk 213) = true := by decide +kernel
theorem zm_okA : ∀ y : Nat, (zm_tb.getD y []).all (zm_chk y) = true
  | 0 => zm_ok0
  | 1 => zm_ok1
  | 2 => zm_ok2
  | 3 => zm_ok3
  | 4 => zm_ok4
  | 5 => zm_ok5
  | 6 => zm_ok6
  | 7 => zm_ok7
  | 8 => zm_ok8
  | 9 => zm_ok9
  | 10 => zm_ok10
  | 11 => zm_ok11
  | 12 => zm_ok12
  | 13 => zm_ok13
  | 14 => zm_ok14
  | 15 => zm_ok15
  | 16 => zm_ok16
  | 17 => zm_ok17
  | 18 => zm_ok18
  | 19 => zm_ok19
  | 20 => zm_ok20
  | 21 => zm_ok21
  | 22 => zm_ok22
  | 23 => zm_ok23
  | 24 => zm_ok24
  | 25 => zm_ok25
  | 26 => zm_ok26
  | 27 => zm_ok27
  | 28 => zm_ok28
  | 29 => zm_ok29
  | 30 => zm_ok30
  | 31 => zm_ok31
  | 32 => zm_ok32
  | 33 => zm_ok33
  | 34 => zm_ok34
  | 35 => zm_ok35
  | 36 => zm_ok36
  | 37 => zm_ok37
  | 38 => zm_ok38
  | 39 => zm_ok39
  | 40 => zm_ok40
  | 41 => zm_ok41
  | 42 => zm_ok42
  | 43 => zm_ok43
  | 44 => zm_ok44
  | 45 => zm_ok45
  | 46 => zm_ok46
  | 47 => zm_ok47
  | 48 => zm_ok48
  | 49 => zm_ok49
  | 50 => zm_ok50
  | 51 => zm_ok51
  | 52 => zm_ok52
  | 53 => zm_ok53
  | 54 => zm_ok54
  | 55 => zm_ok55
  | 56 => zm_ok56
  | 57 => zm_ok57
  | 58 => zm_ok58
  | 59 => zm_ok59
  | 60 => zm_ok60
  | 61 => zm_ok61
  | 62 => zm_ok62
  | 63 => zm_ok63
  | 64 => zm_ok64
  | 65 => zm_ok65
  | 66 => zm_ok66
  | 67 => zm_ok67
  | 68 => zm_ok68
  | 69 => zm_ok69
  | 70 => zm_ok70
  | 71 => zm_ok71
  | 72 => zm_ok72
  | 73 => zm_ok73
  | 74 => zm_ok74
  | 75 => zm_ok75
  | 76 => zm_ok76
  | 77 => zm_ok77
  | 78 => zm_ok78
  | 79 => zm_ok79
  | 80 => zm_ok80
  | 81 => zm_ok81
  | 82 => zm_ok82
  | 83 => zm_ok83
  | 84 => zm_ok84
  | 85 => zm_ok85
  | 86 => zm_ok86
  | 87 => zm_ok87
  | 88 => zm_ok88
  | 89 => zm_ok89
  | 90 => zm_ok90
  | 91 => zm_ok91
  | 92 => zm_ok92
  | 93 => zm_ok93
  | 94 => zm_ok94
  | 95 => zm_ok95
  | 96 => zm_ok96
  | 97 => zm_ok97
  | 98 => zm_ok98
  | 99 => zm_ok99
  | 100 => zm_ok100
  | 101 => zm_ok101
  | 102 => zm_ok102
  | 103 => zm_ok103
  | 104 => zm_ok104
  | 105 => zm_ok105
  | 106 => zm_ok106
  | 107 => zm_ok107
  | 108 => zm_ok108
  | 109 => zm_ok109
  | 110 => zm_ok110
  | 111 => zm_ok111
  | 112 => zm_ok112
  | 113 => zm_ok113
  | 114 => zm_ok114
  | 115 => zm_ok115
  | 116 => zm_ok116
  | 117 => zm_ok117
  | 118 => zm_ok118
  | 119 => zm_ok119
  | 120 => zm_ok120
  | 121 => zm_ok121
  | 122 => zm_ok122
  | 123 => zm_ok123
  | 124 => zm_ok124
  | 125 => zm_ok125
  | 126 => zm_ok126
  | 127 => zm_ok127
  | 128 => zm_ok128
  | 129 => zm_ok129
  | 130 => zm_ok130
  | 131 => zm_ok131
  | 132 => zm_ok132
  | 133 => zm_ok133
  | 134 => zm_ok134
  | 135 => zm_ok135
  | 136 => zm_ok136
  | 137 => zm_ok137
  | 138 => zm_ok138
  | 139 => zm_ok139
  | 140 => zm_ok140
  | 141 => zm_ok141
  | 142 => zm_ok142
  | 143 => zm_ok143
  | 144 => zm_ok144
  | 145 => zm_ok145
  | 146 => zm_ok146
  | 147 => zm_ok147
  | 148 => zm_ok148
  | 149 => zm_ok149
  | 150 => zm_ok150
  | 151 => zm_ok151
  | 152 => zm_ok152
  | 153 => zm_ok153
  | 154 => zm_ok154
  | 155 => zm_ok155
  | 156 => zm_ok156
  | 157 => zm_ok157
  | 158 => zm_ok158
  | 159 => zm_ok159
  | 160 => zm_ok160
  | 161 => zm_ok161
  | 162 => zm_ok162
  | 163 => zm_ok163
  | 164 => zm_ok164
  | 165 => zm_ok165
  | 166 => zm_ok166
  | 167 => zm_ok167
  | 168 => zm_ok168
  | 169 => zm_ok169
  | 170 => zm_ok170
  | 171 => zm_ok171
  | 172 => zm_ok172
  | 173 => zm_ok173
  | 174 => zm_ok174
  | 175 => zm_ok175
  | 176 => zm_ok176
  | 177 => zm_ok177
  | 178 => zm_ok178
  | 179 => zm_ok179
  | 180 => zm_ok180
  | 181 => zm_ok181
  | 182 => zm_ok182
  | 183 => zm_ok183
  | 184 => zm_ok184
  | 185 => zm_ok185
  | 186 => zm_ok186
  | 187 => zm_ok187
  | 188 => zm_ok188
  | 189 => zm_ok189
  | 190 => zm_ok190
  | 191 => zm_ok191
  | 192 => zm_ok192
  | 193 => zm_ok193
  | 194 => zm_ok194
  | 195 => zm_ok195
  | 196 => zm_ok196
  | 197 => zm_ok197
  | 198 => zm_ok198
  | 199 => zm_ok199
  | 200 => zm_ok200
  | 201 => zm_ok201
  | 202 => zm_ok202
  | 203 => zm_ok203
  | 204 => zm_ok204
  | 205 => zm_ok205
  | 206 => zm_ok206
  | 207 => zm_ok207
  | 208 => zm_ok208
  | 209 => zm_ok209
  | 210 => zm_ok210
  | 211 => zm_ok211
  | 212 => zm_ok212
  | 213 => zm_ok213
  | n + 214 => by rw [List.getD_eq_getElem?_getD, List.getElem?_eq_none (by show 214 ≤ n + 214; omega)]; rfl
/-- what the machine fetches is what the Statement's bytes decode to -/
theorem zm_dec {y pc n : Nat} {i : Instr} (h : zm_at y pc = some (i, n)) : decode (zm_cd y) pc = .ok (i, n) := by
  have h1 := List.all_eq_true.mp (zm_okA y) _ (zm_lk_mem h)
  exact of_decide_eq_true h1
/-- the words that every method is given -/
def zm_TT : List Jvm.Cond := lw_tbl.filter goodWord
def zm_w (i : Nat) (c : Jvm.Cond) : Bool := decide (lw_tbl[i]? = some c) && goodWord c
theorem zm_inT {i : Nat} {c : Jvm.Cond} (h : zm_w i c = true) : c ∈ zm_TT := by
  simp only [zm_w, Bool.and_eq_true, decide_eq_true_eq] at h
  exact List.mem_filter.mpr ⟨List.mem_of_getElem? h.1, h.2⟩
theorem zm_hts {args : Array Value} {s : State} (h : ∀ c ∈ lw_tbl, c.before args s = true) : ∀ c ∈ zm_TT, c.before args s = true := fun c hc => h c (List.mem_filter.mp hc).1
def zm_ws (y : Nat) : List Jvm.Cond := .code (zm_nm y) (zm_cd y) (zm_mx y) (zm_rt y) :: zm_TT
def zm_bmi (y : Nat) (e : Nat × Nat × Bool × Nat × Nat × Nat × Nat × Nat) : Bool :=
  zm_w e.2.2.2.1 (.code (zm_nm y) (zm_cd y) (zm_mx y) (zm_rt y)) && (zm_w e.2.2.2.2.1 (.initialized (zm_nm y).cls) && ((bif e.2.2.1 then zm_w e.2.2.2.2.2.1 (.static (zm_nm y)) else (zm_w e.2.2.2.2.2.1 (.instanceMethod (zm_nm y)) && zm_w e.2.2.2.2.2.2.1 (.selects (zm_nm y).cls (zm_nm y) (zm_nm y)))) &&
   (decide ((zm_nm y).cls = zm_cn e.1) && (decide ((zm_nm y).cls ≠ "java/lang/invoke/MethodHandle") && (decide ((zm_nm y).cls ≠ "java/lang/invoke/VarHandle") && (plainName (zm_nm y).cls && (decide ((parseMethodDescriptor (zm_nm y).desc).map (fun d => d.parameters.length) = some e.2.1) && decide (zm_mx y ≤ 40))))))))

theorem zm_mi1 : zm_bmi 1 (zm_i 1) = true := by decide +kernel
theorem zm_mi2 : zm_bmi 2 (zm_i 2) = true := by decide +kernel
theorem zm_mi3 : zm_bmi 3 (zm_i 3) = true := by decide +kernel
theorem zm_mi4 : zm_bmi 4 (zm_i 4) = true := by decide +kernel
theorem zm_mi5 : zm_bmi 5 (zm_i 5) = true := by decide +kernel
theorem zm_mi6 : zm_bmi 6 (zm_i 6) = true := by decide +kernel
theorem zm_mi7 : zm_bmi 7 (zm_i 7) = true := by decide +kernel
theorem zm_mi8 : zm_bmi 8 (zm_i 8) = true := by decide +kernel
theorem zm_mi9 : zm_bmi 9 (zm_i 9) = true := by decide +kernel
theorem zm_mi10 : zm_bmi 10 (zm_i 10) = true := by decide +kernel
theorem zm_mi11 : zm_bmi 11 (zm_i 11) = true := by decide +kernel
theorem zm_mi12 : zm_bmi 12 (zm_i 12) = true := by decide +kernel
theorem zm_mi13 : zm_bmi 13 (zm_i 13) = true := by decide +kernel
theorem zm_mi14 : zm_bmi 14 (zm_i 14) = true := by decide +kernel
theorem zm_mi15 : zm_bmi 15 (zm_i 15) = true := by decide +kernel
theorem zm_mi16 : zm_bmi 16 (zm_i 16) = true := by decide +kernel
theorem zm_mi17 : zm_bmi 17 (zm_i 17) = true := by decide +kernel
theorem zm_mi18 : zm_bmi 18 (zm_i 18) = true := by decide +kernel
theorem zm_mi19 : zm_bmi 19 (zm_i 19) = true := by decide +kernel
theorem zm_mi20 : zm_bmi 20 (zm_i 20) = true := by decide +kernel
theorem zm_mi21 : zm_bmi 21 (zm_i 21) = true := by decide +kernel
theorem zm_mi22 : zm_bmi 22 (zm_i 22) = true := by decide +kernel
theorem zm_mi23 : zm_bmi 23 (zm_i 23) = true := by decide +kernel
theorem zm_mi24 : zm_bmi 24 (zm_i 24) = true := by decide +kernel
theorem zm_mi25 : zm_bmi 25 (zm_i 25) = true := by decide +kernel
theorem zm_mi26 : zm_bmi 26 (zm_i 26) = true := by decide +kernel
theorem zm_mi27 : zm_bmi 27 (zm_i 27) = true := by decide +kernel
theorem zm_mi28 : zm_bmi 28 (zm_i 28) = true := by decide +kernel
theorem zm_mi29 : zm_bmi 29 (zm_i 29) = true := by decide +kernel
theorem zm_mi30 : zm_bmi 30 (zm_i 30) = true := by decide +kernel
theorem zm_mi31 : zm_bmi 31 (zm_i 31) = true := by decide +kernel
theorem zm_mi32 : zm_bmi 32 (zm_i 32) = true := by decide +kernel
theorem zm_mi33 : zm_bmi 33 (zm_i 33) = true := by decide +kernel
theorem zm_mi34 : zm_bmi 34 (zm_i 34) = true := by decide +kernel
theorem zm_mi35 : zm_bmi 35 (zm_i 35) = true := by decide +kernel
theorem zm_mi36 : zm_bmi 36 (zm_i 36) = true := by decide +kernel
theorem zm_mi37 : zm_bmi 37 (zm_i 37) = true := by decide +kernel
theorem zm_mi38 : zm_bmi 38 (zm_i 38) = true := by decide +kernel
theorem zm_mi39 : zm_bmi 39 (zm_i 39) = true := by decide +kernel
theorem zm_mi40 : zm_bmi 40 (zm_i 40) = true := by decide +kernel
theorem zm_mi41 : zm_bmi 41 (zm_i 41) = true := by decide +kernel
theorem zm_mi42 : zm_bmi 42 (zm_i 42) = true := by decide +kernel
theorem zm_mi43 : zm_bmi 43 (zm_i 43) = true := by decide +kernel
theorem zm_mi44 : zm_bmi 44 (zm_i 44) = true := by decide +kernel
theorem zm_mi45 : zm_bmi 45 (zm_i 45) = true := by decide +kernel
theorem zm_mi46 : zm_bmi 46 (zm_i 46) = true := by decide +kernel
theorem zm_mi47 : zm_bmi 47 (zm_i 47) = true := by decide +kernel
theorem zm_mi48 : zm_bmi 48 (zm_i 48) = true := by decide +kernel
theorem zm_mi49 : zm_bmi 49 (zm_i 49) = true := by decide +kernel
theorem zm_mi50 : zm_bmi 50 (zm_i 50) = true := by decide +kernel
theorem zm_mi51 : zm_bmi 51 (zm_i 51) = true := by decide +kernel
theorem zm_mi52 : zm_bmi 52 (zm_i 52) = true := by decide +kernel
theorem zm_mi53 : zm_bmi 53 (zm_i 53) = true := by decide +kernel
theorem zm_mi54 : zm_bmi 54 (zm_i 54) = true := by decide +kernel
theorem zm_mi55 : zm_bmi 55 (zm_i 55) = true := by decide +kernel
theorem zm_mi56 : zm_bmi 56 (zm_i 56) = true := by decide +kernel
theorem zm_mi57 : zm_bmi 57 (zm_i 57) = true := by decide +kernel
theorem zm_mi58 : zm_bmi 58 (zm_i 58) = true := by decide +kernel
theorem zm_mi59 : zm_bmi 59 (zm_i 59) = true := by decide +kernel
theorem zm_mi60 : zm_bmi 60 (zm_i 60) = true := by decide +kernel
theorem zm_mi61 : zm_bmi 61 (zm_i 61) = true := by decide +kernel
theorem zm_mi62 : zm_bmi 62 (zm_i 62) = true := by decide +kernel
theorem zm_mi63 : zm_bmi 63 (zm_i 63) = true := by decide +kernel
theorem zm_mi64 : zm_bmi 64 (zm_i 64) = true := by decide +kernel
theorem zm_mi65 : zm_bmi 65 (zm_i 65) = true := by decide +kernel
theorem zm_mi66 : zm_bmi 66 (zm_i 66) = true := by decide +kernel
theorem zm_mi67 : zm_bmi 67 (zm_i 67) = true := by decide +kernel
theorem zm_mi68 : zm_bmi 68 (zm_i 68) = true := by decide +kernel
theorem zm_mi69 : zm_bmi 69 (zm_i 69) = true := by decide +kernel
theorem zm_mi70 : zm_bmi 70 (zm_i 70) = true := by decide +kernel
theorem zm_mi71 : zm_bmi 71 (zm_i 71) = true := by decide +kernel
theorem zm_mi72 : zm_bmi 72 (zm_i 72) = true := by decide +kernel
theorem zm_mi73 : zm_bmi 73 (zm_i 73) = true := by decide +kernel
theorem zm_mi74 : zm_bmi 74 (zm_i 74) = true := by decide +kernel
theorem zm_mi75 : zm_bmi 75 (zm_i 75) = true := by decide +kernel
theorem zm_mi76 : zm_bmi 76 (zm_i 76) = true := by decide +kernel
theorem zm_mi77 : zm_bmi 77 (zm_i 77) = true := by decide +kernel
theorem zm_mi78 : zm_bmi 78 (zm_i 78) = true := by decide +kernel
theorem zm_mi79 : zm_bmi 79 (zm_i 79) = true := by decide +kernel
theorem zm_mi80 : zm_bmi 80 (zm_i 80) = true := by decide +kernel
theorem zm_mi81 : zm_bmi 81 (zm_i 81) = true := by decide +kernel
theorem zm_mi82 : zm_bmi 82 (zm_i 82) = true := by decide +kernel
theorem zm_mi83 : zm_bmi 83 (zm_i 83) = true := by decide +kernel
theorem zm_mi84 : zm_bmi 84 (zm_i 84) = true := by decide +kernel
theorem zm_mi85 : zm_bmi 85 (zm_i 85) = true := by decide +kernel
theorem zm_mi86 : zm_bmi 86 (zm_i 86) = true := by decide +kernel
theorem zm_mi87 : zm_bmi 87 (zm_i 87) = true := by decide +kernel
theorem zm_mi88 : zm_bmi 88 (zm_i 88) = true := by decide +kernel
theorem zm_mi89 : zm_bmi 89 (zm_i 89) = true := by decide +kernel
theorem zm_mi90 : zm_bmi 90 (zm_i 90) = true := by decide +kernel
theorem zm_mi91 : zm_bmi 91 (zm_i 91) = true := by decide +kernel
theorem zm_mi92 : zm_bmi 92 (zm_i 92) = true := by decide +kernel
theorem zm_mi93 : zm_bmi 93 (zm_i 93) = true := by decide +kernel
theorem zm_mi94 : zm_bmi 94 (zm_i 94) = true := by decide +kernel
theorem zm_mi95 : zm_bmi 95 (zm_i 95) = true := by decide +kernel
theorem zm_mi96 : zm_bmi 96 (zm_i 96) = true := by decide +kernel
theorem zm_mi97 : zm_bmi 97 (zm_i 97) = true := by decide +kernel
theorem zm_mi98 : zm_bmi 98 (zm_i 98) = true := by decide +kernel
theorem zm_mi99 : zm_bmi 99 (zm_i 99) = true := by decide +kernel
theorem zm_mi100 : zm_bmi 100 (zm_i 100) = true := by decide +kernel
theorem zm_mi101 : zm_bmi 101 (zm_i 101) = true := by decide +kernel
theorem zm_mi102 : zm_bmi 102 (zm_i 102) = true := by decide +kernel
theorem zm_mi103 : zm_bmi 103 (zm_i 103) = true := by decide +kernel
theorem zm_mi104 : zm_bmi 104 (zm_i 104) = true := by decide +kernel
theorem zm_mi105 : zm_bmi 105 (zm_i 105) = true := by decide +kernel
theorem zm_mi106 : zm_bmi 106 (zm_i 106) = true := by decide +kernel
theorem zm_mi107 : zm_bmi 107 (zm_i 107) = true := by decide +kernel
theorem zm_mi108 : zm_bmi 108 (zm_i 108) = true := by decide +kernel
theorem zm_mi109 : zm_bmi 109 (zm_i 109) = true := by decide +kernel
theorem zm_mi110 : zm_bmi 110 (zm_i 110) = true := by decide +kernel
theorem zm_mi111 : zm_bmi 111 (zm_i 111) = true := by decide +kernel
theorem zm_mi112 : zm_bmi 112 (zm_i 112) = true := by decide +kernel
theorem zm_mi113 : zm_bmi 113 (zm_i 113) = true := by decide +kernel
theorem zm_mi114 : zm_bmi 114 (zm_i 114) = true := by decide +kernel
theorem zm_mi115 : zm_bmi 115 (zm_i 115) = true := by decide +kernel
theorem zm_mi116 : zm_bmi 116 (zm_i 116) = true := by decide +kernel
theorem zm_mi117 : zm_bmi 117 (zm_i 117) = true := by decide +kernel
theorem zm_mi118 : zm_bmi 118 (zm_i 118) = true := by decide +kernel
theorem zm_mi119 : zm_bmi 119 (zm_i 119) = true := by decide +kernel
theorem zm_mi120 : zm_bmi 120 (zm_i 120) = true := by decide +kernel
theorem zm_mi121 : zm_bmi 121 (zm_i 121) = true := by decide +kernel
theorem zm_mi122 : zm_bmi 122 (zm_i 122) = true := by decide +kernel
theorem zm_mi123 : zm_bmi 123 (zm_i 123) = true := by decide +kernel
theorem zm_mi124 : zm_bmi 124 (zm_i 124) = true := by decide +kernel
theorem zm_mi125 : zm_bmi 125 (zm_i 125) = true := by decide +kernel
theorem zm_mi126 : zm_bmi 126 (zm_i 126) = true := by decide +kernel
theorem zm_mi127 : zm_bmi 127 (zm_i 127) = true := by decide +kernel
theorem zm_mi128 : zm_bmi 128 (zm_i 128) = true := by decide +kernel
theorem zm_mi129 : zm_bmi 129 (zm_i 129) = true := by decide +kernel
theorem zm_mi130 : zm_bmi 130 (zm_i 130) = true := by decide +kernel
theorem zm_mi131 : zm_bmi 131 (zm_i 131) = true := by decide +kernel
theorem zm_mi132 : zm_bmi 132 (zm_i 132) = true := by decide +kernel
theorem zm_mi133 : zm_bmi 133 (zm_i 133) = true := by decide +kernel
theorem zm_mi134 : zm_bmi 134 (zm_i 134) = true := by decide +kernel
theorem zm_mi135 : zm_bmi 135 (zm_i 135) = true := by decide +kernel
theorem zm_mi136 : zm_bmi 136 (zm_i 136) = true := by decide +kernel
theorem zm_mi137 : zm_bmi 137 (zm_i 137) = true := by decide +kernel
theorem zm_mi138 : zm_bmi 138 (zm_i 138) = true := by decide +kernel
theorem zm_mi139 : zm_bmi 139 (zm_i 139) = true := by decide +kernel
theorem zm_mi140 : zm_bmi 140 (zm_i 140) = true := by decide +kernel
theorem zm_mi141 : zm_bmi 141 (zm_i 141) = true := by decide +kernel
theorem zm_mi142 : zm_bmi 142 (zm_i 142) = true := by decide +kernel
theorem zm_mi143 : zm_bmi 143 (zm_i 143) = true := by decide +kernel
theorem zm_mi144 : zm_bmi 144 (zm_i 144) = true := by decide +kernel
theorem zm_mi145 : zm_bmi 145 (zm_i 145) = true := by decide +kernel
theorem zm_mi146 : zm_bmi 146 (zm_i 146) = true := by decide +kernel
theorem zm_mi147 : zm_bmi 147 (zm_i 147) = true := by decide +kernel
theorem zm_mi148 : zm_bmi 148 (zm_i 148) = true := by decide +kernel
theorem zm_mi149 : zm_bmi 149 (zm_i 149) = true := by decide +kernel
theorem zm_mi150 : zm_bmi 150 (zm_i 150) = true := by decide +kernel
theorem zm_mi151 : zm_bmi 151 (zm_i 151) = true := by decide +kernel
theorem zm_mi152 : zm_bmi 152 (zm_i 152) = true := by decide +kernel
theorem zm_mi153 : zm_bmi 153 (zm_i 153) = true := by decide +kernel
theorem zm_mi154 : zm_bmi 154 (zm_i 154) = true := by decide +kernel
theorem zm_mi155 : zm_bmi 155 (zm_i 155) = true := by decide +kernel
theorem zm_mi156 : zm_bmi 156 (zm_i 156) = true := by decide +kernel
theorem zm_mi157 : zm_bmi 157 (zm_i 157) = true := by decide +kernel
theorem zm_mi158 : zm_bmi 158 (zm_i 158) = true := by decide +kernel
theorem zm_mi159 : zm_bmi 159 (zm_i 159) = true := by decide +kernel
theorem zm_mi160 : zm_bmi 160 (zm_i 160) = true := by decide +kernel
theorem zm_mi161 : zm_bmi 161 (zm_i 161) = true := by decide +kernel
theorem zm_mi162 : zm_bmi 162 (zm_i 162) = true := by decide +kernel
theorem zm_mi163 : zm_bmi 163 (zm_i 163) = true := by decide +kernel
theorem zm_mi164 : zm_bmi 164 (zm_i 164) = true := by decide +kernel
theorem zm_mi165 : zm_bmi 165 (zm_i 165) = true := by decide +kernel
theorem zm_mi166 : zm_bmi 166 (zm_i 166) = true := by decide +kernel
theorem zm_mi167 : zm_bmi 167 (zm_i 167) = true := by decide +kernel
theorem zm_mi168 : zm_bmi 168 (zm_i 168) = true := by decide +kernel
theorem zm_mi169 : zm_bmi 169 (zm_i 169) = true := by decide +kernel
theorem zm_mi170 : zm_bmi 170 (zm_i 170) = true := by decide +kernel
theorem zm_mi171 : zm_bmi 171 (zm_i 171) = true := by decide +kernel
theorem zm_mi172 : zm_bmi 172 (zm_i 172) = true := by decide +kernel
theorem zm_mi173 : zm_bmi 173 (zm_i 173) = true := by decide +kernel
theorem zm_mi174 : zm_bmi 174 (zm_i 174) = true := by decide +kernel
theorem zm_mi175 : zm_bmi 175 (zm_i 175) = true := by decide +kernel
theorem zm_mi176 : zm_bmi 176 (zm_i 176) = true := by decide +kernel
theorem zm_mi177 : zm_bmi 177 (zm_i 177) = true := by decide +kernel
theorem zm_mi178 : zm_bmi 178 (zm_i 178) = true := by decide +kernel
theorem zm_mi179 : zm_bmi 179 (zm_i 179) = true := by decide +kernel
theorem zm_mi180 : zm_bmi 180 (zm_i 180) = true := by decide +kernel
theorem zm_mi181 : zm_bmi 181 (zm_i 181) = true := by decide +kernel
theorem zm_mi182 : zm_bmi 182 (zm_i 182) = true := by decide +kernel
theorem zm_mi183 : zm_bmi 183 (zm_i 183) = true := by decide +kernel
theorem zm_mi184 : zm_bmi 184 (zm_i 184) = true := by decide +kernel
theorem zm_mi185 : zm_bmi 185 (zm_i 185) = true := by decide +kernel
theorem zm_mi186 : zm_bmi 186 (zm_i 186) = true := by decide +kernel
theorem zm_mi187 : zm_bmi 187 (zm_i 187) = true := by decide +kernel
theorem zm_mi188 : zm_bmi 188 (zm_i 188) = true := by decide +kernel
theorem zm_mi189 : zm_bmi 189 (zm_i 189) = true := by decide +kernel
theorem zm_mi190 : zm_bmi 190 (zm_i 190) = true := by decide +kernel
theorem zm_mi191 : zm_bmi 191 (zm_i 191) = true := by decide +kernel
theorem zm_mi192 : zm_bmi 192 (zm_i 192) = true := by decide +kernel
theorem zm_mi193 : zm_bmi 193 (zm_i 193) = true := by decide +kernel
theorem zm_mi194 : zm_bmi 194 (zm_i 194) = true := by decide +kernel
theorem zm_mi195 : zm_bmi 195 (zm_i 195) = true := by decide +kernel
theorem zm_mi196 : zm_bmi 196 (zm_i 196) = true := by decide +kernel
theorem zm_mi197 : zm_bmi 197 (zm_i 197) = true := by decide +kernel
theorem zm_mi198 : zm_bmi 198 (zm_i 198) = true := by decide +kernel
theorem zm_mi199 : zm_bmi 199 (zm_i 199) = true := by decide +kernel
theorem zm_mi200 : zm_bmi 200 (zm_i 200) = true := by decide +kernel
theorem zm_mi201 : zm_bmi 201 (zm_i 201) = true := by decide +kernel
theorem zm_mi202 : zm_bmi 202 (zm_i 202) = true := by decide +kernel
theorem zm_mi203 : zm_bmi 203 (zm_i 203) = true := by decide +kernel
theorem zm_mi204 : zm_bmi 204 (zm_i 204) = true := by decide +kernel
theorem zm_mi205 : zm_bmi 205 (zm_i 205) = true := by decide +kernel
theorem zm_mi206 : zm_bmi 206 (zm_i 206) = true := by decide +kernel
theorem zm_mi207 : zm_bmi 207 (zm_i 207) = true := by decide +kernel
theorem zm_mi208 : zm_bmi 208 (zm_i 208) = true := by decide +kernel
theorem zm_mi209 : zm_bmi 209 (zm_i 209) = true := by decide +kernel
theorem zm_mi210 : zm_bmi 210 (zm_i 210) = true := by decide +kernel
theorem zm_mi211 : zm_bmi 211 (zm_i 211) = true := by decide +kernel
theorem zm_mi212 : zm_bmi 212 (zm_i 212) = true := by decide +kernel
theorem zm_mi213 : zm_bmi 213 (zm_i 213) = true := by decide +kernel
theorem zm_miA : ∀ y : Nat, 0 < y → y < 214 → zm_bmi y (zm_i y) = true
  | 0, h, _ => absurd h (by omega)
  | 1, _, _ => zm_mi1
  | 2, _, _ => zm_mi2
  | 3, _, _ => zm_mi3
  | 4, _, _ => zm_mi4
  | 5, _, _ => zm_mi5
  | 6, _, _ => zm_mi6
  | 7, _, _ => zm_mi7
  | 8, _, _ => zm_mi8
  | 9, _, _ => zm_mi9
  | 10, _, _ => zm_mi10
  | 11, _, _ => zm_mi11
  | 12, _, _ => zm_mi12
  | 13, _, _ => zm_mi13
  | 14, _, _ => zm_mi14
  | 15, _, _ => zm_mi15
  | 16, _, _ => zm_mi16
  | 17, _, _ => zm_mi17
  | 18, _, _ => zm_mi18
  | 19, _, _ => zm_mi19
  | 20, _, _ => zm_mi20
  | 21, _, _ => zm_mi21
  | 22, _, _ => zm_mi22
  | 23, _, _ => zm_mi23
  | 24, _, _ => zm_mi24
  | 25, _, _ => zm_mi25
  | 26, _, _ => zm_mi26
  | 27, _, _ => zm_mi27
  | 28, _, _ => zm_mi28
  | 29, _, _ => zm_mi29
  | 30, _, _ => zm_mi30
  | 31, _, _ => zm_mi31
  | 32, _, _ => zm_mi32
  | 33, _, _ => zm_mi33
  | 34, _, _ => zm_mi34
  | 35, _, _ => zm_mi35
  | 36, _, _ => zm_mi36
  | 37, _, _ => zm_mi37
  | 38, _, _ => zm_mi38
  | 39, _, _ => zm_mi39
  | 40, _, _ => zm_mi40
  | 41, _, _ => zm_mi41
  | 42, _, _ => zm_mi42
  | 43, _, _ => zm_mi43
  | 44, _, _ => zm_mi44
  | 45, _, _ => zm_mi45
  | 46, _, _ => zm_mi46
  | 47, _, _ => zm_mi47
  | 48, _, _ => zm_mi48
  | 49, _, _ => zm_mi49
  | 50, _, _ => zm_mi50
  | 51, _, _ => zm_mi51
  | 52, _, _ => zm_mi52
  | 53, _, _ => zm_mi53
  | 54, _, _ => zm_mi54
  | 55, _, _ => zm_mi55
  | 56, _, _ => zm_mi56
  | 57, _, _ => zm_mi57
  | 58, _, _ => zm_mi58
  | 59, _, _ => zm_mi59
  | 60, _, _ => zm_mi60
  | 61, _, _ => zm_mi61
  | 62, _, _ => zm_mi62
  | 63, _, _ => zm_mi63
  | 64, _, _ => zm_mi64
  | 65, _, _ => zm_mi65
  | 66, _, _ => zm_mi66
  | 67, _, _ => zm_mi67
  | 68, _, _ => zm_mi68
  | 69, _, _ => zm_mi69
  | 70, _, _ => zm_mi70
  | 71, _, _ => zm_mi71
  | 72, _, _ => zm_mi72
  | 73, _, _ => zm_mi73
  | 74, _, _ => zm_mi74
  | 75, _, _ => zm_mi75
  | 76, _, _ => zm_mi76
  | 77, _, _ => zm_mi77
  | 78, _, _ => zm_mi78
  | 79, _, _ => zm_mi79
  | 80, _, _ => zm_mi80
  | 81, _, _ => zm_mi81
  | 82, _, _ => zm_mi82
  | 83, _, _ => zm_mi83
  | 84, _, _ => zm_mi84
  | 85, _, _ => zm_mi85
  | 86, _, _ => zm_mi86
  | 87, _, _ => zm_mi87
  | 88, _, _ => zm_mi88
  | 89, _, _ => zm_mi89
  | 90, _, _ => zm_mi90
  | 91, _, _ => zm_mi91
  | 92, _, _ => zm_mi92
  | 93, _, _ => zm_mi93
  | 94, _, _ => zm_mi94
  | 95, _, _ => zm_mi95
  | 96, _, _ => zm_mi96
  | 97, _, _ => zm_mi97
  | 98, _, _ => zm_mi98
  | 99, _, _ => zm_mi99
  | 100, _, _ => zm_mi100
  | 101, _, _ => zm_mi101
  | 102, _, _ => zm_mi102
  | 103, _, _ => zm_mi103
  | 104, _, _ => zm_mi104
  | 105, _, _ => zm_mi105
  | 106, _, _ => zm_mi106
  | 107, _, _ => zm_mi107
  | 108, _, _ => zm_mi108
  | 109, _, _ => zm_mi109
  | 110, _, _ => zm_mi110
  | 111, _, _ => zm_mi111
  | 112, _, _ => zm_mi112
  | 113, _, _ => zm_mi113
  | 114, _, _ => zm_mi114
  | 115, _, _ => zm_mi115
  | 116, _, _ => zm_mi116
  | 117, _, _ => zm_mi117
  | 118, _, _ => zm_mi118
  | 119, _, _ => zm_mi119
  | 120, _, _ => zm_mi120
  | 121, _, _ => zm_mi121
  | 122, _, _ => zm_mi122
  | 123, _, _ => zm_mi123
  | 124, _, _ => zm_mi124
  | 125, _, _ => zm_mi125
  | 126, _, _ => zm_mi126
  | 127, _, _ => zm_mi127
  | 128, _, _ => zm_mi128
  | 129, _, _ => zm_mi129
  | 130, _, _ => zm_mi130
  | 131, _, _ => zm_mi131
  | 132, _, _ => zm_mi132
  | 133, _, _ => zm_mi133
  | 134, _, _ => zm_mi134
  | 135, _, _ => zm_mi135
  | 136, _, _ => zm_mi136
  | 137, _, _ => zm_mi137
  | 138, _, _ => zm_mi138
  | 139, _, _ => zm_mi139
  | 140, _, _ => zm_mi140
  | 141, _, _ => zm_mi141
  | 142, _, _ => zm_mi142
  | 143, _, _ => zm_mi143
  | 144, _, _ => zm_mi144
  | 145, _, _ => zm_mi145
  | 146, _, _ => zm_mi146
  | 147, _, _ => zm_mi147
  | 148, _, _ => zm_mi148
  | 149, _, _ => zm_mi149
  | 150, _, _ => zm_mi150
  | 151, _, _ => zm_mi151
  | 152, _, _ => zm_mi152
  | 153, _, _ => zm_mi153
  | 154, _, _ => zm_mi154
  | 155, _, _ => zm_mi155
  | 156, _, _ => zm_mi156
  | 157, _, _ => zm_mi157
  | 158, _, _ => zm_mi158
  | 159, _, _ => zm_mi159
  | 160, _, _ => zm_mi160
  | 161, _, _ => zm_mi161
  | 162, _, _ => zm_mi162
  | 163, _, _ => zm_mi163
  | 164, _, _ => zm_mi164
  | 165, _, _ => zm_mi165
  | 166, _, _ => zm_mi166
  | 167, _, _ => zm_mi167
  | 168, _, _ => zm_mi168
  | 169, _, _ => zm_mi169
  | 170, _, _ => zm_mi170
  | 171, _, _ => zm_mi171
  | 172, _, _ => zm_mi172
  | 173, _, _ => zm_mi173
  | 174, _, _ => zm_mi174
  | 175, _, _ => zm_mi175
  | 176, _, _ => zm_mi176
  | 177, _, _ => zm_mi177
  | 178, _, _ => zm_mi178
  | 179, _, _ => zm_mi179
  | 180, _, _ => zm_mi180
  | 181, _, _ => zm_mi181
  | 182, _, _ => zm_mi182
  | 183, _, _ => zm_mi183
  | 184, _, _ => zm_mi184
  | 185, _, _ => zm_mi185
  | 186, _, _ => zm_mi186
  | 187, _, _ => zm_mi187
  | 188, _, _ => zm_mi188
  | 189, _, _ => zm_mi189
  | 190, _, _ => zm_mi190
  | 191, _, _ => zm_mi191
  | 192, _, _ => zm_mi192
  | 193, _, _ => zm_mi193
  | 194, _, _ => zm_mi194
  | 195, _, _ => zm_mi195
  | 196, _, _ => zm_mi196
  | 197, _, _ => zm_mi197
  | 198, _, _ => zm_mi198
  | 199, _, _ => zm_mi199
  | 200, _, _ => zm_mi200
  | 201, _, _ => zm_mi201
  | 202, _, _ => zm_mi202
  | 203, _, _ => zm_mi203
  | 204, _, _ => zm_mi204
  | 205, _, _ => zm_mi205
  | 206, _, _ => zm_mi206
  | 207, _, _ => zm_mi207
  | 208, _, _ => zm_mi208
  | 209, _, _ => zm_mi209
  | 210, _, _ => zm_mi210
  | 211, _, _ => zm_mi211
  | 212, _, _ => zm_mi212
  | 213, _, _ => zm_mi213
  | n + 214, _, h => absurd h (by omega)
theorem zm_mtA : (List.range 214).all (fun y => decide (zm_rt y = (match zm_rk y with | 0 => none | 1 => some .int | 2 => some .boolean | 3 => some .long | 5 => some .byte | _ => some (.object "FathersPay$Text")))) = true := by decide +kernel
def zm_bfd (i : Nat) (j : Nat) : Bool := zm_w ((zm_lp.getD i []).getD j 0) (u_lay (zm_cn i) (zm_T i) j) && (decide (parseFieldDescriptor (zm_T i j).2.2.1 = some (zm_ty i j)) && ((zm_T i j).2.2.2 == (zm_ft i j == 2)) && decide (zm_ft i j = (match zm_ty i j with | .int => 0 | .long => 1 | .boolean => 4 | .object "java/lang/String" => 3 | _ => 2)))
theorem zm_fdA : (List.range 12).all (fun i => (List.range (zm_nf i)).all (zm_bfd i)) = true := by decide +kernel
theorem zm_fnA : (List.range 12).all (fun i => (List.range (zm_nf i)).all (fun a => (List.range (zm_nf i)).all (fun b => Nat.beq a b || decide ((zm_T i a).2.1 ≠ (zm_T i b).2.1)))) = true := by decide +kernel
def zm_bfl (o : Nat) (e : Nat × Nat × Nat × Nat) : Bool := zm_w e.2.2.2 (.fieldLink (zm_cn o) e.1 (zm_T e.2.1 e.2.2.1).1 (zm_T e.2.1 e.2.2.1).2.1 (zm_T e.2.1 e.2.2.1).2.2.1) && (decide (e.2.1 < 12) && decide (e.2.2.1 < zm_nf e.2.1))
theorem zm_flA : ((List.range 16).all fun o => (zm_flT.getD o []).all (zm_bfl o)) = true := by decide +kernel
def zm_bml (o : Nat) (e : Nat × Nat × Bool × Nat) : Bool := (bif e.2.2.1 then zm_nwm.any (fun q => Nat.beq q.1 o && (Nat.beq q.2.1 e.1 && Nat.beq q.2.2.1 e.2.1)) else zm_w e.2.2.2 (.methodLink (zm_cn o) e.1 (zm_nm e.2.1))) && (decide (0 < e.2.1) && decide (e.2.1 < 214) && (!e.2.2.1 || zm_is e.2.1))
theorem zm_mlA : ((List.range 16).all fun o => (zm_mlT.getD o []).all (zm_bml o)) = true := by decide +kernel
def zm_bn (b : Nat) : MethodName := match b with | 1 => Lib.Math.min.name | 2 => Lib.Math.max.name | _ => arraycopyName
def zm_bbi (o : Nat) (e : Nat × Nat × Nat) : Bool := zm_w e.2.2 (.methodLink (zm_cn o) e.1 (zm_bn e.2.1)) && decide (e.2.1 = 1 ∨ e.2.1 = 2 ∨ e.2.1 = 3)
theorem zm_biA : ((List.range 16).all fun o => (zm_biT.getD o []).all (zm_bbi o)) = true := by decide +kernel
def zm_bgs (o : Nat) (e : Nat × Nat × Bool × Nat) : Bool := bif Nat.beq e.2.1 9 then (!e.2.2.1 && zm_w e.2.2.2 (.fieldLink (zm_cn o) e.1 "java/lang/String" "COMPACT_STRINGS" "Z")) else (decide (e.2.1 < 5) && (bif e.2.2.1 then zm_nwf.any (fun q => Nat.beq q.1 o && (Nat.beq q.2.1 e.1 && Nat.beq q.2.2.1 e.2.1)) else zm_w e.2.2.2 (.fieldLink (zm_cn o) e.1 "FathersPay" (zm_sn.getD e.2.1 "") "[I")))
theorem zm_gsA : ((List.range 16).all fun o => (zm_gsT.getD o []).all (zm_bgs o)) = true := by decide +kernel
def zm_bld (o : Nat) (e : Nat × Int32 × Nat) : Bool := zm_w e.2.2 (.constant (zm_cn o) e.1 e.2.1)
theorem zm_ldA : ((List.range 16).all fun o => (zm_ldT.getD o []).all (zm_bld o)) = true := by decide +kernel
def zm_bl2 (o : Nat) (e : Nat × Int64 × Nat) : Bool := zm_w e.2.2 (.constantLong (zm_cn o) e.1 e.2.1)
theorem zm_l2A : ((List.range 16).all fun o => (zm_l2T.getD o []).all (zm_bl2 o)) = true := by decide +kernel
theorem zm_nwmA : zm_nwm.all (fun e => decide (lw_tbl[e.2.2.2]? = some (.methodLinkNest (zm_cn e.1) e.2.1 (zm_nm e.2.2.1) "FathersPay"))) = true := by decide +kernel
theorem zm_nwfA : zm_nwf.all (fun e => decide (lw_tbl[e.2.2.2]? = some (.fieldLinkNest (zm_cn e.1) e.2.1 "FathersPay" (zm_sn.getD e.2.2.1 "") "[I" "FathersPay"))) = true := by decide +kernel
theorem zm_bw (c : Jvm.Cond) (i : Nat) (h : zm_w i c = true) : c ∈ zm_TT := zm_inT h
end
section
/-- places of words: String.value, String.coder; static min, max, arraycopy; initialized Math, System; code of min, max; native arraycopy -/
def zm_wp : List Nat := [1489, 1488, 599, 616, 585, 88, 86, 600, 617, 586]
def zm_wq (n : Nat) : Jvm.Cond := match n with
  | 0 => .fieldLink "java/lang/String" 9 "java/lang/String" "value" "[B"
  | 1 => .fieldLink "java/lang/String" 15 "java/lang/String" "coder" "B"
  | 2 => .static Lib.Math.min.name
  | 3 => .static Lib.Math.max.name
  | 4 => .static arraycopyName
  | 5 => .initialized "java/lang/Math"
  | 6 => .initialized "java/lang/System"
  | 7 => .code Lib.Math.min.name Lib.Math.min.code 2 (some .int)
  | 8 => .code Lib.Math.max.name Lib.Math.max.code 2 (some .int)
  | _ => .native arraycopyName
theorem zm_wqA : (List.range 10).all (fun n => zm_w (zm_wp.getD n 0) (zm_wq n)) = true := by decide +kernel
theorem zm_wq_in {n : Nat} (h : n < 10) : zm_wq n ∈ zm_TT := zm_inT (List.all_eq_true.mp zm_wqA n (List.mem_range.mpr h))
end
section
/-! The abstract machine: a memory of numbers, cells by their numbers, one step an instruction, a run that returns. -/
/-- ints by cell and place; longs by cell and place; which String the reader holds; the script's length and ints -/
abbrev zm_M : Type := (Nat → Nat → Int32) × (Nat → Nat → Int64) × Nat × Nat × (Nat → Int32)
abbrev zm_L : Type := List (Option Value)
def zm_sr (M : zm_M) (k : Nat) (f : Nat → Int32) : zm_M := (fun a => if a = k then f else M.1 a, M.2)
def zm_si (M : zm_M) (k j : Nat) (v : Int32) : zm_M := zm_sr M k (upd (M.1 k) j v)
def zm_sl (M : zm_M) (k j : Nat) (v : Int64) : zm_M := (M.1, fun a b => if a = k ∧ b = j then v else M.2.1 a b, M.2.2)
def zm_ss (M : zm_M) (q : Nat) : zm_M := (M.1, M.2.1, q, M.2.2.2)
def zm_inb (i : Int32) (n : Nat) : Bool := decide (0 ≤ i.toInt) && decide (i.toInt < n)
def zm_cmp (c : Jvm.ClassFile.Cond) (x y : Int32) : Bool := match c with
  | .eq => decide (x = y)
  | .ne => decide (¬ x = y)
  | .lt => decide (x < y)
  | .ge => decide (y ≤ x)
  | .gt => decide (y < x)
  | .le => decide (x ≤ y)
def zm_tg (pc : Nat) (off : Int) : Option Nat := if 0 ≤ (pc : Int) + off then some ((pc : Int) + off).toNat else none
def zm_get (ls : zm_L) (i : Nat) : Option Value := ls.getD i none
def zm_kill (ls : zm_L) (i : Nat) : zm_L := match i with
  | 0 => ls
  | j + 1 => match ls.getD j none with
    | some v => bif Nat.beq v.category 2 then ls.set j none else ls
    | none => ls
def zm_set1 (ls : zm_L) (i : Nat) (v : Value) : zm_L := (zm_kill ls i).set i (some v)
def zm_set2 (ls : zm_L) (i : Nat) (v : Value) : zm_L := ((zm_kill ls i).set i (some v)).set (i + 1) none
def zm_fv (M : zm_M) (k ci sl : Nat) : Option Value := match zm_ft ci sl with
  | 0 => some (.int (M.1 k sl))
  | 4 => some (.int (M.1 k sl))
  | 1 => some (.long (M.2.1 k sl))
  | 2 => (zm_rf k sl).map .ref
  | 3 => some (.ref M.2.2.1)
  | _ => none
def zm_gf (y idx k : Nat) (M : zm_M) : Option Value := match zm_kd k with
  | 13 => if zm_yc y = 13 then (if idx = 9 then some (.ref (k + 2)) else if idx = 15 then some (.int 0) else none) else none
  | kk => match zm_fl (zm_yc y) idx with
    | some (ci, sl, _) => if kk = ci then zm_fv M k ci sl else none
    | none => none
def zm_pv (M : zm_M) (k ci sl : Nat) (v : Value) : Option zm_M := match zm_ft ci sl, v with
  | 0, .int x => some (zm_si M k sl x)
  | 4, .int x => if x = 0 ∨ x = 1 then some (zm_si M k sl x) else none
  | 1, .long x => some (zm_sl M k sl x)
  | 3, .ref q => if q = 110 ∨ q = 111 then some (zm_ss M q) else none
  | _, _ => none
def zm_pf (y idx k : Nat) (v : Value) (M : zm_M) : Option zm_M := match zm_fl (zm_yc y) idx with
  | some (ci, sl, _) => if zm_kd k = ci then zm_pv M k ci sl v else none
  | none => none
def zm_ald (y k : Nat) (i : Int32) (M : zm_M) : Option Value := match zm_kd k with
  | 20 => if zm_inb i (zm_ln k) = true then some (.int (M.1 k i.toNatClampNeg)) else none
  | 30 => if zm_inb i (zm_ln k) = true then some (.int (zm_sv k i.toNatClampNeg)) else none
  | 40 => if y = 0 ∧ zm_inb i M.2.2.2.1 = true then some (.int (M.2.2.2.2 i.toNatClampNeg)) else none
  | _ => none
def zm_alen (y k : Nat) (M : zm_M) : Option Int32 := match zm_kd k with
  | 20 => some (Int32.ofNat (zm_ln k))
  | 21 => some (Int32.ofNat (zm_ln k))
  | 30 => some (Int32.ofNat (zm_ln k))
  | 32 => some (Int32.ofNat (zm_ln k))
  | 40 => if y = 0 then some (Int32.ofNat M.2.2.2.1) else none
  | _ => none
def zm_ts (x : Int) : Int → List Int → Int → Int
  | _, [], d => d
  | lo, o :: l, d => if x = lo then o else zm_ts x (lo + 1) l d
def zm_cs (st : List Value) : Bool := Nat.ble ((st.map fun v => v.category).sum) 8
/-- a constant, as it is written -/
def zm_lit (n : Int) : Int32 := match n with
  | .ofNat k => Int32.ofNat k
  | .negSucc k => - Int32.ofNat (k + 1)
def zm_b2 (st : List Value) (f : Int32 → Int32 → Int32) : Option (List Value) := match st with
  | .int y :: .int x :: r => some (.int (f x y) :: r)
  | _ => none
def zm_b3 (st : List Value) (f : Int64 → Int64 → Int64) : Option (List Value) := match st with
  | .long y :: .long x :: r => some (.long (f x y) :: r)
  | _ => none
def zm_u1 (st : List Value) (f : Int32 → Value) : Option (List Value) := match st with
  | .int x :: r => some (f x :: r)
  | _ => none
/-- an instruction that neither moves locals nor memory nor jumps: the stack behind it -/
def zm_ss1 (y : Nat) (i : Instr) (ls : zm_L) (st : List Value) (M : zm_M) : Option (List Value) := match i with
  | .iconst n => some (.int (zm_lit n) :: st)
  | .bipush n => some (.int (zm_lit n) :: st)
  | .sipush n => some (.int (zm_lit n) :: st)
  | .lconst n => some (.long (Int64.ofNat (n : Nat)) :: st)
  | .iload_n k => match zm_get ls (k : Nat) with
    | some (.int x) => some (.int x :: st)
    | _ => none
  | .iload k => match zm_get ls k with
    | some (.int x) => some (.int x :: st)
    | _ => none
  | .aload_n k => match zm_get ls (k : Nat) with
    | some (.ref x) => some (.ref x :: st)
    | _ => none
  | .aload k => match zm_get ls k with
    | some (.ref x) => some (.ref x :: st)
    | _ => none
  | .lload_n k => match zm_get ls (k : Nat) with
    | some (.long x) => some (.long x :: st)
    | _ => none
  | .lload k => match zm_get ls k with
    | some (.long x) => some (.long x :: st)
    | _ => none
  | .iadd => zm_b2 st (fun x y => x + y)
  | .isub => zm_b2 st (fun x y => x - y)
  | .imul => zm_b2 st (fun x y => x * y)
  | .iand => zm_b2 st (fun x y => x &&& y)
  | .ior => zm_b2 st (fun x y => x ||| y)
  | .ixor => zm_b2 st (fun x y => x ^^^ y)
  | .ishl => zm_b2 st (fun x y => x <<< (y &&& 31))
  | .ishr => zm_b2 st (fun x y => x >>> (y &&& 31))
  | .iushr => zm_b2 st (fun x y => (x.toUInt32 >>> (y.toUInt32 &&& Int32.toUInt32 31)).toInt32)
  | .idiv => match st with
    | .int y :: .int x :: r => if y = 0 then none else some (.int (x / y) :: r)
    | _ => none
  | .irem => match st with
    | .int y :: .int x :: r => if y = 0 then none else some (.int (x - x / y * y) :: r)
    | _ => none
  | .ineg => zm_u1 st (fun x => .int (-x))
  | .i2l => zm_u1 st (fun x => .long x.toInt64)
  | .i2b => zm_u1 st (fun x => .int x.toInt8.toInt32)
  | .i2s => zm_u1 st (fun x => .int x.toInt16.toInt32)
  | .i2c => zm_u1 st (fun x => .int (x.toUInt32 % 65536).toInt32)
  | .l2i => match st with
    | .long x :: r => some (.int x.toInt32 :: r)
    | _ => none
  | .ladd => zm_b3 st (fun x y => x + y)
  | .lmul => zm_b3 st (fun x y => x * y)
  | .land => zm_b3 st (fun x y => x &&& y)
  | .lor => zm_b3 st (fun x y => x ||| y)
  | .ldiv => match st with
    | .long y :: .long x :: r => if y = 0 then none else some (.long (x / y) :: r)
    | _ => none
  | .lrem => match st with
    | .long y :: .long x :: r => if y = 0 then none else some (.long (x - x / y * y) :: r)
    | _ => none
  | .lshl => match st with
    | .int y :: .long x :: r => some (.long (x <<< (y.toInt64 &&& 63)) :: r)
    | _ => none
  | .lshr => match st with
    | .int y :: .long x :: r => some (.long (x >>> (y.toInt64 &&& 63)) :: r)
    | _ => none
  | .lushr => match st with
    | .int y :: .long x :: r => some (.long (x.toUInt64 >>> (y.toInt64.toUInt64 &&& Int64.toUInt64 63)).toInt64 :: r)
    | _ => none
  | .lcmp => match st with
    | .long y :: .long x :: r => some (.int (lg_cmp x y) :: r)
    | _ => none
  | .dup => match st with
    | .int x :: r => some (.int x :: .int x :: r)
    | .ref x :: r => some (.ref x :: .ref x :: r)
    | _ => none
  | .dup2 => match st with
    | .int x :: .ref a :: r => some (.int x :: .ref a :: .int x :: .ref a :: r)
    | _ => none
  | .pop => match st with
    | .int _ :: r => some r
    | _ => none
  | .getfield idx => match st with
    | .ref k :: r => match zm_gf y idx k M with
      | some v => some (v :: r)
      | none => none
    | _ => none
  | .getstatic idx => match zm_gs (zm_yc y) idx with
    | some (t, _, _) => if t = 9 then some (.int 1 :: st) else some (.ref (100 + t) :: st)
    | none => none
  | .ldc idx => match zm_ld (zm_yc y) idx with
    | some (v, _) => some (.int v :: st)
    | none => if zm_yc y = 10 ∧ idx = 209 then some (.ref 110 :: st) else if zm_yc y = 10 ∧ idx = 211 then some (.ref 111 :: st) else none
  | .ldc_w idx => match zm_ld (zm_yc y) idx with
    | some (v, _) => some (.int v :: st)
    | none => none
  | .ldc2_w idx => match zm_l2 (zm_yc y) idx with
    | some (v, _) => some (.long v :: st)
    | none => none
  | .iaload => match st with
    | .int j :: .ref k :: r => match zm_ald y k j M with
      | some v => some (v :: r)
      | none => none
    | _ => none
  | .baload => match st with
    | .int j :: .ref k :: r => match zm_kd k with
      | 32 => if zm_inb j (zm_ln k) = true then some (.int (zm_sb k j.toNatClampNeg) :: r) else none
      | _ => none
    | _ => none
  | .aaload => match st with
    | .int j :: .ref k :: r => match zm_kd k with
      | 21 => if zm_inb j (zm_ln k) = true then (match zm_rf k j.toNatClampNeg with
        | some a => some (.ref a :: r)
        | none => none) else none
      | _ => none
    | _ => none
  | .arraylength => match st with
    | .ref k :: r => match zm_alen y k M with
      | some v => some (.int v :: r)
      | none => none
    | _ => none
  | _ => none
/-- how long an instruction is (switches: 0, any length) -/
def zm_il (i : Instr) : Nat := match i with
  | .bipush _ | .iload _ | .aload _ | .lload _ | .istore _ | .astore _ | .lstore _ | .ldc _ => 2
  | .sipush _ | .ifCond _ _ | .if_icmp _ _ | .goto _ | .iinc _ _ | .getfield _ | .putfield _ | .getstatic _ | .invokevirtual _ | .invokestatic _ | .ldc_w _ | .ldc2_w _ | .invokespecial _ | .new _ => 3
  | .tableswitch _ _ _ _ | .lookupswitch _ _ => 0
  | _ => 1
def zm_lb (e : Nat × Instr × Nat) : Bool := match zm_il e.2.1 with
  | 0 => true
  | n => Nat.beq e.2.2 n
/-- stores: the locals behind it, and the stack -/
def zm_sst (i : Instr) (ls : zm_L) (st : List Value) : Option (zm_L × List Value) := match i with
  | .istore_n k => match st with
    | .int x :: r => if (k : Nat) < ls.length then some (zm_set1 ls (k : Nat) (.int x), r) else none
    | _ => none
  | .istore k => match st with
    | .int x :: r => if k < ls.length then some (zm_set1 ls k (.int x), r) else none
    | _ => none
  | .astore_n k => match st with
    | .ref x :: r => if (k : Nat) < ls.length then some (zm_set1 ls (k : Nat) (.ref x), r) else none
    | _ => none
  | .astore k => match st with
    | .ref x :: r => if k < ls.length then some (zm_set1 ls k (.ref x), r) else none
    | _ => none
  | .lstore_n k => match st with
    | .long x :: r => if (k : Nat) + 1 < ls.length then some (zm_set2 ls (k : Nat) (.long x), r) else none
    | _ => none
  | .lstore k => match st with
    | .long x :: r => if k + 1 < ls.length then some (zm_set2 ls k (.long x), r) else none
    | _ => none
  | .iinc k n => match zm_get ls k with
    | some (.int x) => some (zm_set1 ls k (.int (x + zm_lit n)), st)
    | _ => none
  | _ => none
/-- jumps: the place that is next, and the stack -/
def zm_sj (pc : Nat) (i : Instr) (st : List Value) : Option (Nat × List Value) := match i with
  | .ifCond c off => match st, zm_tg pc off with
    | .int x :: r, some t => some (if zm_cmp c x 0 = true then t else pc + 3, r)
    | _, _ => none
  | .if_icmp c off => match st, zm_tg pc off with
    | .int y :: .int x :: r, some t => some (if zm_cmp c x y = true then t else pc + 3, r)
    | _, _ => none
  | .goto off => match zm_tg pc off with
    | some t => some (t, st)
    | none => none
  | .tableswitch dflt lo hi offs => match st with
    | .int x :: r => if hi = lo + (offs.toList.length : Int) - 1 then (match zm_tg pc (zm_ts x.toInt lo offs.toList dflt) with
      | some t => some (t, r)
      | none => none) else none
    | _ => none
  | .lookupswitch dflt ps => match st with
    | .int x :: r => if (ps.toList.zip (ps.toList.drop 1)).all (fun (a, next) => a.1 < next.1) = true then (match zm_tg pc (Op.lookupswitch.offset ps.toList dflt x.toInt) with
      | some t => some (t, r)
      | none => none) else none
    | _ => none
  | _ => none
/-- what writes the memory, and the JDK's three: the stack and the memory behind it -/
def zm_sm (d y : Nat) (i : Instr) (st : List Value) (M : zm_M) : Option (List Value × zm_M) := match i with
  | .putfield idx => match st with
    | v :: .ref k :: r => match zm_pf y idx k v M with
      | some M' => some (r, M')
      | none => none
    | _ => none
  | .iastore => match st with
    | .int x :: .int j :: .ref k :: r => match zm_kd k with
      | 20 => if zm_inb j (zm_ln k) = true then some (r, zm_si M k j.toNatClampNeg x) else none
      | _ => none
    | _ => none
  | .invokestatic idx => if d = 0 then none else match zm_bi (zm_yc y) idx, st with
    | some (1, _), .int y :: .int x :: r => if zm_cs r = true then some (.int (if y < x then y else x) :: r, M) else none
    | some (2, _), .int y :: .int x :: r => if zm_cs r = true then some (.int (if x < y then y else x) :: r, M) else none
    | some (3, _), .int n :: .int dp :: .ref b :: .int sp :: .ref a :: r =>
      if zm_cs r = true ∧ zm_kd a = 20 ∧ zm_kd b = 20 ∧ ¬ sp < 0 ∧ ¬ dp < 0 ∧ ¬ n < 0 ∧ sp.toNatClampNeg + n.toNatClampNeg ≤ zm_ln a ∧ dp.toNatClampNeg + n.toNatClampNeg ≤ zm_ln b then
        some (r, zm_sr M b (va_cpy (M.1 a) (M.1 b) sp.toNatClampNeg dp.toNatClampNeg n.toNatClampNeg)) else none
    | _, _ => none
  | _ => none
/-- a return: the answer -/
def zm_ret (y : Nat) (i : Instr) (st : List Value) : Option (Option Value) := match i, st with
  | .ireturn, [.int x] => match zm_rk y with
    | 1 => some (some (.int x))
    | 2 => if x = 0 ∨ x = 1 then some (some (.int x)) else none
    | 5 => if x = 0 then some (some (.int x)) else none
    | _ => none
  | .lreturn, [.long x] => match zm_rk y with
    | 3 => some (some (.long x))
    | _ => none
  | .areturn, [.ref k] => match zm_rk y with
    | 4 => some (some (.ref k))
    | _ => none
  | .return_, [] => match zm_rk y with
    | 0 => some none
    | _ => none
  | _, _ => none
/-- a call of a method of the tables: which, its arguments, the stack below them -/
def zm_cal (y : Nat) (i : Instr) (st : List Value) : Option (Nat × List Value × List Value) := match i with
  | .invokestatic idx => match zm_ml (zm_yc y) idx with
    | some (y', _, _) => if zm_is y' = true ∧ zm_na y' ≤ st.length ∧ zm_cs (st.drop (zm_na y')) = true then some (y', (st.take (zm_na y')).reverse, st.drop (zm_na y')) else none
    | none => none
  | .invokevirtual idx => match zm_ml (zm_yc y) idx with
    | some (y', nest, _) => match st.drop (zm_na y') with
      | .ref k :: r => if zm_is y' = false ∧ nest = false ∧ zm_na y' ≤ st.length ∧ zm_cs r = true ∧ zm_kd k = zm_yc y' then some (y', .ref k :: (st.take (zm_na y')).reverse, r) else none
      | _ => none
    | none => none
  | _ => none
def zm_len (as : List Value) : Nat := (as.map fun v => v.category).sum
def zm_flat (as : List Value) : zm_L := as.flatMap fun v => bif Nat.beq v.category 2 then [some v, none] else [some v]
/-- the locals at a method's entry -/
def zm_ent (as : List Value) (n : Nat) : zm_L := zm_flat as ++ List.replicate (n - (zm_flat as).length) none
def zm_run : Nat → Nat → Nat → Nat → zm_L → List Value → zm_M → Option (Option Value × zm_M)
  | 0, _, _, _, _, _, _ => none
  | n + 1, d, y, pc, ls, st, M => match zm_at y pc with
    | none => none
    | some (i, len) => match zm_ret y i st with
      | some v => some (v, M)
      | none => match zm_ss1 y i ls st M with
        | some st' => zm_run n d y (pc + len) ls st' M
        | none => match zm_sst i ls st with
          | some (ls', st') => zm_run n d y (pc + len) ls' st' M
          | none => match zm_sj pc i st with
            | some (pc', st') => zm_run n d y pc' ls st' M
            | none => match zm_sm d y i st M with
              | some (st', M') => zm_run n d y (pc + len) ls st' M'
              | none => match d, zm_cal y i st with
                | d' + 1, some (y', as, r) => if (zm_flat as).length ≤ zm_mx y' then (match zm_run n d' y' 0 (zm_ent as (zm_mx y')) [] M with
                  | some (v, M') => zm_run n (d' + 1) y (pc + 3) ls (v.toList ++ r) M'
                  | none => none) else none
                | _, _ => none
end
section
/-! The world of the abstract memory, and what stays beside it. -/
theorem zm_chk_mi {y : Nat} (h0 : 0 < y) (h : y < zm_N) : zm_bmi y (zm_i y) = true := zm_miA y h0 h
def zm_zc (ad : Nat → Nat) (v : Value) : Value := match v with
  | .ref k => .ref (ad k)
  | w => w
theorem zm_zc_cat {ad : Nat → Nat} {v : Value} : (zm_zc ad v).category = v.category := by cases v <;> rfl
def zm_cv (ad : Nat → Nat) (M : zm_M) (k ci j : Nat) : Value := match zm_ft ci j with
  | 1 => .long (M.2.1 k j)
  | 2 => va_rf ((zm_rf k j).map ad)
  | 3 => .ref (ad M.2.2.1)
  | _ => .int (M.1 k j)
def zm_C (ad : Nat → Nat) (cI cJ : ClassId) (M : zm_M) (k : Nat) : va_E :=
  if zm_kd k = 20 then .inl (cI, zm_ln k, .inl (M.1 k))
  else if zm_kd k = 21 then .inl (cJ, zm_ln k, .inr (.inr (.inr (.inr (fun j => (zm_rf k j).map ad)))))
  else .inr (zm_kd k, (List.range (zm_nf (zm_kd k))).map (zm_cv ad M k (zm_kd k)))
def zm_W (ad : Nat → Nat) (cI cJ : ClassId) (M : zm_M) : va_W := (List.range 97).map (fun k => (ad k, zm_C ad cI cJ M k))
section ZW
variable {ad : Nat → Nat} {cI cJ : ClassId} {M M' : zm_M} {k : Nat}
theorem zm_W_get (h : k < 97) : (zm_W ad cI cJ M)[k]? = some (ad k, zm_C ad cI cJ M k) := by
  unfold zm_W
  rw [List.getElem?_map, List.getElem?_range h]
  rfl
theorem zm_W_lt {q : Nat × va_E} (h : (zm_W ad cI cJ M)[k]? = some q) : k < 97 ∧ q.1 = ad k := by
  by_cases hk : k < 97
  · rw [zm_W_get hk] at h
    cases h
    exact ⟨hk, rfl⟩
  · rw [List.getElem?_eq_none (by unfold zm_W; rw [List.length_map, List.length_range]; omega)] at h
    cases h
theorem zm_W_set {x : va_E} (h : k < 97) (hx : zm_C ad cI cJ M' k = x) (hs : ∀ j, j < 97 → j ≠ k → zm_C ad cI cJ M' j = zm_C ad cI cJ M j) : (zm_W ad cI cJ M).set k (ad k, x) = zm_W ad cI cJ M' := by
  apply List.ext_getElem?
  intro i
  by_cases hi : i < 97
  · by_cases e : i = k
    · subst e
      rw [List.getElem?_set_self (by unfold zm_W; rw [List.length_map, List.length_range]; exact hi), zm_W_get hi, hx]
    · rw [List.getElem?_set_ne (Ne.symm e), zm_W_get hi, zm_W_get hi, hs i hi e]
  · rw [List.getElem?_eq_none (by rw [List.length_set]; unfold zm_W; rw [List.length_map, List.length_range]; omega), List.getElem?_eq_none (by unfold zm_W; rw [List.length_map, List.length_range]; omega)]
theorem zm_D_of {A : Nat → Prop} (hA : ∀ i, i < 97 → A (ad i)) (hi : ∀ i j, i < 97 → j < 97 → ad i = ad j → i = j) : va_D A (zm_W ad cI cJ M) := by
  refine ⟨fun i j p q h1 h2 e => ?_, fun k q h => ?_⟩
  · obtain ⟨a1, b1⟩ := zm_W_lt h1
    obtain ⟨a2, b2⟩ := zm_W_lt h2
    exact hi i j a1 a2 (by rw [← b1, ← b2, e])
  · obtain ⟨a1, b1⟩ := zm_W_lt h
    rw [b1]
    exact hA k a1
theorem zm_kd_lt (h : zm_kd k < 12 ∨ zm_kd k = 20 ∨ zm_kd k = 21) : k < 97 := by
  by_cases hk : k < 121
  · have h1 : ∀ k, k < 121 → (decide (zm_kd k < 12 ∨ zm_kd k = 20 ∨ zm_kd k = 21) && Nat.ble 97 k) = false := by decide +kernel
    have h2 := h1 k hk
    rw [decide_eq_true h, Bool.true_and] at h2
    exact Nat.not_le.mp (fun q => by rw [Nat.ble_eq_true_of_le q] at h2; cases h2)
  · have h1 : zm_kd k = 99 := by
      unfold zm_kd
      rw [List.getD_eq_getElem?_getD, List.getElem?_eq_none (by show 121 ≤ k; omega)]
      rfl
    omega
theorem zm_C_obj (h : zm_kd k < 12) : zm_C ad cI cJ M k = .inr (zm_kd k, (List.range (zm_nf (zm_kd k))).map (zm_cv ad M k (zm_kd k))) := by
  unfold zm_C
  rw [if_neg (by omega), if_neg (by omega)]
theorem zm_C_arr (h : zm_kd k = 20) : zm_C ad cI cJ M k = .inl (cI, zm_ln k, .inl (M.1 k)) := by
  unfold zm_C
  rw [if_pos h]
theorem zm_C_row (h : zm_kd k = 21) : zm_C ad cI cJ M k = .inl (cJ, zm_ln k, .inr (.inr (.inr (.inr (fun j => (zm_rf k j).map ad))))) := by
  unfold zm_C
  rw [if_neg (by omega), if_pos h]
theorem zm_C_congr (h1 : M'.1 k = M.1 k) (h2 : M'.2.1 k = M.2.1 k) (h3 : M'.2.2.1 = M.2.2.1) : zm_C ad cI cJ M' k = zm_C ad cI cJ M k := by
  have hc : zm_cv ad M' k (zm_kd k) = zm_cv ad M k (zm_kd k) := by
    funext j
    unfold zm_cv
    rw [h1, h2, h3]
  unfold zm_C
  rw [h1, hc]
theorem zm_sr_ne {f : Nat → Int32} {j : Nat} (h : j ≠ k) : (zm_sr M k f).1 j = M.1 j := if_neg h
theorem zm_sr_eq {f : Nat → Int32} : (zm_sr M k f).1 k = f := if_pos rfl
theorem zm_W_sr {f : Nat → Int32} (h : zm_kd k = 20) : (zm_W ad cI cJ M).set k (ad k, .inl (cI, zm_ln k, .inl f)) = zm_W ad cI cJ (zm_sr M k f) :=
  zm_W_set (zm_kd_lt (Or.inr (Or.inl h))) (by rw [zm_C_arr h, zm_sr_eq]) (fun j _ hj => zm_C_congr (zm_sr_ne hj) rfl rfl)
theorem zm_map_set {n j : Nat} {f g : Nat → Value} {v : Value} (hv : g j = v) (hg : ∀ i, i ≠ j → g i = f i) : ((List.range n).map f).set j v = (List.range n).map g := by
  apply List.ext_getElem?
  intro i
  by_cases hi : i < n
  · by_cases e : i = j
    · subst e
      rw [List.getElem?_set_self (by rw [List.length_map, List.length_range]; exact hi), List.getElem?_map, List.getElem?_range hi, ← hv]
      rfl
    · rw [List.getElem?_set_ne (Ne.symm e), List.getElem?_map, List.getElem?_map, List.getElem?_range hi]
      show some (f i) = some (g i)
      rw [hg i e]
  · rw [List.getElem?_eq_none (by rw [List.length_set, List.length_map, List.length_range]; omega), List.getElem?_eq_none (by rw [List.length_map, List.length_range]; omega)]
theorem zm_W_si {j : Nat} {x : Int32} (h : zm_kd k < 12) (hf : zm_ft (zm_kd k) j = 0 ∨ zm_ft (zm_kd k) j = 4) : (zm_W ad cI cJ M).set k (ad k, .inr (zm_kd k, ((List.range (zm_nf (zm_kd k))).map (zm_cv ad M k (zm_kd k))).set j (.int x))) = zm_W ad cI cJ (zm_si M k j x) := by
  refine zm_W_set (zm_kd_lt (Or.inl h)) ?_ (fun i _ hi => zm_C_congr (zm_sr_ne hi) rfl rfl)
  rw [zm_C_obj h]
  congr 2
  symm
  apply zm_map_set
  · unfold zm_cv
    rcases hf with hf | hf <;> rw [hf] <;> simp [zm_si, zm_sr, upd]
  · intro i hi
    unfold zm_cv
    simp [zm_si, zm_sr, upd, hi]
theorem zm_W_sl {j : Nat} {x : Int64} (h : zm_kd k < 12) (hf : zm_ft (zm_kd k) j = 1) : (zm_W ad cI cJ M).set k (ad k, .inr (zm_kd k, ((List.range (zm_nf (zm_kd k))).map (zm_cv ad M k (zm_kd k))).set j (.long x))) = zm_W ad cI cJ (zm_sl M k j x) := by
  refine zm_W_set (zm_kd_lt (Or.inl h)) ?_ (fun i _ hi => zm_C_congr rfl (by funext b; simp [zm_sl, hi]) rfl)
  rw [zm_C_obj h]
  congr 2
  symm
  apply zm_map_set
  · unfold zm_cv
    rw [hf]
    simp [zm_sl]
  · intro i hi
    unfold zm_cv
    simp [zm_sl, hi]
theorem zm_ft3 : ∀ k, k < 97 → ∀ j, j < 30 → zm_kd k < 12 → zm_ft (zm_kd k) j = 3 → k = 68 ∧ j = 5 := by decide +kernel
theorem zm_ft3' {j : Nat} (h : k < 97) (hk : zm_kd k < 12) (hf : zm_ft (zm_kd k) j = 3) : k = 68 ∧ j = 5 := by
  by_cases hj : j < 30
  · exact zm_ft3 k h j hj hk hf
  · exfalso
    have h1 : ∀ c, c < 12 → (zm_ftT.getD c []).length ≤ 30 := by decide +kernel
    unfold zm_ft at hf
    rw [List.getD_eq_getElem?_getD, List.getElem?_eq_none (by have := h1 _ hk; omega)] at hf
    cases hf
theorem zm_W_ss {q : Nat} (h : zm_kd k < 12) {j : Nat} (hf : zm_ft (zm_kd k) j = 3) : (zm_W ad cI cJ M).set k (ad k, .inr (zm_kd k, ((List.range (zm_nf (zm_kd k))).map (zm_cv ad M k (zm_kd k))).set j (.ref (ad q)))) = zm_W ad cI cJ (zm_ss M q) := by
  have hk := zm_kd_lt (Or.inl h)
  obtain ⟨e1, e2⟩ := zm_ft3' hk h hf
  refine zm_W_set hk ?_ (fun i hi97 hi => ?_)
  · rw [zm_C_obj h]
    congr 2
    symm
    apply zm_map_set
    · unfold zm_cv
      rw [hf]
      rfl
    · intro i hi
      unfold zm_cv
      by_cases hf3 : zm_ft (zm_kd k) i = 3
      · exact absurd ((zm_ft3' hk h hf3).2.trans e2.symm) hi
      · split <;> first | rfl | (exact absurd (by assumption) hf3)
  · unfold zm_C
    by_cases h20 : zm_kd i = 20
    · rw [if_pos h20, if_pos h20]
      rfl
    · rw [if_neg h20, if_neg h20]
      by_cases h21 : zm_kd i = 21
      · rw [if_pos h21, if_pos h21]
      · rw [if_neg h21, if_neg h21]
        congr 2
        apply List.map_congr_left
        intro b _
        unfold zm_cv
        by_cases hk12 : zm_kd i < 12
        · by_cases hf3 : zm_ft (zm_kd i) b = 3
          · exact absurd ((zm_ft3' hi97 hk12 hf3).1.trans e1.symm) hi
          · split <;> first | rfl | (exact absurd (by assumption) hf3)
        · exfalso
          have h9 : ∀ i, i < 97 → zm_kd i = 20 ∨ zm_kd i = 21 ∨ zm_kd i < 12 := by decide +kernel
          rcases h9 i hi97 with z | z | z <;> contradiction
end ZW
/-- what stays: the loaded classes, the addresses, static tables, Strings, links by nest mates -/
def zm_Cx (ad : Nat → Nat) (D : va_G) (cI cJ : ClassId) (A : Nat → Prop) (U : State) (H : Heap) : Prop :=
  va_K D zm_CL [(cI, .int), (cJ, .array .int)] U
  ∧ ((∀ i, i < 97 → A (ad i)) ∧ (∀ i j, i < 97 → j < 97 → ad i = ad j → i = j))
  ∧ (∀ t, t < 5 → va_Z "FathersPay" (zm_sn.getD t "") "[I" (.ref (ad (100 + t))) A U H ∧ va_T .int (ad (100 + t)) (zm_ln (100 + t)) (fun j => .int (zm_sv (100 + t) j)) A U H)
  ∧ va_Z "java/lang/String" "COMPACT_STRINGS" "Z" (.int 1) A U H
  ∧ vk_S 2 [5, 3] zm_sbT (fun i => ad (110 + i)) (fun i => ad (112 + i)) A U H
  ∧ (vk_R "FathersPay" 209 "cphsm" (ad 110) U ∧ vk_R "FathersPay" 211 "phn" (ad 111) U)
  ∧ ((∀ q ∈ zm_nwm, va_Nw (.methodLinkNest (zm_cn q.1) q.2.1 (zm_nm q.2.2.1) "FathersPay") U) ∧ ∀ q ∈ zm_nwf, va_Nw (.fieldLinkNest (zm_cn q.1) q.2.1 "FathersPay" (zm_sn.getD q.2.2.1 "") "[I" "FathersPay") U)
section ZC
variable {ad : Nat → Nat} {D : va_G} {cI cJ : ClassId} {A B : Nat → Prop} {u U : State} {H H1 : Heap}
theorem zm_Cx.same (hv : u.vm = U.vm) (h : zm_Cx ad D cI cJ A u H) : zm_Cx ad D cI cJ A U H := by
  have ha : u.vm.Alike U.vm := hv ▸ Vm.Alike.refl u.vm
  obtain ⟨h1, h2, h3, h4, h5, ⟨h6, h7⟩, h8, h9⟩ := h
  exact ⟨h1.moved ha, h2, fun t ht => ⟨(h3 t ht).1.moved ha, (h3 t ht).2.moved ha⟩, h4.moved ha, h5.moved ha, ⟨h6.same hv.symm, h7.same hv.symm⟩, fun q hq => va_Nw.same rfl hv (h8 q hq), fun q hq => va_Nw.same rfl hv (h9 q hq)⟩
theorem zm_Cx.warm (hW : u.WarmedH U.vm) (h : zm_Cx ad D cI cJ A u H) : zm_Cx ad D cI cJ A U H := by
  have ha : u.vm.Alike U.vm := hW.alike
  obtain ⟨h1, h2, h3, h4, h5, ⟨h6, h7⟩, h8, h9⟩ := h
  exact ⟨h1.moved ha, h2, fun t ht => ⟨(h3 t ht).1.moved ha, (h3 t ht).2.moved ha⟩, h4.moved ha, h5.moved ha, ⟨h6.warm hW, h7.warm hW⟩, fun q hq => va_Nw.warmM hW (h8 q hq), fun q hq => va_Nw.warmF hW (h9 q hq)⟩
theorem zm_Cx.kept (hq : ∀ a : Nat, a < H.size → ¬ A a → H1[a]? = H[a]?) (h : zm_Cx ad D cI cJ A U H) : zm_Cx ad D cI cJ A U H1 := by
  obtain ⟨h1, h2, h3, h4, h5, h6, h8⟩ := h
  exact ⟨h1, h2, fun t ht => ⟨(h3 t ht).1.kept hq, (h3 t ht).2.kept hq⟩, h4.kept hq, h5.kept hq, h6, h8⟩
theorem zm_Cx.narrow (hAB : ∀ q, B q → A q) (hB : ∀ i, i < 97 → B (ad i)) (h : zm_Cx ad D cI cJ A U H) : zm_Cx ad D cI cJ B U H := by
  obtain ⟨h1, h2, h3, h4, h5, h6, h8⟩ := h
  exact ⟨h1, ⟨hB, h2.2⟩, fun t ht => ⟨(h3 t ht).1.narrow hAB, (h3 t ht).2.narrow hAB⟩, h4.narrow hAB, h5.narrow hAB, h6, h8⟩
theorem zm_Cx.toD {M : zm_M} (h : zm_Cx ad D cI cJ A U H) : va_D A (zm_W ad cI cJ M) := zm_D_of h.2.1.1 h.2.1.2
end ZC
/-- the addresses of the world -/
def zm_Ad (ad : Nat → Nat) : Nat → Prop := fun q => ∃ k, k < 97 ∧ q = ad k
/-! locals -/
def zm_Lh (ad : Nat → Nat) (lsA : Array Slot) (n : Nat) (ls : zm_L) : Prop := ls.length = n ∧ lsA.size = n ∧ lv_wf lsA ∧ ∀ (i : Nat) (v : Value), ls[i]? = some (some v) → lsA[i]? = some (.val (zm_zc ad v))
def zm_al (ad : Nat → Nat) (ls : zm_L) : List (Nat × Value) := (List.range ls.length).filterMap (fun j => (ls.getD j none).map (fun v => (j, zm_zc ad v)))
section ZL
variable {ad : Nat → Nat} {lsA ls' : Array Slot} {n i : Nat} {ls : zm_L} {v : Value}
theorem zm_gd (h : zm_get ls i = some v) : ls[i]? = some (some v) := by
  unfold zm_get at h
  rw [List.getD_eq_getElem?_getD] at h
  cases hc : ls[i]? with
  | none => rw [hc] at h; cases h
  | some w => rw [hc] at h; exact congrArg some h
theorem zm_gdl (h : ls[i]? = some (some v)) : ls.getD i none = some v := by rw [List.getD_eq_getElem?_getD, h]; rfl
theorem zm_al_mem (h : ls[i]? = some (some v)) : (i, zm_zc ad v) ∈ zm_al ad ls := by
  have hl : i < ls.length := (List.getElem?_eq_some_iff.mp h).1
  refine List.mem_filterMap.mpr ⟨i, List.mem_range.mpr hl, ?_⟩
  rw [zm_gdl h]
  rfl
theorem zm_al_of {q : Nat × Value} (h : q ∈ zm_al ad ls) : ∃ w, ls[q.1]? = some (some w) ∧ q.2 = zm_zc ad w := by
  obtain ⟨j, hj, h⟩ := List.mem_filterMap.mp h
  cases hc : ls.getD j none with
  | none => rw [hc] at h; cases h
  | some w =>
    rw [hc] at h
    cases h
    exact ⟨w, zm_gd hc, rfl⟩
theorem zm_Lh.has (h : zm_Lh ad lsA n ls) : lv_has lsA n (zm_al ad ls) := by
  refine ⟨h.2.1, h.2.2.1, fun q hq => ?_⟩
  obtain ⟨w, h1, h2⟩ := zm_al_of hq
  rw [h2]
  exact h.2.2.2 _ _ h1
theorem zm_kill_len : (zm_kill ls i).length = ls.length := by
  unfold zm_kill
  split
  · rfl
  · split
    · cases Nat.beq _ 2
      · rfl
      · exact List.length_set
    · rfl
theorem zm_kill_of {j : Nat} {w : Value} (h : (zm_kill ls i)[j]? = some (some w)) : ls[j]? = some (some w) ∧ ¬ (j + 1 = i ∧ w.category = 2) := by
  unfold zm_kill at h
  split at h
  · exact ⟨h, fun q => by omega⟩
  · rename_i i0
    split at h
    · rename_i x0 hx0
      cases hb : Nat.beq x0.category 2 with
      | true =>
        rw [hb] at h
        have h : (ls.set i0 none)[j]? = some (some w) := h
        by_cases e : j = i0
        · subst e
          by_cases hl : j < ls.length
          · rw [List.getElem?_set_self hl] at h
            cases h
          · rw [List.getElem?_eq_none (by rw [List.length_set]; omega)] at h
            cases h
        · rw [List.getElem?_set_ne (Ne.symm e)] at h
          exact ⟨h, fun q => e (by omega)⟩
      | false =>
        rw [hb] at h
        have h : ls[j]? = some (some w) := h
        refine ⟨h, fun q => ?_⟩
        have e : j = i0 := by omega
        subst e
        have h2 : ls.getD j none = some w := zm_gdl h
        rw [h2] at hx0
        cases hx0
        rw [q.2] at hb
        cases hb
    · rename_i hx0
      refine ⟨h, fun q => ?_⟩
      have e : j = i0 := by omega
      subst e
      rw [zm_gdl h] at hx0
      cases hx0
theorem zm_Lh.st1 (hl : ls.length = n) (hi : i < n) (hc : v.category = 1) (h : lv_has ls' n ((i, zm_zc ad v) :: (zm_al ad ls).filter (fun q => !(q.1 == i) && !(q.1 + 1 == i && q.2.category == 2)))) : zm_Lh ad ls' n (zm_set1 ls i v) := by
  refine ⟨by unfold zm_set1; rw [List.length_set, zm_kill_len, hl], h.1, h.2.1, fun j w hj => ?_⟩
  unfold zm_set1 at hj
  by_cases e : j = i
  · subst e
    rw [List.getElem?_set_self (by rw [zm_kill_len, hl]; exact hi)] at hj
    cases hj
    exact h.2.2 _ List.mem_cons_self
  · rw [List.getElem?_set_ne (Ne.symm e)] at hj
    obtain ⟨h1, h2⟩ := zm_kill_of hj
    refine h.2.2 (j, zm_zc ad w) (List.mem_cons_of_mem _ (List.mem_filter.mpr ⟨zm_al_mem h1, ?_⟩))
    simp only [Bool.and_eq_true, Bool.not_eq_true', beq_eq_false_iff_ne, ne_eq, Bool.and_eq_false_iff, zm_zc_cat]
    refine ⟨e, ?_⟩
    by_cases q : j + 1 = i
    · exact Or.inr (fun z => h2 ⟨q, z⟩)
    · exact Or.inl q
theorem zm_Lh.st2 (hl : ls.length = n) (hi : i + 1 < n) (h : lv_has ls' n ((i, zm_zc ad v) :: (zm_al ad ls).filter (fun q => !(q.1 == i) && (!(q.1 == i + 1) && !(q.1 + 1 == i && q.2.category == 2))))) : zm_Lh ad ls' n (zm_set2 ls i v) := by
  refine ⟨by unfold zm_set2; rw [List.length_set, List.length_set, zm_kill_len, hl], h.1, h.2.1, fun j w hj => ?_⟩
  unfold zm_set2 at hj
  by_cases e1 : j = i + 1
  · subst e1
    rw [List.getElem?_set_self (by rw [List.length_set, zm_kill_len, hl]; exact hi)] at hj
    cases hj
  · rw [List.getElem?_set_ne (Ne.symm e1)] at hj
    by_cases e : j = i
    · subst e
      rw [List.getElem?_set_self (by rw [zm_kill_len, hl]; omega)] at hj
      cases hj
      exact h.2.2 _ List.mem_cons_self
    · rw [List.getElem?_set_ne (Ne.symm e)] at hj
      obtain ⟨h1, h2⟩ := zm_kill_of hj
      refine h.2.2 (j, zm_zc ad w) (List.mem_cons_of_mem _ (List.mem_filter.mpr ⟨zm_al_mem h1, ?_⟩))
      simp only [Bool.and_eq_true, Bool.not_eq_true', beq_eq_false_iff_ne, ne_eq, Bool.and_eq_false_iff, zm_zc_cat]
      refine ⟨e, e1, ?_⟩
      by_cases q : j + 1 = i
      · exact Or.inr (fun z => h2 ⟨q, z⟩)
      · exact Or.inl q
def zm_so (ad : Nat → Nat) (o : Option Value) : Slot := match o with
  | some v => .val (zm_zc ad v)
  | none => .second
theorem zm_flat_sl (as : List Value) : lg_sl (as.map (zm_zc ad)) = (zm_flat as).map (zm_so ad) := by
  induction as with
  | nil => rfl
  | cons v t ih =>
    unfold lg_sl zm_flat at ih ⊢
    rw [List.map_cons, List.flatMap_cons, List.flatMap_cons, List.map_append, ih]
    congr 1
    rw [zm_zc_cat]
    by_cases h : v.category = 2
    · rw [if_pos h, h]
      rfl
    · rw [if_neg h]
      have : Nat.beq v.category 2 = false := by
        cases hb : Nat.beq v.category 2 with
        | true => exact absurd (Nat.eq_of_beq_eq_true hb) h
        | false => rfl
      rw [this]
      rfl
theorem zm_Lh.ent {as : List Value} (h : (zm_flat as).length ≤ n) : zm_Lh ad ((lg_sl (as.map (zm_zc ad)) ++ List.replicate (n - (lg_sl (as.map (zm_zc ad))).length) Slot.unset).toArray) n (zm_ent as n) := by
  have e := zm_flat_sl (ad := ad) as
  have hle : (lg_sl (as.map (zm_zc ad))).length ≤ n := by rw [e, List.length_map]; exact h
  have hl := lv_entry (as.map (zm_zc ad)) hle
  refine ⟨by unfold zm_ent; rw [List.length_append, List.length_replicate]; omega, hl.1, hl.2.1, fun i v hv => ?_⟩
  unfold zm_ent at hv
  by_cases hi : i < (zm_flat as).length
  · rw [List.getElem?_append_left hi] at hv
    rw [List.getElem?_toArray, List.getElem?_append_left (by rw [e, List.length_map]; exact hi), e, List.getElem?_map, hv]
    rfl
  · rw [List.getElem?_append_right (by omega)] at hv
    have h1 := List.eq_of_mem_replicate (List.mem_of_getElem? hv)
    cases h1
end ZL
end
section
/-! Every step of the abstract machine is a step of the real one: instructions that move the stack alone. -/
theorem zm_lbA : zm_tb.all (fun l => l.all zm_lb) = true := by decide +kernel
theorem zm_len_of {y pc len : Nat} {i : Instr} (h : zm_at y pc = some (i, len)) {n : Nat} (hn : zm_il i = n + 1) : len = n + 1 := by
  have hm := zm_lk_mem h
  have h1 : zm_lb (pc, i, len) = true := by
    by_cases hy : y < zm_tb.length
    · have h2 := List.all_eq_true.mp zm_lbA (zm_tb.getD y []) (by rw [List.getD_eq_getElem?_getD, List.getElem?_eq_getElem hy]; exact List.getElem_mem hy)
      exact List.all_eq_true.mp h2 _ hm
    · rw [List.getD_eq_getElem?_getD, List.getElem?_eq_none (by omega)] at hm
      cases hm
  unfold zm_lb at h1
  simp only [hn] at h1
  exact Nat.eq_of_beq_eq_true h1
theorem zm_lit_eq (n : Int) : Int32.ofInt n = zm_lit n := by
  cases n with
  | ofNat k => rfl
  | negSucc k =>
    show Int32.ofInt (Int.negSucc k) = - Int32.ofNat (k + 1)
    rw [Int.negSucc_eq, Int32.ofInt_neg]
    rfl
def zm_ltb (e : Nat × Instr × Nat) : Bool := match e.2.1 with
  | .bipush n => decide ((Int8.ofInt n).toInt32 = zm_lit n)
  | .sipush n => decide ((Int16.ofInt n).toInt32 = zm_lit n)
  | _ => true
theorem zm_ltA : zm_tb.all (fun l => l.all zm_ltb) = true := by decide +kernel
theorem zm_lt_of {y pc len : Nat} {i : Instr} (h : zm_at y pc = some (i, len)) : zm_ltb (pc, i, len) = true := by
  have hm := zm_lk_mem h
  by_cases hy : y < zm_tb.length
  · have h2 := List.all_eq_true.mp zm_ltA (zm_tb.getD y []) (by rw [List.getD_eq_getElem?_getD, List.getElem?_eq_getElem hy]; exact List.getElem_mem hy)
    exact List.all_eq_true.mp h2 _ hm
  · rw [List.getD_eq_getElem?_getD, List.getElem?_eq_none (by omega)] at hm
    cases hm
theorem zm_b2_inv {st st' : List Value} {f : Int32 → Int32 → Int32} (h : zm_b2 st f = some st') : ∃ x y r, st = .int y :: .int x :: r ∧ st' = .int (f x y) :: r := by
  unfold zm_b2 at h
  split at h
  · cases h
    exact ⟨_, _, _, rfl, rfl⟩
  · cases h
theorem zm_b3_inv {st st' : List Value} {f : Int64 → Int64 → Int64} (h : zm_b3 st f = some st') : ∃ x y r, st = .long y :: .long x :: r ∧ st' = .long (f x y) :: r := by
  unfold zm_b3 at h
  split at h
  · cases h
    exact ⟨_, _, _, rfl, rfl⟩
  · cases h
theorem zm_u1_inv {st st' : List Value} {f : Int32 → Value} (h : zm_u1 st f = some st') : ∃ x r, st = .int x :: r ∧ st' = f x :: r := by
  unfold zm_u1 at h
  split at h
  · cases h
    exact ⟨_, _, rfl, rfl⟩
  · cases h
theorem zm_inb_in {i : Int32} {n : Nat} (h : zm_inb i n = true) : vp_in i n := by
  unfold zm_inb at h
  rw [Bool.and_eq_true, decide_eq_true_eq, decide_eq_true_eq] at h
  exact vp_in_iff.mpr h
theorem zm_CL_get {ci : Nat} (h : ci < 12) : zm_CL[ci]? = some (zm_cn ci, zm_T ci, zm_nf ci) := by
  unfold zm_CL
  rw [List.getElem?_map, List.getElem?_range h]
  rfl
theorem zm_fd_ok {ci sl : Nat} (h : ci < 12) (hs : sl < zm_nf ci) : zm_bfd ci sl = true := List.all_eq_true.mp (List.all_eq_true.mp zm_fdA ci (List.mem_range.mpr h)) sl (List.mem_range.mpr hs)
theorem zm_fd_in {ci : Nat} (h : ci < 12) : ∀ w ∈ u_ws (zm_cn ci) (zm_T ci) (zm_nf ci), w ∈ zm_TT := by
  intro w hw
  unfold u_ws at hw
  obtain ⟨k, hk, rfl⟩ := List.mem_map.mp hw
  have h1 := zm_fd_ok h (List.mem_range.mp hk)
  unfold zm_bfd at h1
  rw [Bool.and_eq_true] at h1
  exact zm_inT h1.1
theorem zm_fd_ty {ci : Nat} (h : ci < 12) : ∀ k, k < zm_nf ci → parseFieldDescriptor (zm_T ci k).2.2.1 = some (zm_ty ci k) := by
  intro k hk
  have h1 := zm_fd_ok h hk
  unfold zm_bfd at h1
  simp only [Bool.and_eq_true, decide_eq_true_eq] at h1
  exact h1.2.1.1
theorem zm_fd_fin {ci k : Nat} (h : ci < 12) (hk : k < zm_nf ci) (hf : zm_ft ci k ≠ 2) : (zm_T ci k).2.2.2 = false := by
  have h1 := zm_fd_ok h hk
  unfold zm_bfd at h1
  simp only [Bool.and_eq_true, decide_eq_true_eq] at h1
  have h2 := h1.2.1.2
  rw [show (zm_ft ci k == 2) = false from beq_eq_false_iff_ne.mpr hf] at h2
  exact eq_of_beq h2
theorem zm_fd_ft {ci k : Nat} (h : ci < 12) (hk : k < zm_nf ci) : zm_ft ci k = (match zm_ty ci k with | .int => 0 | .long => 1 | .boolean => 4 | .object "java/lang/String" => 3 | _ => 2) := by
  have h1 := zm_fd_ok h hk
  unfold zm_bfd at h1
  simp only [Bool.and_eq_true, decide_eq_true_eq] at h1
  exact h1.2.2
theorem zm_fd_nm {ci : Nat} (h : ci < 12) : ∀ a, a < zm_nf ci → ∀ b, b < zm_nf ci → a ≠ b → (zm_T ci a).2.1 ≠ (zm_T ci b).2.1 := by
  intro a ha b hb hne
  have h1 := List.all_eq_true.mp (List.all_eq_true.mp (List.all_eq_true.mp zm_fnA ci (List.mem_range.mpr h)) a (List.mem_range.mpr ha)) b (List.mem_range.mpr hb)
  rw [Bool.or_eq_true, decide_eq_true_eq] at h1
  rcases h1 with h1 | h1
  · exact absurd (Nat.eq_of_beq_eq_true h1) hne
  · exact h1
theorem zm_fl_ok {o k ci sl pos : Nat} (h : zm_fl o k = some (ci, sl, pos)) : Jvm.Cond.fieldLink (zm_cn o) k (zm_T ci sl).1 (zm_T ci sl).2.1 (zm_T ci sl).2.2.1 ∈ zm_TT ∧ ci < 12 ∧ sl < zm_nf ci := by
  have h1 := zm_tabs zm_flA (by decide) (zm_la_mem h)
  unfold zm_bfl at h1
  simp only [Bool.and_eq_true, decide_eq_true_eq] at h1
  exact ⟨zm_inT h1.1, h1.2.1, h1.2.2⟩
theorem zm_kd_ge {k : Nat} (h : 121 ≤ k) : zm_kd k = 99 := by
  unfold zm_kd
  rw [List.getD_eq_getElem?_getD, List.getElem?_eq_none (by show 121 ≤ k; omega)]
  rfl
theorem zm_k30 {k : Nat} (hk : zm_kd k = 30) : ∃ t : Nat, t < 5 ∧ k = 100 + t := by
  have h9 : ∀ k, k < 121 → zm_kd k = 30 → 100 ≤ k ∧ k < 105 := by decide +kernel
  by_cases h121 : k < 121
  · have := h9 k h121 hk
    exact ⟨k - 100, by omega, by omega⟩
  · have := zm_kd_ge (show 121 ≤ k by omega)
    omega
theorem zm_k32 {k : Nat} (hk : zm_kd k = 32) : ∃ t : Nat, t < 2 ∧ k = 112 + t := by
  have h9 : ∀ k, k < 121 → zm_kd k = 32 → 112 ≤ k ∧ k < 114 := by decide +kernel
  by_cases h121 : k < 121
  · have := h9 k h121 hk
    exact ⟨k - 112, by omega, by omega⟩
  · have := zm_kd_ge (show 121 ≤ k by omega)
    omega
theorem zm_k40 {k : Nat} (hk : zm_kd k = 40) : k = 120 := by
  have h9 : ∀ k, k < 121 → zm_kd k = 40 → k = 120 := by decide +kernel
  by_cases h121 : k < 121
  · exact h9 k h121 hk
  · have := zm_kd_ge (show 121 ≤ k by omega)
    omega
theorem zm_k13 {k : Nat} (hk : zm_kd k = 13) : ∃ t : Nat, t < 2 ∧ k = 110 + t := by
  have h9 : ∀ k, k < 121 → zm_kd k = 13 → 110 ≤ k ∧ k < 112 := by decide +kernel
  by_cases h121 : k < 121
  · have := h9 k h121 hk
    exact ⟨k - 110, by omega, by omega⟩
  · have := zm_kd_ge (show 121 ≤ k by omega)
    omega
section ZS
variable {p : Program} {l : Launch} {e : Env} {R : Room} {s : State} {m : MethodId} {args : Array Value} {below : List Frame} {meth : Method} {c : Code} {H : Heap} {locs : List Loc} {cells slots : Nat} {Q : State → Prop}
variable {ad : Nat → Nat} {D : va_G} {cI cJ : ClassId} {A : Nat → Prop} {y pc len d : Nat} {i : Instr} {lsA : Array Slot} {ls ls' : zm_L} {st st' : List Value} {M M' : zm_M}
/-- what holds at a frame of a method of the tables -/
def zm_Fx (p : Program) (s : State) (m : MethodId) (args : Array Value) (c : Code) (ad : Nat → Nat) (D : va_G) (cI cJ : ClassId) (A : Nat → Prop) (y : Nat) : Prop :=
  p.tables.exec = Jvm.exec ∧ c.code = zm_cd y ∧ c.maxLocals = zm_mx y ∧ s.vm.findClass (zm_cn (zm_yc y)) = some m.cls ∧ (∀ w ∈ zm_TT, w.before args s = true) ∧ zm_Cx ad D cI cJ A s s.heap
/-- the script, for the law alone -/
def zm_Sx (s : State) (ad : Nat → Nat) (A : Nat → Prop) (y : Nat) (M : zm_M) : Prop := y = 0 → va_X (ad 120) M.2.2.2.1 M.2.2.2.2 s s.heap ∧ ad 120 < s.heap.size ∧ ¬ A (ad 120)
theorem zm_gf_snd {idx k : Nat} {v : Value} {rest : List Value} (F : zm_Fx p s m args c ad D cI cJ A y) (hP : va_P D zm_CL (zm_W ad cI cJ M) H) (hS : va_S A s.heap H locs) (hdg : decode (zm_cd y) pc = .ok (.getfield idx, 3)) (h : zm_gf y idx k M = some v)
    (kk : W p l e R s m args below meth c H locs cells slots Q (F0 m (pc + 3) lsA (zm_zc ad v :: rest))) : W p l e R s m args below meth c H locs cells slots Q (F0 m pc lsA (.ref (ad k) :: rest)) := by
  obtain ⟨hx, hb, hml, hown, hts, hC⟩ := F
  unfold zm_gf at h
  split at h
  · rename_i hk
    split at h
    · rename_i hy
      obtain ⟨t, ht, rfl⟩ := zm_k13 hk
      rw [hy] at hown
      have hE := hC.2.2.2.2.1
      have hE0 := hE.1 t ht
      have e1 : (fun i => ad (112 + i)) t = ad (110 + t + 2) := by show ad (112 + t) = ad (110 + t + 2); congr 1; omega
      split at h
      · rename_i h9
        subst h9
        cases h
        have h1 := hE0.2.2.1
        rw [e1] at h1
        exact vk_getf hx hb h1 hS hown (hts _ (zm_wq_in (n := 0) (by decide))) (fun _ q => q) hdg kk
      · split at h
        · rename_i h15
          subst h15
          cases h
          have h1 := hE0.2.1
          exact vk_getf hx hb h1 hS hown (hts _ (zm_wq_in (n := 1) (by decide))) (fun _ q => q) hdg kk
        · cases h
    · cases h
  · split at h
    · rename_i ci sl pos hfl
      obtain ⟨h1, h2, h3⟩ := zm_fl_ok hfl
      split at h
      · rename_i hkc
        subst hkc
        have hk97 := zm_kd_lt (Or.inl h2)
        have he := zm_W_get (ad := ad) (cI := cI) (cJ := cJ) (M := M) hk97
        rw [zm_C_obj h2] at he
        refine va_get (D := D) (ci := zm_kd k) (v := zm_zc ad v) (C := zm_cn (zm_kd k)) (T := zm_T (zm_kd k)) (N := zm_nf (zm_kd k)) hx hb hts (zm_fd_in h2) hown hC.1 hP k he (zm_CL_get h2) sl h3 (hts _ h1) (fun _ q => q) ?_ hdg kk
        rw [List.getElem?_map, List.getElem?_range h3]
        unfold zm_fv at h
        show some (zm_cv ad M k (zm_kd k) sl) = _
        unfold zm_cv
        split at h
        · rename_i hf
          cases h
          rw [hf]
          rfl
        · rename_i hf
          cases h
          rw [hf]
          rfl
        · rename_i hf
          cases h
          rw [hf]
          rfl
        · rename_i hf
          rw [hf]
          cases hr : zm_rf k sl with
          | none => rw [hr] at h; cases h
          | some r => rw [hr] at h; cases h; rfl
        · rename_i hf
          cases h
          rw [hf]
          rfl
        · cases h
      · cases h
    · cases h
set_option maxHeartbeats 4000000 in
theorem zm_ss1_snd (F : zm_Fx p s m args c ad D cI cJ A y) (S : zm_Sx s ad A y M) (hP : va_P D zm_CL (zm_W ad cI cJ M) H) (hS : va_S A s.heap H locs) (hL : zm_Lh ad lsA (zm_mx y) ls) (hd : zm_at y pc = some (i, len)) (h : zm_ss1 y i ls st M = some st')
    (kk : W p l e R s m args below meth c H locs cells slots Q (F0 m (pc + len) lsA (st'.map (zm_zc ad)))) : W p l e R s m args below meth c H locs cells slots Q (F0 m pc lsA (st.map (zm_zc ad))) := by
  obtain ⟨hx, hb, hml, hown, hts, hC⟩ := F
  have hdg := zm_dec hd
  cases i
  case iconst =>
    cases zm_len_of hd (n := 0) rfl
    cases h
    exact lv_iconst hx hb hdg (zm_lit_eq _) kk
  case bipush =>
    cases zm_len_of hd (n := 1) rfl
    cases h
    exact lv_bipush hx hb hdg (of_decide_eq_true (zm_lt_of hd)) kk
  case sipush =>
    cases zm_len_of hd (n := 2) rfl
    cases h
    exact lv_sipush hx hb hdg (of_decide_eq_true (zm_lt_of hd)) kk
  case lconst =>
    cases zm_len_of hd (n := 0) rfl
    cases h
    exact lv_lconst hx hb hdg rfl kk
  case iload_n =>
    cases zm_len_of hd (n := 0) rfl
    unfold zm_ss1 at h
    dsimp only at h
    split at h
    · rename_i x hg
      cases h
      exact lv_iload_n hx hb hdg rfl (hL.2.2.2 _ _ (zm_gd hg)) kk
    · cases h
  case iload =>
    cases zm_len_of hd (n := 1) rfl
    unfold zm_ss1 at h
    dsimp only at h
    split at h
    · rename_i x hg
      cases h
      exact lv_iload hx hb hdg (hL.2.2.2 _ _ (zm_gd hg)) kk
    · cases h
  case aload_n =>
    cases zm_len_of hd (n := 0) rfl
    unfold zm_ss1 at h
    dsimp only at h
    split at h
    · rename_i x hg
      cases h
      exact lv_aload_n hx hb hdg rfl (hL.2.2.2 _ _ (zm_gd hg)) kk
    · cases h
  case aload =>
    cases zm_len_of hd (n := 1) rfl
    unfold zm_ss1 at h
    dsimp only at h
    split at h
    · rename_i x hg
      cases h
      exact lv_aload hx hb hdg (hL.2.2.2 _ _ (zm_gd hg)) kk
    · cases h
  case lload_n =>
    cases zm_len_of hd (n := 0) rfl
    unfold zm_ss1 at h
    dsimp only at h
    split at h
    · rename_i x hg
      cases h
      exact lv_lload_n hx hb hdg rfl (hL.2.2.2 _ _ (zm_gd hg)) kk
    · cases h
  case lload =>
    cases zm_len_of hd (n := 1) rfl
    unfold zm_ss1 at h
    dsimp only at h
    split at h
    · rename_i x hg
      cases h
      exact lv_lload hx hb hdg (hL.2.2.2 _ _ (zm_gd hg)) kk
    · cases h
  case iadd =>
    cases zm_len_of hd (n := 0) rfl
    obtain ⟨x, y', r, rfl, rfl⟩ := zm_b2_inv h
    exact lv_iadd hx hb hdg kk
  case isub =>
    cases zm_len_of hd (n := 0) rfl
    obtain ⟨x, y', r, rfl, rfl⟩ := zm_b2_inv h
    exact lv_isub hx hb hdg kk
  case imul =>
    cases zm_len_of hd (n := 0) rfl
    obtain ⟨x, y', r, rfl, rfl⟩ := zm_b2_inv h
    exact lv_imul hx hb hdg kk
  case iand =>
    cases zm_len_of hd (n := 0) rfl
    obtain ⟨x, y', r, rfl, rfl⟩ := zm_b2_inv h
    exact lv_iand hx hb hdg kk
  case ior =>
    cases zm_len_of hd (n := 0) rfl
    obtain ⟨x, y', r, rfl, rfl⟩ := zm_b2_inv h
    exact lv_ior hx hb hdg kk
  case ixor =>
    cases zm_len_of hd (n := 0) rfl
    obtain ⟨x, y', r, rfl, rfl⟩ := zm_b2_inv h
    exact lv_ixor hx hb hdg kk
  case ishl =>
    cases zm_len_of hd (n := 0) rfl
    obtain ⟨x, y', r, rfl, rfl⟩ := zm_b2_inv h
    exact lv_ishl hx hb hdg kk
  case ishr =>
    cases zm_len_of hd (n := 0) rfl
    obtain ⟨x, y', r, rfl, rfl⟩ := zm_b2_inv h
    exact lv_ishr hx hb hdg kk
  case iushr =>
    cases zm_len_of hd (n := 0) rfl
    obtain ⟨x, y', r, rfl, rfl⟩ := zm_b2_inv h
    exact lv_iushr hx hb hdg rfl kk
  case idiv =>
    cases zm_len_of hd (n := 0) rfl
    unfold zm_ss1 at h
    dsimp only at h
    split at h
    · split at h
      · cases h
      · rename_i hne
        cases h
        exact lv_idiv hx hb hdg hne kk
    · cases h
  case irem =>
    cases zm_len_of hd (n := 0) rfl
    unfold zm_ss1 at h
    dsimp only at h
    split at h
    · split at h
      · cases h
      · rename_i hne
        cases h
        exact lv_irem hx hb hdg hne kk
    · cases h
  case ldiv =>
    cases zm_len_of hd (n := 0) rfl
    unfold zm_ss1 at h
    dsimp only at h
    split at h
    · split at h
      · cases h
      · rename_i hne
        cases h
        exact lv_ldiv hx hb hdg hne kk
    · cases h
  case lrem =>
    cases zm_len_of hd (n := 0) rfl
    unfold zm_ss1 at h
    dsimp only at h
    split at h
    · split at h
      · cases h
      · rename_i hne
        cases h
        exact lv_lrem hx hb hdg hne kk
    · cases h
  case ineg =>
    cases zm_len_of hd (n := 0) rfl
    obtain ⟨x, r, rfl, rfl⟩ := zm_u1_inv h
    exact lv_ineg hx hb hdg kk
  case i2l =>
    cases zm_len_of hd (n := 0) rfl
    obtain ⟨x, r, rfl, rfl⟩ := zm_u1_inv h
    exact lv_i2l hx hb hdg rfl kk
  case i2b =>
    cases zm_len_of hd (n := 0) rfl
    obtain ⟨x, r, rfl, rfl⟩ := zm_u1_inv h
    exact lv_i2b hx hb hdg rfl kk
  case i2s =>
    cases zm_len_of hd (n := 0) rfl
    obtain ⟨x, r, rfl, rfl⟩ := zm_u1_inv h
    exact lv_i2s hx hb hdg rfl kk
  case i2c =>
    cases zm_len_of hd (n := 0) rfl
    obtain ⟨x, r, rfl, rfl⟩ := zm_u1_inv h
    exact lv_i2c hx hb hdg rfl kk
  case l2i =>
    cases zm_len_of hd (n := 0) rfl
    unfold zm_ss1 at h
    dsimp only at h
    split at h
    · cases h
      exact lv_l2i hx hb hdg rfl kk
    · cases h
  case ladd =>
    cases zm_len_of hd (n := 0) rfl
    obtain ⟨x, y', r, rfl, rfl⟩ := zm_b3_inv h
    exact lv_ladd hx hb hdg kk
  case lmul =>
    cases zm_len_of hd (n := 0) rfl
    obtain ⟨x, y', r, rfl, rfl⟩ := zm_b3_inv h
    exact lv_lmul hx hb hdg kk
  case land =>
    cases zm_len_of hd (n := 0) rfl
    obtain ⟨x, y', r, rfl, rfl⟩ := zm_b3_inv h
    exact lv_land hx hb hdg kk
  case lor =>
    cases zm_len_of hd (n := 0) rfl
    obtain ⟨x, y', r, rfl, rfl⟩ := zm_b3_inv h
    exact lv_lor hx hb hdg kk
  case lshl =>
    cases zm_len_of hd (n := 0) rfl
    unfold zm_ss1 at h
    dsimp only at h
    split at h
    · cases h
      exact lv_lshl hx hb hdg rfl kk
    · cases h
  case lshr =>
    cases zm_len_of hd (n := 0) rfl
    unfold zm_ss1 at h
    dsimp only at h
    split at h
    · cases h
      exact lv_lshr hx hb hdg rfl kk
    · cases h
  case lushr =>
    cases zm_len_of hd (n := 0) rfl
    unfold zm_ss1 at h
    dsimp only at h
    split at h
    · cases h
      exact lv_lushr hx hb hdg rfl kk
    · cases h
  case lcmp =>
    cases zm_len_of hd (n := 0) rfl
    unfold zm_ss1 at h
    dsimp only at h
    split at h
    · cases h
      exact W.lcmp hx hb hdg kk
    · cases h
  case dup =>
    cases zm_len_of hd (n := 0) rfl
    unfold zm_ss1 at h
    dsimp only at h
    split at h
    · cases h
      exact lv_dup hx hb hdg rfl kk
    · cases h
      exact lv_dup hx hb hdg rfl kk
    · cases h
  case dup2 =>
    cases zm_len_of hd (n := 0) rfl
    unfold zm_ss1 at h
    dsimp only at h
    split at h
    · cases h
      exact lv_dup2_11 hx hb hdg rfl rfl kk
    · cases h
  case pop =>
    cases zm_len_of hd (n := 0) rfl
    unfold zm_ss1 at h
    dsimp only at h
    split at h
    · cases h
      exact lv_pop hx hb hdg rfl kk
    · cases h
  case getfield idx =>
    cases zm_len_of hd (n := 2) rfl
    unfold zm_ss1 at h
    dsimp only at h
    split at h
    · split at h
      · rename_i v hg
        cases h
        exact zm_gf_snd ⟨hx, hb, hml, hown, hts, hC⟩ hP hS hdg hg kk
      · cases h
    · cases h
  case getstatic idx =>
    cases zm_len_of hd (n := 2) rfl
    unfold zm_ss1 at h
    dsimp only at h
    split at h
    · rename_i t nest pos hg
      have h1 := zm_tabs zm_gsA (by decide) (zm_la_mem hg)
      unfold zm_bgs at h1
      dsimp only at h1
      split at h
      · rename_i h9
        subst h9
        cases h
        simp only [show Nat.beq 9 9 = true from rfl, cond_true, Bool.and_eq_true] at h1
        exact va_gets hx hb hC.2.2.2.1 hS hown (hts _ (zm_inT h1.2)) (fun _ q => q) hdg kk
      · rename_i h9
        cases h
        have hb9 : Nat.beq t 9 = false := by
          cases hq : Nat.beq t 9 with
          | true => exact absurd (Nat.eq_of_beq_eq_true hq) h9
          | false => rfl
        rw [hb9] at h1
        simp only [cond_false, Bool.and_eq_true, decide_eq_true_eq] at h1
        have hZ := (hC.2.2.1 t h1.1).1
        cases nest with
        | false =>
          exact va_gets hx hb hZ hS hown (hts _ (zm_inT h1.2)) (fun _ q => q) hdg kk
        | true =>
          obtain ⟨q, hq, hqb⟩ := List.any_eq_true.mp h1.2
          simp only [Bool.and_eq_true] at hqb
          have e1 := Nat.eq_of_beq_eq_true hqb.1
          have e2 := Nat.eq_of_beq_eq_true hqb.2.1
          have e3 := Nat.eq_of_beq_eq_true hqb.2.2
          have hN := hC.2.2.2.2.2.2.2 q hq
          rw [e1, e2, e3] at hN
          exact va_getsN hx hb hZ hS hown (va_Nw.use rfl hN) (fun _ q => q) hdg kk
    · cases h
  case ldc idx =>
    cases zm_len_of hd (n := 1) rfl
    unfold zm_ss1 at h
    dsimp only at h
    split at h
    · rename_i v pos hg
      cases h
      have h1 := zm_tabs zm_ldA (by decide) (zm_la_mem hg)
      exact lv_ldc hx hb hown (hts _ (zm_inT h1)) hdg kk
    · split at h
      · rename_i hq
        cases h
        rw [hq.1] at hown
        rw [hq.2] at hdg
        exact va_ldcS hx hb hown hC.2.2.2.2.2.1.1 hdg kk
      · split at h
        · rename_i hq
          cases h
          rw [hq.1] at hown
          rw [hq.2] at hdg
          exact va_ldcS hx hb hown hC.2.2.2.2.2.1.2 hdg kk
        · cases h
  case ldc_w idx =>
    cases zm_len_of hd (n := 2) rfl
    unfold zm_ss1 at h
    dsimp only at h
    split at h
    · rename_i v pos hg
      cases h
      have h1 := zm_tabs zm_ldA (by decide) (zm_la_mem hg)
      exact lv_ldcw hx hb hown (hts _ (zm_inT h1)) hdg kk
    · cases h
  case ldc2_w idx =>
    cases zm_len_of hd (n := 2) rfl
    unfold zm_ss1 at h
    dsimp only at h
    split at h
    · rename_i v pos hg
      cases h
      have h1 := zm_tabs zm_l2A (by decide) (zm_la_mem hg)
      exact lv_ldc2 hx hb hown (hts _ (zm_inT h1)) hdg kk
    · cases h
  case iaload =>
    cases zm_len_of hd (n := 0) rfl
    unfold zm_ss1 at h
    dsimp only at h
    split at h
    · rename_i j k r
      split at h
      · rename_i v hg
        cases h
        unfold zm_ald at hg
        split at hg
        · rename_i hk
          split at hg
          · rename_i hin
            cases hg
            have he := zm_W_get (ad := ad) (cI := cI) (cJ := cJ) (M := M) (zm_kd_lt (Or.inr (Or.inl hk)))
            rw [zm_C_arr hk] at he
            exact va_iald hx hb hC.1 hP k 0 he rfl (zm_inb_in hin) hdg kk
          · cases hg
        · rename_i hk
          split at hg
          · rename_i hin
            cases hg
            have hk2 := zm_k30 hk
            obtain ⟨t, ht, rfl⟩ := hk2
            exact va_ti hx hb (hC.2.2.1 t ht).2 hS (zm_inb_in hin) rfl hdg kk
          · cases hg
        · split at hg
          · rename_i hk hin
            cases hg
            obtain ⟨hy, hin⟩ := hin
            have hk2 := zm_k40 hk
            subst hk2
            obtain ⟨hX, hbl, hbA⟩ := S hy
            exact va_sld hx hb hX hbl hbA hS (zm_inb_in hin) hdg kk
          · cases hg
        · cases hg
      · cases h
    · cases h
  case baload =>
    cases zm_len_of hd (n := 0) rfl
    unfold zm_ss1 at h
    dsimp only at h
    split at h
    · rename_i j k r
      split at h
      · rename_i hk
        split at h
        · rename_i hin
          cases h
          have hk2 := zm_k32 hk
          obtain ⟨t, ht, rfl⟩ := hk2
          have hT := ((hC.2.2.2.2.1).1 t ht).2.2.2
          have e : zm_ln (112 + t) = [5, 3].getD t 0 := by
            rcases (show t = 0 ∨ t = 1 by omega) with rfl | rfl <;> rfl
          rw [e] at hin
          refine va_tb hx hb hT hS (zm_inb_in hin) (v := .int (zm_sb (112 + t) j.toNatClampNeg)) ?_ hdg kk
          show Value.int _ = Value.int _
          unfold zm_sb
          rw [Nat.add_sub_cancel_left]
        · cases h
      · cases h
    · cases h
  case aaload =>
    cases zm_len_of hd (n := 0) rfl
    unfold zm_ss1 at h
    dsimp only at h
    split at h
    · rename_i j k r
      split at h
      · rename_i hk
        split at h
        · rename_i hin
          split at h
          · rename_i a hr
            cases h
            have he := zm_W_get (ad := ad) (cI := cI) (cJ := cJ) (M := M) (zm_kd_lt (Or.inr (Or.inr hk)))
            rw [zm_C_row hk] at he
            have hin := zm_inb_in hin
            have hlt : j.toNatClampNeg < zm_ln k := Nat.not_le.mp fun q => hin (Or.inr q)
            exact W.aald (v := .ref (ad a)) (ty := .array .int) hx hb (hP k _ he) ((hC.1.2 1 _ rfl).1 (zm_ln k) (fun j => va_rf ((zm_rf k j).map ad))) rfl (fun q => by cases q) (by show ¬ (j < 0 ∨ (arrV _ _ _).slots.size ≤ _); rw [arrV_size]; exact hin) (by show (arrV _ _ _).slots[_]? = _; rw [arrV_read _ _ hlt]; show some (va_rf ((zm_rf k j.toNatClampNeg).map ad)) = _; rw [hr]; rfl) rfl rfl hdg kk
          · cases h
        · cases h
      · cases h
    · cases h
  case arraylength =>
    cases zm_len_of hd (n := 0) rfl
    unfold zm_ss1 at h
    dsimp only at h
    split at h
    · rename_i k r
      split at h
      · rename_i v hg
        cases h
        unfold zm_alen at hg
        split at hg
        · rename_i hk
          cases hg
          have he := zm_W_get (ad := ad) (cI := cI) (cJ := cJ) (M := M) (zm_kd_lt (Or.inr (Or.inl hk)))
          rw [zm_C_arr hk] at he
          exact va_alen hx hb hC.1 hP k 0 he rfl rfl hdg kk
        · rename_i hk
          cases hg
          have he := zm_W_get (ad := ad) (cI := cI) (cJ := cJ) (M := M) (zm_kd_lt (Or.inr (Or.inr hk)))
          rw [zm_C_row hk] at he
          exact va_alen hx hb hC.1 hP k 1 he rfl rfl hdg kk
        · rename_i hk
          cases hg
          have hk2 := zm_k30 hk
          obtain ⟨t, ht, rfl⟩ := hk2
          exact va_tlen hx hb (hC.2.2.1 t ht).2 hS rfl hdg kk
        · rename_i hk
          cases hg
          have hk2 := zm_k32 hk
          obtain ⟨t, ht, rfl⟩ := hk2
          have hT := ((hC.2.2.2.2.1).1 t ht).2.2.2
          have e : zm_ln (112 + t) = [5, 3].getD t 0 := by
            rcases (show t = 0 ∨ t = 1 by omega) with rfl | rfl <;> rfl
          rw [e] at kk
          exact va_tlen hx hb hT hS rfl hdg kk
        · split at hg
          · rename_i hk hy
            cases hg
            have hk2 := zm_k40 hk
            subst hk2
            obtain ⟨hX, hbl, hbA⟩ := S hy
            exact va_slen hx hb hX hbl hbA hS hdg kk
          · cases hg
        · cases hg
      · cases h
    · cases h
  all_goals exact absurd (show (none : Option (List Value)) = some st' from h) (fun q => by cases q)
end ZS
end
section
/-! Steps that store, jump, write; the JDK's three. -/
theorem zm_tg_of {pc t : Nat} {off : Int} (h : zm_tg pc off = some t) : (pc : Int) + off = (t : Int) := by
  unfold zm_tg at h
  split at h
  · cases h
    omega
  · cases h
theorem zm_ts_in : ∀ (l : List Int) (x lo d : Int), lo ≤ x → x < lo + (l.length : Int) → l[(x - lo).toNat]? = some (zm_ts x lo l d)
  | [], x, lo, d, h1, h2 => by
    simp at h2
    omega
  | o :: l, x, lo, d, h1, h2 => by
    unfold zm_ts
    by_cases q : x = lo
    · rw [if_pos q, q, show (lo - lo).toNat = 0 by omega]
      rfl
    · rw [if_neg q]
      have h3 := zm_ts_in l x (lo + 1) d (by omega) (by simp at h2; omega)
      rw [show (x - lo).toNat = (x - (lo + 1)).toNat + 1 by omega, List.getElem?_cons_succ]
      exact h3
theorem zm_ts_out : ∀ (l : List Int) (x lo d : Int), (x < lo ∨ lo + (l.length : Int) ≤ x) → zm_ts x lo l d = d
  | [], x, lo, d, _ => rfl
  | o :: l, x, lo, d, h => by
    unfold zm_ts
    rw [if_neg (by simp at h; omega)]
    exact zm_ts_out l x (lo + 1) d (by simp at h; omega)
theorem zm_cs_of {ad : Nat → Nat} {st : List Value} (h : zm_cs st = true) : ((st.map (zm_zc ad)).map fun v => v.category).sum ≤ 8 := by
  rw [List.map_map]
  have e : ((fun v => v.category) ∘ zm_zc ad : Value → Nat) = fun v => v.category := funext fun v => zm_zc_cat
  rw [e]
  exact Nat.le_of_ble_eq_true h
theorem zm_nfw : nativeFrameWords "java/lang/System" "arraycopy" 5 ≤ 30 := by decide +kernel
section ZS
variable {p : Program} {l : Launch} {e : Env} {R : Room} {s : State} {m : MethodId} {args : Array Value} {below : List Frame} {meth : Method} {c : Code} {H : Heap} {locs : List Loc} {cells slots : Nat} {Q : State → Prop}
variable {ad : Nat → Nat} {D : va_G} {cI cJ : ClassId} {A : Nat → Prop} {y pc pc' len d : Nat} {i : Instr} {lsA : Array Slot} {ls ls' : zm_L} {st st' : List Value} {M M' : zm_M}
theorem zm_sst_snd (F : zm_Fx p s m args c ad D cI cJ A y) (hL : zm_Lh ad lsA (zm_mx y) ls) (hd : zm_at y pc = some (i, len)) (h : zm_sst i ls st = some (ls', st'))
    (kk : ∀ lsA' : Array Slot, zm_Lh ad lsA' (zm_mx y) ls' → W p l e R s m args below meth c H locs cells slots Q (F0 m (pc + len) lsA' (st'.map (zm_zc ad)))) : W p l e R s m args below meth c H locs cells slots Q (F0 m pc lsA (st.map (zm_zc ad))) := by
  obtain ⟨hx, hb, hml, hown, hts, hC⟩ := F
  have hdg := zm_dec hd
  cases i
  case istore_n k =>
    cases zm_len_of hd (n := 0) rfl
    unfold zm_sst at h
    dsimp only at h
    split at h
    · split at h
      · rename_i hi
        cases h
        rw [hL.1] at hi
        exact lv_istore_n hx hb hdg rfl hL.has hi rfl (fun lsA' hl => kk lsA' (zm_Lh.st1 hL.1 hi rfl hl))
      · cases h
    · cases h
  case istore k =>
    cases zm_len_of hd (n := 1) rfl
    unfold zm_sst at h
    dsimp only at h
    split at h
    · split at h
      · rename_i hi
        cases h
        rw [hL.1] at hi
        exact lv_istore hx hb hdg hL.has hi rfl (fun lsA' hl => kk lsA' (zm_Lh.st1 hL.1 hi rfl hl))
      · cases h
    · cases h
  case astore_n k =>
    cases zm_len_of hd (n := 0) rfl
    unfold zm_sst at h
    dsimp only at h
    split at h
    · split at h
      · rename_i hi
        cases h
        rw [hL.1] at hi
        exact lv_astore_n hx hb hdg rfl hL.has hi rfl (fun lsA' hl => kk lsA' (zm_Lh.st1 hL.1 hi rfl hl))
      · cases h
    · cases h
  case astore k =>
    cases zm_len_of hd (n := 1) rfl
    unfold zm_sst at h
    dsimp only at h
    split at h
    · split at h
      · rename_i hi
        cases h
        rw [hL.1] at hi
        exact lv_astore hx hb hdg hL.has hi rfl (fun lsA' hl => kk lsA' (zm_Lh.st1 hL.1 hi rfl hl))
      · cases h
    · cases h
  case lstore_n k =>
    cases zm_len_of hd (n := 0) rfl
    unfold zm_sst at h
    dsimp only at h
    split at h
    · split at h
      · rename_i hi
        cases h
        rw [hL.1] at hi
        exact lv_lstore_n hx hb hdg rfl hL.has hi rfl (fun lsA' hl => kk lsA' (zm_Lh.st2 hL.1 hi hl))
      · cases h
    · cases h
  case lstore k =>
    cases zm_len_of hd (n := 1) rfl
    unfold zm_sst at h
    dsimp only at h
    split at h
    · split at h
      · rename_i hi
        cases h
        rw [hL.1] at hi
        exact lv_lstore hx hb hdg hL.has hi rfl (fun lsA' hl => kk lsA' (zm_Lh.st2 hL.1 hi hl))
      · cases h
    · cases h
  case iinc k n =>
    cases zm_len_of hd (n := 2) rfl
    unfold zm_sst at h
    dsimp only at h
    split at h
    · rename_i x hg
      cases h
      have hg := zm_gd hg
      have hi : k < zm_mx y := by rw [← hL.1]; exact (List.getElem?_eq_some_iff.mp hg).1
      obtain ⟨k9, hk9⟩ := List.getElem?_of_mem (zm_al_mem (ad := ad) hg)
      exact lv_iinc hx hb hdg hL.has hk9 (by rw [zm_lit_eq]) hi rfl (fun lsA' hl => kk lsA' (zm_Lh.st1 hL.1 hi rfl hl))
    · cases h
  all_goals exact absurd (show (none : Option (zm_L × List Value)) = some (ls', st') from h) (fun q => by cases q)
theorem zm_sj_snd (F : zm_Fx p s m args c ad D cI cJ A y) (hd : zm_at y pc = some (i, len)) (h : zm_sj pc i st = some (pc', st'))
    (kk : W p l e R s m args below meth c H locs cells slots Q (F0 m pc' lsA (st'.map (zm_zc ad)))) : W p l e R s m args below meth c H locs cells slots Q (F0 m pc lsA (st.map (zm_zc ad))) := by
  obtain ⟨hx, hb, hml, hown, hts, hC⟩ := F
  have hdg := zm_dec hd
  cases i
  case ifCond cc off =>
    cases zm_len_of hd (n := 2) rfl
    unfold zm_sj at h
    dsimp only at h
    split at h
    · rename_i x r t htg
      have hz9 := Prod.mk.inj (Option.some.inj h)
      rw [← hz9.1, ← hz9.2] at kk
      have ht := zm_tg_of htg
      have kt : zm_cmp cc x 0 = true → W p l e R s m args below meth c H locs cells slots Q (F0 m t lsA (List.map (zm_zc ad) r)) := fun hc => by rw [if_pos hc] at kk; exact kk
      have kf : ¬ zm_cmp cc x 0 = true → W p l e R s m args below meth c H locs cells slots Q (F0 m (pc + 3) lsA (List.map (zm_zc ad) r)) := fun hc => by rw [if_neg hc] at kk; exact kk
      cases cc
      · exact lv_if_eq hx hb hdg ht (fun hc => kt (decide_eq_true hc)) (fun hc => kf (fun z => hc (of_decide_eq_true z)))
      · exact lv_if_ne hx hb hdg ht (fun hc => kt (decide_eq_true hc)) (fun hc => kf (fun z => (of_decide_eq_true z) hc))
      · exact lv_if_lt hx hb hdg ht (fun hc => kt (decide_eq_true hc)) (fun hc => kf (fun z => hc (of_decide_eq_true z)))
      · exact lv_if_ge hx hb hdg ht (fun hc => kt (decide_eq_true hc)) (fun hc => kf (fun z => hc (of_decide_eq_true z)))
      · exact lv_if_gt hx hb hdg ht (fun hc => kt (decide_eq_true hc)) (fun hc => kf (fun z => hc (of_decide_eq_true z)))
      · exact lv_if_le hx hb hdg ht (fun hc => kt (decide_eq_true hc)) (fun hc => kf (fun z => hc (of_decide_eq_true z)))
    · cases h
  case if_icmp cc off =>
    cases zm_len_of hd (n := 2) rfl
    unfold zm_sj at h
    dsimp only at h
    split at h
    · rename_i y9 x r t htg
      have hz9 := Prod.mk.inj (Option.some.inj h)
      rw [← hz9.1, ← hz9.2] at kk
      have ht := zm_tg_of htg
      have kt : zm_cmp cc x y9 = true → W p l e R s m args below meth c H locs cells slots Q (F0 m t lsA (List.map (zm_zc ad) r)) := fun hc => by rw [if_pos hc] at kk; exact kk
      have kf : ¬ zm_cmp cc x y9 = true → W p l e R s m args below meth c H locs cells slots Q (F0 m (pc + 3) lsA (List.map (zm_zc ad) r)) := fun hc => by rw [if_neg hc] at kk; exact kk
      cases cc
      · exact lv_icmp_eq hx hb hdg ht (fun hc => kt (decide_eq_true hc)) (fun hc => kf (fun z => hc (of_decide_eq_true z)))
      · exact lv_icmp_ne hx hb hdg ht (fun hc => kt (decide_eq_true hc)) (fun hc => kf (fun z => (of_decide_eq_true z) hc))
      · exact lv_icmp_lt hx hb hdg ht (fun hc => kt (decide_eq_true hc)) (fun hc => kf (fun z => hc (of_decide_eq_true z)))
      · exact lv_icmp_ge hx hb hdg ht (fun hc => kt (decide_eq_true hc)) (fun hc => kf (fun z => hc (of_decide_eq_true z)))
      · exact lv_icmp_gt hx hb hdg ht (fun hc => kt (decide_eq_true hc)) (fun hc => kf (fun z => hc (of_decide_eq_true z)))
      · exact lv_icmp_le hx hb hdg ht (fun hc => kt (decide_eq_true hc)) (fun hc => kf (fun z => hc (of_decide_eq_true z)))
    · cases h
  case goto off =>
    cases zm_len_of hd (n := 2) rfl
    unfold zm_sj at h
    dsimp only at h
    split at h
    · rename_i t htg
      cases h
      exact lv_goto hx hb hdg (zm_tg_of htg) kk
    · cases h
  case tableswitch dflt lo hi offs =>
    unfold zm_sj at h
    dsimp only at h
    split at h
    · rename_i x r
      split at h
      · rename_i hhi
        split at h
        · rename_i t htg
          cases h
          have ht := zm_tg_of htg
          by_cases h1 : x.toInt < lo
          · rw [zm_ts_out _ _ _ _ (Or.inl h1)] at ht
            exact lv_tableOut hx hb hdg (Or.inl h1) ht kk
          · by_cases h2 : hi < x.toInt
            · rw [zm_ts_out _ _ _ _ (Or.inr (by omega))] at ht
              exact lv_tableOut hx hb hdg (Or.inr h2) ht kk
            · refine lv_tableIn hx hb hdg h1 h2 ?_ ht kk
              rw [← Array.getElem?_toList]
              exact zm_ts_in offs.toList x.toInt lo dflt (by omega) (by omega)
        · cases h
      · cases h
    · cases h
  case lookupswitch dflt ps =>
    unfold zm_sj at h
    dsimp only at h
    split at h
    · split at h
      · rename_i hps
        split at h
        · rename_i t htg
          cases h
          exact lv_lookup hx hb hdg hps rfl (zm_tg_of htg) kk
        · cases h
      · cases h
    · cases h
  all_goals exact absurd (show (none : Option (Nat × List Value)) = some (pc', st') from h) (fun q => by cases q)
theorem zm_pf_snd {idx k : Nat} {v : Value} {rest : List Value} (F : zm_Fx p s m args c ad D cI cJ A y) (hP : va_P D zm_CL (zm_W ad cI cJ M) H) (hS : va_S A s.heap H locs) (hdg : decode (zm_cd y) pc = .ok (.putfield idx, 3)) (h : zm_pf y idx k v M = some M')
    (kk : ∀ (H1 : Heap) (locs1 : List Loc), va_P D zm_CL (zm_W ad cI cJ M') H1 → va_S A s.heap H1 locs1 → W p l e R s m args below meth c H1 locs1 cells slots Q (F0 m (pc + 3) lsA rest)) : W p l e R s m args below meth c H locs cells slots Q (F0 m pc lsA (zm_zc ad v :: .ref (ad k) :: rest)) := by
  obtain ⟨hx, hb, hml, hown, hts, hC⟩ := F
  unfold zm_pf at h
  split at h
  · rename_i ci sl pos hfl
    obtain ⟨h1, h2, h3⟩ := zm_fl_ok hfl
    split at h
    · rename_i hkc
      subst hkc
      have hk97 := zm_kd_lt (Or.inl h2)
      have he := zm_W_get (ad := ad) (cI := cI) (cJ := cJ) (M := M) hk97
      rw [zm_C_obj h2] at he
      have hft := zm_fd_ft h2 h3
      have go : ∀ {ty : FieldType} {w : Value}, zm_ty (zm_kd k) sl = ty → zm_ft (zm_kd k) sl ≠ 2 → narrow ty w = w → fits ty w = true →
          (zm_W ad cI cJ M).set k (ad k, .inr (zm_kd k, ((List.range (zm_nf (zm_kd k))).map (zm_cv ad M k (zm_kd k))).set sl w)) = zm_W ad cI cJ M' →
          W p l e R s m args below meth c H locs cells slots Q (F0 m pc lsA (w :: .ref (ad k) :: rest)) := by
        intro ty w hty h2f hn hf hw
        refine va_put (D := D) (ci := zm_kd k) (v := w) (ty := ty) (C := zm_cn (zm_kd k)) (T := zm_T (zm_kd k)) (N := zm_nf (zm_kd k)) hx hb hts (zm_fd_in h2) (zm_ty (zm_kd k)) (zm_fd_ty h2) (zm_fd_nm h2) hown hC.1 hP (zm_Cx.toD hC) hS k he (zm_CL_get h2) sl h3 (hts _ h1) (fun _ q => q) (zm_fd_fin h2 h3 h2f) (by rw [zm_fd_ty h2 sl h3, hty]) hn hf (by rw [List.length_map, List.length_range]; exact h3) hdg (fun H1 locs1 hP1 _ hS1 => ?_)
        rw [hw] at hP1
        exact kk H1 locs1 hP1 hS1
      unfold zm_pv at h
      split at h
      · rename_i hf
        cases h
        refine go (ty := .int) ?_ (by rw [hf]; decide) rfl rfl (zm_W_si h2 (Or.inl hf))
        rw [hf] at hft
        cases hty : zm_ty (zm_kd k) sl <;> rw [hty] at hft <;> first | rfl | (simp at hft; done) | (split at hft <;> first | (cases hft; done) | contradiction | rfl)
      · rename_i hf
        split at h
        · rename_i hx01
          cases h
          refine go (ty := .boolean) ?_ (by rw [hf]; decide) (by rcases hx01 with rfl | rfl <;> rfl) (by rcases hx01 with rfl | rfl <;> rfl) (zm_W_si h2 (Or.inr hf))
          rw [hf] at hft
          cases hty : zm_ty (zm_kd k) sl <;> rw [hty] at hft <;> first | rfl | (simp at hft; done) | (split at hft <;> first | (cases hft; done) | contradiction | rfl)
        · cases h
      · rename_i hf
        cases h
        refine go (ty := .long) ?_ (by rw [hf]; decide) rfl rfl (zm_W_sl h2 hf)
        rw [hf] at hft
        cases hty : zm_ty (zm_kd k) sl <;> rw [hty] at hft <;> first | rfl | (simp at hft; done) | (split at hft <;> first | (cases hft; done) | contradiction | rfl)
      · rename_i hf
        split at h
        · cases h
          refine go (ty := .object "java/lang/String") ?_ (by rw [hf]; decide) rfl rfl (zm_W_ss h2 hf)
          rw [hf] at hft
          cases hty : zm_ty (zm_kd k) sl <;> rw [hty] at hft <;> first | rfl | (simp at hft; done) | (split at hft <;> first | (cases hft; done) | contradiction | (simp_all; done) | rfl)
        · cases h
      · cases h
    · cases h
  · cases h
end ZS
end
section
/-! What writes the memory; calls; the run of the abstract machine is a run of the real one. -/
theorem zm_ml_ok {o k y' pos : Nat} {nest : Bool} (h : zm_ml o k = some (y', nest, pos)) : (nest = false → Jvm.Cond.methodLink (zm_cn o) k (zm_nm y') ∈ zm_TT) ∧ (nest = true → ∃ q ∈ zm_nwm, q.1 = o ∧ q.2.1 = k ∧ q.2.2.1 = y') ∧ 0 < y' ∧ y' < zm_N ∧ (nest = true → zm_is y' = true) := by
  have h1 := zm_tabs zm_mlA (by decide) (zm_la_mem h)
  unfold zm_bml at h1
  simp only [Bool.and_eq_true, decide_eq_true_eq] at h1
  obtain ⟨h1, ⟨h2, h3⟩, h4⟩ := h1
  refine ⟨fun hn => ?_, fun hn => ?_, h2, h3, fun hn => ?_⟩
  · subst hn
    exact zm_inT h1
  · subst hn
    obtain ⟨q, hq, hqb⟩ := List.any_eq_true.mp h1
    simp only [Bool.and_eq_true] at hqb
    exact ⟨q, hq, Nat.eq_of_beq_eq_true hqb.1, Nat.eq_of_beq_eq_true hqb.2.1, Nat.eq_of_beq_eq_true hqb.2.2⟩
  · subst hn
    simpa using h4
theorem zm_mi_ok {y : Nat} (h0 : 0 < y) (h : y < zm_N) : Jvm.Cond.code (zm_nm y) (zm_cd y) (zm_mx y) (zm_rt y) ∈ zm_TT ∧ Jvm.Cond.initialized (zm_nm y).cls ∈ zm_TT ∧ (zm_is y = true → Jvm.Cond.static (zm_nm y) ∈ zm_TT) ∧ (zm_is y = false → Jvm.Cond.instanceMethod (zm_nm y) ∈ zm_TT ∧ Jvm.Cond.selects (zm_nm y).cls (zm_nm y) (zm_nm y) ∈ zm_TT)
    ∧ (zm_nm y).cls = zm_cn (zm_yc y) ∧ ((zm_nm y).cls ≠ "java/lang/invoke/MethodHandle" ∧ (zm_nm y).cls ≠ "java/lang/invoke/VarHandle") ∧ plainName (zm_nm y).cls = true ∧ (parseMethodDescriptor (zm_nm y).desc).map (fun d => d.parameters.length) = some (zm_na y) ∧ zm_mx y ≤ 40 := by
  have h1 := zm_chk_mi h0 h
  unfold zm_bmi at h1
  simp only [Bool.and_eq_true, decide_eq_true_eq] at h1
  obtain ⟨h1, h2, h3, h4, h5, h6, h7, h8, h9⟩ := h1
  refine ⟨zm_inT h1, zm_inT h2, fun hs => ?_, fun hs => ?_, h4, ⟨h5, h6⟩, h7, h8, h9⟩
  · have hs : (zm_i y).2.2.1 = true := hs
    rw [hs] at h3
    exact zm_inT h3
  · have hs : (zm_i y).2.2.1 = false := hs
    rw [hs] at h3
    simp only [cond_false, Bool.and_eq_true] at h3
    exact ⟨zm_inT h3.1, zm_inT h3.2⟩
theorem zm_goodIn {y : Nat} (h0 : 0 < y) (h : y < zm_N) : GoodIn zm_TT (zm_ws y) := by
  intro w hw
  rcases List.mem_cons.mp hw with rfl | hw
  · have h1 := (zm_mi_ok h0 h).1
    exact ⟨h1, good_of_word (List.mem_filter.mp h1).2⟩
  · exact ⟨hw, good_of_word (List.mem_filter.mp hw).2⟩
/-- the room that a method wants by the depth of its calls -/
def zm_rm (d : Nat) : Room := { frames := d, cells := 0, slots := 0, locals := 60 * d }
/-- a method's start, its end -/
def zm_Pc (ad : Nat → Nat) (D : va_G) (cI cJ : ClassId) (as : List Value) (M : zm_M) : Array Value → State → Prop := va_Pc (as.map (zm_zc ad)) (fun U => zm_Cx ad D cI cJ (zm_Ad ad) U U.heap ∧ va_P D zm_CL (zm_W ad cI cJ M) U.heap)
def zm_Qc (ad : Nat → Nat) (D : va_G) (cI cJ : ClassId) (v : Option Value) (M' : zm_M) : Array Value → State → Outcome → State → Prop := fun _ st oc t => (oc = .returned (v.map (zm_zc ad)) ∧ va_P D zm_CL (zm_W ad cI cJ M') t.heap) ∧ va_F (zm_Ad ad) st t
/-- a method's contract: from this memory it answers v and leaves that memory -/
def zm_Met (l : Launch) (ad : Nat → Nat) (D : va_G) (cI cJ : ClassId) (d y : Nat) (as : List Value) (M : zm_M) (v : Option Value) (M' : zm_M) : Prop := Met l (zm_nm y) (zm_ws y) (zm_rm d) (zm_Pc ad D cI cJ as M) (zm_Qc ad D cI cJ v M') 0 0 (zm_Ad ad)
theorem zm_Pc_blind {ad : Nat → Nat} {D : va_G} {cI cJ : ClassId} {as : List Value} {M : zm_M} : FrameBlind (zm_Pc ad D cI cJ as M) := by
  intro a U g mk hq
  exact ⟨hq.1, zm_Cx.same (u := U) (U := U.calling g mk a) rfl hq.2.1, hq.2.2⟩
section ZS
variable {p : Program} {l : Launch} {e : Env} {R : Room} {s : State} {m : MethodId} {args : Array Value} {below : List Frame} {meth : Method} {c : Code} {H : Heap} {locs : List Loc} {cells slots : Nat} {Q : State → Prop}
variable {ad : Nat → Nat} {D : va_G} {cI cJ : ClassId} {A : Nat → Prop} {y pc pc' len d : Nat} {i : Instr} {lsA : Array Slot} {ls ls' : zm_L} {st st' : List Value} {M M' : zm_M}
/-- behind a call, any answer -/
theorem zm_call {ls9 : Array Slot} {rest st0 : List Value} {a : Array Value} {v : Option Value} {M1 : zm_M} (hr : va_Run p l e R s m args below meth c H locs cells slots 0 0 (F0 m pc ls9 st0) rest (zm_Qc ad D cI cJ v M1 a) (zm_Ad ad)) (hS : va_S A s.heap H locs) (hAd : ∀ k, k < 97 → A (ad k))
    (kk : ∀ (H1 : Heap) (locs1 : List Loc), va_P D zm_CL (zm_W ad cI cJ M1) H1 → va_S A s.heap H1 locs1 → W p l e R s m args below meth c H1 locs1 cells slots Q (F0 m (pc + 3) ls9 ((v.map (zm_zc ad)).toList ++ rest))) : W p l e R s m args below meth c H locs cells slots Q (F0 m pc ls9 st0) := by
  intro T hT X
  obtain ⟨v9, st9, t, T', L, h0, X', hL, e1, e2, ⟨⟨hv, hb⟩, hz, hk⟩, hst⟩ := hr T hT X
  cases hv
  rw [h0] at hz hk
  have hA : ∀ q, zm_Ad ad q → A q := fun q hq => by
    obtain ⟨k, hk97, rfl⟩ := hq
    exact hAd k hk97
  obtain ⟨t2, a1, b1⟩ := kk T'.heap (locs ++ L) (by rw [e1]; exact hb)
    ⟨Nat.le_trans hS.1 (by rw [e1]; exact hz), fun q h1 h2 => by rw [e1, hk q (Nat.lt_of_lt_of_le h1 hS.1) (fun z => h2 (hA q z))]; exact hS.2.1 q h1 h2, fun q hq => by
      rcases List.mem_append.mp hq with h | h
      · exact hS.2.2 q h
      · exact hA _ (hL q h)⟩ T' rfl X'
  exact ⟨t2, hst t2 a1, b1⟩
theorem zm_sm_snd (F : zm_Fx p s m args c ad D cI cJ A y) (hP : va_P D zm_CL (zm_W ad cI cJ M) H) (hS : va_S A s.heap H locs) (hL : zm_Lh ad lsA (zm_mx y) ls) (hR : d ≤ R.frames ∧ 60 * d ≤ R.locals) (hc9 : cells ≤ R.cells) (hs9 : slots ≤ R.slots) (hd : zm_at y pc = some (i, len)) (h : zm_sm d y i st M = some (st', M'))
    (kk : ∀ (H1 : Heap) (locs1 : List Loc), va_P D zm_CL (zm_W ad cI cJ M') H1 → va_S A s.heap H1 locs1 → W p l e R s m args below meth c H1 locs1 cells slots Q (F0 m (pc + len) lsA (st'.map (zm_zc ad)))) : W p l e R s m args below meth c H locs cells slots Q (F0 m pc lsA (st.map (zm_zc ad))) := by
  have F0' := F
  obtain ⟨hx, hb, hml, hown, hts, hC⟩ := F
  have hdg := zm_dec hd
  have hmls : c.maxLocals = lsA.size := by rw [hml, hL.2.1]
  cases i
  case putfield idx =>
    cases zm_len_of hd (n := 2) rfl
    unfold zm_sm at h
    dsimp only at h
    split at h
    · split at h
      · rename_i M9 hpf
        have hz9 := Prod.mk.inj (Option.some.inj h)
        rw [← hz9.1, ← hz9.2] at kk
        exact zm_pf_snd F0' hP hS hdg hpf kk
      · cases h
    · cases h
  case iastore =>
    cases zm_len_of hd (n := 0) rfl
    unfold zm_sm at h
    dsimp only at h
    split at h
    · rename_i zx zj zk zr
      split at h
      · rename_i hk
        split at h
        · rename_i hin
          have hz9 := Prod.mk.inj (Option.some.inj h)
          rw [← hz9.1, ← hz9.2] at kk
          have he := zm_W_get (ad := ad) (cI := cI) (cJ := cJ) (M := M) (zm_kd_lt (Or.inr (Or.inl hk)))
          rw [zm_C_arr hk] at he
          refine va_iast hx hb hC.1 hP (zm_Cx.toD hC) hS zk 0 he rfl (zm_inb_in hin) hdg (fun H1 locs1 hP1 _ hS1 => ?_)
          rw [zm_W_sr hk] at hP1
          exact kk H1 locs1 hP1 hS1
        · cases h
      · cases h
    · cases h
  case invokestatic idx =>
    cases zm_len_of hd (n := 2) rfl
    unfold zm_sm at h
    dsimp only at h
    split at h
    · cases h
    rename_i hd0
    split at h
    · rename_i pos zy zx zr hbi
      split at h
      · rename_i hcs
        have hz9 := Prod.mk.inj (Option.some.inj h)
        rw [← hz9.1, ← hz9.2] at kk
        have h1 := zm_tabs zm_biA (by decide) (zm_la_mem hbi)
        unfold zm_bbi at h1
        rw [Bool.and_eq_true] at h1
        have hcs := zm_cs_of (ad := ad) hcs
        exact va_mmin hx hb hmls hown (hts _ (zm_inT h1.1)) (hts _ (zm_wq_in (n := 2) (by decide))) (hts _ (zm_wq_in (n := 5) (by decide))) (hts _ (zm_wq_in (n := 7) (by decide))) (by omega) (by omega) hc9 hs9 hdg (kk H locs hP hS)
      · cases h
    · rename_i pos zy zx zr hbi
      split at h
      · rename_i hcs
        have hz9 := Prod.mk.inj (Option.some.inj h)
        rw [← hz9.1, ← hz9.2] at kk
        have h1 := zm_tabs zm_biA (by decide) (zm_la_mem hbi)
        unfold zm_bbi at h1
        rw [Bool.and_eq_true] at h1
        have hcs := zm_cs_of (ad := ad) hcs
        exact va_mmax hx hb hmls hown (hts _ (zm_inT h1.1)) (hts _ (zm_wq_in (n := 3) (by decide))) (hts _ (zm_wq_in (n := 5) (by decide))) (hts _ (zm_wq_in (n := 8) (by decide))) (by omega) (by omega) hc9 hs9 hdg (kk H locs hP hS)
      · cases h
    · rename_i pos zn zdp zb zsp za zr hbi
      split at h
      · rename_i hq9
        obtain ⟨hcs, hka, hkb, g1, g2, g3, g4, g5⟩ := hq9
        have hz9 := Prod.mk.inj (Option.some.inj h)
        rw [← hz9.1, ← hz9.2] at kk
        have h1 := zm_tabs zm_biA (by decide) (zm_la_mem hbi)
        unfold zm_bbi at h1
        rw [Bool.and_eq_true] at h1
        have hcs := zm_cs_of (ad := ad) hcs
        have hea := zm_W_get (ad := ad) (cI := cI) (cJ := cJ) (M := M) (zm_kd_lt (Or.inr (Or.inl hka)))
        rw [zm_C_arr hka] at hea
        have heb := zm_W_get (ad := ad) (cI := cI) (cJ := cJ) (M := M) (zm_kd_lt (Or.inr (Or.inl hkb)))
        rw [zm_C_arr hkb] at heb
        have hnf := zm_nfw
        refine va_copyi hx hb hmls hown (hts _ (zm_inT h1.1)) (hts _ (zm_wq_in (n := 9) (by decide))) (hts _ (zm_wq_in (n := 4) (by decide))) (hts _ (zm_wq_in (n := 6) (by decide))) hC.1 hP (zm_Cx.toD hC) hS za zb 0 0 hea heb rfl rfl rfl g1 g2 g3 g4 g5 (fun _ _ => rfl) (by omega) (by omega) hdg (fun H1 locs1 hP1 _ hS1 => ?_)
        rw [zm_W_sr hkb] at hP1
        exact kk H1 locs1 hP1 hS1
      · cases h
    · cases h
  all_goals exact absurd (show (none : Option (List Value × zm_M)) = some (st', M') from h) (fun q => by cases q)
end ZS
end
section
/-! Calls and returns; the run of the abstract machine is a run of the real one. -/
theorem zm_sm_scr {d y : Nat} {i : Instr} {st st' : List Value} {M M' : zm_M} (h : zm_sm d y i st M = some (st', M')) : M'.2.2.2 = M.2.2.2 := by
  unfold zm_sm at h
  split at h
  · split at h
    · split at h
      · rename_i M9 hpf
        have hz9 := Prod.mk.inj (Option.some.inj h)
        rw [← hz9.2]
        unfold zm_pf at hpf
        split at hpf
        · split at hpf
          · unfold zm_pv at hpf
            split at hpf
            · cases hpf
              rfl
            · split at hpf
              · cases hpf
                rfl
              · cases hpf
            · cases hpf
              rfl
            · split at hpf
              · cases hpf
                rfl
              · cases hpf
            · cases hpf
          · cases hpf
        · cases hpf
      · cases h
    · cases h
  · split at h
    · split at h
      · split at h
        · have hz9 := Prod.mk.inj (Option.some.inj h)
          rw [← hz9.2]
          rfl
        · cases h
      · cases h
    · cases h
  · split at h
    · cases h
    split at h
    · split at h
      · have hz9 := Prod.mk.inj (Option.some.inj h)
        rw [← hz9.2]
      · cases h
    · split at h
      · have hz9 := Prod.mk.inj (Option.some.inj h)
        rw [← hz9.2]
      · cases h
    · split at h
      · have hz9 := Prod.mk.inj (Option.some.inj h)
        rw [← hz9.2]
        rfl
      · cases h
    · cases h
  · cases h
theorem zm_run_scr : ∀ (n d y pc : Nat) (ls : zm_L) (st : List Value) (M : zm_M) (v : Option Value) (M' : zm_M), zm_run n d y pc ls st M = some (v, M') → M'.2.2.2 = M.2.2.2 := by
  intro n
  induction n with
  | zero => intro d y pc ls st M v M' h; cases h
  | succ n ih =>
    intro d y pc ls st M v M' h
    unfold zm_run at h
    split at h
    · cases h
    · split at h
      · have hz9 := Prod.mk.inj (Option.some.inj h)
        rw [← hz9.2]
      · split at h
        · exact ih _ _ _ _ _ _ _ _ h
        · split at h
          · exact ih _ _ _ _ _ _ _ _ h
          · split at h
            · exact ih _ _ _ _ _ _ _ _ h
            · split at h
              · rename_i st9 M9 hsm
                rw [ih _ _ _ _ _ _ _ _ h]
                exact zm_sm_scr hsm
              · split at h
                · split at h
                  · split at h
                    · rename_i v9 M9 hr9
                      rw [ih _ _ _ _ _ _ _ _ h]
                      exact ih _ _ _ _ _ _ _ _ hr9
                    · cases h
                  · cases h
                · cases h
theorem zm_tb_len : zm_tb.length = zm_N := by decide +kernel
theorem zm_at_lt {y pc : Nat} {q : Instr × Nat} (h : zm_at y pc = some q) : y < zm_N := by
  have hm := zm_lk_mem h
  by_cases hy : y < zm_N
  · exact hy
  · rw [List.getD_eq_getElem?_getD, List.getElem?_eq_none (by rw [zm_tb_len]; omega)] at hm
    cases hm
theorem zm_rt_of {y : Nat} (h : y < zm_N) : zm_rt y = (match zm_rk y with | 0 => none | 1 => some .int | 2 => some .boolean | 3 => some .long | 5 => some .byte | _ => some (.object "FathersPay$Text")) := of_decide_eq_true (List.all_eq_true.mp zm_mtA y (List.mem_range.mpr h))
section ZS
variable {p : Program} {l : Launch} {e : Env} {R : Room} {s : State} {m : MethodId} {args : Array Value} {below : List Frame} {meth : Method} {c : Code} {H : Heap} {locs : List Loc} {cells slots : Nat} {Q : State → Prop}
variable {ad : Nat → Nat} {D : va_G} {cI cJ : ClassId} {A : Nat → Prop} {y pc pc' len d : Nat} {i : Instr} {lsA : Array Slot} {ls ls' : zm_L} {st st' : List Value} {M M' : zm_M}
/-- a method's own end -/
theorem zm_ret_snd {v : Option Value} (hx : p.tables.exec = Jvm.exec) (hb : c.code = zm_cd y) (hr : meth.sig.returnType = zm_rt y) (hlocks : meth.locks = false) (hP : va_P D zm_CL (zm_W ad cI cJ M) H) (hS : va_S (zm_Ad ad) s.heap H locs) (hd : zm_at y pc = some (i, len)) (h : zm_ret y i st = some v) :
    W p l e R s m args below meth c H locs 0 0 (MQ below (zm_Qc ad D cI cJ v M) args s 0 0 (zm_Ad ad)) (F0 m pc lsA (st.map (zm_zc ad))) := by
  have hdg := zm_dec hd
  have hrt := zm_rt_of (zm_at_lt hd)
  rw [hrt] at hr
  have hq : ∀ (w : Option Value) (t : State), t.heap = H → w = v.map (zm_zc ad) → zm_Qc ad D cI cJ v M args s (.returned w) t := fun w t ht hw => ⟨⟨by rw [hw], by rw [ht]; exact hP⟩, hS.F ht⟩
  unfold zm_ret at h
  split at h
  · cases zm_len_of hd (n := 0) rfl
    split at h
    · rename_i hk
      cases h
      rw [hk] at hr
      exact W.iret hx hb hr (fun t ht _ => hq _ t ht rfl) hS.2.2 hdg hlocks
    · rename_i hk
      split at h
      · rename_i h01
        cases h
        rw [hk] at hr
        exact W.zret (ty := .boolean) hx hb hr (by rcases h01 with rfl | rfl <;> rfl) (fun t ht _ => hq _ t ht rfl) hS.2.2 hdg hlocks
      · cases h
    · rename_i hk
      split at h
      · rename_i h0
        subst h0
        cases h
        rw [hk] at hr
        exact W.zret (ty := .byte) hx hb hr rfl (fun t ht _ => hq _ t ht rfl) hS.2.2 hdg hlocks
      · cases h
    · cases h
  · cases zm_len_of hd (n := 0) rfl
    split at h
    · rename_i hk
      cases h
      rw [hk] at hr
      exact W.lret hx hb hr (fun t ht _ => hq _ t ht rfl) hS.2.2 hdg hlocks
    · cases h
  · cases zm_len_of hd (n := 0) rfl
    split at h
    · rename_i hk
      cases h
      rw [hk] at hr
      exact W.aret hx hb hr (Or.inl ⟨_, rfl⟩) (Or.inr ⟨_, rfl⟩) (fun t ht _ => hq _ t ht rfl) hS.2.2 hdg hlocks
    · cases h
  · cases zm_len_of hd (n := 0) rfl
    split at h
    · rename_i hk
      cases h
      rw [hk] at hr
      exact W.vret hx hb hr (fun t ht _ => hq _ t ht rfl) hS.2.2 hdg hlocks
    · cases h
  · cases h
end ZS
theorem zm_cal_st {y y' : Nat} {i : Instr} {st as r : List Value} {ad : Nat → Nat} (h : zm_cal y i st = some (y', as, r)) :
    (∃ (idx pos : Nat) (nest : Bool), i = .invokestatic idx ∧ zm_ml (zm_yc y) idx = some (y', nest, pos) ∧ zm_is y' = true ∧ as.length = zm_na y' ∧ zm_cs r = true ∧ st = as.reverse ++ r) ∨
    (∃ (idx pos k : Nat) (as9 : List Value), i = .invokevirtual idx ∧ zm_ml (zm_yc y) idx = some (y', false, pos) ∧ zm_is y' = false ∧ as = .ref k :: as9 ∧ as9.length = zm_na y' ∧ zm_cs r = true ∧ st = as9.reverse ++ .ref k :: r ∧ zm_kd k = zm_yc y') := by
  unfold zm_cal at h
  split at h
  · rename_i idx
    split at h
    · rename_i y9 nest pos hml
      split at h
      · rename_i hq9
        obtain ⟨h1, h2, h3⟩ := hq9
        have hz9 := Prod.mk.inj (Option.some.inj h)
        have hz8 := Prod.mk.inj hz9.2
        left
        rw [hz9.1] at hml h1 h2 h3 hz8
        refine ⟨idx, pos, nest, rfl, hml, h1, ?_, ?_, ?_⟩
        · rw [← hz8.1, List.length_reverse, List.length_take]
          omega
        · rw [← hz8.2]
          exact h3
        · rw [← hz8.1, ← hz8.2, List.reverse_reverse, List.take_append_drop]
      · cases h
    · cases h
  · rename_i idx
    split at h
    · rename_i y9 nest pos hml
      split at h
      · rename_i k9 r9 hdr
        split at h
        · rename_i hq9
          obtain ⟨h1, h2, h3, h4, h5⟩ := hq9
          have hz9 := Prod.mk.inj (Option.some.inj h)
          have hz8 := Prod.mk.inj hz9.2
          right
          rw [hz9.1] at hml h1 h3 h5 hz8 hdr
          subst h2
          refine ⟨idx, pos, k9, (st.take (zm_na y')).reverse, rfl, hml, h1, hz8.1.symm, ?_, ?_, ?_, h5⟩
          · rw [List.length_reverse, List.length_take]
            omega
          · rw [← hz8.2]
            exact h4
          · rw [List.reverse_reverse, ← hz8.2, ← hdr, List.take_append_drop]
        · cases h
      · cases h
    · cases h
  · cases h
set_option maxHeartbeats 4000000 in
/-- THE RUN: what the abstract machine does, the real one does -/
theorem zm_snd (l : Launch) (ad : Nat → Nat) (D : va_G) (cI cJ : ClassId) : ∀ (n d y pc : Nat) (ls : zm_L) (st : List Value) (M : zm_M) (v : Option Value) (M' : zm_M), zm_run n d y pc ls st M = some (v, M') →
    ∀ {p : Program} {e : Env} {R : Room} {s : State} {m : MethodId} {args : Array Value} {below : List Frame} {meth : Method} {c : Code} {H : Heap} {locs : List Loc} {cells slots : Nat} {Q : State → Prop} {A : Nat → Prop} {lsA : Array Slot},
    zm_Fx p s m args c ad D cI cJ A y → zm_Sx s ad A y M → (d ≤ R.frames ∧ 60 * d ≤ R.locals) → cells ≤ R.cells → slots ≤ R.slots → va_P D zm_CL (zm_W ad cI cJ M) H → va_S A s.heap H locs → zm_Lh ad lsA (zm_mx y) ls →
    (∀ (pc9 len9 : Nat) (i9 : Instr) (lsA9 : Array Slot) (st9 : List Value) (H9 : Heap) (locs9 : List Loc), zm_at y pc9 = some (i9, len9) → zm_ret y i9 st9 = some v → va_P D zm_CL (zm_W ad cI cJ M') H9 → va_S A s.heap H9 locs9 →
      W p l e R s m args below meth c H9 locs9 cells slots Q (F0 m pc9 lsA9 (st9.map (zm_zc ad)))) →
    W p l e R s m args below meth c H locs cells slots Q (F0 m pc lsA (st.map (zm_zc ad))) := by
  intro n
  induction n with
  | zero => intro d y pc ls st M v M' h; cases h
  | succ n ih =>
    intro d y pc ls st M v M' h p e R s m args below meth c H locs cells slots Q A lsA F S hR hc9 hs9 hP hS hL hret
    unfold zm_run at h
    split at h
    · cases h
    · rename_i i len hat
      split at h
      · rename_i v9 hv9
        have hz9 := Prod.mk.inj (Option.some.inj h)
        rw [hz9.1] at hv9
        rw [hz9.2] at hP
        exact hret pc len i lsA st H locs hat hv9 hP hS
      · split at h
        · rename_i st9 h9
          exact zm_ss1_snd F S hP hS hL hat h9 (ih _ _ _ _ _ _ _ _ h F S hR hc9 hs9 hP hS hL hret)
        · split at h
          · rename_i ls9 st9 h9
            exact zm_sst_snd F hL hat h9 (fun lsA' hL' => ih _ _ _ _ _ _ _ _ h F S hR hc9 hs9 hP hS hL' hret)
          · split at h
            · rename_i pc9 st9 h9
              exact zm_sj_snd F hat h9 (ih _ _ _ _ _ _ _ _ h F S hR hc9 hs9 hP hS hL hret)
            · split at h
              · rename_i st9 M9 h9
                have hscr := zm_sm_scr h9
                have S9 : zm_Sx s ad A y M9 := fun h0 => by rw [hscr]; exact S h0
                exact zm_sm_snd F hP hS hL hR hc9 hs9 hat h9 (fun H1 locs1 hP1 hS1 => ih _ _ _ _ _ _ _ _ h F S9 hR hc9 hs9 hP1 hS1 hL hret)
              · split at h
                · rename_i d9 y9 as9 r9 hcal hsm9
                  split at h
                  · rename_i hlen
                    split at h
                    · rename_i v1 M1 hr1
                      have hscr := zm_run_scr _ _ _ _ _ _ _ _ _ hr1
                      have S9 : zm_Sx s ad A y M1 := fun h0 => by rw [hscr]; exact S h0
                      have goon : ∀ (H1 : Heap) (locs1 : List Loc), va_P D zm_CL (zm_W ad cI cJ M1) H1 → va_S A s.heap H1 locs1 → W p l e R s m args below meth c H1 locs1 cells slots Q (F0 m (pc + 3) lsA ((v1.map (zm_zc ad)).toList ++ List.map (zm_zc ad) r9)) := fun H1 locs1 hP1 hS1 => by
                        have h8 := ih _ _ _ _ _ _ _ _ h F S9 hR hc9 hs9 hP1 hS1 hL hret
                        rw [List.map_append] at h8
                        cases v1 <;> exact h8
                      have hy9 : 0 < y9 ∧ y9 < zm_N := by
                        rcases zm_cal_st (ad := ad) hcal with ⟨idx, pos, nest, -, hml, -⟩ | ⟨idx, pos, k, as8, -, hml, -⟩
                        · exact ⟨(zm_ml_ok hml).2.2.1, (zm_ml_ok hml).2.2.2.1⟩
                        · exact ⟨(zm_ml_ok hml).2.2.1, (zm_ml_ok hml).2.2.2.1⟩
                      obtain ⟨k1, k2, k3, k4, k5, k6, k7, k8, k9⟩ := zm_mi_ok hy9.1 hy9.2
                      have hM : zm_Met l ad D cI cJ d9 y9 as9 M v1 M1 := by
                        refine Met.ofW (cc := zm_cd y9) (maxL := zm_mx y9) (ret := zm_rt y9) k7 rfl ?_
                        intro p e s m args below meth c s1 B hml hv
                        obtain ⟨rfl, hCx, hP0⟩ := hv
                        have hts0 := atoms_spec (ws := zm_ws y9) B.pre
                        have hown : s.vm.findClass (zm_nm y9).cls = some m.cls := findClass_of_methodNamed B.named
                        rw [k5] at hown
                        rw [lg_entry_eq]
                        exact ih d9 y9 0 _ [] M v1 M1 hr1 ⟨B.exec, B.bytes, hml, hown, fun w hw => hts0 w (List.mem_cons_of_mem _ hw), hCx⟩ (fun h0 => absurd h0 (by omega)) ⟨Nat.le_refl _, Nat.le_refl _⟩ (Nat.le_refl _) (Nat.le_refl _) hP0 va_S.rf (zm_Lh.ent hlen)
                          (fun pc9 len9 i9 lsA9 st9 H9 locs9 g1 g2 g3 g4 => zm_ret_snd B.exec B.bytes B.returns B.notSynchronized g3 g4 g1 g2)
                      obtain ⟨hx, hb, hml, hown, hts, hC⟩ := F
                      have hAd : ∀ k, k < 97 → A (ad k) := hC.2.1.1
                      have hAB : ∀ q, zm_Ad ad q → A q := fun q hq => by
                        obtain ⟨k, hk97, rfl⟩ := hq
                        exact hAd k hk97
                      have hpc : ∀ U : State, U.heap = H → s.WarmedH U.vm → zm_Pc ad D cI cJ as9 M ((as9.map (zm_zc ad)).toArray) U := fun U hU hW => by
                        refine ⟨rfl, ?_, by rw [hU]; exact hP⟩
                        rw [hU]
                        exact zm_Cx.narrow hAB (fun i hi => ⟨i, hi, rfl⟩) (zm_Cx.kept (fun a ha hna => hS.2.1 a ha hna) (zm_Cx.warm hW hC))
                      have hfr : (zm_rm d9).frames + 1 ≤ R.frames := hR.1
                      have hlo : 8 + (zm_mx y9 + 11) + (zm_rm d9).locals ≤ R.locals := by
                        have := hR.2
                        show 8 + (zm_mx y9 + 11) + 60 * d9 ≤ R.locals
                        omega
                      have hgi := zm_goodIn hy9.1 hy9.2
                      have hwarm : ∀ w ∈ zm_ws y9, ∀ (a' : Array Value) (U : State), s.WarmedH U.vm → w.before a' U = true := pay_in hts hgi
                      have hlenp : ∀ sig, parseMethodDescriptor (zm_nm y9).desc = some sig → zm_na y9 = sig.parameters.length := fun sig h7 => by
                        rw [h7] at k8
                        exact (Option.some.inj k8).symm
                      have hd9 := zm_dec hat
                      rcases zm_cal_st (ad := ad) hcal with ⟨idx, pos, nest, rfl, hmlk, his, hal, hcs, hst⟩ | ⟨idx, pos, k, as8, rfl, hmlk, his, has, hal, hcs, hst, hkd⟩
                      · cases zm_len_of hat (n := 2) rfl
                        obtain ⟨l1, l2, -⟩ := zm_ml_ok hmlk
                        have hstk : st.map (zm_zc ad) = (as9.map (zm_zc ad)).reverse ++ r9.map (zm_zc ad) := by rw [hst, List.map_append, List.map_reverse]
                        cases nest with
                        | false =>
                          exact zm_call (va_runS (nL := zm_mx y) (ws := zm_ws y9) (rm := zm_rm d9) (n := zm_na y9) (Ts := zm_TT) ⟨hx, hb, hml, hown, hts⟩ hM ⟨⟨rfl, rfl, hfr, hlo, hwarm, List.mem_cons_self, hts _ k1, hts _ k2, k6, hlenp, hts _ (l1 rfl)⟩, hts _ (k3 his)⟩ ⟨zm_Pc_blind, hpc⟩ rfl (by rw [List.length_map]; exact hal) hL.2.1 hstk (lv_room (zm_cs_of hcs)) hd9 ⟨hc9, hs9⟩) hS hAd goon
                        | true =>
                          obtain ⟨q, hq, q1, q2, q3⟩ := l2 rfl
                          have hN := hC.2.2.2.2.2.2.1 q hq
                          rw [q1, q2, q3] at hN
                          exact zm_call (va_runSN (nL := zm_mx y) (ws := zm_ws y9) (rm := zm_rm d9) (n := zm_na y9) (Ts := zm_TT) ⟨hx, hb, hml, hown, hts⟩ hM ⟨⟨⟨rfl, rfl, hfr, hlo, hwarm, List.mem_cons_self⟩, hts _ k1, hts _ k2, k6, hlenp, va_Nw.use rfl hN⟩, hts _ (k3 his), trivial⟩ ⟨zm_Pc_blind, hpc⟩ rfl (by rw [List.length_map]; exact hal) hL.2.1 hstk (lv_room (zm_cs_of hcs)) hd9 ⟨hc9, hs9⟩) hS hAd goon
                      · cases zm_len_of hat (n := 2) rfl
                        obtain ⟨l1, -⟩ := zm_ml_ok hmlk
                        subst has
                        have hstk : st.map (zm_zc ad) = (as8.map (zm_zc ad)).reverse ++ .ref (ad k) :: r9.map (zm_zc ad) := by rw [hst, List.map_append, List.map_reverse]; rfl
                        have hrecv : ∃ cell : Cell, H[ad k]? = some cell ∧ cell.vm.isStatics = false ∧ s.vm.findClass (zm_nm y9).cls = some cell.cls := by
                          rw [k5]
                          by_cases h12 : zm_kd k < 12
                          · have he := zm_W_get (ad := ad) (cI := cI) (cJ := cJ) (M := M) (zm_kd_lt (Or.inl h12))
                            rw [zm_C_obj h12] at he
                            rw [← hkd]
                            exact va_recv hC.1 hP (zm_CL_get h12) he
                          · have h13 : zm_kd k = 13 := by
                              have g1 : ∀ y, y < zm_N → zm_is y = false → zm_yc y < 12 ∨ zm_yc y = 13 := by decide +kernel
                              rcases g1 y9 hy9.2 his with z | z <;> omega
                            obtain ⟨t, ht, rfl⟩ := zm_k13 h13
                            rw [← hkd, h13]
                            exact vk_recv (adK := fun i => ad (110 + i)) hC.2.2.2.2.1 ht hS
                        exact zm_call (va_runV (nL := zm_mx y) (ws := zm_ws y9) (rm := zm_rm d9) (n := zm_na y9) (Ts := zm_TT) (C := (zm_nm y9).cls) (As := as8.map (zm_zc ad)) ⟨hx, hb, hml, hown, hts⟩ hM ⟨⟨rfl, rfl, hfr, hlo, hwarm, List.mem_cons_self, hts _ k1, hts _ k2, k6, hlenp, hts _ (l1 rfl)⟩, hts _ (k4 his).1, hts _ (k4 his).2⟩ ⟨zm_Pc_blind, hrecv, hpc⟩ rfl (by rw [List.length_map]; exact hal) hL.2.1 hstk (lv_room (zm_cs_of hcs)) hd9 ⟨hc9, hs9⟩) hS hAd goon
                    · cases h
                  · cases h
                · cases h
end
section
/-! THE PURE LAYER: what is wanted of a run, as a predicate. -/
theorem zm_sm_pos {d d2 y : Nat} {i : Instr} {st : List Value} {M : zm_M} : zm_sm (d + 1) y i st M = zm_sm (d2 + 1) y i st M := by
  cases i <;> first | rfl | (unfold zm_sm; dsimp only; rw [if_neg (Nat.succ_ne_zero d), if_neg (Nat.succ_ne_zero d2)])
theorem zm_sm_dep {d y : Nat} {i : Instr} {st : List Value} {M : zm_M} {q : List Value × zm_M} (h : zm_sm d y i st M = some q) : zm_sm (d + 1) y i st M = some q := by
  cases d with
  | succ d => rw [zm_sm_pos (d2 := d)]; exact h
  | zero =>
    cases i <;> first | exact h | (exact absurd (show (none : Option (List Value × zm_M)) = some q from h) (fun z => by cases z))
theorem zm_run_mono : ∀ (n d y pc : Nat) (ls : zm_L) (st : List Value) (M : zm_M) (q : Option Value × zm_M), zm_run n d y pc ls st M = some q → ∀ (n2 d2 : Nat), n ≤ n2 → d ≤ d2 → zm_run n2 d2 y pc ls st M = some q := by
  intro n
  induction n with
  | zero => intro d y pc ls st M q h; cases h
  | succ n ih =>
    intro d y pc ls st M q h n2 d2 hn hd
    obtain ⟨n3, rfl⟩ : ∃ n3, n2 = n3 + 1 := ⟨n2 - 1, by omega⟩
    have hn3 : n ≤ n3 := by omega
    have hsm : ∀ {i : Instr} {q : List Value × zm_M}, zm_sm d y i st M = some q → zm_sm d2 y i st M = some q := fun {i} {q} hq => by
      induction hd with
      | refl => exact hq
      | step _ ih2 => exact zm_sm_dep ih2
    unfold zm_run at h ⊢
    cases h1 : zm_at y pc with
    | none => rw [h1] at h; cases h
    | some qi =>
      obtain ⟨i, len⟩ := qi
      rw [h1] at h
      dsimp only at h ⊢
      cases h2 : zm_ret y i st with
      | some v => rw [h2] at h; exact h
      | none =>
        rw [h2] at h
        dsimp only at h ⊢
        cases h3 : zm_ss1 y i ls st M with
        | some st1 => rw [h3] at h; exact ih _ _ _ _ _ _ _ h _ _ hn3 hd
        | none =>
          rw [h3] at h
          dsimp only at h ⊢
          cases h4 : zm_sst i ls st with
          | some q4 => obtain ⟨ls1, st1⟩ := q4; rw [h4] at h; exact ih _ _ _ _ _ _ _ h _ _ hn3 hd
          | none =>
            rw [h4] at h
            dsimp only at h ⊢
            cases h5 : zm_sj pc i st with
            | some q5 => obtain ⟨pc1, st1⟩ := q5; rw [h5] at h; exact ih _ _ _ _ _ _ _ h _ _ hn3 hd
            | none =>
              rw [h5] at h
              dsimp only at h ⊢
              cases h6 : zm_sm d y i st M with
              | some q6 =>
                obtain ⟨st1, M1⟩ := q6
                rw [h6] at h
                rw [hsm h6]
                exact ih _ _ _ _ _ _ _ h _ _ hn3 hd
              | none =>
                rw [h6] at h
                dsimp only at h
                cases d with
                | zero => cases h
                | succ d1 =>
                  cases d2 with
                  | zero => omega
                  | succ d3 =>
                    have h6' : zm_sm (d3 + 1) y i st M = none := by
                      have e9 : zm_sm (d3 + 1) y i st M = zm_sm (d1 + 1) y i st M := zm_sm_pos
                      rw [e9]
                      exact h6
                    rw [h6']
                    dsimp only
                    cases h7 : zm_cal y i st with
                    | none => rw [h7] at h; cases h
                    | some q7 =>
                      obtain ⟨y1, as1, r1⟩ := q7
                      rw [h7] at h
                      dsimp only at h ⊢
                      split at h
                      · rename_i hle
                        rw [if_pos hle]
                        cases h8 : zm_run n d1 y1 0 (zm_ent as1 (zm_mx y1)) [] M with
                        | none => rw [h8] at h; cases h
                        | some q8 =>
                          obtain ⟨v8, M8⟩ := q8
                          rw [h8] at h
                          rw [ih _ _ _ _ _ _ _ h8 n3 d3 hn3 (by omega)]
                          exact ih _ _ _ _ _ _ _ h _ _ hn3 hd
                      · cases h
/-- a run from here returns, and P holds of its answer and of the memory that it leaves -/
def zt (d y pc : Nat) (ls : zm_L) (st : List Value) (M : zm_M) (P : Option Value → zm_M → Prop) : Prop := ∃ (n : Nat) (v : Option Value) (M' : zm_M), zm_run n d y pc ls st M = some (v, M') ∧ P v M'
def zi (d y : Nat) (as : List Value) (M : zm_M) (Q : Int32 → zm_M → Prop) : Prop := zt d y 0 (zm_ent as (zm_mx y)) [] M (fun v M' => match v with
  | some (.int x) => Q x M'
  | _ => False)
def zv (d y : Nat) (as : List Value) (M : zm_M) (Q : zm_M → Prop) : Prop := zt d y 0 (zm_ent as (zm_mx y)) [] M (fun v M' => match v with
  | none => Q M'
  | _ => False)
def zl (d y : Nat) (as : List Value) (M : zm_M) (Q : Int64 → zm_M → Prop) : Prop := zt d y 0 (zm_ent as (zm_mx y)) [] M (fun v M' => match v with
  | some (.long x) => Q x M'
  | _ => False)
def zr (d y : Nat) (as : List Value) (M : zm_M) (Q : Nat → zm_M → Prop) : Prop := zt d y 0 (zm_ent as (zm_mx y)) [] M (fun v M' => match v with
  | some (.ref x) => Q x M'
  | _ => False)
def zq (rk d y : Nat) (as : List Value) (M : zm_M) (K : List Value → zm_M → Prop) : Prop := match rk with
  | 0 => zv d y as M (fun M' => K [] M')
  | 3 => zl d y as M (fun x M' => K [.long x] M')
  | 4 => zr d y as M (fun x M' => K [.ref x] M')
  | _ => zi d y as M (fun x M' => K [.int x] M')
section ZT
variable {d y pc pc' len : Nat} {i : Instr} {ls ls' : zm_L} {st st' : List Value} {M M' : zm_M} {P P' : Option Value → zm_M → Prop}
theorem zt.mono (h : zt d y pc ls st M P) (hp : ∀ v M', P v M' → P' v M') : zt d y pc ls st M P' := by
  obtain ⟨n, v, M', h1, h2⟩ := h
  exact ⟨n, v, M', h1, hp v M' h2⟩
theorem zt.dep {d2 : Nat} (h : zt d y pc ls st M P) (hd : d ≤ d2) : zt d2 y pc ls st M P := by
  obtain ⟨n, v, M', h1, h2⟩ := h
  exact ⟨n, v, M', zm_run_mono _ _ _ _ _ _ _ _ h1 _ _ (Nat.le_refl _) hd, h2⟩
theorem zt_ret {v : Option Value} (ha : zm_at y pc = some (i, len)) (h : zm_ret y i st = some v) (hp : P v M) : zt d y pc ls st M P := by
  refine ⟨1, v, M, ?_, hp⟩
  unfold zm_run
  rw [ha]
  dsimp only
  rw [h]
theorem zt_ss1 (ha : zm_at y pc = some (i, len)) (h0 : zm_ret y i st = none) (h : zm_ss1 y i ls st M = some st') (hp : zt d y (pc + len) ls st' M P) : zt d y pc ls st M P := by
  obtain ⟨n, v, M', h1, h2⟩ := hp
  refine ⟨n + 1, v, M', ?_, h2⟩
  unfold zm_run
  rw [ha]
  dsimp only
  rw [h0]
  dsimp only
  rw [h]
  exact h1
theorem zt_sst (ha : zm_at y pc = some (i, len)) (h0 : zm_ret y i st = none) (h00 : zm_ss1 y i ls st M = none) (h : zm_sst i ls st = some (ls', st')) (hp : zt d y (pc + len) ls' st' M P) : zt d y pc ls st M P := by
  obtain ⟨n, v, M', h1, h2⟩ := hp
  refine ⟨n + 1, v, M', ?_, h2⟩
  unfold zm_run
  rw [ha]
  dsimp only
  rw [h0]
  dsimp only
  rw [h00]
  dsimp only
  rw [h]
  exact h1
theorem zt_sj (ha : zm_at y pc = some (i, len)) (h0 : zm_ret y i st = none) (h00 : zm_ss1 y i ls st M = none) (h01 : zm_sst i ls st = none) (h : zm_sj pc i st = some (pc', st')) (hp : zt d y pc' ls st' M P) : zt d y pc ls st M P := by
  obtain ⟨n, v, M', h1, h2⟩ := hp
  refine ⟨n + 1, v, M', ?_, h2⟩
  unfold zm_run
  rw [ha]
  dsimp only
  rw [h0]
  dsimp only
  rw [h00]
  dsimp only
  rw [h01]
  dsimp only
  rw [h]
  exact h1
theorem zt_sm (ha : zm_at y pc = some (i, len)) (h0 : zm_ret y i st = none) (h00 : zm_ss1 y i ls st M = none) (h01 : zm_sst i ls st = none) (h02 : zm_sj pc i st = none) (h : zm_sm d y i st M = some (st', M')) (hp : zt d y (pc + len) ls st' M' P) : zt d y pc ls st M P := by
  obtain ⟨n, v, M9, h1, h2⟩ := hp
  refine ⟨n + 1, v, M9, ?_, h2⟩
  unfold zm_run
  rw [ha]
  dsimp only
  rw [h0]
  dsimp only
  rw [h00]
  dsimp only
  rw [h01]
  dsimp only
  rw [h02]
  dsimp only
  rw [h]
  exact h1
theorem zt_cal {y' : Nat} {as r : List Value} (ha : zm_at y pc = some (i, len)) (h0 : zm_ret y i st = none) (h00 : zm_ss1 y i ls st M = none) (h01 : zm_sst i ls st = none) (h02 : zm_sj pc i st = none) (h03 : zm_sm (d + 1) y i st M = none) (h : zm_cal y i st = some (y', as, r)) (hl : (zm_flat as).length ≤ zm_mx y')
    (hp : zt d y' 0 (zm_ent as (zm_mx y')) [] M (fun v M1 => zt (d + 1) y (pc + 3) ls (v.toList ++ r) M1 P)) : zt (d + 1) y pc ls st M P := by
  obtain ⟨n, v, M1, h1, n2, v2, M2, h2, h3⟩ := hp
  refine ⟨max n n2 + 1, v2, M2, ?_, h3⟩
  unfold zm_run
  rw [ha]
  dsimp only
  rw [h0]
  dsimp only
  rw [h00]
  dsimp only
  rw [h01]
  dsimp only
  rw [h02]
  dsimp only
  rw [h03]
  dsimp only
  rw [h]
  dsimp only
  rw [if_pos hl, zm_run_mono _ _ _ _ _ _ _ _ h1 (max n n2) d (Nat.le_max_left _ _) (Nat.le_refl _)]
  exact zm_run_mono _ _ _ _ _ _ _ _ h2 (max n n2) _ (Nat.le_max_right _ _) (Nat.le_refl _)
end ZT
theorem zq_cal {d y pc len y' : Nat} {i : Instr} {ls : zm_L} {st as r : List Value} {M : zm_M} {P : Option Value → zm_M → Prop} (rk : Nat) (ha : zm_at y pc = some (i, len)) (h0 : zm_ret y i st = none) (h00 : zm_ss1 y i ls st M = none) (h01 : zm_sst i ls st = none) (h02 : zm_sj pc i st = none) (h03 : zm_sm (d + 1) y i st M = none) (h : zm_cal y i st = some (y', as, r)) (hl : (zm_flat as).length ≤ zm_mx y')
    (hp : zq rk d y' as M (fun w M1 => zt (d + 1) y (pc + 3) ls (w ++ r) M1 P)) : zt (d + 1) y pc ls st M P := by
  refine zt_cal ha h0 h00 h01 h02 h03 h hl ?_
  unfold zq at hp
  split at hp
  · exact zt.mono hp (fun v M1 q => by
      cases v with
      | none => exact q
      | some w => exact q.elim)
  · exact zt.mono hp (fun v M1 q => by
      cases v with
      | none => exact q.elim
      | some w => cases w <;> first | exact q.elim | exact q)
  · exact zt.mono hp (fun v M1 q => by
      cases v with
      | none => exact q.elim
      | some w => cases w <;> first | exact q.elim | exact q)
  · exact zt.mono hp (fun v M1 q => by
      cases v with
      | none => exact q.elim
      | some w => cases w <;> first | exact q.elim | exact q)
theorem zq_mono {rk d y : Nat} {as : List Value} {M : zm_M} {K K' : List Value → zm_M → Prop} (h : zq rk d y as M K) (hk : ∀ w M', K w M' → K' w M') : zq rk d y as M K' := by
  unfold zq at h ⊢
  split at h
  · exact zt.mono h (fun v M1 q => by
      cases v with
      | none => exact hk _ _ q
      | some w => exact q.elim)
  · exact zt.mono h (fun v M1 q => by
      cases v with
      | none => exact q.elim
      | some w => cases w <;> first | exact q.elim | exact hk _ _ q)
  · exact zt.mono h (fun v M1 q => by
      cases v with
      | none => exact q.elim
      | some w => cases w <;> first | exact q.elim | exact hk _ _ q)
  · exact zt.mono h (fun v M1 q => by
      cases v with
      | none => exact q.elim
      | some w => cases w <;> first | exact q.elim | exact hk _ _ q)
end
section
/-! Locals that nobody reads may be forgotten. -/
def zle (ls ls' : zm_L) : Prop := ls.length = ls'.length ∧ ∀ (i : Nat) (v : Value), ls[i]? = some (some v) → ls'[i]? = some (some v)
theorem zle_get {ls ls' : zm_L} (h : zle ls ls') {i : Nat} {v : Value} (hv : zm_get ls i = some v) : zm_get ls' i = some v := by
  have h1 := h.2 i v (zm_gd hv)
  exact zm_gdl h1
theorem zle_set {ls ls' : zm_L} (h : zle ls ls') {i : Nat} {o : Option Value} : zle (ls.set i o) (ls'.set i o) := by
  refine ⟨by rw [List.length_set, List.length_set, h.1], fun j v hj => ?_⟩
  by_cases e : j = i
  · subst e
    by_cases hl : j < ls.length
    · rw [List.getElem?_set_self hl] at hj
      rw [List.getElem?_set_self (by rw [← h.1]; exact hl), hj]
    · rw [List.getElem?_eq_none (by rw [List.length_set]; omega)] at hj
      cases hj
  · rw [List.getElem?_set_ne (Ne.symm e)] at hj ⊢
    exact h.2 j v hj
theorem zle_set_none {ls : zm_L} {i : Nat} : zle (ls.set i none) ls := by
  refine ⟨by rw [List.length_set], fun j v hj => ?_⟩
  by_cases e : j = i
  · subst e
    by_cases hl : j < ls.length
    · rw [List.getElem?_set_self hl] at hj
      cases hj
    · rw [List.getElem?_eq_none (by rw [List.length_set]; omega)] at hj
      cases hj
  · rw [List.getElem?_set_ne (Ne.symm e)] at hj
    exact hj
theorem zle_rfl {ls : zm_L} : zle ls ls := ⟨rfl, fun _ _ h => h⟩
theorem zle_trans {a b c : zm_L} (h1 : zle a b) (h2 : zle b c) : zle a c := ⟨h1.1.trans h2.1, fun i v h => h2.2 i v (h1.2 i v h)⟩
theorem zle_kill {ls ls' : zm_L} (h : zle ls ls') {i : Nat} : zle (zm_kill ls i) (zm_kill ls' i) := by
  unfold zm_kill
  cases i with
  | zero => exact h
  | succ j =>
    dsimp only
    cases h1 : ls.getD j none with
    | none =>
      dsimp only
      cases h2 : ls'.getD j none with
      | none => exact h
      | some w =>
        dsimp only
        cases Nat.beq w.category 2 with
        | false => exact h
        | true =>
          refine ⟨by rw [cond_true, List.length_set, h.1], fun k v hk => ?_⟩
          rw [cond_true]
          by_cases e : k = j
          · subst e
            rw [zm_gdl hk] at h1
            cases h1
          · rw [List.getElem?_set_ne (Ne.symm e)]
            exact h.2 k v hk
    | some w =>
      have h2 : ls'.getD j none = some w := zle_get h h1
      rw [h2]
      dsimp only
      cases Nat.beq w.category 2 with
      | false => exact h
      | true => exact zle_set h
theorem zle_set1 {ls ls' : zm_L} (h : zle ls ls') {i : Nat} {v : Value} : zle (zm_set1 ls i v) (zm_set1 ls' i v) := zle_set (zle_kill h)
theorem zle_set2 {ls ls' : zm_L} (h : zle ls ls') {i : Nat} {v : Value} : zle (zm_set2 ls i v) (zm_set2 ls' i v) := zle_set (zle_set (zle_kill h))
theorem zle_ss1 {ls ls' : zm_L} (h : zle ls ls') {y : Nat} {i : Instr} {st st' : List Value} {M : zm_M} (hs : zm_ss1 y i ls st M = some st') : zm_ss1 y i ls' st M = some st' := by
  cases i <;> first | exact hs | (unfold zm_ss1 at hs ⊢; dsimp only at hs ⊢; split at hs <;> first | (rename_i hg9; rw [zle_get h hg9]; exact hs) | (cases hs; done))
theorem zle_ss1n {ls : zm_L} (ls' : zm_L) {d y pc : Nat} {i : Instr} {st : List Value} {M : zm_M} (hs : zm_ss1 y i ls st M = none) : zm_ss1 y i ls' st M = none ∨ (zm_sst i ls st = none ∧ zm_sj pc i st = none ∧ zm_sm d y i st M = none ∧ zm_cal y i st = none) := by
  cases i <;> first | exact Or.inl hs | exact Or.inr ⟨rfl, rfl, rfl, rfl⟩
theorem zle_sst {ls ls' ls1 : zm_L} (h : zle ls ls') {i : Instr} {st st' : List Value} (hs : zm_sst i ls st = some (ls1, st')) : ∃ ls2, zm_sst i ls' st = some (ls2, st') ∧ zle ls1 ls2 := by
  cases i <;> first | (exact absurd (show (none : Option (zm_L × List Value)) = some (ls1, st') from hs) (fun z => by cases z)) | skip
  case iinc k n =>
    unfold zm_sst at hs ⊢
    dsimp only at hs ⊢
    split at hs
    · rename_i hg9
      rw [zle_get h hg9]
      have hz9 := Prod.mk.inj (Option.some.inj hs)
      rw [← hz9.1, ← hz9.2]
      exact ⟨_, rfl, zle_set1 h⟩
    · cases hs
  all_goals
    unfold zm_sst at hs ⊢
    dsimp only at hs ⊢
    split at hs
    · split at hs
      · rename_i hi9
        have hz9 := Prod.mk.inj (Option.some.inj hs)
        rw [← hz9.1, ← hz9.2]
        rw [h.1] at hi9
        rw [if_pos hi9]
        first | exact ⟨_, rfl, zle_set1 h⟩ | exact ⟨_, rfl, zle_set2 h⟩
      · cases hs
    · cases hs
theorem zle_sstn {ls ls' : zm_L} (h : zle ls ls') {d y pc : Nat} {i : Instr} {st : List Value} {M : zm_M} (hs : zm_sst i ls st = none) : zm_sst i ls' st = none ∨ (zm_sj pc i st = none ∧ zm_sm d y i st M = none ∧ zm_cal y i st = none) := by
  cases i <;> first | exact Or.inl hs | exact Or.inr ⟨rfl, rfl, rfl⟩
theorem zm_run_le : ∀ (n d y pc : Nat) (ls : zm_L) (st : List Value) (M : zm_M) (q : Option Value × zm_M), zm_run n d y pc ls st M = some q → ∀ ls', zle ls ls' → zm_run n d y pc ls' st M = some q := by
  intro n
  induction n with
  | zero => intro d y pc ls st M q h; cases h
  | succ n ih =>
    intro d y pc ls st M q h ls' hle
    unfold zm_run at h ⊢
    cases h1 : zm_at y pc with
    | none => rw [h1] at h; cases h
    | some qi =>
      obtain ⟨i, len⟩ := qi
      rw [h1] at h
      dsimp only at h ⊢
      cases h2 : zm_ret y i st with
      | some v => rw [h2] at h; exact h
      | none =>
        rw [h2] at h
        dsimp only at h ⊢
        cases h3 : zm_ss1 y i ls st M with
        | some st1 => rw [h3] at h; rw [zle_ss1 hle h3]; exact ih _ _ _ _ _ _ _ h _ hle
        | none =>
          rw [h3] at h
          dsimp only at h
          rcases zle_ss1n (d := d) (pc := pc) ls' h3 with h3' | ⟨e1, e2, e3, e4⟩
          · rw [h3']
            dsimp only
            cases h4 : zm_sst i ls st with
            | some q4 =>
              obtain ⟨ls1, st1⟩ := q4
              rw [h4] at h
              obtain ⟨ls2, g1, g2⟩ := zle_sst hle h4
              rw [g1]
              exact ih _ _ _ _ _ _ _ h _ g2
            | none =>
              rw [h4] at h
              dsimp only at h
              rcases zle_sstn hle (d := d) (y := y) (pc := pc) (M := M) h4 with h4' | ⟨e2, e3, e4⟩
              · rw [h4']
                dsimp only
                cases h5 : zm_sj pc i st with
                | some q5 => obtain ⟨pc1, st1⟩ := q5; rw [h5] at h; exact ih _ _ _ _ _ _ _ h _ hle
                | none =>
                  rw [h5] at h
                  dsimp only at h ⊢
                  cases h6 : zm_sm d y i st M with
                  | some q6 => obtain ⟨st1, M1⟩ := q6; rw [h6] at h; exact ih _ _ _ _ _ _ _ h _ hle
                  | none =>
                    rw [h6] at h
                    dsimp only at h ⊢
                    cases d with
                    | zero => cases h
                    | succ d1 =>
                      cases h7 : zm_cal y i st with
                      | none => rw [h7] at h; cases h
                      | some q7 =>
                        obtain ⟨y1, as1, r1⟩ := q7
                        rw [h7] at h
                        dsimp only at h ⊢
                        split at h
                        · rename_i hle9
                          rw [if_pos hle9]
                          cases h8 : zm_run n d1 y1 0 (zm_ent as1 (zm_mx y1)) [] M with
                          | none => rw [h8] at h; cases h
                          | some q8 =>
                            obtain ⟨v8, M8⟩ := q8
                            rw [h8] at h
                            exact ih _ _ _ _ _ _ _ h _ hle
                        · cases h
              · rw [e2] at h
                dsimp only at h
                rw [e3] at h
                dsimp only at h
                rw [e4] at h
                cases d <;> cases h
          · rw [e1] at h
            dsimp only at h
            rw [e2] at h
            dsimp only at h
            rw [e3] at h
            dsimp only at h
            rw [e4] at h
            cases d <;> cases h
theorem zt.weak {d y pc : Nat} {ls ls' : zm_L} {st : List Value} {M : zm_M} {P : Option Value → zm_M → Prop} (h : zt d y pc ls st M P) (hle : zle ls ls') : zt d y pc ls' st M P := by
  obtain ⟨n, v, M', h1, h2⟩ := h
  exact ⟨n, v, M', zm_run_le _ _ _ _ _ _ _ _ h1 _ hle, h2⟩
def zfg : List Nat → zm_L → zm_L
  | [], ls => ls
  | i :: l, ls => (zfg l ls).set i none
theorem zfg_le : ∀ (l : List Nat) (ls : zm_L), zle (zfg l ls) ls
  | [], _ => zle_rfl
  | _ :: l, ls => zle_trans zle_set_none (zfg_le l ls)
end
section
/-! What must hold for a run from here to return with P: worked out along the instructions, to the next loop head. -/
def zcb (c : Jvm.ClassFile.Cond) (x y : Int32) (A B : Prop) : Prop := match c with
  | .eq => (x = y → A) ∧ (¬ x = y → B)
  | .ne => (x = y → B) ∧ (¬ x = y → A)
  | .lt => (x < y → A) ∧ (¬ x < y → B)
  | .ge => (x < y → B) ∧ (¬ x < y → A)
  | .gt => (y < x → A) ∧ (¬ y < x → B)
  | .le => (y < x → B) ∧ (¬ y < x → A)
theorem zcb_snd {c : Jvm.ClassFile.Cond} {x y : Int32} {A B : Prop} (h : zcb c x y A B) : (zm_cmp c x y = true → A) ∧ (¬ zm_cmp c x y = true → B) := by
  unfold zcb at h
  unfold zm_cmp
  cases c <;> dsimp only at h ⊢ <;> simp only [decide_eq_true_eq, Int32.not_lt] at h ⊢
  · exact h
  · exact ⟨h.2, fun q => h.1 (Classical.not_not.mp q)⟩
  · exact h
  · exact ⟨h.2, fun q => h.1 (Int32.not_le.mp q)⟩
  · exact h
  · exact ⟨h.2, fun q => h.1 (Int32.not_le.mp q)⟩
def zsw (K : Int → Prop) (x : Int32) : Int → List Int → Int → Prop
  | _, [], d => K d
  | lo, o :: l, d => (x = zm_lit lo → K o) ∧ (¬ x = zm_lit lo → zsw K x (lo + 1) l d)
theorem zsw_snd {K : Int → Prop} {x : Int32} : ∀ (l : List Int) (lo d : Int), -1000 ≤ lo → lo + (l.length : Int) ≤ 1000 → zsw K x lo l d → K (zm_ts x.toInt lo l d)
  | [], lo, d, _, _, h => h
  | o :: l, lo, d, h1, h2, h => by
    simp only [List.length_cons] at h2
    have e : (zm_lit lo).toInt = lo := by
      rw [← zm_lit_eq]
      exact Int32.toInt_ofInt_of_le (by omega) (by omega)
    unfold zm_ts
    by_cases q : x.toInt = lo
    · rw [if_pos q]
      exact h.1 (Int32.toInt_inj.mp (by rw [e, q]))
    · rw [if_neg q]
      exact zsw_snd l (lo + 1) d (by omega) (by omega) (h.2 (fun z => q (by rw [z, e])))
def zlw (K : Int → Prop) (x : Int32) : List (Int × Int) → Int → Prop
  | [], d => K d
  | p :: l, d => (x = zm_lit p.1 → K p.2) ∧ (¬ x = zm_lit p.1 → zlw K x l d)
theorem zlw_snd {K : Int → Prop} {x : Int32} : ∀ (l : List (Int × Int)) (d : Int), l.all (fun p => decide (-1000 ≤ p.1 ∧ p.1 ≤ 1000)) = true → zlw K x l d → K (Op.lookupswitch.offset l d x.toInt)
  | [], d, _, h => h
  | (a, o) :: l, d, hl, h => by
    rw [List.all_cons, Bool.and_eq_true, decide_eq_true_eq] at hl
    have e : (zm_lit a).toInt = a := by
      rw [← zm_lit_eq]
      exact Int32.toInt_ofInt_of_le (by have := hl.1.1; omega) (by have := hl.1.2; omega)
    rw [Op.lookupswitch.offset_cons]
    by_cases q : a = x.toInt
    · rw [if_pos q]
      exact h.1 (Int32.toInt_inj.mp (by rw [e, q]))
    · rw [if_neg q]
      exact zlw_snd l d hl.2 (h.2 (fun z => q (by rw [z, e])))
/-- at a loop head: the rest is another's; else on -/
def zk (cut : List (Nat × List Nat)) (d y pc : Nat) (ls : zm_L) (st : List Value) (M : zm_M) (P : Option Value → zm_M → Prop) (X : Prop) : Prop := match zm_la cut pc with
  | some fs => zt d y pc (zfg fs ls) st M P
  | none => X
theorem zk_snd {cut : List (Nat × List Nat)} {d y pc : Nat} {ls : zm_L} {st : List Value} {M : zm_M} {P : Option Value → zm_M → Prop} {X : Prop} (h : zk cut d y pc ls st M P X) (hx : X → zt d y pc ls st M P) : zt d y pc ls st M P := by
  unfold zk at h
  split at h
  · exact zt.weak h (zfg_le _ _)
  · exact hx h
def zj (pc : Nat) (off : Int) (K : Nat → Prop) : Prop := match zm_tg pc off with
  | some t => K t
  | none => False
def zw : Nat → List (Nat × List Nat) → Nat → Nat → Nat → zm_L → List Value → zm_M → (Option Value → zm_M → Prop) → Prop
  | 0, _, d, y, pc, ls, st, M, P => zt d y pc ls st M P
  | n + 1, cut, d, y, pc, ls, st, M, P => match zm_at y pc with
    | none => False
    | some (i, len) => match i with
      | .ireturn => match st with
        | [.int x] => match zm_rk y with
          | 1 => P (some (.int x)) M
          | 2 => (x = 0 ∨ x = 1) ∧ P (some (.int x)) M
          | 5 => x = 0 ∧ P (some (.int x)) M
          | _ => False
        | _ => False
      | .lreturn => match st with
        | [.long x] => match zm_rk y with
          | 3 => P (some (.long x)) M
          | _ => False
        | _ => False
      | .areturn => match st with
        | [.ref x] => match zm_rk y with
          | 4 => P (some (.ref x)) M
          | _ => False
        | _ => False
      | .return_ => match st with
        | [] => match zm_rk y with
          | 0 => P none M
          | _ => False
        | _ => False
      | .ifCond c off => match st with
        | .int x :: r => zj pc off (fun t => zcb c x 0 (zk cut d y t ls r M P (zw n cut d y t ls r M P)) (zk cut d y (pc + 3) ls r M P (zw n cut d y (pc + 3) ls r M P)))
        | _ => False
      | .if_icmp c off => match st with
        | .int z :: .int x :: r => zj pc off (fun t => zcb c x z (zk cut d y t ls r M P (zw n cut d y t ls r M P)) (zk cut d y (pc + 3) ls r M P (zw n cut d y (pc + 3) ls r M P)))
        | _ => False
      | .goto off => zj pc off (fun t => zk cut d y t ls st M P (zw n cut d y t ls st M P))
      | .tableswitch dflt lo hi offs => match st with
        | .int x :: r => bif decide (hi = lo + (offs.toList.length : Int) - 1) && (decide (-1000 ≤ lo) && decide (lo + (offs.toList.length : Int) ≤ 1000)) then zsw (fun off => zj pc off (fun t => zk cut d y t ls r M P (zw n cut d y t ls r M P))) x lo offs.toList dflt else False
        | _ => False
      | .lookupswitch dflt ps => match st with
        | .int x :: r => bif (ps.toList.zip (ps.toList.drop 1)).all (fun (a, next) => a.1 < next.1) && ps.toList.all (fun p => decide (-1000 ≤ p.1 ∧ p.1 ≤ 1000)) then zlw (fun off => zj pc off (fun t => zk cut d y t ls r M P (zw n cut d y t ls r M P))) x ps.toList dflt else False
        | _ => False
      | .idiv => match st with
        | .int z :: .int x :: r => ¬ z = 0 ∧ zk cut d y (pc + len) ls (.int (x / z) :: r) M P (zw n cut d y (pc + len) ls (.int (x / z) :: r) M P)
        | _ => False
      | .irem => match st with
        | .int z :: .int x :: r => ¬ z = 0 ∧ zk cut d y (pc + len) ls (.int (x - x / z * z) :: r) M P (zw n cut d y (pc + len) ls (.int (x - x / z * z) :: r) M P)
        | _ => False
      | .ldiv => match st with
        | .long z :: .long x :: r => ¬ z = 0 ∧ zk cut d y (pc + len) ls (.long (x / z) :: r) M P (zw n cut d y (pc + len) ls (.long (x / z) :: r) M P)
        | _ => False
      | .lrem => match st with
        | .long z :: .long x :: r => ¬ z = 0 ∧ zk cut d y (pc + len) ls (.long (x - x / z * z) :: r) M P (zw n cut d y (pc + len) ls (.long (x - x / z * z) :: r) M P)
        | _ => False
      | .iaload => match st with
        | .int j :: .ref k :: r => match zm_kd k with
          | 20 => zm_inb j (zm_ln k) = true ∧ zk cut d y (pc + len) ls (.int (M.1 k j.toNatClampNeg) :: r) M P (zw n cut d y (pc + len) ls (.int (M.1 k j.toNatClampNeg) :: r) M P)
          | 30 => zm_inb j (zm_ln k) = true ∧ zk cut d y (pc + len) ls (.int (zm_sv k j.toNatClampNeg) :: r) M P (zw n cut d y (pc + len) ls (.int (zm_sv k j.toNatClampNeg) :: r) M P)
          | 40 => match y with
            | 0 => zm_inb j M.2.2.2.1 = true ∧ zk cut d 0 (pc + len) ls (.int (M.2.2.2.2 j.toNatClampNeg) :: r) M P (zw n cut d 0 (pc + len) ls (.int (M.2.2.2.2 j.toNatClampNeg) :: r) M P)
            | _ => False
          | _ => False
        | _ => False
      | .baload => match st with
        | .int j :: .ref k :: r => match zm_kd k with
          | 32 => zm_inb j (zm_ln k) = true ∧ zk cut d y (pc + len) ls (.int (zm_sb k j.toNatClampNeg) :: r) M P (zw n cut d y (pc + len) ls (.int (zm_sb k j.toNatClampNeg) :: r) M P)
          | _ => False
        | _ => False
      | .aaload => match st with
        | .int j :: .ref k :: r => match zm_kd k with
          | 21 => zm_inb j (zm_ln k) = true ∧ ∃ a, zm_rf k j.toNatClampNeg = some a ∧ zk cut d y (pc + len) ls (.ref a :: r) M P (zw n cut d y (pc + len) ls (.ref a :: r) M P)
          | _ => False
        | _ => False
      | .iastore => match st with
        | .int x :: .int j :: .ref k :: r => match zm_kd k with
          | 20 => zm_inb j (zm_ln k) = true ∧ zk cut d y (pc + len) ls r (zm_si M k j.toNatClampNeg x) P (zw n cut d y (pc + len) ls r (zm_si M k j.toNatClampNeg x) P)
          | _ => False
        | _ => False
      | .putfield idx => match st with
        | v :: .ref k :: r => match zm_fl (zm_yc y) idx with
          | some (ci, sl, _) => bif Nat.beq (zm_kd k) ci then (match zm_ft ci sl, v with
            | 0, .int x => zk cut d y (pc + len) ls r (zm_si M k sl x) P (zw n cut d y (pc + len) ls r (zm_si M k sl x) P)
            | 4, .int x => (x = 0 ∨ x = 1) ∧ zk cut d y (pc + len) ls r (zm_si M k sl x) P (zw n cut d y (pc + len) ls r (zm_si M k sl x) P)
            | 1, .long x => zk cut d y (pc + len) ls r (zm_sl M k sl x) P (zw n cut d y (pc + len) ls r (zm_sl M k sl x) P)
            | 3, .ref q => (q = 110 ∨ q = 111) ∧ zk cut d y (pc + len) ls r (zm_ss M q) P (zw n cut d y (pc + len) ls r (zm_ss M q) P)
            | _, _ => False) else False
          | none => False
        | _ => False
      | .invokestatic idx => match zm_bi (zm_yc y) idx with
        | some (b, _) => match d, b, st with
          | _ + 1, 1, .int z :: .int x :: r => bif zm_cs r then zk cut d y (pc + len) ls (.int (if z < x then z else x) :: r) M P (zw n cut d y (pc + len) ls (.int (if z < x then z else x) :: r) M P) else False
          | _ + 1, 2, .int z :: .int x :: r => bif zm_cs r then zk cut d y (pc + len) ls (.int (if x < z then z else x) :: r) M P (zw n cut d y (pc + len) ls (.int (if x < z then z else x) :: r) M P) else False
          | _ + 1, 3, .int m :: .int dp :: .ref g :: .int sp :: .ref a :: r => bif zm_cs r && (Nat.beq (zm_kd a) 20 && Nat.beq (zm_kd g) 20) then
              (¬ sp < 0 ∧ ¬ dp < 0 ∧ ¬ m < 0 ∧ sp.toNatClampNeg + m.toNatClampNeg ≤ zm_ln a ∧ dp.toNatClampNeg + m.toNatClampNeg ≤ zm_ln g) ∧
              zk cut d y (pc + len) ls r (zm_sr M g (va_cpy (M.1 a) (M.1 g) sp.toNatClampNeg dp.toNatClampNeg m.toNatClampNeg)) P (zw n cut d y (pc + len) ls r (zm_sr M g (va_cpy (M.1 a) (M.1 g) sp.toNatClampNeg dp.toNatClampNeg m.toNatClampNeg)) P) else False
          | _, _, _ => False
        | none => match zm_cal y i st with
          | some (y', as, r) => match d with
            | d' + 1 => bif Nat.ble (zm_flat as).length (zm_mx y') then zq (zm_rk y') d' y' as M (fun w M1 => zk cut (d' + 1) y (pc + 3) ls (w ++ r) M1 P (zw n cut (d' + 1) y (pc + 3) ls (w ++ r) M1 P)) else False
            | 0 => False
          | none => False
      | .invokevirtual idx => match zm_cal y i st with
        | some (y', as, r) => match d with
          | d' + 1 => bif Nat.ble (zm_flat as).length (zm_mx y') then zq (zm_rk y') d' y' as M (fun w M1 => zk cut (d' + 1) y (pc + 3) ls (w ++ r) M1 P (zw n cut (d' + 1) y (pc + 3) ls (w ++ r) M1 P)) else False
          | 0 => False
        | none => False
      | _ => match zm_ss1 y i ls st M with
        | some st' => zk cut d y (pc + len) ls st' M P (zw n cut d y (pc + len) ls st' M P)
        | none => match zm_sst i ls st with
          | some (ls', st') => zk cut d y (pc + len) ls' st' M P (zw n cut d y (pc + len) ls' st' M P)
          | none => False
theorem zj_inv {pc : Nat} {off : Int} {K : Nat → Prop} (h : zj pc off K) : ∃ t, zm_tg pc off = some t ∧ K t := by
  unfold zj at h
  split at h
  · rename_i t9 ht9
    exact ⟨t9, ht9, h⟩
  · exact h.elim
theorem zm_ret_none {y : Nat} {i : Instr} {st : List Value} (h1 : i ≠ .ireturn) (h2 : i ≠ .lreturn) (h3 : i ≠ .areturn) (h4 : i ≠ .return_) : zm_ret y i st = none := by
  unfold zm_ret
  split <;> first | contradiction | rfl
end
section
/-! The wanted, worked out, suffices. -/
theorem zw_dflt {d y pc len : Nat} {i : Instr} {ls : zm_L} {st : List Value} {M : zm_M} {P : Option Value → zm_M → Prop} {F : Nat → zm_L → List Value → Prop} (hat : zm_at y pc = some (i, len)) (h0 : zm_ret y i st = none)
    (hF : ∀ ls st, F (pc + len) ls st → zt d y (pc + len) ls st M P)
    (h : match zm_ss1 y i ls st M with
        | some st' => F (pc + len) ls st'
        | none => match zm_sst i ls st with
          | some (ls', st') => F (pc + len) ls' st'
          | none => False) : zt d y pc ls st M P := by
  cases hs : zm_ss1 y i ls st M with
  | some st' =>
    rw [hs] at h
    exact zt_ss1 hat h0 hs (hF _ _ h)
  | none =>
    rw [hs] at h
    dsimp only at h
    cases h4 : zm_sst i ls st with
    | some q4 =>
      obtain ⟨ls1, st1⟩ := q4
      rw [h4] at h
      exact zt_sst hat h0 hs h4 (hF _ _ h)
    | none =>
      rw [h4] at h
      exact h.elim
set_option maxHeartbeats 4000000 in
theorem zw_snd : ∀ (n : Nat) (cut : List (Nat × List Nat)) (d y pc : Nat) (ls : zm_L) (st : List Value) (M : zm_M) (P : Option Value → zm_M → Prop), zw n cut d y pc ls st M P → zt d y pc ls st M P := by
  intro n
  induction n with
  | zero => intro cut d y pc ls st M P h; exact h
  | succ n ih =>
    intro cut d y pc ls st M P h
    have K : ∀ (pc : Nat) (ls : zm_L) (st : List Value) (M : zm_M), zk cut d y pc ls st M P (zw n cut d y pc ls st M P) → zt d y pc ls st M P := fun pc ls st M h => zk_snd h (ih cut d y pc ls st M P)
    unfold zw at h
    split at h
    · exact h.elim
    rename_i i len hat
    cases i
    case ireturn =>
      dsimp only at h
      split at h
      · split at h
        · rename_i hk9
          exact zt_ret (v := some (.int _)) hat (by unfold zm_ret; rw [hk9] <;> rfl) h
        · rename_i hk9
          exact zt_ret (v := some (.int _)) hat (by unfold zm_ret; rw [hk9]; exact if_pos h.1) h.2
        · rename_i hk9
          exact zt_ret (v := some (.int _)) hat (by unfold zm_ret; rw [hk9]; exact if_pos h.1) h.2
        · exact h.elim
      · exact h.elim
    case lreturn =>
      dsimp only at h
      split at h
      · split at h
        · rename_i hk9
          exact zt_ret (v := some (.long _)) hat (by unfold zm_ret; rw [hk9] <;> rfl) h
        · exact h.elim
      · exact h.elim
    case areturn =>
      dsimp only at h
      split at h
      · split at h
        · rename_i hk9
          exact zt_ret (v := some (.ref _)) hat (by unfold zm_ret; rw [hk9] <;> rfl) h
        · exact h.elim
      · exact h.elim
    case return_ =>
      dsimp only at h
      split at h
      · split at h
        · rename_i hk9
          exact zt_ret (v := none) hat (by unfold zm_ret; rw [hk9] <;> rfl) h
        · exact h.elim
      · exact h.elim
    case ifCond c off =>
      cases zm_len_of hat (n := 2) rfl
      dsimp only at h
      split at h
      · rename_i x9 r9
        obtain ⟨t9, ht9, h⟩ := zj_inv h
        obtain ⟨ha9, hb9⟩ := zcb_snd h
        refine zt_sj (pc' := if zm_cmp c x9 0 = true then t9 else pc + 3) (st' := r9) hat rfl rfl rfl (by unfold zm_sj; dsimp only; rw [ht9] <;> rfl) ?_
        by_cases hc9 : zm_cmp c x9 0 = true
        · rw [if_pos hc9]
          exact K _ _ _ _ (ha9 hc9)
        · rw [if_neg hc9]
          exact K _ _ _ _ (hb9 hc9)
      · exact h.elim
    case if_icmp c off =>
      cases zm_len_of hat (n := 2) rfl
      dsimp only at h
      split at h
      · rename_i z9 x9 r9
        obtain ⟨t9, ht9, h⟩ := zj_inv h
        obtain ⟨ha9, hb9⟩ := zcb_snd h
        refine zt_sj (pc' := if zm_cmp c x9 z9 = true then t9 else pc + 3) (st' := r9) hat rfl rfl rfl (by unfold zm_sj; dsimp only; rw [ht9] <;> rfl) ?_
        by_cases hc9 : zm_cmp c x9 z9 = true
        · rw [if_pos hc9]
          exact K _ _ _ _ (ha9 hc9)
        · rw [if_neg hc9]
          exact K _ _ _ _ (hb9 hc9)
      · exact h.elim
    case goto off =>
      dsimp only at h
      obtain ⟨t9, ht9, h⟩ := zj_inv h
      exact zt_sj (pc' := t9) (st' := st) hat rfl rfl rfl (by unfold zm_sj; dsimp only; rw [ht9] <;> rfl) (K _ _ _ _ h)
    case tableswitch dflt lo hi offs =>
      dsimp only at h
      split at h
      · rename_i x9 r9
        cases hb9 : (decide (hi = lo + (offs.toList.length : Int) - 1) && (decide (-1000 ≤ lo) && decide (lo + (offs.toList.length : Int) ≤ 1000))) with
        | false => rw [hb9] at h; exact h.elim
        | true =>
          rw [hb9] at h
          simp only [Bool.and_eq_true, decide_eq_true_eq] at hb9
          have h7 := zsw_snd offs.toList lo dflt hb9.2.1 hb9.2.2 h
          obtain ⟨t9, ht9, h8⟩ := zj_inv h7
          exact zt_sj (pc' := t9) (st' := r9) hat rfl rfl rfl (by unfold zm_sj; dsimp only; rw [if_pos hb9.1, ht9] <;> rfl) (K _ _ _ _ h8)
      · exact h.elim
    case lookupswitch dflt ps =>
      dsimp only at h
      split at h
      · rename_i x9 r9
        cases hb9 : ((ps.toList.zip (ps.toList.drop 1)).all (fun (a, next) => a.1 < next.1) && ps.toList.all (fun p => decide (-1000 ≤ p.1 ∧ p.1 ≤ 1000))) with
        | false => rw [hb9] at h; exact h.elim
        | true =>
          rw [hb9] at h
          rw [Bool.and_eq_true] at hb9
          have h7 := zlw_snd ps.toList dflt hb9.2 h
          obtain ⟨t9, ht9, h8⟩ := zj_inv h7
          exact zt_sj (pc' := t9) (st' := r9) hat rfl rfl rfl (by unfold zm_sj; dsimp only; rw [if_pos hb9.1, ht9] <;> rfl) (K _ _ _ _ h8)
      · exact h.elim
    case idiv =>
      dsimp only at h
      split at h
      · exact zt_ss1 hat rfl (by unfold zm_ss1; dsimp only; rw [if_neg h.1] <;> rfl) (K _ _ _ _ h.2)
      · exact h.elim
    case irem =>
      dsimp only at h
      split at h
      · exact zt_ss1 hat rfl (by unfold zm_ss1; dsimp only; rw [if_neg h.1] <;> rfl) (K _ _ _ _ h.2)
      · exact h.elim
    case ldiv =>
      dsimp only at h
      split at h
      · exact zt_ss1 hat rfl (by unfold zm_ss1; dsimp only; rw [if_neg h.1] <;> rfl) (K _ _ _ _ h.2)
      · exact h.elim
    case lrem =>
      dsimp only at h
      split at h
      · exact zt_ss1 hat rfl (by unfold zm_ss1; dsimp only; rw [if_neg h.1] <;> rfl) (K _ _ _ _ h.2)
      · exact h.elim
    case iaload =>
      dsimp only at h
      split at h
      · rename_i j9 k9 r9
        split at h
        · rename_i hk9
          have e9 : zm_ald y k9 j9 M = some (.int (M.1 k9 j9.toNatClampNeg)) := by unfold zm_ald; rw [hk9]; exact if_pos h.1
          exact zt_ss1 hat rfl (by unfold zm_ss1; dsimp only; rw [e9] <;> rfl) (K _ _ _ _ h.2)
        · rename_i hk9
          have e9 : zm_ald y k9 j9 M = some (.int (zm_sv k9 j9.toNatClampNeg)) := by unfold zm_ald; rw [hk9]; exact if_pos h.1
          exact zt_ss1 hat rfl (by unfold zm_ss1; dsimp only; rw [e9] <;> rfl) (K _ _ _ _ h.2)
        · rename_i hk9
          split at h
          · have e9 : zm_ald 0 k9 j9 M = some (.int (M.2.2.2.2 j9.toNatClampNeg)) := by unfold zm_ald; rw [hk9]; exact if_pos ⟨rfl, h.1⟩
            exact zt_ss1 hat rfl (by unfold zm_ss1; dsimp only; rw [e9] <;> rfl) (K _ _ _ _ h.2)
          · exact h.elim
        · exact h.elim
      · exact h.elim
    case baload =>
      dsimp only at h
      split at h
      · split at h
        · rename_i hk9
          exact zt_ss1 hat rfl (by unfold zm_ss1; dsimp only; rw [hk9]; exact if_pos h.1) (K _ _ _ _ h.2)
        · exact h.elim
      · exact h.elim
    case aaload =>
      dsimp only at h
      split at h
      · split at h
        · rename_i hk9
          obtain ⟨hin9, a9, hr9, h⟩ := h
          exact zt_ss1 hat rfl (by unfold zm_ss1; dsimp only; rw [hk9]; exact (if_pos hin9).trans (by rw [hr9])) (K _ _ _ _ h)
        · exact h.elim
      · exact h.elim
    case iastore =>
      cases zm_len_of hat (n := 0) rfl
      dsimp only at h
      split at h
      · split at h
        · rename_i hk9
          exact zt_sm hat rfl rfl rfl rfl (by unfold zm_sm; dsimp only; rw [hk9]; exact if_pos h.1) (K _ _ _ _ h.2)
        · exact h.elim
      · exact h.elim
    case putfield idx =>
      dsimp only at h
      split at h
      · rename_i v9 k9 r9
        split at h
        · rename_i ci9 sl9 pos9 hfl9
          cases hb9 : Nat.beq (zm_kd k9) ci9 with
          | false => rw [hb9] at h; exact h.elim
          | true =>
            rw [hb9] at h
            have hb8 := Nat.eq_of_beq_eq_true hb9
            rw [cond_true] at h
            have hgo : ∀ {M9 : zm_M}, zm_pv M k9 ci9 sl9 v9 = some M9 → zm_sm d y (.putfield idx) (v9 :: .ref k9 :: r9) M = some (r9, M9) := fun {M9} e9 => by
              have e8 : zm_pf y idx k9 v9 M = some M9 := by unfold zm_pf; rw [hfl9]; exact (if_pos hb8).trans e9
              unfold zm_sm
              dsimp only
              rw [e8] <;> rfl
            split at h
            · rename_i hf9
              exact zt_sm hat rfl rfl rfl rfl (hgo (by unfold zm_pv; rw [hf9] <;> rfl)) (K _ _ _ _ h)
            · rename_i hf9
              exact zt_sm hat rfl rfl rfl rfl (hgo (by unfold zm_pv; rw [hf9]; exact if_pos h.1)) (K _ _ _ _ h.2)
            · rename_i hf9
              exact zt_sm hat rfl rfl rfl rfl (hgo (by unfold zm_pv; rw [hf9] <;> rfl)) (K _ _ _ _ h)
            · rename_i hf9
              exact zt_sm hat rfl rfl rfl rfl (hgo (by unfold zm_pv; rw [hf9]; exact if_pos h.1)) (K _ _ _ _ h.2)
            · exact h.elim
        · exact h.elim
      · exact h.elim
    case invokestatic idx =>
      dsimp only at h
      split at h
      · rename_i b9 pos9 hbi9
        split at h
        · rename_i d9 z9 x9 r9
          cases hb9 : zm_cs r9 with
          | false => rw [hb9] at h; exact h.elim
          | true =>
            rw [hb9] at h
            exact zt_sm hat rfl rfl rfl rfl (by unfold zm_sm; dsimp only; rw [if_neg (Nat.succ_ne_zero _), hbi9]; exact if_pos hb9) (K _ _ _ _ h)
        · rename_i d9 z9 x9 r9
          cases hb9 : zm_cs r9 with
          | false => rw [hb9] at h; exact h.elim
          | true =>
            rw [hb9] at h
            exact zt_sm hat rfl rfl rfl rfl (by unfold zm_sm; dsimp only; rw [if_neg (Nat.succ_ne_zero _), hbi9]; exact if_pos hb9) (K _ _ _ _ h)
        · rename_i d9 m9 dp9 g9 sp9 a9 r9
          cases hb9 : (zm_cs r9 && (Nat.beq (zm_kd a9) 20 && Nat.beq (zm_kd g9) 20)) with
          | false => rw [hb9] at h; exact h.elim
          | true =>
            rw [hb9] at h
            rw [cond_true] at h
            obtain ⟨⟨g1, g2, g3, g4, g5⟩, h⟩ := h
            simp only [Bool.and_eq_true] at hb9
            exact zt_sm hat rfl rfl rfl rfl (by unfold zm_sm; dsimp only; rw [if_neg (Nat.succ_ne_zero _), hbi9]; exact if_pos ⟨hb9.1, Nat.eq_of_beq_eq_true hb9.2.1, Nat.eq_of_beq_eq_true hb9.2.2, g1, g2, g3, g4, g5⟩) (K _ _ _ _ h)
        · exact h.elim
      · rename_i hbi9
        split at h
        · rename_i y9 as9 r9 hcal9
          split at h
          · rename_i d9
            cases hb9 : Nat.ble (zm_flat as9).length (zm_mx y9) with
            | false => rw [hb9] at h; exact h.elim
            | true =>
              rw [hb9] at h
              rw [cond_true] at h
              exact zq_cal _ hat rfl rfl rfl rfl (by unfold zm_sm; dsimp only; rw [if_neg (Nat.succ_ne_zero _), hbi9] <;> rfl) hcal9 (Nat.le_of_ble_eq_true hb9) (zq_mono h (fun w M1 h1 => K _ _ _ _ h1))
          · exact h.elim
        · exact h.elim
    case invokevirtual idx =>
      dsimp only at h
      split at h
      · rename_i y9 as9 r9 hcal9
        split at h
        · rename_i d9
          cases hb9 : Nat.ble (zm_flat as9).length (zm_mx y9) with
          | false => rw [hb9] at h; exact h.elim
          | true =>
            rw [hb9] at h
            rw [cond_true] at h
            exact zq_cal _ hat rfl rfl rfl rfl rfl hcal9 (Nat.le_of_ble_eq_true hb9) (zq_mono h (fun w M1 h1 => K _ _ _ _ h1))
        · exact h.elim
      · exact h.elim
    all_goals exact zw_dflt (F := fun pc ls st => zk cut d y pc ls st M P (zw n cut d y pc ls st M P)) hat rfl (fun ls st h9 => K _ _ _ _ h9) h
/-- what is wanted of an answer, by its kind -/
def zPi (Q : Int32 → zm_M → Prop) : Option Value → zm_M → Prop := fun v M' => match v with
  | some (.int x) => Q x M'
  | _ => False
def zPv (Q : zm_M → Prop) : Option Value → zm_M → Prop := fun v M' => match v with
  | none => Q M'
  | _ => False
def zPl (Q : Int64 → zm_M → Prop) : Option Value → zm_M → Prop := fun v M' => match v with
  | some (.long x) => Q x M'
  | _ => False
def zPr (Q : Nat → zm_M → Prop) : Option Value → zm_M → Prop := fun v M' => match v with
  | some (.ref x) => Q x M'
  | _ => False
section ZG
variable {d y pc : Nat} {as : List Value} {ls : zm_L} {st : List Value} {M : zm_M}
theorem zgi {Q : Int32 → zm_M → Prop} (n : Nat) (cut : List (Nat × List Nat)) (he : zm_ent as (zm_mx y) = ls) (h : zw n cut d y 0 ls [] M (zPi Q)) : zi d y as M Q := by
  subst he
  exact zw_snd _ _ _ _ _ _ _ _ _ h
theorem zgv {Q : zm_M → Prop} (n : Nat) (cut : List (Nat × List Nat)) (he : zm_ent as (zm_mx y) = ls) (h : zw n cut d y 0 ls [] M (zPv Q)) : zv d y as M Q := by
  subst he
  exact zw_snd _ _ _ _ _ _ _ _ _ h
theorem zgl {Q : Int64 → zm_M → Prop} (n : Nat) (cut : List (Nat × List Nat)) (he : zm_ent as (zm_mx y) = ls) (h : zw n cut d y 0 ls [] M (zPl Q)) : zl d y as M Q := by
  subst he
  exact zw_snd _ _ _ _ _ _ _ _ _ h
theorem zgr {Q : Nat → zm_M → Prop} (n : Nat) (cut : List (Nat × List Nat)) (he : zm_ent as (zm_mx y) = ls) (h : zw n cut d y 0 ls [] M (zPr Q)) : zr d y as M Q := by
  subst he
  exact zw_snd _ _ _ _ _ _ _ _ _ h
theorem zi.mono {Q Q' : Int32 → zm_M → Prop} (h : zi d y as M Q) (hq : ∀ x M', Q x M' → Q' x M') : zi d y as M Q' := zt.mono h (fun v M' q => by
  cases v with
  | none => exact q.elim
  | some w => cases w <;> first | exact q.elim | exact hq _ _ q)
theorem zv.mono {Q Q' : zm_M → Prop} (h : zv d y as M Q) (hq : ∀ M', Q M' → Q' M') : zv d y as M Q' := zt.mono h (fun v M' q => by
  cases v with
  | none => exact hq _ q
  | some w => exact q.elim)
theorem zi.dep {Q : Int32 → zm_M → Prop} {d2 : Nat} (h : zi d y as M Q) (hd : d ≤ d2) : zi d2 y as M Q := zt.dep h hd
theorem zv.dep {Q : zm_M → Prop} {d2 : Nat} (h : zv d y as M Q) (hd : d ≤ d2) : zv d2 y as M Q := zt.dep h hd
end ZG
end
section
/-! A row an instruction: how a run goes on. Printed by wip/whole/gen_rows.py. -/
section ZR
variable {d y pc pc' len k t n : Nat} {i : Instr} {ls ls' : zm_L} {st r : List Value} {M M' : zm_M} {P : Option Value → zm_M → Prop} {x z v : Int32} {lx lz lv : Int64} {tb : List (Nat × Instr × Nat)} {off : Int}
theorem zr_at (hy : zm_tb.getD y [] = tb) (h : zm_lk tb pc = some (i, len)) : zm_at y pc = some (i, len) := by
  unfold zm_at
  rw [hy]
  exact h
theorem zr_iconst {nn : Int} (hy : zm_tb.getD y [] = tb) (ha : zm_lk tb pc = some (.iconst nn, 1)) (hv : zm_lit nn = v) (h : zt d y (pc + 1) ls (.int v :: st) M P) : zt d y pc ls (st) M P := zt_ss1 (zr_at hy ha) rfl (by rw [← hv]; rfl) h
theorem zr_bipush {nn : Int} (hy : zm_tb.getD y [] = tb) (ha : zm_lk tb pc = some (.bipush nn, 2)) (hv : zm_lit nn = v) (h : zt d y (pc + 2) ls (.int v :: st) M P) : zt d y pc ls (st) M P := zt_ss1 (zr_at hy ha) rfl (by rw [← hv]; rfl) h
theorem zr_sipush {nn : Int} (hy : zm_tb.getD y [] = tb) (ha : zm_lk tb pc = some (.sipush nn, 3)) (hv : zm_lit nn = v) (h : zt d y (pc + 3) ls (.int v :: st) M P) : zt d y pc ls (st) M P := zt_ss1 (zr_at hy ha) rfl (by rw [← hv]; rfl) h
theorem zr_lconst {nn : Fin 2} (hy : zm_tb.getD y [] = tb) (ha : zm_lk tb pc = some (.lconst nn, 1)) (hv : Int64.ofNat (nn : Nat) = lv) (h : zt d y (pc + 1) ls (.long lv :: st) M P) : zt d y pc ls (st) M P := zt_ss1 (zr_at hy ha) rfl (by rw [← hv]; rfl) h
theorem zr_iload_n {kk : Fin 4} (hy : zm_tb.getD y [] = tb) (ha : zm_lk tb pc = some (.iload_n kk, 1)) (hg : zm_get ls (kk : Nat) = some (.int x)) (h : zt d y (pc + 1) ls (.int x :: st) M P) : zt d y pc ls (st) M P := zt_ss1 (zr_at hy ha) rfl (by unfold zm_ss1; dsimp only; rw [hg]) h
theorem zr_aload_n {kk : Fin 4} (hy : zm_tb.getD y [] = tb) (ha : zm_lk tb pc = some (.aload_n kk, 1)) (hg : zm_get ls (kk : Nat) = some (.ref n)) (h : zt d y (pc + 1) ls (.ref n :: st) M P) : zt d y pc ls (st) M P := zt_ss1 (zr_at hy ha) rfl (by unfold zm_ss1; dsimp only; rw [hg]) h
theorem zr_lload_n {kk : Fin 4} (hy : zm_tb.getD y [] = tb) (ha : zm_lk tb pc = some (.lload_n kk, 1)) (hg : zm_get ls (kk : Nat) = some (.long lx)) (h : zt d y (pc + 1) ls (.long lx :: st) M P) : zt d y pc ls (st) M P := zt_ss1 (zr_at hy ha) rfl (by unfold zm_ss1; dsimp only; rw [hg]) h
theorem zr_iload  (hy : zm_tb.getD y [] = tb) (ha : zm_lk tb pc = some (.iload k, 2)) (hg : zm_get ls k = some (.int x)) (h : zt d y (pc + 2) ls (.int x :: st) M P) : zt d y pc ls (st) M P := zt_ss1 (zr_at hy ha) rfl (by unfold zm_ss1; dsimp only; rw [hg]) h
theorem zr_aload  (hy : zm_tb.getD y [] = tb) (ha : zm_lk tb pc = some (.aload k, 2)) (hg : zm_get ls k = some (.ref n)) (h : zt d y (pc + 2) ls (.ref n :: st) M P) : zt d y pc ls (st) M P := zt_ss1 (zr_at hy ha) rfl (by unfold zm_ss1; dsimp only; rw [hg]) h
theorem zr_lload  (hy : zm_tb.getD y [] = tb) (ha : zm_lk tb pc = some (.lload k, 2)) (hg : zm_get ls k = some (.long lx)) (h : zt d y (pc + 2) ls (.long lx :: st) M P) : zt d y pc ls (st) M P := zt_ss1 (zr_at hy ha) rfl (by unfold zm_ss1; dsimp only; rw [hg]) h
theorem zr_iadd  (hy : zm_tb.getD y [] = tb) (ha : zm_lk tb pc = some (.iadd, 1))  (h : zt d y (pc + 1) ls (.int (x + z) :: r) M P) : zt d y pc ls (.int z :: .int x :: r) M P := zt_ss1 (zr_at hy ha) rfl (rfl) h
theorem zr_isub  (hy : zm_tb.getD y [] = tb) (ha : zm_lk tb pc = some (.isub, 1))  (h : zt d y (pc + 1) ls (.int (x - z) :: r) M P) : zt d y pc ls (.int z :: .int x :: r) M P := zt_ss1 (zr_at hy ha) rfl (rfl) h
theorem zr_imul  (hy : zm_tb.getD y [] = tb) (ha : zm_lk tb pc = some (.imul, 1))  (h : zt d y (pc + 1) ls (.int (x * z) :: r) M P) : zt d y pc ls (.int z :: .int x :: r) M P := zt_ss1 (zr_at hy ha) rfl (rfl) h
theorem zr_iand  (hy : zm_tb.getD y [] = tb) (ha : zm_lk tb pc = some (.iand, 1))  (h : zt d y (pc + 1) ls (.int (x &&& z) :: r) M P) : zt d y pc ls (.int z :: .int x :: r) M P := zt_ss1 (zr_at hy ha) rfl (rfl) h
theorem zr_ior  (hy : zm_tb.getD y [] = tb) (ha : zm_lk tb pc = some (.ior, 1))  (h : zt d y (pc + 1) ls (.int (x ||| z) :: r) M P) : zt d y pc ls (.int z :: .int x :: r) M P := zt_ss1 (zr_at hy ha) rfl (rfl) h
theorem zr_ixor  (hy : zm_tb.getD y [] = tb) (ha : zm_lk tb pc = some (.ixor, 1))  (h : zt d y (pc + 1) ls (.int (x ^^^ z) :: r) M P) : zt d y pc ls (.int z :: .int x :: r) M P := zt_ss1 (zr_at hy ha) rfl (rfl) h
theorem zr_ishl  (hy : zm_tb.getD y [] = tb) (ha : zm_lk tb pc = some (.ishl, 1))  (h : zt d y (pc + 1) ls (.int (x <<< (z &&& 31)) :: r) M P) : zt d y pc ls (.int z :: .int x :: r) M P := zt_ss1 (zr_at hy ha) rfl (rfl) h
theorem zr_ishr  (hy : zm_tb.getD y [] = tb) (ha : zm_lk tb pc = some (.ishr, 1))  (h : zt d y (pc + 1) ls (.int (x >>> (z &&& 31)) :: r) M P) : zt d y pc ls (.int z :: .int x :: r) M P := zt_ss1 (zr_at hy ha) rfl (rfl) h
theorem zr_iushr  (hy : zm_tb.getD y [] = tb) (ha : zm_lk tb pc = some (.iushr, 1))  (h : zt d y (pc + 1) ls (.int ((x.toUInt32 >>> (z.toUInt32 &&& Int32.toUInt32 31)).toInt32) :: r) M P) : zt d y pc ls (.int z :: .int x :: r) M P := zt_ss1 (zr_at hy ha) rfl (rfl) h
theorem zr_ladd  (hy : zm_tb.getD y [] = tb) (ha : zm_lk tb pc = some (.ladd, 1))  (h : zt d y (pc + 1) ls (.long (lx + lz) :: r) M P) : zt d y pc ls (.long lz :: .long lx :: r) M P := zt_ss1 (zr_at hy ha) rfl (rfl) h
theorem zr_lmul  (hy : zm_tb.getD y [] = tb) (ha : zm_lk tb pc = some (.lmul, 1))  (h : zt d y (pc + 1) ls (.long (lx * lz) :: r) M P) : zt d y pc ls (.long lz :: .long lx :: r) M P := zt_ss1 (zr_at hy ha) rfl (rfl) h
theorem zr_land  (hy : zm_tb.getD y [] = tb) (ha : zm_lk tb pc = some (.land, 1))  (h : zt d y (pc + 1) ls (.long (lx &&& lz) :: r) M P) : zt d y pc ls (.long lz :: .long lx :: r) M P := zt_ss1 (zr_at hy ha) rfl (rfl) h
theorem zr_lor  (hy : zm_tb.getD y [] = tb) (ha : zm_lk tb pc = some (.lor, 1))  (h : zt d y (pc + 1) ls (.long (lx ||| lz) :: r) M P) : zt d y pc ls (.long lz :: .long lx :: r) M P := zt_ss1 (zr_at hy ha) rfl (rfl) h
theorem zr_lshl  (hy : zm_tb.getD y [] = tb) (ha : zm_lk tb pc = some (.lshl, 1))  (h : zt d y (pc + 1) ls (.long (lx <<< (z.toInt64 &&& 63)) :: r) M P) : zt d y pc ls (.int z :: .long lx :: r) M P := zt_ss1 (zr_at hy ha) rfl (rfl) h
theorem zr_lshr  (hy : zm_tb.getD y [] = tb) (ha : zm_lk tb pc = some (.lshr, 1))  (h : zt d y (pc + 1) ls (.long (lx >>> (z.toInt64 &&& 63)) :: r) M P) : zt d y pc ls (.int z :: .long lx :: r) M P := zt_ss1 (zr_at hy ha) rfl (rfl) h
theorem zr_lushr  (hy : zm_tb.getD y [] = tb) (ha : zm_lk tb pc = some (.lushr, 1))  (h : zt d y (pc + 1) ls (.long ((lx.toUInt64 >>> (z.toInt64.toUInt64 &&& Int64.toUInt64 63)).toInt64) :: r) M P) : zt d y pc ls (.int z :: .long lx :: r) M P := zt_ss1 (zr_at hy ha) rfl (rfl) h
theorem zr_lcmp  (hy : zm_tb.getD y [] = tb) (ha : zm_lk tb pc = some (.lcmp, 1))  (h : zt d y (pc + 1) ls (.int (lg_cmp lx lz) :: r) M P) : zt d y pc ls (.long lz :: .long lx :: r) M P := zt_ss1 (zr_at hy ha) rfl (rfl) h
theorem zr_ineg  (hy : zm_tb.getD y [] = tb) (ha : zm_lk tb pc = some (.ineg, 1))  (h : zt d y (pc + 1) ls (.int (-x) :: r) M P) : zt d y pc ls (.int x :: r) M P := zt_ss1 (zr_at hy ha) rfl (rfl) h
theorem zr_i2b  (hy : zm_tb.getD y [] = tb) (ha : zm_lk tb pc = some (.i2b, 1))  (h : zt d y (pc + 1) ls (.int x.toInt8.toInt32 :: r) M P) : zt d y pc ls (.int x :: r) M P := zt_ss1 (zr_at hy ha) rfl (rfl) h
theorem zr_i2s  (hy : zm_tb.getD y [] = tb) (ha : zm_lk tb pc = some (.i2s, 1))  (h : zt d y (pc + 1) ls (.int x.toInt16.toInt32 :: r) M P) : zt d y pc ls (.int x :: r) M P := zt_ss1 (zr_at hy ha) rfl (rfl) h
theorem zr_i2c  (hy : zm_tb.getD y [] = tb) (ha : zm_lk tb pc = some (.i2c, 1))  (h : zt d y (pc + 1) ls (.int (x.toUInt32 % 65536).toInt32 :: r) M P) : zt d y pc ls (.int x :: r) M P := zt_ss1 (zr_at hy ha) rfl (rfl) h
theorem zr_i2l  (hy : zm_tb.getD y [] = tb) (ha : zm_lk tb pc = some (.i2l, 1))  (h : zt d y (pc + 1) ls (.long x.toInt64 :: r) M P) : zt d y pc ls (.int x :: r) M P := zt_ss1 (zr_at hy ha) rfl (rfl) h
theorem zr_l2i  (hy : zm_tb.getD y [] = tb) (ha : zm_lk tb pc = some (.l2i, 1))  (h : zt d y (pc + 1) ls (.int lx.toInt32 :: r) M P) : zt d y pc ls (.long lx :: r) M P := zt_ss1 (zr_at hy ha) rfl (rfl) h
theorem zr_dup_i  (hy : zm_tb.getD y [] = tb) (ha : zm_lk tb pc = some (.dup, 1))  (h : zt d y (pc + 1) ls (.int x :: .int x :: r) M P) : zt d y pc ls (.int x :: r) M P := zt_ss1 (zr_at hy ha) rfl (rfl) h
theorem zr_dup_r  (hy : zm_tb.getD y [] = tb) (ha : zm_lk tb pc = some (.dup, 1))  (h : zt d y (pc + 1) ls (.ref n :: .ref n :: r) M P) : zt d y pc ls (.ref n :: r) M P := zt_ss1 (zr_at hy ha) rfl (rfl) h
theorem zr_dup2  (hy : zm_tb.getD y [] = tb) (ha : zm_lk tb pc = some (.dup2, 1))  (h : zt d y (pc + 1) ls (.int x :: .ref n :: .int x :: .ref n :: r) M P) : zt d y pc ls (.int x :: .ref n :: r) M P := zt_ss1 (zr_at hy ha) rfl (rfl) h
theorem zr_pop  (hy : zm_tb.getD y [] = tb) (ha : zm_lk tb pc = some (.pop, 1))  (h : zt d y (pc + 1) ls (r) M P) : zt d y pc ls (.int x :: r) M P := zt_ss1 (zr_at hy ha) rfl (rfl) h
theorem zr_idiv  (hy : zm_tb.getD y [] = tb) (ha : zm_lk tb pc = some (.idiv, 1)) (hz : ¬ z = 0) (h : zt d y (pc + 1) ls (.int (x / z) :: r) M P) : zt d y pc ls (.int z :: .int x :: r) M P := zt_ss1 (zr_at hy ha) rfl (by unfold zm_ss1; dsimp only; rw [if_neg hz]) h
theorem zr_irem  (hy : zm_tb.getD y [] = tb) (ha : zm_lk tb pc = some (.irem, 1)) (hz : ¬ z = 0) (h : zt d y (pc + 1) ls (.int (x - x / z * z) :: r) M P) : zt d y pc ls (.int z :: .int x :: r) M P := zt_ss1 (zr_at hy ha) rfl (by unfold zm_ss1; dsimp only; rw [if_neg hz]) h
theorem zr_ldiv  (hy : zm_tb.getD y [] = tb) (ha : zm_lk tb pc = some (.ldiv, 1)) (hz : ¬ lz = 0) (h : zt d y (pc + 1) ls (.long (lx / lz) :: r) M P) : zt d y pc ls (.long lz :: .long lx :: r) M P := zt_ss1 (zr_at hy ha) rfl (by unfold zm_ss1; dsimp only; rw [if_neg hz]) h
theorem zr_lrem  (hy : zm_tb.getD y [] = tb) (ha : zm_lk tb pc = some (.lrem, 1)) (hz : ¬ lz = 0) (h : zt d y (pc + 1) ls (.long (lx - lx / lz * lz) :: r) M P) : zt d y pc ls (.long lz :: .long lx :: r) M P := zt_ss1 (zr_at hy ha) rfl (by unfold zm_ss1; dsimp only; rw [if_neg hz]) h
theorem zr_get {vv : Value} (hy : zm_tb.getD y [] = tb) (ha : zm_lk tb pc = some (.getfield k, 3)) (hg : zm_gf y k n M = some vv) (h : zt d y (pc + 3) ls (vv :: r) M P) : zt d y pc ls (.ref n :: r) M P := zt_ss1 (zr_at hy ha) rfl (by unfold zm_ss1; dsimp only; rw [hg]) h
theorem zr_gets {vv : Value} (hy : zm_tb.getD y [] = tb) (ha : zm_lk tb pc = some (.getstatic k, 3)) (hg : zm_ss1 y (.getstatic k) ls st M = some (vv :: st)) (h : zt d y (pc + 3) ls (vv :: st) M P) : zt d y pc ls (st) M P := zt_ss1 (zr_at hy ha) rfl (hg) h
theorem zr_ldc {vv : Value} (hy : zm_tb.getD y [] = tb) (ha : zm_lk tb pc = some (.ldc k, 2)) (hg : zm_ss1 y (.ldc k) ls st M = some (vv :: st)) (h : zt d y (pc + 2) ls (vv :: st) M P) : zt d y pc ls (st) M P := zt_ss1 (zr_at hy ha) rfl (hg) h
theorem zr_ldc_w {vv : Value} (hy : zm_tb.getD y [] = tb) (ha : zm_lk tb pc = some (.ldc_w k, 3)) (hg : zm_ss1 y (.ldc_w k) ls st M = some (vv :: st)) (h : zt d y (pc + 3) ls (vv :: st) M P) : zt d y pc ls (st) M P := zt_ss1 (zr_at hy ha) rfl (hg) h
theorem zr_ldc2 {vv : Value} (hy : zm_tb.getD y [] = tb) (ha : zm_lk tb pc = some (.ldc2_w k, 3)) (hg : zm_ss1 y (.ldc2_w k) ls st M = some (vv :: st)) (h : zt d y (pc + 3) ls (vv :: st) M P) : zt d y pc ls (st) M P := zt_ss1 (zr_at hy ha) rfl (hg) h
theorem zr_ald (hy : zm_tb.getD y [] = tb) (ha : zm_lk tb pc = some (.iaload, 1)) (hk : zm_kd k = 20) (hn : zm_ln k = n) (hv : M.1 k x.toNatClampNeg = v) (hi : zm_inb x n = true) (h : zt d y (pc + 1) ls (.int v :: r) M P) : zt d y pc ls (.int x :: .ref k :: r) M P := by
  subst hv
  subst hn
  exact zt_ss1 (zr_at hy ha) rfl (by
    have e9 : zm_ald y k x M = some (.int (M.1 k x.toNatClampNeg)) := by unfold zm_ald; rw [hk]; exact if_pos hi
    unfold zm_ss1; dsimp only; rw [e9] <;> rfl) h
theorem zr_aldt (hy : zm_tb.getD y [] = tb) (ha : zm_lk tb pc = some (.iaload, 1)) (hk : zm_kd k = 30) (hn : zm_ln k = n) (hi : zm_inb x n = true) (h : zt d y (pc + 1) ls (.int (zm_sv k x.toNatClampNeg) :: r) M P) : zt d y pc ls (.int x :: .ref k :: r) M P := by
  subst hn
  exact zt_ss1 (zr_at hy ha) rfl (by
    have e9 : zm_ald y k x M = some (.int (zm_sv k x.toNatClampNeg)) := by unfold zm_ald; rw [hk]; exact if_pos hi
    unfold zm_ss1; dsimp only; rw [e9] <;> rfl) h
theorem zr_alds (hy : zm_tb.getD 0 [] = tb) (ha : zm_lk tb pc = some (.iaload, 1)) (hi : zm_inb x M.2.2.2.1 = true) (h : zt d 0 (pc + 1) ls (.int (M.2.2.2.2 x.toNatClampNeg) :: r) M P) : zt d 0 pc ls (.int x :: .ref 120 :: r) M P := by
  exact zt_ss1 (zr_at hy ha) rfl (by
    have e9 : zm_ald 0 120 x M = some (.int (M.2.2.2.2 x.toNatClampNeg)) := by unfold zm_ald; exact if_pos ⟨rfl, hi⟩
    unfold zm_ss1; dsimp only; rw [e9] <;> rfl) h
theorem zr_bald (hy : zm_tb.getD y [] = tb) (ha : zm_lk tb pc = some (.baload, 1)) (hk : zm_kd k = 32) (hn : zm_ln k = n) (hi : zm_inb x n = true) (h : zt d y (pc + 1) ls (.int (zm_sb k x.toNatClampNeg) :: r) M P) : zt d y pc ls (.int x :: .ref k :: r) M P := by
  subst hn
  exact zt_ss1 (zr_at hy ha) rfl (by unfold zm_ss1; dsimp only; rw [hk]; exact if_pos hi) h
theorem zr_aald {aa : Nat} (hy : zm_tb.getD y [] = tb) (ha : zm_lk tb pc = some (.aaload, 1)) (hk : zm_kd k = 21) (hn : zm_ln k = n) (hi : zm_inb x n = true) (hr : zm_rf k x.toNatClampNeg = some aa) (h : zt d y (pc + 1) ls (.ref aa :: r) M P) : zt d y pc ls (.int x :: .ref k :: r) M P := by
  subst hn
  exact zt_ss1 (zr_at hy ha) rfl (by unfold zm_ss1; dsimp only; rw [hk]; exact (if_pos hi).trans (by rw [hr])) h
theorem zr_alen (hy : zm_tb.getD y [] = tb) (ha : zm_lk tb pc = some (.arraylength, 1)) (hv : zm_alen y k M = some v) (h : zt d y (pc + 1) ls (.int v :: r) M P) : zt d y pc ls (.ref k :: r) M P := zt_ss1 (zr_at hy ha) rfl (by unfold zm_ss1; dsimp only; rw [hv]) h
theorem zr_istore_n {kk : Fin 4} (hy : zm_tb.getD y [] = tb) (ha : zm_lk tb pc = some (.istore_n kk, 1)) (hs : zm_sst (.istore_n kk) ls (.int x :: r) = some (ls', r)) (h : zt d y (pc + 1) ls' r M P) : zt d y pc ls (.int x :: r) M P := zt_sst (zr_at hy ha) rfl rfl hs h
theorem zr_istore  (hy : zm_tb.getD y [] = tb) (ha : zm_lk tb pc = some (.istore k, 2)) (hs : zm_sst (.istore k) ls (.int x :: r) = some (ls', r)) (h : zt d y (pc + 2) ls' r M P) : zt d y pc ls (.int x :: r) M P := zt_sst (zr_at hy ha) rfl rfl hs h
theorem zr_astore_n {kk : Fin 4} (hy : zm_tb.getD y [] = tb) (ha : zm_lk tb pc = some (.astore_n kk, 1)) (hs : zm_sst (.astore_n kk) ls (.ref n :: r) = some (ls', r)) (h : zt d y (pc + 1) ls' r M P) : zt d y pc ls (.ref n :: r) M P := zt_sst (zr_at hy ha) rfl rfl hs h
theorem zr_astore  (hy : zm_tb.getD y [] = tb) (ha : zm_lk tb pc = some (.astore k, 2)) (hs : zm_sst (.astore k) ls (.ref n :: r) = some (ls', r)) (h : zt d y (pc + 2) ls' r M P) : zt d y pc ls (.ref n :: r) M P := zt_sst (zr_at hy ha) rfl rfl hs h
theorem zr_lstore_n {kk : Fin 4} (hy : zm_tb.getD y [] = tb) (ha : zm_lk tb pc = some (.lstore_n kk, 1)) (hs : zm_sst (.lstore_n kk) ls (.long lx :: r) = some (ls', r)) (h : zt d y (pc + 1) ls' r M P) : zt d y pc ls (.long lx :: r) M P := zt_sst (zr_at hy ha) rfl rfl hs h
theorem zr_lstore  (hy : zm_tb.getD y [] = tb) (ha : zm_lk tb pc = some (.lstore k, 2)) (hs : zm_sst (.lstore k) ls (.long lx :: r) = some (ls', r)) (h : zt d y (pc + 2) ls' r M P) : zt d y pc ls (.long lx :: r) M P := zt_sst (zr_at hy ha) rfl rfl hs h
theorem zr_iinc {nn : Int} (hy : zm_tb.getD y [] = tb) (ha : zm_lk tb pc = some (.iinc k nn, 3)) (hs : zm_sst (.iinc k nn) ls st = some (ls', st)) (h : zt d y (pc + 3) ls' st M P) : zt d y pc ls st M P := zt_sst (zr_at hy ha) rfl rfl hs h
theorem zr_cb {c : Jvm.ClassFile.Cond} {A B : Nat → Prop} (h : zcb c x z (A t) (A n)) : A (if zm_cmp c x z = true then t else n) := by
  obtain ⟨h1, h2⟩ := zcb_snd h
  by_cases hc : zm_cmp c x z = true
  · rw [if_pos hc]; exact h1 hc
  · rw [if_neg hc]; exact h2 hc
theorem zr_icmp_eq (hy : zm_tb.getD y [] = tb) (ha : zm_lk tb pc = some (.if_icmp .eq off, 3)) (ht : zm_tg pc off = some t) (hp : x = z → zt d y t ls r M P) (hq : ¬ x = z → zt d y (pc + 3) ls r M P) : zt d y pc ls (.int z :: .int x :: r) M P := zt_sj (pc' := if zm_cmp .eq x z = true then t else pc + 3) (st' := r) (zr_at hy ha) rfl rfl rfl (by unfold zm_sj; dsimp only; rw [ht]) (zr_cb (B := fun _ => True) (A := fun t => zt d y t ls r M P) (c := .eq) ⟨hp, hq⟩)
theorem zr_if_eq (hy : zm_tb.getD y [] = tb) (ha : zm_lk tb pc = some (.ifCond .eq off, 3)) (ht : zm_tg pc off = some t) (hp : x = 0 → zt d y t ls r M P) (hq : ¬ x = 0 → zt d y (pc + 3) ls r M P) : zt d y pc ls (.int x :: r) M P := zt_sj (pc' := if zm_cmp .eq x 0 = true then t else pc + 3) (st' := r) (zr_at hy ha) rfl rfl rfl (by unfold zm_sj; dsimp only; rw [ht]) (zr_cb (B := fun _ => True) (A := fun t => zt d y t ls r M P) (c := .eq) ⟨hp, hq⟩)
theorem zr_icmp_ne (hy : zm_tb.getD y [] = tb) (ha : zm_lk tb pc = some (.if_icmp .ne off, 3)) (ht : zm_tg pc off = some t) (hp : x = z → zt d y (pc + 3) ls r M P) (hq : ¬ x = z → zt d y t ls r M P) : zt d y pc ls (.int z :: .int x :: r) M P := zt_sj (pc' := if zm_cmp .ne x z = true then t else pc + 3) (st' := r) (zr_at hy ha) rfl rfl rfl (by unfold zm_sj; dsimp only; rw [ht]) (zr_cb (B := fun _ => True) (A := fun t => zt d y t ls r M P) (c := .ne) ⟨hp, hq⟩)
theorem zr_if_ne (hy : zm_tb.getD y [] = tb) (ha : zm_lk tb pc = some (.ifCond .ne off, 3)) (ht : zm_tg pc off = some t) (hp : x = 0 → zt d y (pc + 3) ls r M P) (hq : ¬ x = 0 → zt d y t ls r M P) : zt d y pc ls (.int x :: r) M P := zt_sj (pc' := if zm_cmp .ne x 0 = true then t else pc + 3) (st' := r) (zr_at hy ha) rfl rfl rfl (by unfold zm_sj; dsimp only; rw [ht]) (zr_cb (B := fun _ => True) (A := fun t => zt d y t ls r M P) (c := .ne) ⟨hp, hq⟩)
theorem zr_icmp_lt (hy : zm_tb.getD y [] = tb) (ha : zm_lk tb pc = some (.if_icmp .lt off, 3)) (ht : zm_tg pc off = some t) (hp : x < z → zt d y t ls r M P) (hq : ¬ x < z → zt d y (pc + 3) ls r M P) : zt d y pc ls (.int z :: .int x :: r) M P := zt_sj (pc' := if zm_cmp .lt x z = true then t else pc + 3) (st' := r) (zr_at hy ha) rfl rfl rfl (by unfold zm_sj; dsimp only; rw [ht]) (zr_cb (B := fun _ => True) (A := fun t => zt d y t ls r M P) (c := .lt) ⟨hp, hq⟩)
theorem zr_if_lt (hy : zm_tb.getD y [] = tb) (ha : zm_lk tb pc = some (.ifCond .lt off, 3)) (ht : zm_tg pc off = some t) (hp : x < 0 → zt d y t ls r M P) (hq : ¬ x < 0 → zt d y (pc + 3) ls r M P) : zt d y pc ls (.int x :: r) M P := zt_sj (pc' := if zm_cmp .lt x 0 = true then t else pc + 3) (st' := r) (zr_at hy ha) rfl rfl rfl (by unfold zm_sj; dsimp only; rw [ht]) (zr_cb (B := fun _ => True) (A := fun t => zt d y t ls r M P) (c := .lt) ⟨hp, hq⟩)
theorem zr_icmp_ge (hy : zm_tb.getD y [] = tb) (ha : zm_lk tb pc = some (.if_icmp .ge off, 3)) (ht : zm_tg pc off = some t) (hp : x < z → zt d y (pc + 3) ls r M P) (hq : ¬ x < z → zt d y t ls r M P) : zt d y pc ls (.int z :: .int x :: r) M P := zt_sj (pc' := if zm_cmp .ge x z = true then t else pc + 3) (st' := r) (zr_at hy ha) rfl rfl rfl (by unfold zm_sj; dsimp only; rw [ht]) (zr_cb (B := fun _ => True) (A := fun t => zt d y t ls r M P) (c := .ge) ⟨hp, hq⟩)
theorem zr_if_ge (hy : zm_tb.getD y [] = tb) (ha : zm_lk tb pc = some (.ifCond .ge off, 3)) (ht : zm_tg pc off = some t) (hp : x < 0 → zt d y (pc + 3) ls r M P) (hq : ¬ x < 0 → zt d y t ls r M P) : zt d y pc ls (.int x :: r) M P := zt_sj (pc' := if zm_cmp .ge x 0 = true then t else pc + 3) (st' := r) (zr_at hy ha) rfl rfl rfl (by unfold zm_sj; dsimp only; rw [ht]) (zr_cb (B := fun _ => True) (A := fun t => zt d y t ls r M P) (c := .ge) ⟨hp, hq⟩)
theorem zr_icmp_gt (hy : zm_tb.getD y [] = tb) (ha : zm_lk tb pc = some (.if_icmp .gt off, 3)) (ht : zm_tg pc off = some t) (hp : z < x → zt d y t ls r M P) (hq : ¬ z < x → zt d y (pc + 3) ls r M P) : zt d y pc ls (.int z :: .int x :: r) M P := zt_sj (pc' := if zm_cmp .gt x z = true then t else pc + 3) (st' := r) (zr_at hy ha) rfl rfl rfl (by unfold zm_sj; dsimp only; rw [ht]) (zr_cb (B := fun _ => True) (A := fun t => zt d y t ls r M P) (c := .gt) ⟨hp, hq⟩)
theorem zr_if_gt (hy : zm_tb.getD y [] = tb) (ha : zm_lk tb pc = some (.ifCond .gt off, 3)) (ht : zm_tg pc off = some t) (hp : 0 < x → zt d y t ls r M P) (hq : ¬ 0 < x → zt d y (pc + 3) ls r M P) : zt d y pc ls (.int x :: r) M P := zt_sj (pc' := if zm_cmp .gt x 0 = true then t else pc + 3) (st' := r) (zr_at hy ha) rfl rfl rfl (by unfold zm_sj; dsimp only; rw [ht]) (zr_cb (B := fun _ => True) (A := fun t => zt d y t ls r M P) (c := .gt) ⟨hp, hq⟩)
theorem zr_icmp_le (hy : zm_tb.getD y [] = tb) (ha : zm_lk tb pc = some (.if_icmp .le off, 3)) (ht : zm_tg pc off = some t) (hp : z < x → zt d y (pc + 3) ls r M P) (hq : ¬ z < x → zt d y t ls r M P) : zt d y pc ls (.int z :: .int x :: r) M P := zt_sj (pc' := if zm_cmp .le x z = true then t else pc + 3) (st' := r) (zr_at hy ha) rfl rfl rfl (by unfold zm_sj; dsimp only; rw [ht]) (zr_cb (B := fun _ => True) (A := fun t => zt d y t ls r M P) (c := .le) ⟨hp, hq⟩)
theorem zr_if_le (hy : zm_tb.getD y [] = tb) (ha : zm_lk tb pc = some (.ifCond .le off, 3)) (ht : zm_tg pc off = some t) (hp : 0 < x → zt d y (pc + 3) ls r M P) (hq : ¬ 0 < x → zt d y t ls r M P) : zt d y pc ls (.int x :: r) M P := zt_sj (pc' := if zm_cmp .le x 0 = true then t else pc + 3) (st' := r) (zr_at hy ha) rfl rfl rfl (by unfold zm_sj; dsimp only; rw [ht]) (zr_cb (B := fun _ => True) (A := fun t => zt d y t ls r M P) (c := .le) ⟨hp, hq⟩)
theorem zr_goto (hy : zm_tb.getD y [] = tb) (ha : zm_lk tb pc = some (.goto off, 3)) (ht : zm_tg pc off = some t) (h : zt d y t ls st M P) : zt d y pc ls st M P := zt_sj (pc' := t) (st' := st) (zr_at hy ha) rfl rfl rfl (by unfold zm_sj; dsimp only; rw [ht]) h
theorem zr_zw (n : Nat) (cut : List (Nat × List Nat)) (h : zw n cut d y pc ls st M P) : zt d y pc ls st M P := zw_snd _ _ _ _ _ _ _ _ _ h
theorem zr_tsw {dflt lo hi : Int} {offs : Array Int} {len : Nat} (hy : zm_tb.getD y [] = tb) (ha : zm_lk tb pc = some (.tableswitch dflt lo hi offs, len)) (hq : (decide (hi = lo + (offs.toList.length : Int) - 1) && (decide (-1000 ≤ lo) && decide (lo + (offs.toList.length : Int) ≤ 1000))) = true) (h : zsw (fun off => zj pc off (fun t => zt d y t ls r M P)) x lo offs.toList dflt) : zt d y pc ls (.int x :: r) M P := by
  simp only [Bool.and_eq_true, decide_eq_true_eq] at hq
  obtain ⟨t9, ht9, h8⟩ := zj_inv (zsw_snd offs.toList lo dflt hq.2.1 hq.2.2 h)
  exact zt_sj (pc' := t9) (st' := r) (zr_at hy ha) rfl rfl rfl (by unfold zm_sj; dsimp only; rw [if_pos hq.1, ht9] <;> rfl) h8
theorem zr_lsw {dflt : Int} {ps : Array (Int × Int)} {len : Nat} (hy : zm_tb.getD y [] = tb) (ha : zm_lk tb pc = some (.lookupswitch dflt ps, len)) (hq : ((ps.toList.zip (ps.toList.drop 1)).all (fun (a, next) => a.1 < next.1) && ps.toList.all (fun p => decide (-1000 ≤ p.1 ∧ p.1 ≤ 1000))) = true) (h : zlw (fun off => zj pc off (fun t => zt d y t ls r M P)) x ps.toList dflt) : zt d y pc ls (.int x :: r) M P := by
  rw [Bool.and_eq_true] at hq
  obtain ⟨t9, ht9, h8⟩ := zj_inv (zlw_snd ps.toList dflt hq.2 h)
  exact zt_sj (pc' := t9) (st' := r) (zr_at hy ha) rfl rfl rfl (by unfold zm_sj; dsimp only; rw [if_pos hq.1, ht9] <;> rfl) h8
theorem zr_sw {c : Int32} {K : Int → Prop} {o : Int} {l : List Int} {lo dd : Int} (hv : zm_lit lo = c) (h1 : x = c → K o) (h2 : ¬ x = c → zsw K x (lo + 1) l dd) : zsw K x lo (o :: l) dd := by
  subst hv
  exact ⟨h1, h2⟩
theorem zr_lw {c : Int32} {K : Int → Prop} {a o : Int} {l : List (Int × Int)} {dd : Int} (hv : zm_lit a = c) (h1 : x = c → K o) (h2 : ¬ x = c → zlw K x l dd) : zlw K x ((a, o) :: l) dd := by
  subst hv
  exact ⟨h1, h2⟩
theorem zr_j {K : Nat → Prop} (ht : zm_tg pc off = some t) (h : K t) : zj pc off K := by
  unfold zj
  rw [ht]
  exact h
theorem zr_put {vv : Value} (hy : zm_tb.getD y [] = tb) (ha : zm_lk tb pc = some (.putfield k, 3)) (hs : zm_pf y k n vv M = some M') (h : zt d y (pc + 3) ls r M' P) : zt d y pc ls (vv :: .ref n :: r) M P := zt_sm (zr_at hy ha) rfl rfl rfl rfl (by unfold zm_sm; dsimp only; rw [hs] <;> rfl) h
theorem zr_pb {ci sl : Nat} {pos : Nat} (hf : zm_fl (zm_yc y) k = some (ci, sl, pos)) (hc : zm_kd n = ci) (h4 : zm_ft ci sl = 4) (hx : x = 0 ∨ x = 1) : zm_pf y k n (.int x) M = some (zm_si M n sl x) := by
  unfold zm_pf
  rw [hf]
  refine (if_pos hc).trans ?_
  unfold zm_pv
  rw [h4]
  exact if_pos hx
theorem zr_pn {ci sl q : Nat} {pos : Nat} (hf : zm_fl (zm_yc y) k = some (ci, sl, pos)) (hc : zm_kd n = ci) (h4 : zm_ft ci sl = 3) (hx : q = 110 ∨ q = 111) : zm_pf y k n (.ref q) M = some (zm_ss M q) := by
  unfold zm_pf
  rw [hf]
  refine (if_pos hc).trans ?_
  unfold zm_pv
  rw [h4]
  exact if_pos hx
theorem zr_ast (hy : zm_tb.getD y [] = tb) (ha : zm_lk tb pc = some (.iastore, 1)) (hk : zm_kd k = 20) (hn : zm_ln k = n) (hi : zm_inb z n = true) (h : zt d y (pc + 1) ls r (zm_si M k z.toNatClampNeg x) P) : zt d y pc ls (.int x :: .int z :: .ref k :: r) M P := by
  subst hn
  exact zt_sm (zr_at hy ha) rfl rfl rfl rfl (by unfold zm_sm; dsimp only; rw [hk]; exact if_pos hi) h
theorem zr_min {pos : Nat} (hy : zm_tb.getD y [] = tb) (ha : zm_lk tb pc = some (.invokestatic k, 3)) (hb : zm_bi (zm_yc y) k = some (1, pos)) (hc : zm_cs r = true) (h : zt (d + 1) y (pc + 3) ls (.int (if z < x then z else x) :: r) M P) : zt (d + 1) y pc ls (.int z :: .int x :: r) M P := zt_sm (zr_at hy ha) rfl rfl rfl rfl (by unfold zm_sm; dsimp only; rw [if_neg (Nat.succ_ne_zero _), hb]; exact if_pos hc) h
theorem zr_max {pos : Nat} (hy : zm_tb.getD y [] = tb) (ha : zm_lk tb pc = some (.invokestatic k, 3)) (hb : zm_bi (zm_yc y) k = some (2, pos)) (hc : zm_cs r = true) (h : zt (d + 1) y (pc + 3) ls (.int (if x < z then z else x) :: r) M P) : zt (d + 1) y pc ls (.int z :: .int x :: r) M P := zt_sm (zr_at hy ha) rfl rfl rfl rfl (by unfold zm_sm; dsimp only; rw [if_neg (Nat.succ_ne_zero _), hb]; exact if_pos hc) h
theorem zr_copy {pos aa gg na ng : Nat} {sp dp nn : Int32} (hy : zm_tb.getD y [] = tb) (ha : zm_lk tb pc = some (.invokestatic k, 3)) (hb : zm_bi (zm_yc y) k = some (3, pos)) (hc : zm_cs r = true) (hka : zm_kd aa = 20) (hkg : zm_kd gg = 20) (hna : zm_ln aa = na) (hng : zm_ln gg = ng) (hq : ¬ sp < 0 ∧ ¬ dp < 0 ∧ ¬ nn < 0 ∧ sp.toNatClampNeg + nn.toNatClampNeg ≤ na ∧ dp.toNatClampNeg + nn.toNatClampNeg ≤ ng) (h : zt (d + 1) y (pc + 3) ls r (zm_sr M gg (va_cpy (M.1 aa) (M.1 gg) sp.toNatClampNeg dp.toNatClampNeg nn.toNatClampNeg)) P) : zt (d + 1) y pc ls (.int nn :: .int dp :: .ref gg :: .int sp :: .ref aa :: r) M P := by
  subst hna
  subst hng
  exact zt_sm (zr_at hy ha) rfl rfl rfl rfl (by unfold zm_sm; dsimp only; rw [if_neg (Nat.succ_ne_zero _), hb]; exact if_pos ⟨hc, hka, hkg, hq⟩) h
theorem zr_callis {y9 : Nat} {as : List Value} {K : Int32 → zm_M → Prop} (hy : zm_tb.getD y [] = tb) (ha : zm_lk tb pc = some (.invokestatic k, 3)) (hb : zm_bi (zm_yc y) k = none) (hc : zm_cal y (.invokestatic k) st = some (y9, as, r)) (hl : Nat.ble (zm_flat as).length (zm_mx y9) = true) (h : zi d y9 as M K) (hk : ∀ x M1, K x M1 → zt (d + 1) y (pc + 3) ls (.int x :: r) M1 P) : zt (d + 1) y pc ls st M P := zq_cal 9 (zr_at hy ha) rfl rfl rfl rfl (by unfold zm_sm; dsimp only; rw [if_neg (Nat.succ_ne_zero _), hb]) hc (Nat.le_of_ble_eq_true hl) (zt.mono h (fun v M1 q => by
    cases v with
    | none => exact q.elim
    | some w => cases w <;> first | exact q.elim | exact hk _ _ q))
theorem zr_calliv {y9 : Nat} {as : List Value} {K : Int32 → zm_M → Prop} (hy : zm_tb.getD y [] = tb) (ha : zm_lk tb pc = some (.invokevirtual k, 3)) (hc : zm_cal y (.invokevirtual k) st = some (y9, as, r)) (hl : Nat.ble (zm_flat as).length (zm_mx y9) = true) (h : zi d y9 as M K) (hk : ∀ x M1, K x M1 → zt (d + 1) y (pc + 3) ls (.int x :: r) M1 P) : zt (d + 1) y pc ls st M P := zq_cal 9 (zr_at hy ha) rfl rfl rfl rfl rfl hc (Nat.le_of_ble_eq_true hl) (zt.mono h (fun v M1 q => by
    cases v with
    | none => exact q.elim
    | some w => cases w <;> first | exact q.elim | exact hk _ _ q))
theorem zr_callls {y9 : Nat} {as : List Value} {K : Int64 → zm_M → Prop} (hy : zm_tb.getD y [] = tb) (ha : zm_lk tb pc = some (.invokestatic k, 3)) (hb : zm_bi (zm_yc y) k = none) (hc : zm_cal y (.invokestatic k) st = some (y9, as, r)) (hl : Nat.ble (zm_flat as).length (zm_mx y9) = true) (h : zl d y9 as M K) (hk : ∀ lx M1, K lx M1 → zt (d + 1) y (pc + 3) ls (.long lx :: r) M1 P) : zt (d + 1) y pc ls st M P := zq_cal 3 (zr_at hy ha) rfl rfl rfl rfl (by unfold zm_sm; dsimp only; rw [if_neg (Nat.succ_ne_zero _), hb]) hc (Nat.le_of_ble_eq_true hl) (zt.mono h (fun v M1 q => by
    cases v with
    | none => exact q.elim
    | some w => cases w <;> first | exact q.elim | exact hk _ _ q))
theorem zr_calllv {y9 : Nat} {as : List Value} {K : Int64 → zm_M → Prop} (hy : zm_tb.getD y [] = tb) (ha : zm_lk tb pc = some (.invokevirtual k, 3)) (hc : zm_cal y (.invokevirtual k) st = some (y9, as, r)) (hl : Nat.ble (zm_flat as).length (zm_mx y9) = true) (h : zl d y9 as M K) (hk : ∀ lx M1, K lx M1 → zt (d + 1) y (pc + 3) ls (.long lx :: r) M1 P) : zt (d + 1) y pc ls st M P := zq_cal 3 (zr_at hy ha) rfl rfl rfl rfl rfl hc (Nat.le_of_ble_eq_true hl) (zt.mono h (fun v M1 q => by
    cases v with
    | none => exact q.elim
    | some w => cases w <;> first | exact q.elim | exact hk _ _ q))
theorem zr_callrs {y9 : Nat} {as : List Value} {K : Nat → zm_M → Prop} (hy : zm_tb.getD y [] = tb) (ha : zm_lk tb pc = some (.invokestatic k, 3)) (hb : zm_bi (zm_yc y) k = none) (hc : zm_cal y (.invokestatic k) st = some (y9, as, r)) (hl : Nat.ble (zm_flat as).length (zm_mx y9) = true) (h : zr d y9 as M K) (hk : ∀ n M1, K n M1 → zt (d + 1) y (pc + 3) ls (.ref n :: r) M1 P) : zt (d + 1) y pc ls st M P := zq_cal 4 (zr_at hy ha) rfl rfl rfl rfl (by unfold zm_sm; dsimp only; rw [if_neg (Nat.succ_ne_zero _), hb]) hc (Nat.le_of_ble_eq_true hl) (zt.mono h (fun v M1 q => by
    cases v with
    | none => exact q.elim
    | some w => cases w <;> first | exact q.elim | exact hk _ _ q))
theorem zr_callrv {y9 : Nat} {as : List Value} {K : Nat → zm_M → Prop} (hy : zm_tb.getD y [] = tb) (ha : zm_lk tb pc = some (.invokevirtual k, 3)) (hc : zm_cal y (.invokevirtual k) st = some (y9, as, r)) (hl : Nat.ble (zm_flat as).length (zm_mx y9) = true) (h : zr d y9 as M K) (hk : ∀ n M1, K n M1 → zt (d + 1) y (pc + 3) ls (.ref n :: r) M1 P) : zt (d + 1) y pc ls st M P := zq_cal 4 (zr_at hy ha) rfl rfl rfl rfl rfl hc (Nat.le_of_ble_eq_true hl) (zt.mono h (fun v M1 q => by
    cases v with
    | none => exact q.elim
    | some w => cases w <;> first | exact q.elim | exact hk _ _ q))
theorem zr_callvs {y9 : Nat} {as : List Value} {K : zm_M → Prop} (hy : zm_tb.getD y [] = tb) (ha : zm_lk tb pc = some (.invokestatic k, 3)) (hb : zm_bi (zm_yc y) k = none) (hc : zm_cal y (.invokestatic k) st = some (y9, as, r)) (hl : Nat.ble (zm_flat as).length (zm_mx y9) = true) (h : zv d y9 as M K) (hk : ∀ M1, K M1 → zt (d + 1) y (pc + 3) ls (r) M1 P) : zt (d + 1) y pc ls st M P := zq_cal 0 (zr_at hy ha) rfl rfl rfl rfl (by unfold zm_sm; dsimp only; rw [if_neg (Nat.succ_ne_zero _), hb]) hc (Nat.le_of_ble_eq_true hl) (zt.mono h (fun v M1 q => by
    cases v with
    | none => exact hk _ q
    | some w => exact q.elim))
theorem zr_callvv {y9 : Nat} {as : List Value} {K : zm_M → Prop} (hy : zm_tb.getD y [] = tb) (ha : zm_lk tb pc = some (.invokevirtual k, 3)) (hc : zm_cal y (.invokevirtual k) st = some (y9, as, r)) (hl : Nat.ble (zm_flat as).length (zm_mx y9) = true) (h : zv d y9 as M K) (hk : ∀ M1, K M1 → zt (d + 1) y (pc + 3) ls (r) M1 P) : zt (d + 1) y pc ls st M P := zq_cal 0 (zr_at hy ha) rfl rfl rfl rfl rfl hc (Nat.le_of_ble_eq_true hl) (zt.mono h (fun v M1 q => by
    cases v with
    | none => exact hk _ q
    | some w => exact q.elim))
theorem zr_inis {y9 : Nat} {as : List Value} (hy : zm_tb.getD y [] = tb) (ha : zm_lk tb pc = some (.invokestatic k, 3)) (hb : zm_bi (zm_yc y) k = none) (hc : zm_cal y (.invokestatic k) st = some (y9, as, r)) (hl : Nat.ble (zm_flat as).length (zm_mx y9) = true) (h : zi d y9 as M (fun x M1 => zt (d + 1) y (pc + 3) ls (.int x :: r) M1 P)) : zt (d + 1) y pc ls st M P := zr_callis hy ha hb hc hl h (fun _ _ q => q)
theorem zr_iniv {y9 : Nat} {as : List Value} (hy : zm_tb.getD y [] = tb) (ha : zm_lk tb pc = some (.invokevirtual k, 3)) (hc : zm_cal y (.invokevirtual k) st = some (y9, as, r)) (hl : Nat.ble (zm_flat as).length (zm_mx y9) = true) (h : zi d y9 as M (fun x M1 => zt (d + 1) y (pc + 3) ls (.int x :: r) M1 P)) : zt (d + 1) y pc ls st M P := zr_calliv hy ha hc hl h (fun _ _ q => q)
theorem zr_inls {y9 : Nat} {as : List Value} (hy : zm_tb.getD y [] = tb) (ha : zm_lk tb pc = some (.invokestatic k, 3)) (hb : zm_bi (zm_yc y) k = none) (hc : zm_cal y (.invokestatic k) st = some (y9, as, r)) (hl : Nat.ble (zm_flat as).length (zm_mx y9) = true) (h : zl d y9 as M (fun lx M1 => zt (d + 1) y (pc + 3) ls (.long lx :: r) M1 P)) : zt (d + 1) y pc ls st M P := zr_callls hy ha hb hc hl h (fun _ _ q => q)
theorem zr_inlv {y9 : Nat} {as : List Value} (hy : zm_tb.getD y [] = tb) (ha : zm_lk tb pc = some (.invokevirtual k, 3)) (hc : zm_cal y (.invokevirtual k) st = some (y9, as, r)) (hl : Nat.ble (zm_flat as).length (zm_mx y9) = true) (h : zl d y9 as M (fun lx M1 => zt (d + 1) y (pc + 3) ls (.long lx :: r) M1 P)) : zt (d + 1) y pc ls st M P := zr_calllv hy ha hc hl h (fun _ _ q => q)
theorem zr_inrs {y9 : Nat} {as : List Value} (hy : zm_tb.getD y [] = tb) (ha : zm_lk tb pc = some (.invokestatic k, 3)) (hb : zm_bi (zm_yc y) k = none) (hc : zm_cal y (.invokestatic k) st = some (y9, as, r)) (hl : Nat.ble (zm_flat as).length (zm_mx y9) = true) (h : zr d y9 as M (fun n M1 => zt (d + 1) y (pc + 3) ls (.ref n :: r) M1 P)) : zt (d + 1) y pc ls st M P := zr_callrs hy ha hb hc hl h (fun _ _ q => q)
theorem zr_inrv {y9 : Nat} {as : List Value} (hy : zm_tb.getD y [] = tb) (ha : zm_lk tb pc = some (.invokevirtual k, 3)) (hc : zm_cal y (.invokevirtual k) st = some (y9, as, r)) (hl : Nat.ble (zm_flat as).length (zm_mx y9) = true) (h : zr d y9 as M (fun n M1 => zt (d + 1) y (pc + 3) ls (.ref n :: r) M1 P)) : zt (d + 1) y pc ls st M P := zr_callrv hy ha hc hl h (fun _ _ q => q)
theorem zr_invs {y9 : Nat} {as : List Value} (hy : zm_tb.getD y [] = tb) (ha : zm_lk tb pc = some (.invokestatic k, 3)) (hb : zm_bi (zm_yc y) k = none) (hc : zm_cal y (.invokestatic k) st = some (y9, as, r)) (hl : Nat.ble (zm_flat as).length (zm_mx y9) = true) (h : zv d y9 as M (fun M1 => zt (d + 1) y (pc + 3) ls (r) M1 P)) : zt (d + 1) y pc ls st M P := zr_callvs hy ha hb hc hl h (fun _ q => q)
theorem zr_invv {y9 : Nat} {as : List Value} (hy : zm_tb.getD y [] = tb) (ha : zm_lk tb pc = some (.invokevirtual k, 3)) (hc : zm_cal y (.invokevirtual k) st = some (y9, as, r)) (hl : Nat.ble (zm_flat as).length (zm_mx y9) = true) (h : zv d y9 as M (fun M1 => zt (d + 1) y (pc + 3) ls (r) M1 P)) : zt (d + 1) y pc ls st M P := zr_callvv hy ha hc hl h (fun _ q => q)
section ZQ
variable {Qi : Int32 → zm_M → Prop} {Ql : Int64 → zm_M → Prop} {Qr : Nat → zm_M → Prop} {Qv : zm_M → Prop}
theorem zr_ireturn (hy : zm_tb.getD y [] = tb) (ha : zm_lk tb pc = some (.ireturn, 1)) (hk : zm_rk y = 1) (h : Qi x M) : zt d y pc ls [.int x] M (zPi Qi) := zt_ret (v := some (.int x)) (zr_at hy ha) (by unfold zm_ret; rw [hk] <;> rfl) h
theorem zr_zreturn (hy : zm_tb.getD y [] = tb) (ha : zm_lk tb pc = some (.ireturn, 1)) (hk : zm_rk y = 2) (h1 : x = 0 ∨ x = 1) (h : Qi x M) : zt d y pc ls [.int x] M (zPi Qi) := zt_ret (v := some (.int x)) (zr_at hy ha) (by unfold zm_ret; rw [hk]; exact if_pos h1) h
theorem zr_breturn (hy : zm_tb.getD y [] = tb) (ha : zm_lk tb pc = some (.ireturn, 1)) (hk : zm_rk y = 5) (h1 : x = 0) (h : Qi x M) : zt d y pc ls [.int x] M (zPi Qi) := zt_ret (v := some (.int x)) (zr_at hy ha) (by unfold zm_ret; rw [hk]; exact if_pos h1) h
theorem zr_lreturn (hy : zm_tb.getD y [] = tb) (ha : zm_lk tb pc = some (.lreturn, 1)) (hk : zm_rk y = 3) (h : Ql lx M) : zt d y pc ls [.long lx] M (zPl Ql) := zt_ret (v := some (.long lx)) (zr_at hy ha) (by unfold zm_ret; rw [hk] <;> rfl) h
theorem zr_areturn (hy : zm_tb.getD y [] = tb) (ha : zm_lk tb pc = some (.areturn, 1)) (hk : zm_rk y = 4) (h : Qr n M) : zt d y pc ls [.ref n] M (zPr Qr) := zt_ret (v := some (.ref n)) (zr_at hy ha) (by unfold zm_ret; rw [hk] <;> rfl) h
theorem zr_return (hy : zm_tb.getD y [] = tb) (ha : zm_lk tb pc = some (.return_, 1)) (hk : zm_rk y = 0) (h : Qv M) : zt d y pc ls [] M (zPv Qv) := zt_ret (v := none) (zr_at hy ha) (by unfold zm_ret; rw [hk] <;> rfl) h
end ZQ
theorem zr_getn {q : Nat} (hy : zm_tb.getD y [] = tb) (ha : zm_lk tb pc = some (.getfield k, 3)) (hg : zm_gf y k n M = some (.ref M.2.2.1)) (hq : M.2.2.1 = q) (h : zt d y (pc + 3) ls (.ref q :: r) M P) : zt d y pc ls (.ref n :: r) M P := by
  subst hq
  exact zt_ss1 (zr_at hy ha) rfl (by unfold zm_ss1; dsimp only; rw [hg]) h
theorem zr_fg (fs : List Nat) (hf : zfg fs ls = ls') (h : zt d y pc ls' st M P) : zt d y pc ls st M P := by
  subst hf
  exact zt.weak h (zfg_le _ _)
end ZR
theorem zae {a b c : Prop} (h : a ∧ b) (f : a → b → c) : c := f h.1 h.2
theorem zi_of {d y : Nat} {as : List Value} {ls : zm_L} {M : zm_M} {Q : Int32 → zm_M → Prop} (he : zm_ent as (zm_mx y) = ls) (h : zt d y 0 ls [] M (zPi Q)) : zi d y as M Q := by
  subst he
  exact h
theorem zv_of {d y : Nat} {as : List Value} {ls : zm_L} {M : zm_M} {Q : zm_M → Prop} (he : zm_ent as (zm_mx y) = ls) (h : zt d y 0 ls [] M (zPv Q)) : zv d y as M Q := by
  subst he
  exact h
theorem zl_of {d y : Nat} {as : List Value} {ls : zm_L} {M : zm_M} {Q : Int64 → zm_M → Prop} (he : zm_ent as (zm_mx y) = ls) (h : zt d y 0 ls [] M (zPl Q)) : zl d y as M Q := by
  subst he
  exact h
theorem zr_of {d y : Nat} {as : List Value} {ls : zm_L} {M : zm_M} {Q : Nat → zm_M → Prop} (he : zm_ent as (zm_mx y) = ls) (h : zt d y 0 ls [] M (zPr Q)) : zr d y as M Q := by
  subst he
  exact h
theorem zy0 : zm_tb.getD 0 [] = zm_t0 := rfl
theorem zy1 : zm_tb.getD 1 [] = zm_t1 := rfl
theorem zy2 : zm_tb.getD 2 [] = zm_t2 := rfl
theorem zy3 : zm_tb.getD 3 [] = zm_t3 := rfl
theorem zy4 : zm_tb.getD 4 [] = zm_t4 := rfl
theorem zy5 : zm_tb.getD 5 [] = zm_t5 := rfl
theorem zy6 : zm_tb.getD 6 [] = zm_t6 := rfl
theorem zy7 : zm_tb.getD 7 [] = zm_t7 := rfl
theorem zy8 : zm_tb.getD 8 [] = zm_t8 := rfl
theorem zy9 : zm_tb.getD 9 [] = zm_t9 := rfl
theorem zy10 : zm_tb.getD 10 [] = zm_t10 := rfl
theorem zy11 : zm_tb.getD 11 [] = zm_t11 := rfl
theorem zy12 : zm_tb.getD 12 [] = zm_t12 := rfl
theorem zy13 : zm_tb.getD 13 [] = zm_t13 := rfl
theorem zy14 : zm_tb.getD 14 [] = zm_t14 := rfl
theorem zy15 : zm_tb.getD 15 [] = zm_t15 := rfl
theorem zy16 : zm_tb.getD 16 [] = zm_t16 := rfl
theorem zy17 : zm_tb.getD 17 [] = zm_t17 := rfl
theorem zy18 : zm_tb.getD 18 [] = zm_t18 := rfl
theorem zy19 : zm_tb.getD 19 [] = zm_t19 := rfl
theorem zy20 : zm_tb.getD 20 [] = zm_t20 := rfl
theorem zy21 : zm_tb.getD 21 [] = zm_t21 := rfl
theorem zy22 : zm_tb.getD 22 [] = zm_t22 := rfl
theorem zy23 : zm_tb.getD 23 [] = zm_t23 := rfl
theorem zy24 : zm_tb.getD 24 [] = zm_t24 := rfl
theorem zy25 : zm_tb.getD 25 [] = zm_t25 := rfl
theorem zy26 : zm_tb.getD 26 [] = zm_t26 := rfl
theorem zy27 : zm_tb.getD 27 [] = zm_t27 := rfl
theorem zy28 : zm_tb.getD 28 [] = zm_t28 := rfl
theorem zy29 : zm_tb.getD 29 [] = zm_t29 := rfl
theorem zy30 : zm_tb.getD 30 [] = zm_t30 := rfl
theorem zy31 : zm_tb.getD 31 [] = zm_t31 := rfl
theorem zy32 : zm_tb.getD 32 [] = zm_t32 := rfl
theorem zy33 : zm_tb.getD 33 [] = zm_t33 := rfl
theorem zy34 : zm_tb.getD 34 [] = zm_t34 := rfl
theorem zy35 : zm_tb.getD 35 [] = zm_t35 := rfl
theorem zy36 : zm_tb.getD 36 [] = zm_t36 := rfl
theorem zy37 : zm_tb.getD 37 [] = zm_t37 := rfl
theorem zy38 : zm_tb.getD 38 [] = zm_t38 := rfl
theorem zy39 : zm_tb.getD 39 [] = zm_t39 := rfl
theorem zy40 : zm_tb.getD 40 [] = zm_t40 := rfl
theorem zy41 : zm_tb.getD 41 [] = zm_t41 := rfl
theorem zy42 : zm_tb.getD 42 [] = zm_t42 := rfl
theorem zy43 : zm_tb.getD 43 [] = zm_t43 := rfl
theorem zy44 : zm_tb.getD 44 [] = zm_t44 := rfl
theorem zy45 : zm_tb.getD 45 [] = zm_t45 := rfl
theorem zy46 : zm_tb.getD 46 [] = zm_t46 := rfl
theorem zy47 : zm_tb.getD 47 [] = zm_t47 := rfl
theorem zy48 : zm_tb.getD 48 [] = zm_t48 := rfl
theorem zy49 : zm_tb.getD 49 [] = zm_t49 := rfl
theorem zy50 : zm_tb.getD 50 [] = zm_t50 := rfl
theorem zy51 : zm_tb.getD 51 [] = zm_t51 := rfl
theorem zy52 : zm_tb.getD 52 [] = zm_t52 := rfl
theorem zy53 : zm_tb.getD 53 [] = zm_t53 := rfl
theorem zy54 : zm_tb.getD 54 [] = zm_t54 := rfl
theorem zy55 : zm_tb.getD 55 [] = zm_t55 := rfl
theorem zy56 : zm_tb.getD 56 [] = zm_t56 := rfl
theorem zy57 : zm_tb.getD 57 [] = zm_t57 := rfl
theorem zy58 : zm_tb.getD 58 [] = zm_t58 := rfl
theorem zy59 : zm_tb.getD 59 [] = zm_t59 := rfl
theorem zy60 : zm_tb.getD 60 [] = zm_t60 := rfl
theorem zy61 : zm_tb.getD 61 [] = zm_t61 := rfl
theorem zy62 : zm_tb.getD 62 [] = zm_t62 := rfl
theorem zy63 : zm_tb.getD 63 [] = zm_t63 := rfl
theorem zy64 : zm_tb.getD 64 [] = zm_t64 := rfl
theorem zy65 : zm_tb.getD 65 [] = zm_t65 := rfl
theorem zy66 : zm_tb.getD 66 [] = zm_t66 := rfl
theorem zy67 : zm_tb.getD 67 [] = zm_t67 := rfl
theorem zy68 : zm_tb.getD 68 [] = zm_t68 := rfl
theorem zy69 : zm_tb.getD 69 [] = zm_t69 := rfl
theorem zy70 : zm_tb.getD 70 [] = zm_t70 := rfl
theorem zy71 : zm_tb.getD 71 [] = zm_t71 := rfl
theorem zy72 : zm_tb.getD 72 [] = zm_t72 := rfl
theorem zy73 : zm_tb.getD 73 [] = zm_t73 := rfl
theorem zy74 : zm_tb.getD 74 [] = zm_t74 := rfl
theorem zy75 : zm_tb.getD 75 [] = zm_t75 := rfl
theorem zy76 : zm_tb.getD 76 [] = zm_t76 := rfl
theorem zy77 : zm_tb.getD 77 [] = zm_t77 := rfl
theorem zy78 : zm_tb.getD 78 [] = zm_t78 := rfl
theorem zy79 : zm_tb.getD 79 [] = zm_t79 := rfl
theorem zy80 : zm_tb.getD 80 [] = zm_t80 := rfl
theorem zy81 : zm_tb.getD 81 [] = zm_t81 := rfl
theorem zy82 : zm_tb.getD 82 [] = zm_t82 := rfl
theorem zy83 : zm_tb.getD 83 [] = zm_t83 := rfl
theorem zy84 : zm_tb.getD 84 [] = zm_t84 := rfl
theorem zy85 : zm_tb.getD 85 [] = zm_t85 := rfl
theorem zy86 : zm_tb.getD 86 [] = zm_t86 := rfl
theorem zy87 : zm_tb.getD 87 [] = zm_t87 := rfl
theorem zy88 : zm_tb.getD 88 [] = zm_t88 := rfl
theorem zy89 : zm_tb.getD 89 [] = zm_t89 := rfl
theorem zy90 : zm_tb.getD 90 [] = zm_t90 := rfl
theorem zy91 : zm_tb.getD 91 [] = zm_t91 := rfl
theorem zy92 : zm_tb.getD 92 [] = zm_t92 := rfl
theorem zy93 : zm_tb.getD 93 [] = zm_t93 := rfl
theorem zy94 : zm_tb.getD 94 [] = zm_t94 := rfl
theorem zy95 : zm_tb.getD 95 [] = zm_t95 := rfl
theorem zy96 : zm_tb.getD 96 [] = zm_t96 := rfl
theorem zy97 : zm_tb.getD 97 [] = zm_t97 := rfl
theorem zy98 : zm_tb.getD 98 [] = zm_t98 := rfl
theorem zy99 : zm_tb.getD 99 [] = zm_t99 := rfl
theorem zy100 : zm_tb.getD 100 [] = zm_t100 := rfl
theorem zy101 : zm_tb.getD 101 [] = zm_t101 := rfl
theorem zy102 : zm_tb.getD 102 [] = zm_t102 := rfl
theorem zy103 : zm_tb.getD 103 [] = zm_t103 := rfl
theorem zy104 : zm_tb.getD 104 [] = zm_t104 := rfl
theorem zy105 : zm_tb.getD 105 [] = zm_t105 := rfl
theorem zy106 : zm_tb.getD 106 [] = zm_t106 := rfl
theorem zy107 : zm_tb.getD 107 [] = zm_t107 := rfl
theorem zy108 : zm_tb.getD 108 [] = zm_t108 := rfl
theorem zy109 : zm_tb.getD 109 [] = zm_t109 := rfl
theorem zy110 : zm_tb.getD 110 [] = zm_t110 := rfl
theorem zy111 : zm_tb.getD 111 [] = zm_t111 := rfl
theorem zy112 : zm_tb.getD 112 [] = zm_t112 := rfl
theorem zy113 : zm_tb.getD 113 [] = zm_t113 := rfl
theorem zy114 : zm_tb.getD 114 [] = zm_t114 := rfl
theorem zy115 : zm_tb.getD 115 [] = zm_t115 := rfl
theorem zy116 : zm_tb.getD 116 [] = zm_t116 := rfl
theorem zy117 : zm_tb.getD 117 [] = zm_t117 := rfl
theorem zy118 : zm_tb.getD 118 [] = zm_t118 := rfl
theorem zy119 : zm_tb.getD 119 [] = zm_t119 := rfl
theorem zy120 : zm_tb.getD 120 [] = zm_t120 := rfl
theorem zy121 : zm_tb.getD 121 [] = zm_t121 := rfl
theorem zy122 : zm_tb.getD 122 [] = zm_t122 := rfl
theorem zy123 : zm_tb.getD 123 [] = zm_t123 := rfl
theorem zy124 : zm_tb.getD 124 [] = zm_t124 := rfl
theorem zy125 : zm_tb.getD 125 [] = zm_t125 := rfl
theorem zy126 : zm_tb.getD 126 [] = zm_t126 := rfl
theorem zy127 : zm_tb.getD 127 [] = zm_t127 := rfl
theorem zy128 : zm_tb.getD 128 [] = zm_t128 := rfl
theorem zy129 : zm_tb.getD 129 [] = zm_t129 := rfl
theorem zy130 : zm_tb.getD 130 [] = zm_t130 := rfl
theorem zy131 : zm_tb.getD 131 [] = zm_t131 := rfl
theorem zy132 : zm_tb.getD 132 [] = zm_t132 := rfl
theorem zy133 : zm_tb.getD 133 [] = zm_t133 := rfl
theorem zy134 : zm_tb.getD 134 [] = zm_t134 := rfl
theorem zy135 : zm_tb.getD 135 [] = zm_t135 := rfl
theorem zy136 : zm_tb.getD 136 [] = zm_t136 := rfl
theorem zy137 : zm_tb.getD 137 [] = zm_t137 := rfl
theorem zy138 : zm_tb.getD 138 [] = zm_t138 := rfl
theorem zy139 : zm_tb.getD 139 [] = zm_t139 := rfl
theorem zy140 : zm_tb.getD 140 [] = zm_t140 := rfl
theorem zy141 : zm_tb.getD 141 [] = zm_t141 := rfl
theorem zy142 : zm_tb.getD 142 [] = zm_t142 := rfl
theorem zy143 : zm_tb.getD 143 [] = zm_t143 := rfl
theorem zy144 : zm_tb.getD 144 [] = zm_t144 := rfl
theorem zy145 : zm_tb.getD 145 [] = zm_t145 := rfl
theorem zy146 : zm_tb.getD 146 [] = zm_t146 := rfl
theorem zy147 : zm_tb.getD 147 [] = zm_t147 := rfl
theorem zy148 : zm_tb.getD 148 [] = zm_t148 := rfl
theorem zy149 : zm_tb.getD 149 [] = zm_t149 := rfl
theorem zy150 : zm_tb.getD 150 [] = zm_t150 := rfl
theorem zy151 : zm_tb.getD 151 [] = zm_t151 := rfl
theorem zy152 : zm_tb.getD 152 [] = zm_t152 := rfl
theorem zy153 : zm_tb.getD 153 [] = zm_t153 := rfl
theorem zy154 : zm_tb.getD 154 [] = zm_t154 := rfl
theorem zy155 : zm_tb.getD 155 [] = zm_t155 := rfl
theorem zy156 : zm_tb.getD 156 [] = zm_t156 := rfl
theorem zy157 : zm_tb.getD 157 [] = zm_t157 := rfl
theorem zy158 : zm_tb.getD 158 [] = zm_t158 := rfl
theorem zy159 : zm_tb.getD 159 [] = zm_t159 := rfl
theorem zy160 : zm_tb.getD 160 [] = zm_t160 := rfl
theorem zy161 : zm_tb.getD 161 [] = zm_t161 := rfl
theorem zy162 : zm_tb.getD 162 [] = zm_t162 := rfl
theorem zy163 : zm_tb.getD 163 [] = zm_t163 := rfl
theorem zy164 : zm_tb.getD 164 [] = zm_t164 := rfl
theorem zy165 : zm_tb.getD 165 [] = zm_t165 := rfl
theorem zy166 : zm_tb.getD 166 [] = zm_t166 := rfl
theorem zy167 : zm_tb.getD 167 [] = zm_t167 := rfl
theorem zy168 : zm_tb.getD 168 [] = zm_t168 := rfl
theorem zy169 : zm_tb.getD 169 [] = zm_t169 := rfl
theorem zy170 : zm_tb.getD 170 [] = zm_t170 := rfl
theorem zy171 : zm_tb.getD 171 [] = zm_t171 := rfl
theorem zy172 : zm_tb.getD 172 [] = zm_t172 := rfl
theorem zy173 : zm_tb.getD 173 [] = zm_t173 := rfl
theorem zy174 : zm_tb.getD 174 [] = zm_t174 := rfl
theorem zy175 : zm_tb.getD 175 [] = zm_t175 := rfl
theorem zy176 : zm_tb.getD 176 [] = zm_t176 := rfl
theorem zy177 : zm_tb.getD 177 [] = zm_t177 := rfl
theorem zy178 : zm_tb.getD 178 [] = zm_t178 := rfl
theorem zy179 : zm_tb.getD 179 [] = zm_t179 := rfl
theorem zy180 : zm_tb.getD 180 [] = zm_t180 := rfl
theorem zy181 : zm_tb.getD 181 [] = zm_t181 := rfl
theorem zy182 : zm_tb.getD 182 [] = zm_t182 := rfl
theorem zy183 : zm_tb.getD 183 [] = zm_t183 := rfl
theorem zy184 : zm_tb.getD 184 [] = zm_t184 := rfl
theorem zy185 : zm_tb.getD 185 [] = zm_t185 := rfl
theorem zy186 : zm_tb.getD 186 [] = zm_t186 := rfl
theorem zy187 : zm_tb.getD 187 [] = zm_t187 := rfl
theorem zy188 : zm_tb.getD 188 [] = zm_t188 := rfl
theorem zy189 : zm_tb.getD 189 [] = zm_t189 := rfl
theorem zy190 : zm_tb.getD 190 [] = zm_t190 := rfl
theorem zy191 : zm_tb.getD 191 [] = zm_t191 := rfl
theorem zy192 : zm_tb.getD 192 [] = zm_t192 := rfl
theorem zy193 : zm_tb.getD 193 [] = zm_t193 := rfl
theorem zy194 : zm_tb.getD 194 [] = zm_t194 := rfl
theorem zy195 : zm_tb.getD 195 [] = zm_t195 := rfl
theorem zy196 : zm_tb.getD 196 [] = zm_t196 := rfl
theorem zy197 : zm_tb.getD 197 [] = zm_t197 := rfl
theorem zy198 : zm_tb.getD 198 [] = zm_t198 := rfl
theorem zy199 : zm_tb.getD 199 [] = zm_t199 := rfl
theorem zy200 : zm_tb.getD 200 [] = zm_t200 := rfl
theorem zy201 : zm_tb.getD 201 [] = zm_t201 := rfl
theorem zy202 : zm_tb.getD 202 [] = zm_t202 := rfl
theorem zy203 : zm_tb.getD 203 [] = zm_t203 := rfl
theorem zy204 : zm_tb.getD 204 [] = zm_t204 := rfl
theorem zy205 : zm_tb.getD 205 [] = zm_t205 := rfl
theorem zy206 : zm_tb.getD 206 [] = zm_t206 := rfl
theorem zy207 : zm_tb.getD 207 [] = zm_t207 := rfl
theorem zy208 : zm_tb.getD 208 [] = zm_t208 := rfl
theorem zy209 : zm_tb.getD 209 [] = zm_t209 := rfl
theorem zy210 : zm_tb.getD 210 [] = zm_t210 := rfl
theorem zy211 : zm_tb.getD 211 [] = zm_t211 := rfl
theorem zy212 : zm_tb.getD 212 [] = zm_t212 := rfl
theorem zy213 : zm_tb.getD 213 [] = zm_t213 := rfl
end
section
/-! What each method does, worked out along its instructions. Printed by wip/whole/gen_segs.py. -/
set_option maxRecDepth 100000 in
theorem zg_J7_fill_r65 {d : Nat} {M : zm_M} {Q : zm_M → Prop} {a0 : Int32} (h : zt d 213 5 [some (.ref 65), some (.int a0), some (.int 0), some (.int 12)] [] M (zPv Q)) : zv (d) 213 [.ref 65, .int a0] M Q := zv_of (ls := [some (.ref 65), some (.int a0), none, none]) rfl (zr_iconst (pc := 0) zy213 rfl (v := 0) rfl (zr_istore_n (pc := 1) zy213 rfl (ls' := [some (.ref 65), some (.int a0), some (.int 0), none]) rfl (zr_aload_n (pc := 2) zy213 rfl rfl (zr_alen (pc := 3) zy213 rfl (v := 12) rfl (zr_istore_n (pc := 4) zy213 rfl (ls' := [some (.ref 65), some (.int a0), some (.int 0), some (.int 12)]) rfl (h))))))
set_option maxRecDepth 100000 in
theorem zg_J7_fill_r77 {d : Nat} {M : zm_M} {Q : zm_M → Prop} {a0 : Int32} (h : zt d 213 5 [some (.ref 77), some (.int a0), some (.int 0), some (.int 24)] [] M (zPv Q)) : zv (d) 213 [.ref 77, .int a0] M Q := zv_of (ls := [some (.ref 77), some (.int a0), none, none]) rfl (zr_iconst (pc := 0) zy213 rfl (v := 0) rfl (zr_istore_n (pc := 1) zy213 rfl (ls' := [some (.ref 77), some (.int a0), some (.int 0), none]) rfl (zr_aload_n (pc := 2) zy213 rfl rfl (zr_alen (pc := 3) zy213 rfl (v := 24) rfl (zr_istore_n (pc := 4) zy213 rfl (ls' := [some (.ref 77), some (.int a0), some (.int 0), some (.int 24)]) rfl (h))))))
set_option maxRecDepth 100000 in
theorem zg_J7_fill_r78 {d : Nat} {M : zm_M} {Q : zm_M → Prop} {a0 : Int32} (h : zt d 213 5 [some (.ref 78), some (.int a0), some (.int 0), some (.int 24)] [] M (zPv Q)) : zv (d) 213 [.ref 78, .int a0] M Q := zv_of (ls := [some (.ref 78), some (.int a0), none, none]) rfl (zr_iconst (pc := 0) zy213 rfl (v := 0) rfl (zr_istore_n (pc := 1) zy213 rfl (ls' := [some (.ref 78), some (.int a0), some (.int 0), none]) rfl (zr_aload_n (pc := 2) zy213 rfl rfl (zr_alen (pc := 3) zy213 rfl (v := 24) rfl (zr_istore_n (pc := 4) zy213 rfl (ls' := [some (.ref 78), some (.int a0), some (.int 0), some (.int 24)]) rfl (h))))))
set_option maxRecDepth 100000 in
theorem zg_J7_fill_r79 {d : Nat} {M : zm_M} {Q : zm_M → Prop} {a0 : Int32} (h : zt d 213 5 [some (.ref 79), some (.int a0), some (.int 0), some (.int 24)] [] M (zPv Q)) : zv (d) 213 [.ref 79, .int a0] M Q := zv_of (ls := [some (.ref 79), some (.int a0), none, none]) rfl (zr_iconst (pc := 0) zy213 rfl (v := 0) rfl (zr_istore_n (pc := 1) zy213 rfl (ls' := [some (.ref 79), some (.int a0), some (.int 0), none]) rfl (zr_aload_n (pc := 2) zy213 rfl rfl (zr_alen (pc := 3) zy213 rfl (v := 24) rfl (zr_istore_n (pc := 4) zy213 rfl (ls' := [some (.ref 79), some (.int a0), some (.int 0), some (.int 24)]) rfl (h))))))
set_option maxRecDepth 100000 in
theorem zg_J7_fill_r80 {d : Nat} {M : zm_M} {Q : zm_M → Prop} {a0 : Int32} (h : zt d 213 5 [some (.ref 80), some (.int a0), some (.int 0), some (.int 24)] [] M (zPv Q)) : zv (d) 213 [.ref 80, .int a0] M Q := zv_of (ls := [some (.ref 80), some (.int a0), none, none]) rfl (zr_iconst (pc := 0) zy213 rfl (v := 0) rfl (zr_istore_n (pc := 1) zy213 rfl (ls' := [some (.ref 80), some (.int a0), some (.int 0), none]) rfl (zr_aload_n (pc := 2) zy213 rfl rfl (zr_alen (pc := 3) zy213 rfl (v := 24) rfl (zr_istore_n (pc := 4) zy213 rfl (ls' := [some (.ref 80), some (.int a0), some (.int 0), some (.int 24)]) rfl (h))))))
set_option maxRecDepth 100000 in
theorem zg_J7_fill_r65_p5 {d : Nat} {M : zm_M} {Q : zm_M → Prop} {v1 : Int32} {v2 : Int32} {v3 : Int32} (h : (v2 < v3 → zm_inb v2 12 = true ∧ (zt d 213 5 [some (.ref 65), some (.int v1), some (.int (v2 + 1)), some (.int v3)] [] (zm_si M 65 v2.toNatClampNeg v1) (zPv Q))) ∧ (¬ v2 < v3 → Q M)) : zt (d) 213 5 [some (.ref 65), some (.int v1), some (.int v2), some (.int v3)] [] M (zPv Q) := zr_iload_n (pc := 5) zy213 rfl rfl (zr_iload_n (pc := 6) zy213 rfl rfl (zae h (fun p3 q4 => zr_icmp_ge (pc := 7) zy213 rfl (t := 20) rfl (fun c5 => zr_aload_n (pc := 10) zy213 rfl rfl (zr_iload_n (pc := 11) zy213 rfl rfl (zr_iload_n (pc := 12) zy213 rfl rfl (zae (p3 c5) (fun b1 g2 => zr_ast (pc := 13) zy213 rfl (n := 12) rfl rfl b1 (zr_iinc (pc := 14) zy213 rfl (ls' := [some (.ref 65), some (.int v1), some (.int (v2 + 1)), some (.int v3)]) rfl (zr_goto (pc := 17) zy213 rfl (t := 5) rfl (g2)))))))) (fun c5 => zr_return (pc := 20) zy213 rfl rfl ((q4 c5))))))
set_option maxRecDepth 100000 in
theorem zg_J7_fill_r77_p5 {d : Nat} {M : zm_M} {Q : zm_M → Prop} {v1 : Int32} {v2 : Int32} {v3 : Int32} (h : (v2 < v3 → zm_inb v2 24 = true ∧ (zt d 213 5 [some (.ref 77), some (.int v1), some (.int (v2 + 1)), some (.int v3)] [] (zm_si M 77 v2.toNatClampNeg v1) (zPv Q))) ∧ (¬ v2 < v3 → Q M)) : zt (d) 213 5 [some (.ref 77), some (.int v1), some (.int v2), some (.int v3)] [] M (zPv Q) := zr_iload_n (pc := 5) zy213 rfl rfl (zr_iload_n (pc := 6) zy213 rfl rfl (zae h (fun p3 q4 => zr_icmp_ge (pc := 7) zy213 rfl (t := 20) rfl (fun c5 => zr_aload_n (pc := 10) zy213 rfl rfl (zr_iload_n (pc := 11) zy213 rfl rfl (zr_iload_n (pc := 12) zy213 rfl rfl (zae (p3 c5) (fun b1 g2 => zr_ast (pc := 13) zy213 rfl (n := 24) rfl rfl b1 (zr_iinc (pc := 14) zy213 rfl (ls' := [some (.ref 77), some (.int v1), some (.int (v2 + 1)), some (.int v3)]) rfl (zr_goto (pc := 17) zy213 rfl (t := 5) rfl (g2)))))))) (fun c5 => zr_return (pc := 20) zy213 rfl rfl ((q4 c5))))))
set_option maxRecDepth 100000 in
theorem zg_J7_fill_r78_p5 {d : Nat} {M : zm_M} {Q : zm_M → Prop} {v1 : Int32} {v2 : Int32} {v3 : Int32} (h : (v2 < v3 → zm_inb v2 24 = true ∧ (zt d 213 5 [some (.ref 78), some (.int v1), some (.int (v2 + 1)), some (.int v3)] [] (zm_si M 78 v2.toNatClampNeg v1) (zPv Q))) ∧ (¬ v2 < v3 → Q M)) : zt (d) 213 5 [some (.ref 78), some (.int v1), some (.int v2), some (.int v3)] [] M (zPv Q) := zr_iload_n (pc := 5) zy213 rfl rfl (zr_iload_n (pc := 6) zy213 rfl rfl (zae h (fun p3 q4 => zr_icmp_ge (pc := 7) zy213 rfl (t := 20) rfl (fun c5 => zr_aload_n (pc := 10) zy213 rfl rfl (zr_iload_n (pc := 11) zy213 rfl rfl (zr_iload_n (pc := 12) zy213 rfl rfl (zae (p3 c5) (fun b1 g2 => zr_ast (pc := 13) zy213 rfl (n := 24) rfl rfl b1 (zr_iinc (pc := 14) zy213 rfl (ls' := [some (.ref 78), some (.int v1), some (.int (v2 + 1)), some (.int v3)]) rfl (zr_goto (pc := 17) zy213 rfl (t := 5) rfl (g2)))))))) (fun c5 => zr_return (pc := 20) zy213 rfl rfl ((q4 c5))))))
set_option maxRecDepth 100000 in
theorem zg_J7_fill_r79_p5 {d : Nat} {M : zm_M} {Q : zm_M → Prop} {v1 : Int32} {v2 : Int32} {v3 : Int32} (h : (v2 < v3 → zm_inb v2 24 = true ∧ (zt d 213 5 [some (.ref 79), some (.int v1), some (.int (v2 + 1)), some (.int v3)] [] (zm_si M 79 v2.toNatClampNeg v1) (zPv Q))) ∧ (¬ v2 < v3 → Q M)) : zt (d) 213 5 [some (.ref 79), some (.int v1), some (.int v2), some (.int v3)] [] M (zPv Q) := zr_iload_n (pc := 5) zy213 rfl rfl (zr_iload_n (pc := 6) zy213 rfl rfl (zae h (fun p3 q4 => zr_icmp_ge (pc := 7) zy213 rfl (t := 20) rfl (fun c5 => zr_aload_n (pc := 10) zy213 rfl rfl (zr_iload_n (pc := 11) zy213 rfl rfl (zr_iload_n (pc := 12) zy213 rfl rfl (zae (p3 c5) (fun b1 g2 => zr_ast (pc := 13) zy213 rfl (n := 24) rfl rfl b1 (zr_iinc (pc := 14) zy213 rfl (ls' := [some (.ref 79), some (.int v1), some (.int (v2 + 1)), some (.int v3)]) rfl (zr_goto (pc := 17) zy213 rfl (t := 5) rfl (g2)))))))) (fun c5 => zr_return (pc := 20) zy213 rfl rfl ((q4 c5))))))
set_option maxRecDepth 100000 in
theorem zg_J7_fill_r80_p5 {d : Nat} {M : zm_M} {Q : zm_M → Prop} {v1 : Int32} {v2 : Int32} {v3 : Int32} (h : (v2 < v3 → zm_inb v2 24 = true ∧ (zt d 213 5 [some (.ref 80), some (.int v1), some (.int (v2 + 1)), some (.int v3)] [] (zm_si M 80 v2.toNatClampNeg v1) (zPv Q))) ∧ (¬ v2 < v3 → Q M)) : zt (d) 213 5 [some (.ref 80), some (.int v1), some (.int v2), some (.int v3)] [] M (zPv Q) := zr_iload_n (pc := 5) zy213 rfl rfl (zr_iload_n (pc := 6) zy213 rfl rfl (zae h (fun p3 q4 => zr_icmp_ge (pc := 7) zy213 rfl (t := 20) rfl (fun c5 => zr_aload_n (pc := 10) zy213 rfl rfl (zr_iload_n (pc := 11) zy213 rfl rfl (zr_iload_n (pc := 12) zy213 rfl rfl (zae (p3 c5) (fun b1 g2 => zr_ast (pc := 13) zy213 rfl (n := 24) rfl rfl b1 (zr_iinc (pc := 14) zy213 rfl (ls' := [some (.ref 80), some (.int v1), some (.int (v2 + 1)), some (.int v3)]) rfl (zr_goto (pc := 17) zy213 rfl (t := 5) rfl (g2)))))))) (fun c5 => zr_return (pc := 20) zy213 rfl rfl ((q4 c5))))))
set_option maxRecDepth 100000 in
theorem zg_J0_indexOf_r110 {d : Nat} {M : zm_M} {Q : Int32 → zm_M → Prop} {a0 : Int32} (h : (a0 < (0 : Int32) → Q (-1) M) ∧ (¬ a0 < (0 : Int32) → ((255 : Int32) < a0 → Q (-1) M) ∧ (¬ (255 : Int32) < a0 → ((if (0 : Int32) < 0 then 0 else 0) < (if (5 : Int32) < ((5 : Int32) >>> ((0 : Int32) &&& 31)) then 5 else ((5 : Int32) >>> ((0 : Int32) &&& 31))) → zi d 212 [.ref 112, .int a0, .int (if (0 : Int32) < 0 then 0 else 0), .int (if (5 : Int32) < ((5 : Int32) >>> ((0 : Int32) &&& 31)) then 5 else ((5 : Int32) >>> ((0 : Int32) &&& 31)))] M (fun x2 M1 => Q x2 M1)) ∧ (¬ (if (0 : Int32) < 0 then 0 else 0) < (if (5 : Int32) < ((5 : Int32) >>> ((0 : Int32) &&& 31)) then 5 else ((5 : Int32) >>> ((0 : Int32) &&& 31))) → Q (-1) M)))) : zi (d + 3) 205 [.ref 110, .int a0] M Q := zi_of (ls := [some (.ref 110), some (.int a0)]) rfl (zr_aload_n (pc := 0) zy205 rfl rfl (zr_iload_n (pc := 1) zy205 rfl rfl (zr_iconst (pc := 2) zy205 rfl (v := 0) rfl (zr_iniv (pc := 3) zy205 rfl (y9 := 206) (as := [.ref 110, .int a0, .int 0]) (r := []) rfl rfl  (zi_of (ls := [some (.ref 110), some (.int a0), some (.int 0)]) rfl (zr_aload_n (pc := 0) zy206 rfl rfl (zr_iniv (pc := 1) zy206 rfl (y9 := 207) (as := [.ref 110]) (r := []) rfl rfl  (zi_of (ls := [some (.ref 110)]) rfl (zr_gets (pc := 0) zy207 rfl (vv := .int 1) rfl (zr_if_eq (pc := 3) zy207 rfl (t := 17) rfl (fun c => absurd c (by decide)) (fun _ => zr_aload_n (pc := 6) zy207 rfl rfl (zr_get (pc := 7) zy207 rfl (vv := .int 0) rfl (zr_if_ne (pc := 10) zy207 rfl (t := 17) rfl (fun _ => zr_iconst (pc := 13) zy207 rfl (v := 1) rfl (zr_goto (pc := 14) zy207 rfl (t := 18) rfl (zr_zreturn (pc := 18) zy207 rfl rfl (by decide) (zr_if_eq (pc := 4) zy206 rfl (t := 23) rfl (fun c => absurd c (by decide)) (fun _ => zr_aload_n (pc := 7) zy206 rfl rfl (zr_get (pc := 8) zy206 rfl (vv := .ref 112) rfl (zr_iload_n (pc := 11) zy206 rfl rfl (zr_iload_n (pc := 12) zy206 rfl rfl (zr_aload_n (pc := 13) zy206 rfl rfl (zr_iniv (pc := 14) zy206 rfl (y9 := 208) (as := [.ref 110]) (r := [.int 0, .int a0, .ref 112]) rfl rfl  (zi_of (ls := [some (.ref 110)]) rfl (zr_aload_n (pc := 0) zy208 rfl rfl (zr_get (pc := 1) zy208 rfl (vv := .ref 112) rfl (zr_alen (pc := 4) zy208 rfl (v := 5) rfl (zr_aload_n (pc := 5) zy208 rfl rfl (zr_iniv (pc := 6) zy208 rfl (y9 := 209) (as := [.ref 110]) (r := [.int 5]) rfl rfl  (zi_of (ls := [some (.ref 110)]) rfl (zr_gets (pc := 0) zy209 rfl (vv := .int 1) rfl (zr_if_eq (pc := 3) zy209 rfl (t := 13) rfl (fun c => absurd c (by decide)) (fun _ => zr_aload_n (pc := 6) zy209 rfl rfl (zr_get (pc := 7) zy209 rfl (vv := .int 0) rfl (zr_goto (pc := 10) zy209 rfl (t := 14) rfl (zr_breturn (pc := 14) zy209 rfl rfl (by decide) (zr_ishr (pc := 9) zy208 rfl  (zr_ireturn (pc := 10) zy208 rfl rfl (zr_inis (pc := 17) zy206 rfl (y9 := 211) (as := [.ref 112, .int a0, .int 0, .int ((5 : Int32) >>> ((0 : Int32) &&& 31))]) (r := []) rfl rfl rfl  (zi_of (ls := [some (.ref 112), some (.int a0), some (.int 0), some (.int ((5 : Int32) >>> ((0 : Int32) &&& 31)))]) rfl (zr_iload_n (pc := 0) zy211 rfl rfl (zr_inis (pc := 1) zy211 rfl (y9 := 210) (as := [.int a0]) (r := []) rfl rfl rfl  (zi_of (ls := [some (.int a0)]) rfl (zr_iload_n (pc := 0) zy210 rfl rfl (zae h (fun p10 q11 => zr_if_lt (pc := 1) zy210 rfl (t := 15) rfl (fun c12 => zr_iconst (pc := 15) zy210 rfl (v := 0) rfl (zr_zreturn (pc := 16) zy210 rfl rfl (by decide) (zr_if_ne (pc := 4) zy211 rfl (t := 9) rfl (fun _ => zr_iconst (pc := 7) zy211 rfl (v := (-1)) rfl (zr_ireturn (pc := 8) zy211 rfl rfl (zr_goto (pc := 20) zy206 rfl (t := 36) rfl (zr_ireturn (pc := 36) zy206 rfl rfl (zr_ireturn (pc := 6) zy205 rfl rfl ((p10 c12))))))) (fun c => (c (by decide)).elim)))) (fun c12 => zr_iload_n (pc := 4) zy210 rfl rfl (zr_sipush (pc := 5) zy210 rfl (v := 255) rfl (zae (q11 c12) (fun p7 q8 => zr_icmp_gt (pc := 8) zy210 rfl (t := 15) rfl (fun c9 => zr_iconst (pc := 15) zy210 rfl (v := 0) rfl (zr_zreturn (pc := 16) zy210 rfl rfl (by decide) (zr_if_ne (pc := 4) zy211 rfl (t := 9) rfl (fun _ => zr_iconst (pc := 7) zy211 rfl (v := (-1)) rfl (zr_ireturn (pc := 8) zy211 rfl rfl (zr_goto (pc := 20) zy206 rfl (t := 36) rfl (zr_ireturn (pc := 36) zy206 rfl rfl (zr_ireturn (pc := 6) zy205 rfl rfl ((p7 c9))))))) (fun c => (c (by decide)).elim)))) (fun c9 => zr_iconst (pc := 11) zy210 rfl (v := 1) rfl (zr_goto (pc := 12) zy210 rfl (t := 16) rfl (zr_zreturn (pc := 16) zy210 rfl rfl (by decide) (zr_if_ne (pc := 4) zy211 rfl (t := 9) rfl (fun c => absurd c (by decide)) (fun _ => zr_iload_n (pc := 9) zy211 rfl rfl (zr_iconst (pc := 10) zy211 rfl (v := 0) rfl (zr_max (pc := 11) zy211 rfl rfl rfl (zr_istore_n (pc := 14) zy211 rfl (ls' := [some (.ref 112), some (.int a0), some (.int (if (0 : Int32) < 0 then 0 else 0)), some (.int ((5 : Int32) >>> ((0 : Int32) &&& 31)))]) rfl (zr_iload_n (pc := 15) zy211 rfl rfl (zr_aload_n (pc := 16) zy211 rfl rfl (zr_alen (pc := 17) zy211 rfl (v := 5) rfl (zr_min (pc := 18) zy211 rfl rfl rfl (zr_istore_n (pc := 21) zy211 rfl (ls' := [some (.ref 112), some (.int a0), some (.int (if (0 : Int32) < 0 then 0 else 0)), some (.int (if (5 : Int32) < ((5 : Int32) >>> ((0 : Int32) &&& 31)) then 5 else ((5 : Int32) >>> ((0 : Int32) &&& 31))))]) rfl (zr_iload_n (pc := 22) zy211 rfl rfl (zr_iload_n (pc := 23) zy211 rfl rfl (zae (q8 c9) (fun p4 q5 => zr_icmp_lt (pc := 24) zy211 rfl (t := 29) rfl (fun c6 => zr_aload_n (pc := 29) zy211 rfl rfl (zr_iload_n (pc := 30) zy211 rfl rfl (zr_iload_n (pc := 31) zy211 rfl rfl (zr_iload_n (pc := 32) zy211 rfl rfl (zr_callis (pc := 33) zy211 rfl (y9 := 212) (as := [.ref 112, .int a0, .int (if (0 : Int32) < 0 then 0 else 0), .int (if (5 : Int32) < ((5 : Int32) >>> ((0 : Int32) &&& 31)) then 5 else ((5 : Int32) >>> ((0 : Int32) &&& 31)))]) (r := []) rfl rfl rfl (p4 c6) (fun x2 M1 g3 => zr_ireturn (pc := 36) zy211 rfl rfl (zr_goto (pc := 20) zy206 rfl (t := 36) rfl (zr_ireturn (pc := 36) zy206 rfl rfl (zr_ireturn (pc := 6) zy205 rfl rfl (g3)))))))))) (fun c6 => zr_iconst (pc := 27) zy211 rfl (v := (-1)) rfl (zr_ireturn (pc := 28) zy211 rfl rfl (zr_goto (pc := 20) zy206 rfl (t := 36) rfl (zr_ireturn (pc := 36) zy206 rfl rfl (zr_ireturn (pc := 6) zy205 rfl rfl ((q5 c6))))))))))))))))))))))))))))))))))))))))))))))))))))))))))))) (fun c => (c (by decide)).elim))))))))))))))
set_option maxRecDepth 100000 in
theorem zg_J0_indexOf_r111 {d : Nat} {M : zm_M} {Q : Int32 → zm_M → Prop} {a0 : Int32} (h : (a0 < (0 : Int32) → Q (-1) M) ∧ (¬ a0 < (0 : Int32) → ((255 : Int32) < a0 → Q (-1) M) ∧ (¬ (255 : Int32) < a0 → ((if (0 : Int32) < 0 then 0 else 0) < (if (3 : Int32) < ((3 : Int32) >>> ((0 : Int32) &&& 31)) then 3 else ((3 : Int32) >>> ((0 : Int32) &&& 31))) → zi d 212 [.ref 113, .int a0, .int (if (0 : Int32) < 0 then 0 else 0), .int (if (3 : Int32) < ((3 : Int32) >>> ((0 : Int32) &&& 31)) then 3 else ((3 : Int32) >>> ((0 : Int32) &&& 31)))] M (fun x2 M1 => Q x2 M1)) ∧ (¬ (if (0 : Int32) < 0 then 0 else 0) < (if (3 : Int32) < ((3 : Int32) >>> ((0 : Int32) &&& 31)) then 3 else ((3 : Int32) >>> ((0 : Int32) &&& 31))) → Q (-1) M)))) : zi (d + 3) 205 [.ref 111, .int a0] M Q := zi_of (ls := [some (.ref 111), some (.int a0)]) rfl (zr_aload_n (pc := 0) zy205 rfl rfl (zr_iload_n (pc := 1) zy205 rfl rfl (zr_iconst (pc := 2) zy205 rfl (v := 0) rfl (zr_iniv (pc := 3) zy205 rfl (y9 := 206) (as := [.ref 111, .int a0, .int 0]) (r := []) rfl rfl  (zi_of (ls := [some (.ref 111), some (.int a0), some (.int 0)]) rfl (zr_aload_n (pc := 0) zy206 rfl rfl (zr_iniv (pc := 1) zy206 rfl (y9 := 207) (as := [.ref 111]) (r := []) rfl rfl  (zi_of (ls := [some (.ref 111)]) rfl (zr_gets (pc := 0) zy207 rfl (vv := .int 1) rfl (zr_if_eq (pc := 3) zy207 rfl (t := 17) rfl (fun c => absurd c (by decide)) (fun _ => zr_aload_n (pc := 6) zy207 rfl rfl (zr_get (pc := 7) zy207 rfl (vv := .int 0) rfl (zr_if_ne (pc := 10) zy207 rfl (t := 17) rfl (fun _ => zr_iconst (pc := 13) zy207 rfl (v := 1) rfl (zr_goto (pc := 14) zy207 rfl (t := 18) rfl (zr_zreturn (pc := 18) zy207 rfl rfl (by decide) (zr_if_eq (pc := 4) zy206 rfl (t := 23) rfl (fun c => absurd c (by decide)) (fun _ => zr_aload_n (pc := 7) zy206 rfl rfl (zr_get (pc := 8) zy206 rfl (vv := .ref 113) rfl (zr_iload_n (pc := 11) zy206 rfl rfl (zr_iload_n (pc := 12) zy206 rfl rfl (zr_aload_n (pc := 13) zy206 rfl rfl (zr_iniv (pc := 14) zy206 rfl (y9 := 208) (as := [.ref 111]) (r := [.int 0, .int a0, .ref 113]) rfl rfl  (zi_of (ls := [some (.ref 111)]) rfl (zr_aload_n (pc := 0) zy208 rfl rfl (zr_get (pc := 1) zy208 rfl (vv := .ref 113) rfl (zr_alen (pc := 4) zy208 rfl (v := 3) rfl (zr_aload_n (pc := 5) zy208 rfl rfl (zr_iniv (pc := 6) zy208 rfl (y9 := 209) (as := [.ref 111]) (r := [.int 3]) rfl rfl  (zi_of (ls := [some (.ref 111)]) rfl (zr_gets (pc := 0) zy209 rfl (vv := .int 1) rfl (zr_if_eq (pc := 3) zy209 rfl (t := 13) rfl (fun c => absurd c (by decide)) (fun _ => zr_aload_n (pc := 6) zy209 rfl rfl (zr_get (pc := 7) zy209 rfl (vv := .int 0) rfl (zr_goto (pc := 10) zy209 rfl (t := 14) rfl (zr_breturn (pc := 14) zy209 rfl rfl (by decide) (zr_ishr (pc := 9) zy208 rfl  (zr_ireturn (pc := 10) zy208 rfl rfl (zr_inis (pc := 17) zy206 rfl (y9 := 211) (as := [.ref 113, .int a0, .int 0, .int ((3 : Int32) >>> ((0 : Int32) &&& 31))]) (r := []) rfl rfl rfl  (zi_of (ls := [some (.ref 113), some (.int a0), some (.int 0), some (.int ((3 : Int32) >>> ((0 : Int32) &&& 31)))]) rfl (zr_iload_n (pc := 0) zy211 rfl rfl (zr_inis (pc := 1) zy211 rfl (y9 := 210) (as := [.int a0]) (r := []) rfl rfl rfl  (zi_of (ls := [some (.int a0)]) rfl (zr_iload_n (pc := 0) zy210 rfl rfl (zae h (fun p10 q11 => zr_if_lt (pc := 1) zy210 rfl (t := 15) rfl (fun c12 => zr_iconst (pc := 15) zy210 rfl (v := 0) rfl (zr_zreturn (pc := 16) zy210 rfl rfl (by decide) (zr_if_ne (pc := 4) zy211 rfl (t := 9) rfl (fun _ => zr_iconst (pc := 7) zy211 rfl (v := (-1)) rfl (zr_ireturn (pc := 8) zy211 rfl rfl (zr_goto (pc := 20) zy206 rfl (t := 36) rfl (zr_ireturn (pc := 36) zy206 rfl rfl (zr_ireturn (pc := 6) zy205 rfl rfl ((p10 c12))))))) (fun c => (c (by decide)).elim)))) (fun c12 => zr_iload_n (pc := 4) zy210 rfl rfl (zr_sipush (pc := 5) zy210 rfl (v := 255) rfl (zae (q11 c12) (fun p7 q8 => zr_icmp_gt (pc := 8) zy210 rfl (t := 15) rfl (fun c9 => zr_iconst (pc := 15) zy210 rfl (v := 0) rfl (zr_zreturn (pc := 16) zy210 rfl rfl (by decide) (zr_if_ne (pc := 4) zy211 rfl (t := 9) rfl (fun _ => zr_iconst (pc := 7) zy211 rfl (v := (-1)) rfl (zr_ireturn (pc := 8) zy211 rfl rfl (zr_goto (pc := 20) zy206 rfl (t := 36) rfl (zr_ireturn (pc := 36) zy206 rfl rfl (zr_ireturn (pc := 6) zy205 rfl rfl ((p7 c9))))))) (fun c => (c (by decide)).elim)))) (fun c9 => zr_iconst (pc := 11) zy210 rfl (v := 1) rfl (zr_goto (pc := 12) zy210 rfl (t := 16) rfl (zr_zreturn (pc := 16) zy210 rfl rfl (by decide) (zr_if_ne (pc := 4) zy211 rfl (t := 9) rfl (fun c => absurd c (by decide)) (fun _ => zr_iload_n (pc := 9) zy211 rfl rfl (zr_iconst (pc := 10) zy211 rfl (v := 0) rfl (zr_max (pc := 11) zy211 rfl rfl rfl (zr_istore_n (pc := 14) zy211 rfl (ls' := [some (.ref 113), some (.int a0), some (.int (if (0 : Int32) < 0 then 0 else 0)), some (.int ((3 : Int32) >>> ((0 : Int32) &&& 31)))]) rfl (zr_iload_n (pc := 15) zy211 rfl rfl (zr_aload_n (pc := 16) zy211 rfl rfl (zr_alen (pc := 17) zy211 rfl (v := 3) rfl (zr_min (pc := 18) zy211 rfl rfl rfl (zr_istore_n (pc := 21) zy211 rfl (ls' := [some (.ref 113), some (.int a0), some (.int (if (0 : Int32) < 0 then 0 else 0)), some (.int (if (3 : Int32) < ((3 : Int32) >>> ((0 : Int32) &&& 31)) then 3 else ((3 : Int32) >>> ((0 : Int32) &&& 31))))]) rfl (zr_iload_n (pc := 22) zy211 rfl rfl (zr_iload_n (pc := 23) zy211 rfl rfl (zae (q8 c9) (fun p4 q5 => zr_icmp_lt (pc := 24) zy211 rfl (t := 29) rfl (fun c6 => zr_aload_n (pc := 29) zy211 rfl rfl (zr_iload_n (pc := 30) zy211 rfl rfl (zr_iload_n (pc := 31) zy211 rfl rfl (zr_iload_n (pc := 32) zy211 rfl rfl (zr_callis (pc := 33) zy211 rfl (y9 := 212) (as := [.ref 113, .int a0, .int (if (0 : Int32) < 0 then 0 else 0), .int (if (3 : Int32) < ((3 : Int32) >>> ((0 : Int32) &&& 31)) then 3 else ((3 : Int32) >>> ((0 : Int32) &&& 31)))]) (r := []) rfl rfl rfl (p4 c6) (fun x2 M1 g3 => zr_ireturn (pc := 36) zy211 rfl rfl (zr_goto (pc := 20) zy206 rfl (t := 36) rfl (zr_ireturn (pc := 36) zy206 rfl rfl (zr_ireturn (pc := 6) zy205 rfl rfl (g3)))))))))) (fun c6 => zr_iconst (pc := 27) zy211 rfl (v := (-1)) rfl (zr_ireturn (pc := 28) zy211 rfl rfl (zr_goto (pc := 20) zy206 rfl (t := 36) rfl (zr_ireturn (pc := 36) zy206 rfl rfl (zr_ireturn (pc := 6) zy205 rfl rfl ((q5 c6))))))))))))))))))))))))))))))))))))))))))))))))))))))))))))) (fun c => (c (by decide)).elim))))))))))))))
set_option maxRecDepth 100000 in
theorem zg_J1_indexOfChar_r112 {d : Nat} {M : zm_M} {Q : Int32 → zm_M → Prop} {a0 : Int32} {b0 : Int32} {c0 : Int32} (h : zt d 212 7 [some (.ref 112), none, none, some (.int c0), some (.int a0.toInt8.toInt32), some (.int b0)] [] M (zPi Q)) : zi (d) 212 [.ref 112, .int a0, .int b0, .int c0] M Q := zi_of (ls := [some (.ref 112), some (.int a0), some (.int b0), some (.int c0), none, none]) rfl (zr_iload_n (pc := 0) zy212 rfl rfl (zr_i2b (pc := 1) zy212 rfl  (zr_istore (pc := 2) zy212 rfl (ls' := [some (.ref 112), some (.int a0), some (.int b0), some (.int c0), some (.int a0.toInt8.toInt32), none]) rfl (zr_iload_n (pc := 4) zy212 rfl rfl (zr_istore (pc := 5) zy212 rfl (ls' := [some (.ref 112), some (.int a0), some (.int b0), some (.int c0), some (.int a0.toInt8.toInt32), some (.int b0)]) rfl (zr_fg (pc := 7) [1, 2] rfl (h)))))))
set_option maxRecDepth 100000 in
theorem zg_J1_indexOfChar_r113 {d : Nat} {M : zm_M} {Q : Int32 → zm_M → Prop} {a0 : Int32} {b0 : Int32} {c0 : Int32} (h : zt d 212 7 [some (.ref 113), none, none, some (.int c0), some (.int a0.toInt8.toInt32), some (.int b0)] [] M (zPi Q)) : zi (d) 212 [.ref 113, .int a0, .int b0, .int c0] M Q := zi_of (ls := [some (.ref 113), some (.int a0), some (.int b0), some (.int c0), none, none]) rfl (zr_iload_n (pc := 0) zy212 rfl rfl (zr_i2b (pc := 1) zy212 rfl  (zr_istore (pc := 2) zy212 rfl (ls' := [some (.ref 113), some (.int a0), some (.int b0), some (.int c0), some (.int a0.toInt8.toInt32), none]) rfl (zr_iload_n (pc := 4) zy212 rfl rfl (zr_istore (pc := 5) zy212 rfl (ls' := [some (.ref 113), some (.int a0), some (.int b0), some (.int c0), some (.int a0.toInt8.toInt32), some (.int b0)]) rfl (zr_fg (pc := 7) [1, 2] rfl (h)))))))
set_option maxRecDepth 100000 in
theorem zg_J1_indexOfChar_r112_p7 {d : Nat} {M : zm_M} {Q : Int32 → zm_M → Prop} {v3 : Int32} {v4 : Int32} {v5 : Int32} (h : (v5 < v3 → zm_inb v5 5 = true ∧ (((zm_sb 112 v5.toNatClampNeg) = v4 → Q v5 M) ∧ (¬ (zm_sb 112 v5.toNatClampNeg) = v4 → zt d 212 7 [some (.ref 112), none, none, some (.int v3), some (.int v4), some (.int (v5 + 1))] [] M (zPi Q)))) ∧ (¬ v5 < v3 → Q (-1) M)) : zt (d) 212 7 [some (.ref 112), none, none, some (.int v3), some (.int v4), some (.int v5)] [] M (zPi Q) := zr_iload (pc := 7) zy212 rfl rfl (zr_iload_n (pc := 9) zy212 rfl rfl (zae h (fun p6 q7 => zr_icmp_ge (pc := 10) zy212 rfl (t := 31) rfl (fun c8 => zr_aload_n (pc := 13) zy212 rfl rfl (zr_iload (pc := 14) zy212 rfl rfl (zae (p6 c8) (fun b4 g5 => zr_bald (pc := 16) zy212 rfl (n := 5) rfl rfl b4 (zr_iload (pc := 17) zy212 rfl rfl (zae g5 (fun p1 q2 => zr_icmp_ne (pc := 19) zy212 rfl (t := 25) rfl (fun c3 => zr_iload (pc := 22) zy212 rfl rfl (zr_ireturn (pc := 24) zy212 rfl rfl ((p1 c3)))) (fun c3 => zr_iinc (pc := 25) zy212 rfl (ls' := [some (.ref 112), none, none, some (.int v3), some (.int v4), some (.int (v5 + 1))]) rfl (zr_goto (pc := 28) zy212 rfl (t := 7) rfl ((q2 c3))))))))))) (fun c8 => zr_iconst (pc := 31) zy212 rfl (v := (-1)) rfl (zr_ireturn (pc := 32) zy212 rfl rfl ((q7 c8)))))))
set_option maxRecDepth 100000 in
theorem zg_J1_indexOfChar_r113_p7 {d : Nat} {M : zm_M} {Q : Int32 → zm_M → Prop} {v3 : Int32} {v4 : Int32} {v5 : Int32} (h : (v5 < v3 → zm_inb v5 3 = true ∧ (((zm_sb 113 v5.toNatClampNeg) = v4 → Q v5 M) ∧ (¬ (zm_sb 113 v5.toNatClampNeg) = v4 → zt d 212 7 [some (.ref 113), none, none, some (.int v3), some (.int v4), some (.int (v5 + 1))] [] M (zPi Q)))) ∧ (¬ v5 < v3 → Q (-1) M)) : zt (d) 212 7 [some (.ref 113), none, none, some (.int v3), some (.int v4), some (.int v5)] [] M (zPi Q) := zr_iload (pc := 7) zy212 rfl rfl (zr_iload_n (pc := 9) zy212 rfl rfl (zae h (fun p6 q7 => zr_icmp_ge (pc := 10) zy212 rfl (t := 31) rfl (fun c8 => zr_aload_n (pc := 13) zy212 rfl rfl (zr_iload (pc := 14) zy212 rfl rfl (zae (p6 c8) (fun b4 g5 => zr_bald (pc := 16) zy212 rfl (n := 3) rfl rfl b4 (zr_iload (pc := 17) zy212 rfl rfl (zae g5 (fun p1 q2 => zr_icmp_ne (pc := 19) zy212 rfl (t := 25) rfl (fun c3 => zr_iload (pc := 22) zy212 rfl rfl (zr_ireturn (pc := 24) zy212 rfl rfl ((p1 c3)))) (fun c3 => zr_iinc (pc := 25) zy212 rfl (ls' := [some (.ref 113), none, none, some (.int v3), some (.int v4), some (.int (v5 + 1))]) rfl (zr_goto (pc := 28) zy212 rfl (t := 7) rfl ((q2 c3))))))))))) (fun c8 => zr_iconst (pc := 31) zy212 rfl (v := (-1)) rfl (zr_ireturn (pc := 32) zy212 rfl rfl ((q7 c8)))))))
end

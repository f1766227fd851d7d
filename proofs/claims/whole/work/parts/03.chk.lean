/-! The tables hold: every row of theirs against the Statement, by the kernel. Printed by wip/whole/gen_chk.py. -/
theorem zm_lk_mem {l : List (Nat × Instr × Nat)} {pc : Nat} {e : Instr × Nat} (h : zm_lk l pc = some e) : (pc, e) ∈ l := by
  induction l with
  | nil => cases h
  | cons a l ih =>
    unfold zm_lk at h
    cases hb : Nat.beq a.1 pc with
    | true =>
      rw [hb] at h
      cases Nat.eq_of_beq_eq_true hb
      cases h
      exact List.mem_cons_self
    | false =>
      rw [hb] at h
      exact List.mem_cons_of_mem _ (ih h)
theorem zm_la_mem {α : Type} {l : List (Nat × α)} {k : Nat} {e : α} (h : zm_la l k = some e) : (k, e) ∈ l := by
  induction l with
  | nil => cases h
  | cons a l ih =>
    unfold zm_la at h
    cases hb : Nat.beq a.1 k with
    | true =>
      rw [hb] at h
      cases Nat.eq_of_beq_eq_true hb
      cases h
      exact List.mem_cons_self
    | false =>
      rw [hb] at h
      exact List.mem_cons_of_mem _ (ih h)
theorem zm_tabs {α : Type} {tb : List (List α)} {f : Nat → α → Bool} {n : Nat} (h : ((List.range n).all fun o => (tb.getD o []).all (f o)) = true) (hn : tb.length ≤ n) {o : Nat} {e : α} (he : e ∈ tb.getD o []) : f o e = true := by
  by_cases ho : o < n
  · exact List.all_eq_true.mp (List.all_eq_true.mp h o (List.mem_range.mpr ho)) e he
  · rw [List.getD_eq_getElem?_getD, List.getElem?_eq_none (by omega)] at he
    cases he
def zm_chk (y : Nat) (e : Nat × Instr × Nat) : Bool := decide (decode (zm_cd y) e.1 = .ok (e.2.1, e.2.2))
theorem zm_ok0_0 : zm_t0_0.all (zm_chk 0) = true := by decide +kernel
theorem zm_ok0_1 : zm_t0_1.all (zm_chk 0) = true := by decide +kernel
theorem zm_ok0_2 : zm_t0_2.all (zm_chk 0) = true := by decide +kernel
theorem zm_ok0_3 : zm_t0_3.all (zm_chk 0) = true := by decide +kernel
theorem zm_ok0_4 : zm_t0_4.all (zm_chk 0) = true := by decide +kernel
theorem zm_ok0_5 : zm_t0_5.all (zm_chk 0) = true := by decide +kernel
theorem zm_ok0_6 : zm_t0_6.all (zm_chk 0) = true := by decide +kernel
theorem zm_ok0_7 : zm_t0_7.all (zm_chk 0) = true := by decide +kernel
theorem zm_ok0_8 : zm_t0_8.all (zm_chk 0) = true := by decide +kernel
theorem zm_ok0_9 : zm_t0_9.all (zm_chk 0) = true := by decide +kernel
theorem zm_ok0_10 : zm_t0_10.all (zm_chk 0) = true := by decide +kernel
theorem zm_ok0_11 : zm_t0_11.all (zm_chk 0) = true := by decide +kernel
theorem zm_ok0_12 : zm_t0_12.all (zm_chk 0) = true := by decide +kernel
theorem zm_ok0_13 : zm_t0_13.all (zm_chk 0) = true := by decide +kernel
theorem zm_ok0_14 : zm_t0_14.all (zm_chk 0) = true := by decide +kernel
theorem zm_ok0_15 : zm_t0_15.all (zm_chk 0) = true := by decide +kernel
theorem zm_ok0_16 : zm_t0_16.all (zm_chk 0) = true := by decide +kernel
theorem zm_ok0_17 : zm_t0_17.all (zm_chk 0) = true := by decide +kernel
theorem zm_ok0_18 : zm_t0_18.all (zm_chk 0) = true := by decide +kernel
theorem zm_ok0_19 : zm_t0_19.all (zm_chk 0) = true := by decide +kernel
theorem zm_ok0_20 : zm_t0_20.all (zm_chk 0) = true := by decide +kernel
theorem zm_ok0_21 : zm_t0_21.all (zm_chk 0) = true := by decide +kernel
theorem zm_ok0_22 : zm_t0_22.all (zm_chk 0) = true := by decide +kernel
theorem zm_ok0 : zm_t0.all (zm_chk 0) = true := by
  unfold zm_t0
  simp only [List.all_append, Bool.and_eq_true]
  exact ⟨zm_ok0_0, ⟨zm_ok0_1, ⟨zm_ok0_2, ⟨zm_ok0_3, ⟨zm_ok0_4, ⟨zm_ok0_5, ⟨zm_ok0_6, ⟨zm_ok0_7, ⟨zm_ok0_8, ⟨zm_ok0_9, ⟨zm_ok0_10, ⟨zm_ok0_11, ⟨zm_ok0_12, ⟨zm_ok0_13, ⟨zm_ok0_14, ⟨zm_ok0_15, ⟨zm_ok0_16, ⟨zm_ok0_17, ⟨zm_ok0_18, ⟨zm_ok0_19, ⟨zm_ok0_20, ⟨zm_ok0_21, zm_ok0_22⟩⟩⟩⟩⟩⟩⟩⟩⟩⟩⟩⟩⟩⟩⟩⟩⟩⟩⟩⟩⟩⟩
theorem zm_ok1 : zm_t1.all (zm_chk 1) = true := by decide +kernel
theorem zm_ok2 : zm_t2.all (zm_chk 2) = true := by decide +kernel
theorem zm_ok3 : zm_t3.all (zm_chk 3) = true := by decide +kernel
theorem zm_ok4 : zm_t4.all (zm_chk 4) = true := by decide +kernel
theorem zm_ok5 : zm_t5.all (zm_chk 5) = true := by decide +kernel
theorem zm_ok6 : zm_t6.all (zm_chk 6) = true := by decide +kernel
theorem zm_ok7 : zm_t7.all (zm_chk 7) = true := by decide +kernel
theorem zm_ok8 : zm_t8.all (zm_chk 8) = true := by decide +kernel
theorem zm_ok9 : zm_t9.all (zm_chk 9) = true := by decide +kernel
theorem zm_ok10 : zm_t10.all (zm_chk 10) = true := by decide +kernel
theorem zm_ok11 : zm_t11.all (zm_chk 11) = true := by decide +kernel
theorem zm_ok12 : zm_t12.all (zm_chk 12) = true := by decide +kernel
theorem zm_ok13 : zm_t13.all (zm_chk 13) = true := by decide +kernel
theorem zm_ok14 : zm_t14.all (zm_chk 14) = true := by decide +kernel
theorem zm_ok15 : zm_t15.all (zm_chk 15) = true := by decide +kernel
theorem zm_ok16 : zm_t16.all (zm_chk 16) = true := by decide +kernel
theorem zm_ok17 : zm_t17.all (zm_chk 17) = true := by decide +kernel
theorem zm_ok18 : zm_t18.all (zm_chk 18) = true := by decide +kernel
theorem zm_ok19 : zm_t19.all (zm_chk 19) = true := by decide +kernel
theorem zm_ok20 : zm_t20.all (zm_chk 20) = true := by decide +kernel
theorem zm_ok21 : zm_t21.all (zm_chk 21) = true := by decide +kernel
theorem zm_ok22 : zm_t22.all (zm_chk 22) = true := by decide +kernel
theorem zm_ok23 : zm_t23.all (zm_chk 23) = true := by decide +kernel
theorem zm_ok24 : zm_t24.all (zm_chk 24) = true := by decide +kernel
theorem zm_ok25 : zm_t25.all (zm_chk 25) = true := by decide +kernel
theorem zm_ok26 : zm_t26.all (zm_chk 26) = true := by decide +kernel
theorem zm_ok27 : zm_t27.all (zm_chk 27) = true := by decide +kernel
theorem zm_ok28 : zm_t28.all (zm_chk 28) = true := by decide +kernel
theorem zm_ok29 : zm_t29.all (zm_chk 29) = true := by decide +kernel
theorem zm_ok30 : zm_t30.all (zm_chk 30) = true := by decide +kernel
theorem zm_ok31 : zm_t31.all (zm_chk 31) = true := by decide +kernel
theorem zm_ok32 : zm_t32.all (zm_chk 32) = true := by decide +kernel
theorem zm_ok33 : zm_t33.all (zm_chk 33) = true := by decide +kernel
theorem zm_ok34 : zm_t34.all (zm_chk 34) = true := by decide +kernel
theorem zm_ok35 : zm_t35.all (zm_chk 35) = true := by decide +kernel
theorem zm_ok36 : zm_t36.all (zm_chk 36) = true := by decide +kernel
theorem zm_ok37 : zm_t37.all (zm_chk 37) = true := by decide +kernel
theorem zm_ok38 : zm_t38.all (zm_chk 38) = true := by decide +kernel
theorem zm_ok39 : zm_t39.all (zm_chk 39) = true := by decide +kernel
theorem zm_ok40 : zm_t40.all (zm_chk 40) = true := by decide +kernel
theorem zm_ok41 : zm_t41.all (zm_chk 41) = true := by decide +kernel
theorem zm_ok42 : zm_t42.all (zm_chk 42) = true := by decide +kernel
theorem zm_ok43 : zm_t43.all (zm_chk 43) = true := by decide +kernel
theorem zm_ok44 : zm_t44.all (zm_chk 44) = true := by decide +kernel
theorem zm_ok45 : zm_t45.all (zm_chk 45) = true := by decide +kernel
theorem zm_ok46 : zm_t46.all (zm_chk 46) = true := by decide +kernel
theorem zm_ok47 : zm_t47.all (zm_chk 47) = true := by decide +kernel
theorem zm_ok48 : zm_t48.all (zm_chk 48) = true := by decide +kernel
theorem zm_ok49 : zm_t49.all (zm_chk 49) = true := by decide +kernel
theorem zm_ok50 : zm_t50.all (zm_chk 50) = true := by decide +kernel
theorem zm_ok51 : zm_t51.all (zm_chk 51) = true := by decide +kernel
theorem zm_ok52 : zm_t52.all (zm_chk 52) = true := by decide +kernel
theorem zm_ok53 : zm_t53.all (zm_chk 53) = true := by decide +kernel
theorem zm_ok54 : zm_t54.all (zm_chk 54) = true := by decide +kernel
theorem zm_ok55 : zm_t55.all (zm_chk 55) = true := by decide +kernel
theorem zm_ok56 : zm_t56.all (zm_chk 56) = true := by decide +kernel
theorem zm_ok57 : zm_t57.all (zm_chk 57) = true := by decide +kernel
theorem zm_ok58 : zm_t58.all (zm_chk 58) = true := by decide +kernel
theorem zm_ok59 : zm_t59.all (zm_chk 59) = true := by decide +kernel
theorem zm_ok60 : zm_t60.all (zm_chk 60) = true := by decide +kernel
theorem zm_ok61 : zm_t61.all (zm_chk 61) = true := by decide +kernel
theorem zm_ok62 : zm_t62.all (zm_chk 62) = true := by decide +kernel
theorem zm_ok63 : zm_t63.all (zm_chk 63) = true := by decide +kernel
theorem zm_ok64 : zm_t64.all (zm_chk 64) = true := by decide +kernel
theorem zm_ok65 : zm_t65.all (zm_chk 65) = true := by decide +kernel
theorem zm_ok66 : zm_t66.all (zm_chk 66) = true := by decide +kernel
theorem zm_ok67 : zm_t67.all (zm_chk 67) = true := by decide +kernel
theorem zm_ok68 : zm_t68.all (zm_chk 68) = true := by decide +kernel
theorem zm_ok69 : zm_t69.all (zm_chk 69) = true := by decide +kernel
theorem zm_ok70 : zm_t70.all (zm_chk 70) = true := by decide +kernel
theorem zm_ok71 : zm_t71.all (zm_chk 71) = true := by decide +kernel
theorem zm_ok72 : zm_t72.all (zm_chk 72) = true := by decide +kernel
theorem zm_ok73 : zm_t73.all (zm_chk 73) = true := by decide +kernel
theorem zm_ok74 : zm_t74.all (zm_chk 74) = true := by decide +kernel
theorem zm_ok75 : zm_t75.all (zm_chk 75) = true := by decide +kernel
theorem zm_ok76 : zm_t76.all (zm_chk 76) = true := by decide +kernel
theorem zm_ok77 : zm_t77.all (zm_chk 77) = true := by decide +kernel
theorem zm_ok78 : zm_t78.all (zm_chk 78) = true := by decide +kernel
theorem zm_ok79 : zm_t79.all (zm_chk 79) = true := by decide +kernel
theorem zm_ok80 : zm_t80.all (zm_chk 80) = true := by decide +kernel
theorem zm_ok81 : zm_t81.all (zm_chk 81) = true := by decide +kernel
theorem zm_ok82 : zm_t82.all (zm_chk 82) = true := by decide +kernel
theorem zm_ok83 : zm_t83.all (zm_chk 83) = true := by decide +kernel
theorem zm_ok84 : zm_t84.all (zm_chk 84) = true := by decide +kernel
theorem zm_ok85 : zm_t85.all (zm_chk 85) = true := by decide +kernel
theorem zm_ok86 : zm_t86.all (zm_chk 86) = true := by decide +kernel
theorem zm_ok87 : zm_t87.all (zm_chk 87) = true := by decide +kernel
theorem zm_ok88 : zm_t88.all (zm_chk 88) = true := by decide +kernel
theorem zm_ok89 : zm_t89.all (zm_chk 89) = true := by decide +kernel
theorem zm_ok90 : zm_t90.all (zm_chk 90) = true := by decide +kernel
theorem zm_ok91 : zm_t91.all (zm_chk 91) = true := by decide +kernel
theorem zm_ok92 : zm_t92.all (zm_chk 92) = true := by decide +kernel
theorem zm_ok93 : zm_t93.all (zm_chk 93) = true := by decide +kernel
theorem zm_ok94 : zm_t94.all (zm_chk 94) = true := by decide +kernel
theorem zm_ok95 : zm_t95.all (zm_chk 95) = true := by decide +kernel
theorem zm_ok96 : zm_t96.all (zm_chk 96) = true := by decide +kernel
theorem zm_ok97 : zm_t97.all (zm_chk 97) = true := by decide +kernel
theorem zm_ok98 : zm_t98.all (zm_chk 98) = true := by decide +kernel
theorem zm_ok99 : zm_t99.all (zm_chk 99) = true := by decide +kernel
theorem zm_ok100 : zm_t100.all (zm_chk 100) = true := by decide +kernel
theorem zm_ok101 : zm_t101.all (zm_chk 101) = true := by decide +kernel
theorem zm_ok102 : zm_t102.all (zm_chk 102) = true := by decide +kernel
theorem zm_ok103 : zm_t103.all (zm_chk 103) = true := by decide +kernel
theorem zm_ok104 : zm_t104.all (zm_chk 104) = true := by decide +kernel
theorem zm_ok105 : zm_t105.all (zm_chk 105) = true := by decide +kernel
theorem zm_ok106 : zm_t106.all (zm_chk 106) = true := by decide +kernel
theorem zm_ok107 : zm_t107.all (zm_chk 107) = true := by decide +kernel
theorem zm_ok108 : zm_t108.all (zm_chk 108) = true := by decide +kernel
theorem zm_ok109 : zm_t109.all (zm_chk 109) = true := by decide +kernel
theorem zm_ok110 : zm_t110.all (zm_chk 110) = true := by decide +kernel
theorem zm_ok111 : zm_t111.all (zm_chk 111) = true := by decide +kernel
theorem zm_ok112 : zm_t112.all (zm_chk 112) = true := by decide +kernel
theorem zm_ok113 : zm_t113.all (zm_chk 113) = true := by decide +kernel
theorem zm_ok114 : zm_t114.all (zm_chk 114) = true := by decide +kernel
theorem zm_ok115 : zm_t115.all (zm_chk 115) = true := by decide +kernel
theorem zm_ok116 : zm_t116.all (zm_chk 116) = true := by decide +kernel
theorem zm_ok117 : zm_t117.all (zm_chk 117) = true := by decide +kernel
theorem zm_ok118 : zm_t118.all (zm_chk 118) = true := by decide +kernel
theorem zm_ok119 : zm_t119.all (zm_chk 119) = true := by decide +kernel
theorem zm_ok120 : zm_t120.all (zm_chk 120) = true := by decide +kernel
theorem zm_ok121 : zm_t121.all (zm_chk 121) = true := by decide +kernel
theorem zm_ok122 : zm_t122.all (zm_chk 122) = true := by decide +kernel
theorem zm_ok123 : zm_t123.all (zm_chk 123) = true := by decide +kernel
theorem zm_ok124 : zm_t124.all (zm_chk 124) = true := by decide +kernel
theorem zm_ok125 : zm_t125.all (zm_chk 125) = true := by decide +kernel
theorem zm_ok126 : zm_t126.all (zm_chk 126) = true := by decide +kernel
theorem zm_ok127 : zm_t127.all (zm_chk 127) = true := by decide +kernel
theorem zm_ok128 : zm_t128.all (zm_chk 128) = true := by decide +kernel
theorem zm_ok129 : zm_t129.all (zm_chk 129) = true := by decide +kernel
theorem zm_ok130 : zm_t130.all (zm_chk 130) = true := by decide +kernel
theorem zm_ok131 : zm_t131.all (zm_chk 131) = true := by decide +kernel
theorem zm_ok132 : zm_t132.all (zm_chk 132) = true := by decide +kernel
theorem zm_ok133 : zm_t133.all (zm_chk 133) = true := by decide +kernel
theorem zm_ok134 : zm_t134.all (zm_chk 134) = true := by decide +kernel
theorem zm_ok135 : zm_t135.all (zm_chk 135) = true := by decide +kernel
theorem zm_ok136 : zm_t136.all (zm_chk 136) = true := by decide +kernel
theorem zm_ok137 : zm_t137.all (zm_chk 137) = true := by decide +kernel
theorem zm_ok138 : zm_t138.all (zm_chk 138) = true := by decide +kernel
theorem zm_ok139 : zm_t139.all (zm_chk 139) = true := by decide +kernel
theorem zm_ok140 : zm_t140.all (zm_chk 140) = true := by decide +kernel
theorem zm_ok141 : zm_t141.all (zm_chk 141) = true := by decide +kernel
theorem zm_ok142 : zm_t142.all (zm_chk 142) = true := by decide +kernel
theorem zm_ok143 : zm_t143.all (zm_chk 143) = true := by decide +kernel
theorem zm_ok144 : zm_t144.all (zm_chk 144) = true := by decide +kernel
theorem zm_ok145 : zm_t145.all (zm_chk 145) = true := by decide +kernel
theorem zm_ok146 : zm_t146.all (zm_chk 146) = true := by decide +kernel
theorem zm_ok147 : zm_t147.all (zm_chk 147) = true := by decide +kernel
theorem zm_ok148 : zm_t148.all (zm_chk 148) = true := by decide +kernel
theorem zm_ok149 : zm_t149.all (zm_chk 149) = true := by decide +kernel
theorem zm_ok150 : zm_t150.all (zm_chk 150) = true := by decide +kernel
theorem zm_ok151 : zm_t151.all (zm_chk 151) = true := by decide +kernel
theorem zm_ok152 : zm_t152.all (zm_chk 152) = true := by decide +kernel
theorem zm_ok153 : zm_t153.all (zm_chk 153) = true := by decide +kernel
theorem zm_ok154 : zm_t154.all (zm_chk 154) = true := by decide +kernel
theorem zm_ok155 : zm_t155.all (zm_chk 155) = true := by decide +kernel
theorem zm_ok156 : zm_t156.all (zm_chk 156) = true := by decide +kernel
theorem zm_ok157 : zm_t157.all (zm_chk 157) = true := by decide +kernel
theorem zm_ok158 : zm_t158.all (zm_chk 158) = true := by decide +kernel
theorem zm_ok159 : zm_t159.all (zm_chk 159) = true := by decide +kernel
theorem zm_ok160 : zm_t160.all (zm_chk 160) = true := by decide +kernel
theorem zm_ok161 : zm_t161.all (zm_chk 161) = true := by decide +kernel
theorem zm_ok162 : zm_t162.all (zm_chk 162) = true := by decide +kernel
theorem zm_ok163 : zm_t163.all (zm_chk 163) = true := by decide +kernel
theorem zm_ok164 : zm_t164.all (zm_chk 164) = true := by decide +kernel
theorem zm_ok165 : zm_t165.all (zm_chk 165) = true := by decide +kernel
theorem zm_ok166 : zm_t166.all (zm_chk 166) = true := by decide +kernel
theorem zm_ok167 : zm_t167.all (zm_chk 167) = true := by decide +kernel
theorem zm_ok168 : zm_t168.all (zm_chk 168) = true := by decide +kernel
theorem zm_ok169 : zm_t169.all (zm_chk 169) = true := by decide +kernel
theorem zm_ok170 : zm_t170.all (zm_chk 170) = true := by decide +kernel
theorem zm_ok171 : zm_t171.all (zm_chk 171) = true := by decide +kernel
theorem zm_ok172 : zm_t172.all (zm_chk 172) = true := by decide +kernel
theorem zm_ok173 : zm_t173.all (zm_chk 173) = true := by decide +kernel
theorem zm_ok174 : zm_t174.all (zm_chk 174) = true := by decide +kernel
theorem zm_ok175 : zm_t175.all (zm_chk 175) = true := by decide +kernel
theorem zm_ok176 : zm_t176.all (zm_chk 176) = true := by decide +kernel
theorem zm_ok177 : zm_t177.all (zm_chk 177) = true := by decide +kernel
theorem zm_ok178 : zm_t178.all (zm_chk 178) = true := by decide +kernel
theorem zm_ok179 : zm_t179.all (zm_chk 179) = true := by decide +kernel
theorem zm_ok180 : zm_t180.all (zm_chk 180) = true := by decide +kernel
theorem zm_ok181 : zm_t181.all (zm_chk 181) = true := by decide +kernel
theorem zm_ok182 : zm_t182.all (zm_chk 182) = true := by decide +kernel
theorem zm_ok183 : zm_t183.all (zm_chk 183) = true := by decide +kernel
theorem zm_ok184 : zm_t184.all (zm_chk 184) = true := by decide +kernel
theorem zm_ok185 : zm_t185.all (zm_chk 185) = true := by decide +kernel
theorem zm_ok186 : zm_t186.all (zm_chk 186) = true := by decide +kernel
theorem zm_ok187 : zm_t187.all (zm_chk 187) = true := by decide +kernel
theorem zm_ok188 : zm_t188.all (zm_chk 188) = true := by decide +kernel
theorem zm_ok189 : zm_t189.all (zm_chk 189) = true := by decide +kernel
theorem zm_ok190 : zm_t190.all (zm_chk 190) = true := by decide +kernel
theorem zm_ok191 : zm_t191.all (zm_chk 191) = true := by decide +kernel
theorem zm_ok192 : zm_t192.all (zm_chk 192) = true := by decide +kernel
theorem zm_ok193 : zm_t193.all (zm_chk 193) = true := by decide +kernel
theorem zm_ok194 : zm_t194.all (zm_chk 194) = true := by decide +kernel
theorem zm_ok195 : zm_t195.all (zm_chk 195) = true := by decide +kernel
theorem zm_ok196 : zm_t196.all (zm_chk 196) = true := by decide +kernel
theorem zm_ok197 : zm_t197.all (zm_chk 197) = true := by decide +kernel
theorem zm_ok198 : zm_t198.all (zm_chk 198) = true := by decide +kernel
theorem zm_ok199 : zm_t199.all (zm_chk 199) = true := by decide +kernel
theorem zm_ok200 : zm_t200.all (zm_chk 200) = true := by decide +kernel
theorem zm_ok201 : zm_t201.all (zm_chk 201) = true := by decide +kernel
theorem zm_ok202 : zm_t202.all (zm_chk 202) = true := by decide +kernel
theorem zm_ok203 : zm_t203.all (zm_chk 203) = true := by decide +kernel
theorem zm_ok204 : zm_t204.all (zm_chk 204) = true := by decide +kernel
theorem zm_ok205 : zm_t205.all (zm_chk 205) = true := by decide +kernel
theorem zm_ok206 : zm_t206.all (zm_chk 206) = true := by decide +kernel
theorem zm_ok207 : zm_t207.all (zm_chk 207) = true := by decide +kernel
theorem zm_ok208 : zm_t208.all (zm_chk 208) = true := by decide +kernel
theorem zm_ok209 : zm_t209.all (zm_chk 209) = true := by decide +kernel
theorem zm_ok210 : zm_t210.all (zm_chk 210) = true := by decide +kernel
theorem zm_ok211 : zm_t211.all (zm_chk 211) = true := by decide +kernel
theorem zm_ok212 : zm_t212.all (zm_chk 212) = true := by decide +kernel
theorem zm_ok213 : zm_t213.all (zm_chk 213) = true := by decide +kernel
theorem zm_okA : ∀ y : Nat, (zm_tb.getD y []).all (zm_chk y) = true
  | 0 => zm_ok0
  | 1 => zm_ok1
  | 2 => zm_ok2
  | 3 => zm_ok3
  | 4 => zm_ok4
  | 5 => zm_ok5
  | 6 => zm_ok6
  | 7 => zm_ok7
  | 8 => zm_ok8
  | 9 => zm_ok9
  | 10 => zm_ok10
  | 11 => zm_ok11
  | 12 => zm_ok12
  | 13 => zm_ok13
  | 14 => zm_ok14
  | 15 => zm_ok15
  | 16 => zm_ok16
  | 17 => zm_ok17
  | 18 => zm_ok18
  | 19 => zm_ok19
  | 20 => zm_ok20
  | 21 => zm_ok21
  | 22 => zm_ok22
  | 23 => zm_ok23
  | 24 => zm_ok24
  | 25 => zm_ok25
  | 26 => zm_ok26
  | 27 => zm_ok27
  | 28 => zm_ok28
  | 29 => zm_ok29
  | 30 => zm_ok30
  | 31 => zm_ok31
  | 32 => zm_ok32
  | 33 => zm_ok33
  | 34 => zm_ok34
  | 35 => zm_ok35
  | 36 => zm_ok36
  | 37 => zm_ok37
  | 38 => zm_ok38
  | 39 => zm_ok39
  | 40 => zm_ok40
  | 41 => zm_ok41
  | 42 => zm_ok42
  | 43 => zm_ok43
  | 44 => zm_ok44
  | 45 => zm_ok45
  | 46 => zm_ok46
  | 47 => zm_ok47
  | 48 => zm_ok48
  | 49 => zm_ok49
  | 50 => zm_ok50
  | 51 => zm_ok51
  | 52 => zm_ok52
  | 53 => zm_ok53
  | 54 => zm_ok54
  | 55 => zm_ok55
  | 56 => zm_ok56
  | 57 => zm_ok57
  | 58 => zm_ok58
  | 59 => zm_ok59
  | 60 => zm_ok60
  | 61 => zm_ok61
  | 62 => zm_ok62
  | 63 => zm_ok63
  | 64 => zm_ok64
  | 65 => zm_ok65
  | 66 => zm_ok66
  | 67 => zm_ok67
  | 68 => zm_ok68
  | 69 => zm_ok69
  | 70 => zm_ok70
  | 71 => zm_ok71
  | 72 => zm_ok72
  | 73 => zm_ok73
  | 74 => zm_ok74
  | 75 => zm_ok75
  | 76 => zm_ok76
  | 77 => zm_ok77
  | 78 => zm_ok78
  | 79 => zm_ok79
  | 80 => zm_ok80
  | 81 => zm_ok81
  | 82 => zm_ok82
  | 83 => zm_ok83
  | 84 => zm_ok84
  | 85 => zm_ok85
  | 86 => zm_ok86
  | 87 => zm_ok87
  | 88 => zm_ok88
  | 89 => zm_ok89
  | 90 => zm_ok90
  | 91 => zm_ok91
  | 92 => zm_ok92
  | 93 => zm_ok93
  | 94 => zm_ok94
  | 95 => zm_ok95
  | 96 => zm_ok96
  | 97 => zm_ok97
  | 98 => zm_ok98
  | 99 => zm_ok99
  | 100 => zm_ok100
  | 101 => zm_ok101
  | 102 => zm_ok102
  | 103 => zm_ok103
  | 104 => zm_ok104
  | 105 => zm_ok105
  | 106 => zm_ok106
  | 107 => zm_ok107
  | 108 => zm_ok108
  | 109 => zm_ok109
  | 110 => zm_ok110
  | 111 => zm_ok111
  | 112 => zm_ok112
  | 113 => zm_ok113
  | 114 => zm_ok114
  | 115 => zm_ok115
  | 116 => zm_ok116
  | 117 => zm_ok117
  | 118 => zm_ok118
  | 119 => zm_ok119
  | 120 => zm_ok120
  | 121 => zm_ok121
  | 122 => zm_ok122
  | 123 => zm_ok123
  | 124 => zm_ok124
  | 125 => zm_ok125
  | 126 => zm_ok126
  | 127 => zm_ok127
  | 128 => zm_ok128
  | 129 => zm_ok129
  | 130 => zm_ok130
  | 131 => zm_ok131
  | 132 => zm_ok132
  | 133 => zm_ok133
  | 134 => zm_ok134
  | 135 => zm_ok135
  | 136 => zm_ok136
  | 137 => zm_ok137
  | 138 => zm_ok138
  | 139 => zm_ok139
  | 140 => zm_ok140
  | 141 => zm_ok141
  | 142 => zm_ok142
  | 143 => zm_ok143
  | 144 => zm_ok144
  | 145 => zm_ok145
  | 146 => zm_ok146
  | 147 => zm_ok147
  | 148 => zm_ok148
  | 149 => zm_ok149
  | 150 => zm_ok150
  | 151 => zm_ok151
  | 152 => zm_ok152
  | 153 => zm_ok153
  | 154 => zm_ok154
  | 155 => zm_ok155
  | 156 => zm_ok156
  | 157 => zm_ok157
  | 158 => zm_ok158
  | 159 => zm_ok159
  | 160 => zm_ok160
  | 161 => zm_ok161
  | 162 => zm_ok162
  | 163 => zm_ok163
  | 164 => zm_ok164
  | 165 => zm_ok165
  | 166 => zm_ok166
  | 167 => zm_ok167
  | 168 => zm_ok168
  | 169 => zm_ok169
  | 170 => zm_ok170
  | 171 => zm_ok171
  | 172 => zm_ok172
  | 173 => zm_ok173
  | 174 => zm_ok174
  | 175 => zm_ok175
  | 176 => zm_ok176
  | 177 => zm_ok177
  | 178 => zm_ok178
  | 179 => zm_ok179
  | 180 => zm_ok180
  | 181 => zm_ok181
  | 182 => zm_ok182
  | 183 => zm_ok183
  | 184 => zm_ok184
  | 185 => zm_ok185
  | 186 => zm_ok186
  | 187 => zm_ok187
  | 188 => zm_ok188
  | 189 => zm_ok189
  | 190 => zm_ok190
  | 191 => zm_ok191
  | 192 => zm_ok192
  | 193 => zm_ok193
  | 194 => zm_ok194
  | 195 => zm_ok195
  | 196 => zm_ok196
  | 197 => zm_ok197
  | 198 => zm_ok198
  | 199 => zm_ok199
  | 200 => zm_ok200
  | 201 => zm_ok201
  | 202 => zm_ok202
  | 203 => zm_ok203
  | 204 => zm_ok204
  | 205 => zm_ok205
  | 206 => zm_ok206
  | 207 => zm_ok207
  | 208 => zm_ok208
  | 209 => zm_ok209
  | 210 => zm_ok210
  | 211 => zm_ok211
  | 212 => zm_ok212
  | 213 => zm_ok213
  | n + 214 => by rw [List.getD_eq_getElem?_getD, List.getElem?_eq_none (by show 214 ≤ n + 214; omega)]; rfl
/-- what the machine fetches is what the Statement's bytes decode to -/
theorem zm_dec {y pc n : Nat} {i : Instr} (h : zm_at y pc = some (i, n)) : decode (zm_cd y) pc = .ok (i, n) := by
  have h1 := List.all_eq_true.mp (zm_okA y) _ (zm_lk_mem h)
  exact of_decide_eq_true h1
/-- the words that every method is given -/
def zm_TT : List Jvm.Cond := lw_tbl.filter goodWord
def zm_w (i : Nat) (c : Jvm.Cond) : Bool := decide (lw_tbl[i]? = some c) && goodWord c
theorem zm_inT {i : Nat} {c : Jvm.Cond} (h : zm_w i c = true) : c ∈ zm_TT := by
  simp only [zm_w, Bool.and_eq_true, decide_eq_true_eq] at h
  exact List.mem_filter.mpr ⟨List.mem_of_getElem? h.1, h.2⟩
theorem zm_hts {args : Array Value} {s : State} (h : ∀ c ∈ lw_tbl, c.before args s = true) : ∀ c ∈ zm_TT, c.before args s = true := fun c hc => h c (List.mem_filter.mp hc).1
def zm_ws (y : Nat) : List Jvm.Cond := .code (zm_nm y) (zm_cd y) (zm_mx y) (zm_rt y) :: zm_TT
def zm_bmi (y : Nat) (e : Nat × Nat × Bool × Nat × Nat × Nat × Nat × Nat) : Bool :=
  zm_w e.2.2.2.1 (.code (zm_nm y) (zm_cd y) (zm_mx y) (zm_rt y)) && (zm_w e.2.2.2.2.1 (.initialized (zm_nm y).cls) && ((bif e.2.2.1 then zm_w e.2.2.2.2.2.1 (.static (zm_nm y)) else (zm_w e.2.2.2.2.2.1 (.instanceMethod (zm_nm y)) && zm_w e.2.2.2.2.2.2.1 (.selects (zm_nm y).cls (zm_nm y) (zm_nm y)))) &&
   (decide ((zm_nm y).cls = zm_cn e.1) && (decide ((zm_nm y).cls ≠ "java/lang/invoke/MethodHandle") && (decide ((zm_nm y).cls ≠ "java/lang/invoke/VarHandle") && (plainName (zm_nm y).cls && (decide ((parseMethodDescriptor (zm_nm y).desc).map (fun d => d.parameters.length) = some e.2.1) && decide (zm_mx y ≤ 40))))))))

theorem zm_mi1 : zm_bmi 1 (zm_i 1) = true := by decide +kernel
theorem zm_mi2 : zm_bmi 2 (zm_i 2) = true := by decide +kernel
theorem zm_mi3 : zm_bmi 3 (zm_i 3) = true := by decide +kernel
theorem zm_mi4 : zm_bmi 4 (zm_i 4) = true := by decide +kernel
theorem zm_mi5 : zm_bmi 5 (zm_i 5) = true := by decide +kernel
theorem zm_mi6 : zm_bmi 6 (zm_i 6) = true := by decide +kernel
theorem zm_mi7 : zm_bmi 7 (zm_i 7) = true := by decide +kernel
theorem zm_mi8 : zm_bmi 8 (zm_i 8) = true := by decide +kernel
theorem zm_mi9 : zm_bmi 9 (zm_i 9) = true := by decide +kernel
theorem zm_mi10 : zm_bmi 10 (zm_i 10) = true := by decide +kernel
theorem zm_mi11 : zm_bmi 11 (zm_i 11) = true := by decide +kernel
theorem zm_mi12 : zm_bmi 12 (zm_i 12) = true := by decide +kernel
theorem zm_mi13 : zm_bmi 13 (zm_i 13) = true := by decide +kernel
theorem zm_mi14 : zm_bmi 14 (zm_i 14) = true := by decide +kernel
theorem zm_mi15 : zm_bmi 15 (zm_i 15) = true := by decide +kernel
theorem zm_mi16 : zm_bmi 16 (zm_i 16) = true := by decide +kernel
theorem zm_mi17 : zm_bmi 17 (zm_i 17) = true := by decide +kernel
theorem zm_mi18 : zm_bmi 18 (zm_i 18) = true := by decide +kernel
theorem zm_mi19 : zm_bmi 19 (zm_i 19) = true := by decide +kernel
theorem zm_mi20 : zm_bmi 20 (zm_i 20) = true := by decide +kernel
theorem zm_mi21 : zm_bmi 21 (zm_i 21) = true := by decide +kernel
theorem zm_mi22 : zm_bmi 22 (zm_i 22) = true := by decide +kernel
theorem zm_mi23 : zm_bmi 23 (zm_i 23) = true := by decide +kernel
theorem zm_mi24 : zm_bmi 24 (zm_i 24) = true := by decide +kernel
theorem zm_mi25 : zm_bmi 25 (zm_i 25) = true := by decide +kernel
theorem zm_mi26 : zm_bmi 26 (zm_i 26) = true := by decide +kernel
theorem zm_mi27 : zm_bmi 27 (zm_i 27) = true := by decide +kernel
theorem zm_mi28 : zm_bmi 28 (zm_i 28) = true := by decide +kernel
theorem zm_mi29 : zm_bmi 29 (zm_i 29) = true := by decide +kernel
theorem zm_mi30 : zm_bmi 30 (zm_i 30) = true := by decide +kernel
theorem zm_mi31 : zm_bmi 31 (zm_i 31) = true := by decide +kernel
theorem zm_mi32 : zm_bmi 32 (zm_i 32) = true := by decide +kernel
theorem zm_mi33 : zm_bmi 33 (zm_i 33) = true := by decide +kernel
theorem zm_mi34 : zm_bmi 34 (zm_i 34) = true := by decide +kernel
theorem zm_mi35 : zm_bmi 35 (zm_i 35) = true := by decide +kernel
theorem zm_mi36 : zm_bmi 36 (zm_i 36) = true := by decide +kernel
theorem zm_mi37 : zm_bmi 37 (zm_i 37) = true := by decide +kernel
theorem zm_mi38 : zm_bmi 38 (zm_i 38) = true := by decide +kernel
theorem zm_mi39 : zm_bmi 39 (zm_i 39) = true := by decide +kernel
theorem zm_mi40 : zm_bmi 40 (zm_i 40) = true := by decide +kernel
theorem zm_mi41 : zm_bmi 41 (zm_i 41) = true := by decide +kernel
theorem zm_mi42 : zm_bmi 42 (zm_i 42) = true := by decide +kernel
theorem zm_mi43 : zm_bmi 43 (zm_i 43) = true := by decide +kernel
theorem zm_mi44 : zm_bmi 44 (zm_i 44) = true := by decide +kernel
theorem zm_mi45 : zm_bmi 45 (zm_i 45) = true := by decide +kernel
theorem zm_mi46 : zm_bmi 46 (zm_i 46) = true := by decide +kernel
theorem zm_mi47 : zm_bmi 47 (zm_i 47) = true := by decide +kernel
theorem zm_mi48 : zm_bmi 48 (zm_i 48) = true := by decide +kernel
theorem zm_mi49 : zm_bmi 49 (zm_i 49) = true := by decide +kernel
theorem zm_mi50 : zm_bmi 50 (zm_i 50) = true := by decide +kernel
theorem zm_mi51 : zm_bmi 51 (zm_i 51) = true := by decide +kernel
theorem zm_mi52 : zm_bmi 52 (zm_i 52) = true := by decide +kernel
theorem zm_mi53 : zm_bmi 53 (zm_i 53) = true := by decide +kernel
theorem zm_mi54 : zm_bmi 54 (zm_i 54) = true := by decide +kernel
theorem zm_mi55 : zm_bmi 55 (zm_i 55) = true := by decide +kernel
theorem zm_mi56 : zm_bmi 56 (zm_i 56) = true := by decide +kernel
theorem zm_mi57 : zm_bmi 57 (zm_i 57) = true := by decide +kernel
theorem zm_mi58 : zm_bmi 58 (zm_i 58) = true := by decide +kernel
theorem zm_mi59 : zm_bmi 59 (zm_i 59) = true := by decide +kernel
theorem zm_mi60 : zm_bmi 60 (zm_i 60) = true := by decide +kernel
theorem zm_mi61 : zm_bmi 61 (zm_i 61) = true := by decide +kernel
theorem zm_mi62 : zm_bmi 62 (zm_i 62) = true := by decide +kernel
theorem zm_mi63 : zm_bmi 63 (zm_i 63) = true := by decide +kernel
theorem zm_mi64 : zm_bmi 64 (zm_i 64) = true := by decide +kernel
theorem zm_mi65 : zm_bmi 65 (zm_i 65) = true := by decide +kernel
theorem zm_mi66 : zm_bmi 66 (zm_i 66) = true := by decide +kernel
theorem zm_mi67 : zm_bmi 67 (zm_i 67) = true := by decide +kernel
theorem zm_mi68 : zm_bmi 68 (zm_i 68) = true := by decide +kernel
theorem zm_mi69 : zm_bmi 69 (zm_i 69) = true := by decide +kernel
theorem zm_mi70 : zm_bmi 70 (zm_i 70) = true := by decide +kernel
theorem zm_mi71 : zm_bmi 71 (zm_i 71) = true := by decide +kernel
theorem zm_mi72 : zm_bmi 72 (zm_i 72) = true := by decide +kernel
theorem zm_mi73 : zm_bmi 73 (zm_i 73) = true := by decide +kernel
theorem zm_mi74 : zm_bmi 74 (zm_i 74) = true := by decide +kernel
theorem zm_mi75 : zm_bmi 75 (zm_i 75) = true := by decide +kernel
theorem zm_mi76 : zm_bmi 76 (zm_i 76) = true := by decide +kernel
theorem zm_mi77 : zm_bmi 77 (zm_i 77) = true := by decide +kernel
theorem zm_mi78 : zm_bmi 78 (zm_i 78) = true := by decide +kernel
theorem zm_mi79 : zm_bmi 79 (zm_i 79) = true := by decide +kernel
theorem zm_mi80 : zm_bmi 80 (zm_i 80) = true := by decide +kernel
theorem zm_mi81 : zm_bmi 81 (zm_i 81) = true := by decide +kernel
theorem zm_mi82 : zm_bmi 82 (zm_i 82) = true := by decide +kernel
theorem zm_mi83 : zm_bmi 83 (zm_i 83) = true := by decide +kernel
theorem zm_mi84 : zm_bmi 84 (zm_i 84) = true := by decide +kernel
theorem zm_mi85 : zm_bmi 85 (zm_i 85) = true := by decide +kernel
theorem zm_mi86 : zm_bmi 86 (zm_i 86) = true := by decide +kernel
theorem zm_mi87 : zm_bmi 87 (zm_i 87) = true := by decide +kernel
theorem zm_mi88 : zm_bmi 88 (zm_i 88) = true := by decide +kernel
theorem zm_mi89 : zm_bmi 89 (zm_i 89) = true := by decide +kernel
theorem zm_mi90 : zm_bmi 90 (zm_i 90) = true := by decide +kernel
theorem zm_mi91 : zm_bmi 91 (zm_i 91) = true := by decide +kernel
theorem zm_mi92 : zm_bmi 92 (zm_i 92) = true := by decide +kernel
theorem zm_mi93 : zm_bmi 93 (zm_i 93) = true := by decide +kernel
theorem zm_mi94 : zm_bmi 94 (zm_i 94) = true := by decide +kernel
theorem zm_mi95 : zm_bmi 95 (zm_i 95) = true := by decide +kernel
theorem zm_mi96 : zm_bmi 96 (zm_i 96) = true := by decide +kernel
theorem zm_mi97 : zm_bmi 97 (zm_i 97) = true := by decide +kernel
theorem zm_mi98 : zm_bmi 98 (zm_i 98) = true := by decide +kernel
theorem zm_mi99 : zm_bmi 99 (zm_i 99) = true := by decide +kernel
theorem zm_mi100 : zm_bmi 100 (zm_i 100) = true := by decide +kernel
theorem zm_mi101 : zm_bmi 101 (zm_i 101) = true := by decide +kernel
theorem zm_mi102 : zm_bmi 102 (zm_i 102) = true := by decide +kernel
theorem zm_mi103 : zm_bmi 103 (zm_i 103) = true := by decide +kernel
theorem zm_mi104 : zm_bmi 104 (zm_i 104) = true := by decide +kernel
theorem zm_mi105 : zm_bmi 105 (zm_i 105) = true := by decide +kernel
theorem zm_mi106 : zm_bmi 106 (zm_i 106) = true := by decide +kernel
theorem zm_mi107 : zm_bmi 107 (zm_i 107) = true := by decide +kernel
theorem zm_mi108 : zm_bmi 108 (zm_i 108) = true := by decide +kernel
theorem zm_mi109 : zm_bmi 109 (zm_i 109) = true := by decide +kernel
theorem zm_mi110 : zm_bmi 110 (zm_i 110) = true := by decide +kernel
theorem zm_mi111 : zm_bmi 111 (zm_i 111) = true := by decide +kernel
theorem zm_mi112 : zm_bmi 112 (zm_i 112) = true := by decide +kernel
theorem zm_mi113 : zm_bmi 113 (zm_i 113) = true := by decide +kernel
theorem zm_mi114 : zm_bmi 114 (zm_i 114) = true := by decide +kernel
theorem zm_mi115 : zm_bmi 115 (zm_i 115) = true := by decide +kernel
theorem zm_mi116 : zm_bmi 116 (zm_i 116) = true := by decide +kernel
theorem zm_mi117 : zm_bmi 117 (zm_i 117) = true := by decide +kernel
theorem zm_mi118 : zm_bmi 118 (zm_i 118) = true := by decide +kernel
theorem zm_mi119 : zm_bmi 119 (zm_i 119) = true := by decide +kernel
theorem zm_mi120 : zm_bmi 120 (zm_i 120) = true := by decide +kernel
theorem zm_mi121 : zm_bmi 121 (zm_i 121) = true := by decide +kernel
theorem zm_mi122 : zm_bmi 122 (zm_i 122) = true := by decide +kernel
theorem zm_mi123 : zm_bmi 123 (zm_i 123) = true := by decide +kernel
theorem zm_mi124 : zm_bmi 124 (zm_i 124) = true := by decide +kernel
theorem zm_mi125 : zm_bmi 125 (zm_i 125) = true := by decide +kernel
theorem zm_mi126 : zm_bmi 126 (zm_i 126) = true := by decide +kernel
theorem zm_mi127 : zm_bmi 127 (zm_i 127) = true := by decide +kernel
theorem zm_mi128 : zm_bmi 128 (zm_i 128) = true := by decide +kernel
theorem zm_mi129 : zm_bmi 129 (zm_i 129) = true := by decide +kernel
theorem zm_mi130 : zm_bmi 130 (zm_i 130) = true := by decide +kernel
theorem zm_mi131 : zm_bmi 131 (zm_i 131) = true := by decide +kernel
theorem zm_mi132 : zm_bmi 132 (zm_i 132) = true := by decide +kernel
theorem zm_mi133 : zm_bmi 133 (zm_i 133) = true := by decide +kernel
theorem zm_mi134 : zm_bmi 134 (zm_i 134) = true := by decide +kernel
theorem zm_mi135 : zm_bmi 135 (zm_i 135) = true := by decide +kernel
theorem zm_mi136 : zm_bmi 136 (zm_i 136) = true := by decide +kernel
theorem zm_mi137 : zm_bmi 137 (zm_i 137) = true := by decide +kernel
theorem zm_mi138 : zm_bmi 138 (zm_i 138) = true := by decide +kernel
theorem zm_mi139 : zm_bmi 139 (zm_i 139) = true := by decide +kernel
theorem zm_mi140 : zm_bmi 140 (zm_i 140) = true := by decide +kernel
theorem zm_mi141 : zm_bmi 141 (zm_i 141) = true := by decide +kernel
theorem zm_mi142 : zm_bmi 142 (zm_i 142) = true := by decide +kernel
theorem zm_mi143 : zm_bmi 143 (zm_i 143) = true := by decide +kernel
theorem zm_mi144 : zm_bmi 144 (zm_i 144) = true := by decide +kernel
theorem zm_mi145 : zm_bmi 145 (zm_i 145) = true := by decide +kernel
theorem zm_mi146 : zm_bmi 146 (zm_i 146) = true := by decide +kernel
theorem zm_mi147 : zm_bmi 147 (zm_i 147) = true := by decide +kernel
theorem zm_mi148 : zm_bmi 148 (zm_i 148) = true := by decide +kernel
theorem zm_mi149 : zm_bmi 149 (zm_i 149) = true := by decide +kernel
theorem zm_mi150 : zm_bmi 150 (zm_i 150) = true := by decide +kernel
theorem zm_mi151 : zm_bmi 151 (zm_i 151) = true := by decide +kernel
theorem zm_mi152 : zm_bmi 152 (zm_i 152) = true := by decide +kernel
theorem zm_mi153 : zm_bmi 153 (zm_i 153) = true := by decide +kernel
theorem zm_mi154 : zm_bmi 154 (zm_i 154) = true := by decide +kernel
theorem zm_mi155 : zm_bmi 155 (zm_i 155) = true := by decide +kernel
theorem zm_mi156 : zm_bmi 156 (zm_i 156) = true := by decide +kernel
theorem zm_mi157 : zm_bmi 157 (zm_i 157) = true := by decide +kernel
theorem zm_mi158 : zm_bmi 158 (zm_i 158) = true := by decide +kernel
theorem zm_mi159 : zm_bmi 159 (zm_i 159) = true := by decide +kernel
theorem zm_mi160 : zm_bmi 160 (zm_i 160) = true := by decide +kernel
theorem zm_mi161 : zm_bmi 161 (zm_i 161) = true := by decide +kernel
theorem zm_mi162 : zm_bmi 162 (zm_i 162) = true := by decide +kernel
theorem zm_mi163 : zm_bmi 163 (zm_i 163) = true := by decide +kernel
theorem zm_mi164 : zm_bmi 164 (zm_i 164) = true := by decide +kernel
theorem zm_mi165 : zm_bmi 165 (zm_i 165) = true := by decide +kernel
theorem zm_mi166 : zm_bmi 166 (zm_i 166) = true := by decide +kernel
theorem zm_mi167 : zm_bmi 167 (zm_i 167) = true := by decide +kernel
theorem zm_mi168 : zm_bmi 168 (zm_i 168) = true := by decide +kernel
theorem zm_mi169 : zm_bmi 169 (zm_i 169) = true := by decide +kernel
theorem zm_mi170 : zm_bmi 170 (zm_i 170) = true := by decide +kernel
theorem zm_mi171 : zm_bmi 171 (zm_i 171) = true := by decide +kernel
theorem zm_mi172 : zm_bmi 172 (zm_i 172) = true := by decide +kernel
theorem zm_mi173 : zm_bmi 173 (zm_i 173) = true := by decide +kernel
theorem zm_mi174 : zm_bmi 174 (zm_i 174) = true := by decide +kernel
theorem zm_mi175 : zm_bmi 175 (zm_i 175) = true := by decide +kernel
theorem zm_mi176 : zm_bmi 176 (zm_i 176) = true := by decide +kernel
theorem zm_mi177 : zm_bmi 177 (zm_i 177) = true := by decide +kernel
theorem zm_mi178 : zm_bmi 178 (zm_i 178) = true := by decide +kernel
theorem zm_mi179 : zm_bmi 179 (zm_i 179) = true := by decide +kernel
theorem zm_mi180 : zm_bmi 180 (zm_i 180) = true := by decide +kernel
theorem zm_mi181 : zm_bmi 181 (zm_i 181) = true := by decide +kernel
theorem zm_mi182 : zm_bmi 182 (zm_i 182) = true := by decide +kernel
theorem zm_mi183 : zm_bmi 183 (zm_i 183) = true := by decide +kernel
theorem zm_mi184 : zm_bmi 184 (zm_i 184) = true := by decide +kernel
theorem zm_mi185 : zm_bmi 185 (zm_i 185) = true := by decide +kernel
theorem zm_mi186 : zm_bmi 186 (zm_i 186) = true := by decide +kernel
theorem zm_mi187 : zm_bmi 187 (zm_i 187) = true := by decide +kernel
theorem zm_mi188 : zm_bmi 188 (zm_i 188) = true := by decide +kernel
theorem zm_mi189 : zm_bmi 189 (zm_i 189) = true := by decide +kernel
theorem zm_mi190 : zm_bmi 190 (zm_i 190) = true := by decide +kernel
theorem zm_mi191 : zm_bmi 191 (zm_i 191) = true := by decide +kernel
theorem zm_mi192 : zm_bmi 192 (zm_i 192) = true := by decide +kernel
theorem zm_mi193 : zm_bmi 193 (zm_i 193) = true := by decide +kernel
theorem zm_mi194 : zm_bmi 194 (zm_i 194) = true := by decide +kernel
theorem zm_mi195 : zm_bmi 195 (zm_i 195) = true := by decide +kernel
theorem zm_mi196 : zm_bmi 196 (zm_i 196) = true := by decide +kernel
theorem zm_mi197 : zm_bmi 197 (zm_i 197) = true := by decide +kernel
theorem zm_mi198 : zm_bmi 198 (zm_i 198) = true := by decide +kernel
theorem zm_mi199 : zm_bmi 199 (zm_i 199) = true := by decide +kernel
theorem zm_mi200 : zm_bmi 200 (zm_i 200) = true := by decide +kernel
theorem zm_mi201 : zm_bmi 201 (zm_i 201) = true := by decide +kernel
theorem zm_mi202 : zm_bmi 202 (zm_i 202) = true := by decide +kernel
theorem zm_mi203 : zm_bmi 203 (zm_i 203) = true := by decide +kernel
theorem zm_mi204 : zm_bmi 204 (zm_i 204) = true := by decide +kernel
theorem zm_mi205 : zm_bmi 205 (zm_i 205) = true := by decide +kernel
theorem zm_mi206 : zm_bmi 206 (zm_i 206) = true := by decide +kernel
theorem zm_mi207 : zm_bmi 207 (zm_i 207) = true := by decide +kernel
theorem zm_mi208 : zm_bmi 208 (zm_i 208) = true := by decide +kernel
theorem zm_mi209 : zm_bmi 209 (zm_i 209) = true := by decide +kernel
theorem zm_mi210 : zm_bmi 210 (zm_i 210) = true := by decide +kernel
theorem zm_mi211 : zm_bmi 211 (zm_i 211) = true := by decide +kernel
theorem zm_mi212 : zm_bmi 212 (zm_i 212) = true := by decide +kernel
theorem zm_mi213 : zm_bmi 213 (zm_i 213) = true := by decide +kernel
theorem zm_miA : ∀ y : Nat, 0 < y → y < 214 → zm_bmi y (zm_i y) = true
  | 0, h, _ => absurd h (by omega)
  | 1, _, _ => zm_mi1
  | 2, _, _ => zm_mi2
  | 3, _, _ => zm_mi3
  | 4, _, _ => zm_mi4
  | 5, _, _ => zm_mi5
  | 6, _, _ => zm_mi6
  | 7, _, _ => zm_mi7
  | 8, _, _ => zm_mi8
  | 9, _, _ => zm_mi9
  | 10, _, _ => zm_mi10
  | 11, _, _ => zm_mi11
  | 12, _, _ => zm_mi12
  | 13, _, _ => zm_mi13
  | 14, _, _ => zm_mi14
  | 15, _, _ => zm_mi15
  | 16, _, _ => zm_mi16
  | 17, _, _ => zm_mi17
  | 18, _, _ => zm_mi18
  | 19, _, _ => zm_mi19
  | 20, _, _ => zm_mi20
  | 21, _, _ => zm_mi21
  | 22, _, _ => zm_mi22
  | 23, _, _ => zm_mi23
  | 24, _, _ => zm_mi24
  | 25, _, _ => zm_mi25
  | 26, _, _ => zm_mi26
  | 27, _, _ => zm_mi27
  | 28, _, _ => zm_mi28
  | 29, _, _ => zm_mi29
  | 30, _, _ => zm_mi30
  | 31, _, _ => zm_mi31
  | 32, _, _ => zm_mi32
  | 33, _, _ => zm_mi33
  | 34, _, _ => zm_mi34
  | 35, _, _ => zm_mi35
  | 36, _, _ => zm_mi36
  | 37, _, _ => zm_mi37
  | 38, _, _ => zm_mi38
  | 39, _, _ => zm_mi39
  | 40, _, _ => zm_mi40
  | 41, _, _ => zm_mi41
  | 42, _, _ => zm_mi42
  | 43, _, _ => zm_mi43
  | 44, _, _ => zm_mi44
  | 45, _, _ => zm_mi45
  | 46, _, _ => zm_mi46
  | 47, _, _ => zm_mi47
  | 48, _, _ => zm_mi48
  | 49, _, _ => zm_mi49
  | 50, _, _ => zm_mi50
  | 51, _, _ => zm_mi51
  | 52, _, _ => zm_mi52
  | 53, _, _ => zm_mi53
  | 54, _, _ => zm_mi54
  | 55, _, _ => zm_mi55
  | 56, _, _ => zm_mi56
  | 57, _, _ => zm_mi57
  | 58, _, _ => zm_mi58
  | 59, _, _ => zm_mi59
  | 60, _, _ => zm_mi60
  | 61, _, _ => zm_mi61
  | 62, _, _ => zm_mi62
  | 63, _, _ => zm_mi63
  | 64, _, _ => zm_mi64
  | 65, _, _ => zm_mi65
  | 66, _, _ => zm_mi66
  | 67, _, _ => zm_mi67
  | 68, _, _ => zm_mi68
  | 69, _, _ => zm_mi69
  | 70, _, _ => zm_mi70
  | 71, _, _ => zm_mi71
  | 72, _, _ => zm_mi72
  | 73, _, _ => zm_mi73
  | 74, _, _ => zm_mi74
  | 75, _, _ => zm_mi75
  | 76, _, _ => zm_mi76
  | 77, _, _ => zm_mi77
  | 78, _, _ => zm_mi78
  | 79, _, _ => zm_mi79
  | 80, _, _ => zm_mi80
  | 81, _, _ => zm_mi81
  | 82, _, _ => zm_mi82
  | 83, _, _ => zm_mi83
  | 84, _, _ => zm_mi84
  | 85, _, _ => zm_mi85
  | 86, _, _ => zm_mi86
  | 87, _, _ => zm_mi87
  | 88, _, _ => zm_mi88
  | 89, _, _ => zm_mi89
  | 90, _, _ => zm_mi90
  | 91, _, _ => zm_mi91
  | 92, _, _ => zm_mi92
  | 93, _, _ => zm_mi93
  | 94, _, _ => zm_mi94
  | 95, _, _ => zm_mi95
  | 96, _, _ => zm_mi96
  | 97, _, _ => zm_mi97
  | 98, _, _ => zm_mi98
  | 99, _, _ => zm_mi99
  | 100, _, _ => zm_mi100
  | 101, _, _ => zm_mi101
  | 102, _, _ => zm_mi102
  | 103, _, _ => zm_mi103
  | 104, _, _ => zm_mi104
  | 105, _, _ => zm_mi105
  | 106, _, _ => zm_mi106
  | 107, _, _ => zm_mi107
  | 108, _, _ => zm_mi108
  | 109, _, _ => zm_mi109
  | 110, _, _ => zm_mi110
  | 111, _, _ => zm_mi111
  | 112, _, _ => zm_mi112
  | 113, _, _ => zm_mi113
  | 114, _, _ => zm_mi114
  | 115, _, _ => zm_mi115
  | 116, _, _ => zm_mi116
  | 117, _, _ => zm_mi117
  | 118, _, _ => zm_mi118
  | 119, _, _ => zm_mi119
  | 120, _, _ => zm_mi120
  | 121, _, _ => zm_mi121
  | 122, _, _ => zm_mi122
  | 123, _, _ => zm_mi123
  | 124, _, _ => zm_mi124
  | 125, _, _ => zm_mi125
  | 126, _, _ => zm_mi126
  | 127, _, _ => zm_mi127
  | 128, _, _ => zm_mi128
  | 129, _, _ => zm_mi129
  | 130, _, _ => zm_mi130
  | 131, _, _ => zm_mi131
  | 132, _, _ => zm_mi132
  | 133, _, _ => zm_mi133
  | 134, _, _ => zm_mi134
  | 135, _, _ => zm_mi135
  | 136, _, _ => zm_mi136
  | 137, _, _ => zm_mi137
  | 138, _, _ => zm_mi138
  | 139, _, _ => zm_mi139
  | 140, _, _ => zm_mi140
  | 141, _, _ => zm_mi141
  | 142, _, _ => zm_mi142
  | 143, _, _ => zm_mi143
  | 144, _, _ => zm_mi144
  | 145, _, _ => zm_mi145
  | 146, _, _ => zm_mi146
  | 147, _, _ => zm_mi147
  | 148, _, _ => zm_mi148
  | 149, _, _ => zm_mi149
  | 150, _, _ => zm_mi150
  | 151, _, _ => zm_mi151
  | 152, _, _ => zm_mi152
  | 153, _, _ => zm_mi153
  | 154, _, _ => zm_mi154
  | 155, _, _ => zm_mi155
  | 156, _, _ => zm_mi156
  | 157, _, _ => zm_mi157
  | 158, _, _ => zm_mi158
  | 159, _, _ => zm_mi159
  | 160, _, _ => zm_mi160
  | 161, _, _ => zm_mi161
  | 162, _, _ => zm_mi162
  | 163, _, _ => zm_mi163
  | 164, _, _ => zm_mi164
  | 165, _, _ => zm_mi165
  | 166, _, _ => zm_mi166
  | 167, _, _ => zm_mi167
  | 168, _, _ => zm_mi168
  | 169, _, _ => zm_mi169
  | 170, _, _ => zm_mi170
  | 171, _, _ => zm_mi171
  | 172, _, _ => zm_mi172
  | 173, _, _ => zm_mi173
  | 174, _, _ => zm_mi174
  | 175, _, _ => zm_mi175
  | 176, _, _ => zm_mi176
  | 177, _, _ => zm_mi177
  | 178, _, _ => zm_mi178
  | 179, _, _ => zm_mi179
  | 180, _, _ => zm_mi180
  | 181, _, _ => zm_mi181
  | 182, _, _ => zm_mi182
  | 183, _, _ => zm_mi183
  | 184, _, _ => zm_mi184
  | 185, _, _ => zm_mi185
  | 186, _, _ => zm_mi186
  | 187, _, _ => zm_mi187
  | 188, _, _ => zm_mi188
  | 189, _, _ => zm_mi189
  | 190, _, _ => zm_mi190
  | 191, _, _ => zm_mi191
  | 192, _, _ => zm_mi192
  | 193, _, _ => zm_mi193
  | 194, _, _ => zm_mi194
  | 195, _, _ => zm_mi195
  | 196, _, _ => zm_mi196
  | 197, _, _ => zm_mi197
  | 198, _, _ => zm_mi198
  | 199, _, _ => zm_mi199
  | 200, _, _ => zm_mi200
  | 201, _, _ => zm_mi201
  | 202, _, _ => zm_mi202
  | 203, _, _ => zm_mi203
  | 204, _, _ => zm_mi204
  | 205, _, _ => zm_mi205
  | 206, _, _ => zm_mi206
  | 207, _, _ => zm_mi207
  | 208, _, _ => zm_mi208
  | 209, _, _ => zm_mi209
  | 210, _, _ => zm_mi210
  | 211, _, _ => zm_mi211
  | 212, _, _ => zm_mi212
  | 213, _, _ => zm_mi213
  | n + 214, _, h => absurd h (by omega)
theorem zm_mtA : (List.range 214).all (fun y => decide (zm_rt y = (match zm_rk y with | 0 => none | 1 => some .int | 2 => some .boolean | 3 => some .long | 5 => some .byte | _ => some (.object "FathersPay$Text")))) = true := by decide +kernel
def zm_bfd (i : Nat) (j : Nat) : Bool := zm_w ((zm_lp.getD i []).getD j 0) (u_lay (zm_cn i) (zm_T i) j) && (decide (parseFieldDescriptor (zm_T i j).2.2.1 = some (zm_ty i j)) && ((zm_T i j).2.2.2 == (zm_ft i j == 2)) && decide (zm_ft i j = (match zm_ty i j with | .int => 0 | .long => 1 | .boolean => 4 | .object "java/lang/String" => 3 | _ => 2)))
theorem zm_fdA : (List.range 12).all (fun i => (List.range (zm_nf i)).all (zm_bfd i)) = true := by decide +kernel
theorem zm_fnA : (List.range 12).all (fun i => (List.range (zm_nf i)).all (fun a => (List.range (zm_nf i)).all (fun b => Nat.beq a b || decide ((zm_T i a).2.1 ≠ (zm_T i b).2.1)))) = true := by decide +kernel
def zm_bfl (o : Nat) (e : Nat × Nat × Nat × Nat) : Bool := zm_w e.2.2.2 (.fieldLink (zm_cn o) e.1 (zm_T e.2.1 e.2.2.1).1 (zm_T e.2.1 e.2.2.1).2.1 (zm_T e.2.1 e.2.2.1).2.2.1) && (decide (e.2.1 < 12) && decide (e.2.2.1 < zm_nf e.2.1))
theorem zm_flA : ((List.range 16).all fun o => (zm_flT.getD o []).all (zm_bfl o)) = true := by decide +kernel
def zm_bml (o : Nat) (e : Nat × Nat × Bool × Nat) : Bool := (bif e.2.2.1 then zm_nwm.any (fun q => Nat.beq q.1 o && (Nat.beq q.2.1 e.1 && Nat.beq q.2.2.1 e.2.1)) else zm_w e.2.2.2 (.methodLink (zm_cn o) e.1 (zm_nm e.2.1))) && (decide (0 < e.2.1) && decide (e.2.1 < 214) && (!e.2.2.1 || zm_is e.2.1))
theorem zm_mlA : ((List.range 16).all fun o => (zm_mlT.getD o []).all (zm_bml o)) = true := by decide +kernel
def zm_bn (b : Nat) : MethodName := match b with | 1 => Lib.Math.min.name | 2 => Lib.Math.max.name | _ => arraycopyName
def zm_bbi (o : Nat) (e : Nat × Nat × Nat) : Bool := zm_w e.2.2 (.methodLink (zm_cn o) e.1 (zm_bn e.2.1)) && decide (e.2.1 = 1 ∨ e.2.1 = 2 ∨ e.2.1 = 3)
theorem zm_biA : ((List.range 16).all fun o => (zm_biT.getD o []).all (zm_bbi o)) = true := by decide +kernel
def zm_bgs (o : Nat) (e : Nat × Nat × Bool × Nat) : Bool := bif Nat.beq e.2.1 9 then (!e.2.2.1 && zm_w e.2.2.2 (.fieldLink (zm_cn o) e.1 "java/lang/String" "COMPACT_STRINGS" "Z")) else (decide (e.2.1 < 5) && (bif e.2.2.1 then zm_nwf.any (fun q => Nat.beq q.1 o && (Nat.beq q.2.1 e.1 && Nat.beq q.2.2.1 e.2.1)) else zm_w e.2.2.2 (.fieldLink (zm_cn o) e.1 "FathersPay" (zm_sn.getD e.2.1 "") "[I")))
theorem zm_gsA : ((List.range 16).all fun o => (zm_gsT.getD o []).all (zm_bgs o)) = true := by decide +kernel
def zm_bld (o : Nat) (e : Nat × Int32 × Nat) : Bool := zm_w e.2.2 (.constant (zm_cn o) e.1 e.2.1)
theorem zm_ldA : ((List.range 16).all fun o => (zm_ldT.getD o []).all (zm_bld o)) = true := by decide +kernel
def zm_bl2 (o : Nat) (e : Nat × Int64 × Nat) : Bool := zm_w e.2.2 (.constantLong (zm_cn o) e.1 e.2.1)
theorem zm_l2A : ((List.range 16).all fun o => (zm_l2T.getD o []).all (zm_bl2 o)) = true := by decide +kernel
theorem zm_nwmA : zm_nwm.all (fun e => decide (lw_tbl[e.2.2.2]? = some (.methodLinkNest (zm_cn e.1) e.2.1 (zm_nm e.2.2.1) "FathersPay"))) = true := by decide +kernel
theorem zm_nwfA : zm_nwf.all (fun e => decide (lw_tbl[e.2.2.2]? = some (.fieldLinkNest (zm_cn e.1) e.2.1 "FathersPay" (zm_sn.getD e.2.2.1 "") "[I" "FathersPay"))) = true := by decide +kernel
theorem zm_bw (c : Jvm.Cond) (i : Nat) (h : zm_w i c = true) : c ∈ zm_TT := zm_inT h

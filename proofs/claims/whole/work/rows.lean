section
-- ===== PART A: goes FIRST, ahead of the names: the tables' words, and 'selects' of the private methods out of them =====
/-- a private method of a class that the tables say can be made, by its rows of tables_1 -/
def lw_okq (q : MethodName × Nat) : Prop := (q.1.cls ≠ "java/lang/invoke/MethodHandle" ∧ q.1.cls ≠ "java/lang/invoke/VarHandle") ∧ Cond.instantiable q.1.cls q.2 ∈ tables_1 ∧ Cond.privateMethod q.1 ∈ tables_1 ∧ Cond.instanceMethod q.1 ∈ tables_1
theorem lw_p0 : lw_okq (⟨"FlagHues$Past", "placeAfter", "(I)I"⟩, 3) := ⟨⟨by decide +kernel, by decide +kernel⟩, List.mem_of_getElem? (i := 93) (by decide +kernel), List.mem_of_getElem? (i := 201) (by decide +kernel), List.mem_of_getElem? (i := 202) (by decide +kernel)⟩
theorem lw_p1 : lw_okq (⟨"FlagHues$Land", "firstWithOneFreeHue", "()I"⟩, 12) := ⟨⟨by decide +kernel, by decide +kernel⟩, List.mem_of_getElem? (i := 33) (by decide +kernel), List.mem_of_getElem? (i := 219) (by decide +kernel), List.mem_of_getElem? (i := 220) (by decide +kernel)⟩
theorem lw_p2 : lw_okq (⟨"FlagHues$Land", "huesAround", "(I)I"⟩, 12) := ⟨⟨by decide +kernel, by decide +kernel⟩, List.mem_of_getElem? (i := 33) (by decide +kernel), List.mem_of_getElem? (i := 227) (by decide +kernel), List.mem_of_getElem? (i := 228) (by decide +kernel)⟩
theorem lw_p3 : lw_okq (⟨"FlagHues$Counter", "noteHolders", "(LFlagHues$Land;)V"⟩, 2) := ⟨⟨by decide +kernel, by decide +kernel⟩, List.mem_of_getElem? (i := 113) (by decide +kernel), List.mem_of_getElem? (i := 268) (by decide +kernel), List.mem_of_getElem? (i := 269) (by decide +kernel)⟩
theorem lw_p4 : lw_okq (⟨"FlagHues$Counter", "spellOut", "(LFlagHues$Land;I)V"⟩, 2) := ⟨⟨by decide +kernel, by decide +kernel⟩, List.mem_of_getElem? (i := 113) (by decide +kernel), List.mem_of_getElem? (i := 293) (by decide +kernel), List.mem_of_getElem? (i := 294) (by decide +kernel)⟩
theorem lw_p5 : lw_okq (⟨"FlagHues$Counter", "isWay", "(LFlagHues$Land;)Z"⟩, 2) := ⟨⟨by decide +kernel, by decide +kernel⟩, List.mem_of_getElem? (i := 113) (by decide +kernel), List.mem_of_getElem? (i := 297) (by decide +kernel), List.mem_of_getElem? (i := 298) (by decide +kernel)⟩
theorem lw_p6 : lw_okq (⟨"java/lang/Throwable", "fillInStackTrace", "(I)Ljava/lang/Throwable;"⟩, 6) := ⟨⟨by decide +kernel, by decide +kernel⟩, List.mem_of_getElem? (i := 394) (by decide +kernel), List.mem_of_getElem? (i := 392) (by decide +kernel), List.mem_of_getElem? (i := 393) (by decide +kernel)⟩
theorem lw_p7 : lw_okq (⟨"FlagHues", "stopIfRefused", "(III)V"⟩, 12) := ⟨⟨by decide +kernel, by decide +kernel⟩, List.mem_of_getElem? (i := 25) (by decide +kernel), List.mem_of_getElem? (i := 428) (by decide +kernel), List.mem_of_getElem? (i := 429) (by decide +kernel)⟩
theorem lw_p8 : lw_okq (⟨"FlagHues", "keepReason", "(III)V"⟩, 12) := ⟨⟨by decide +kernel, by decide +kernel⟩, List.mem_of_getElem? (i := 25) (by decide +kernel), List.mem_of_getElem? (i := 432) (by decide +kernel), List.mem_of_getElem? (i := 433) (by decide +kernel)⟩
theorem lw_p9 : lw_okq (⟨"FlagHues$Land", "lowestNeighbourIn", "(II)I"⟩, 12) := ⟨⟨by decide +kernel, by decide +kernel⟩, List.mem_of_getElem? (i := 33) (by decide +kernel), List.mem_of_getElem? (i := 440) (by decide +kernel), List.mem_of_getElem? (i := 441) (by decide +kernel)⟩
theorem lw_p10 : lw_okq (⟨"FlagHues$Land", "lowestPaintedBeyond", "(I)I"⟩, 12) := ⟨⟨by decide +kernel, by decide +kernel⟩, List.mem_of_getElem? (i := 33) (by decide +kernel), List.mem_of_getElem? (i := 444) (by decide +kernel), List.mem_of_getElem? (i := 445) (by decide +kernel)⟩
theorem lw_p11 : lw_okq (⟨"FlagHues", "stopIfNoCountry", "(I)V"⟩, 12) := ⟨⟨by decide +kernel, by decide +kernel⟩, List.mem_of_getElem? (i := 25) (by decide +kernel), List.mem_of_getElem? (i := 499) (by decide +kernel), List.mem_of_getElem? (i := 500) (by decide +kernel)⟩
theorem lw_p12 : lw_okq (⟨"FlagHues", "stopIfNoHue", "(I)V"⟩, 12) := ⟨⟨by decide +kernel, by decide +kernel⟩, List.mem_of_getElem? (i := 25) (by decide +kernel), List.mem_of_getElem? (i := 595) (by decide +kernel), List.mem_of_getElem? (i := 596) (by decide +kernel)⟩
theorem lw_p13 : lw_okq (⟨"FlagHues$Land", "isBetterToPaint", "(II)Z"⟩, 12) := ⟨⟨by decide +kernel, by decide +kernel⟩, List.mem_of_getElem? (i := 33) (by decide +kernel), List.mem_of_getElem? (i := 712) (by decide +kernel), List.mem_of_getElem? (i := 713) (by decide +kernel)⟩
theorem lw_p14 : lw_okq (⟨"FlagHues$Land", "countRobbed", "(II)I"⟩, 12) := ⟨⟨by decide +kernel, by decide +kernel⟩, List.mem_of_getElem? (i := 33) (by decide +kernel), List.mem_of_getElem? (i := 728) (by decide +kernel), List.mem_of_getElem? (i := 729) (by decide +kernel)⟩
theorem lw_p15 : lw_okq (⟨"FlagHues", "putDigit", "(I)V"⟩, 12) := ⟨⟨by decide +kernel, by decide +kernel⟩, List.mem_of_getElem? (i := 25) (by decide +kernel), List.mem_of_getElem? (i := 782) (by decide +kernel), List.mem_of_getElem? (i := 783) (by decide +kernel)⟩
def lw_privs_1 : List (MethodName × Nat) := [(⟨"FlagHues$Past", "placeAfter", "(I)I"⟩, 3), (⟨"FlagHues$Land", "firstWithOneFreeHue", "()I"⟩, 12), (⟨"FlagHues$Land", "huesAround", "(I)I"⟩, 12), (⟨"FlagHues$Counter", "noteHolders", "(LFlagHues$Land;)V"⟩, 2), (⟨"FlagHues$Counter", "spellOut", "(LFlagHues$Land;I)V"⟩, 2), (⟨"FlagHues$Counter", "isWay", "(LFlagHues$Land;)Z"⟩, 2), (⟨"java/lang/Throwable", "fillInStackTrace", "(I)Ljava/lang/Throwable;"⟩, 6), (⟨"FlagHues", "stopIfRefused", "(III)V"⟩, 12), (⟨"FlagHues", "keepReason", "(III)V"⟩, 12), (⟨"FlagHues$Land", "lowestNeighbourIn", "(II)I"⟩, 12), (⟨"FlagHues$Land", "lowestPaintedBeyond", "(I)I"⟩, 12), (⟨"FlagHues", "stopIfNoCountry", "(I)V"⟩, 12), (⟨"FlagHues", "stopIfNoHue", "(I)V"⟩, 12), (⟨"FlagHues$Land", "isBetterToPaint", "(II)Z"⟩, 12), (⟨"FlagHues$Land", "countRobbed", "(II)I"⟩, 12), (⟨"FlagHues", "putDigit", "(I)V"⟩, 12)]
theorem lw_r1 : ∀ q ∈ lw_privs_1, lw_okq q := List.forall_mem_cons.mpr ⟨lw_p0, List.forall_mem_cons.mpr ⟨lw_p1, List.forall_mem_cons.mpr ⟨lw_p2, List.forall_mem_cons.mpr ⟨lw_p3, List.forall_mem_cons.mpr ⟨lw_p4, List.forall_mem_cons.mpr ⟨lw_p5, List.forall_mem_cons.mpr ⟨lw_p6, List.forall_mem_cons.mpr ⟨lw_p7, List.forall_mem_cons.mpr ⟨lw_p8, List.forall_mem_cons.mpr ⟨lw_p9, List.forall_mem_cons.mpr ⟨lw_p10, List.forall_mem_cons.mpr ⟨lw_p11, List.forall_mem_cons.mpr ⟨lw_p12, List.forall_mem_cons.mpr ⟨lw_p13, List.forall_mem_cons.mpr ⟨lw_p14, List.forall_mem_cons.mpr ⟨lw_p15, fun _ h => absurd h List.not_mem_nil⟩⟩⟩⟩⟩⟩⟩⟩⟩⟩⟩⟩⟩⟩⟩⟩
theorem lw_p16 : lw_okq (⟨"FlagHues", "put", "(C)V"⟩, 12) := ⟨⟨by decide +kernel, by decide +kernel⟩, List.mem_of_getElem? (i := 25) (by decide +kernel), List.mem_of_getElem? (i := 786) (by decide +kernel), List.mem_of_getElem? (i := 787) (by decide +kernel)⟩
theorem lw_p17 : lw_okq (⟨"FlagHues", "putNeighbours", "(I)V"⟩, 12) := ⟨⟨by decide +kernel, by decide +kernel⟩, List.mem_of_getElem? (i := 25) (by decide +kernel), List.mem_of_getElem? (i := 791) (by decide +kernel), List.mem_of_getElem? (i := 792) (by decide +kernel)⟩
theorem lw_p18 : lw_okq (⟨"FlagHues$Orders", "takeParts", "()Z"⟩, 6) := ⟨⟨by decide +kernel, by decide +kernel⟩, List.mem_of_getElem? (i := 126) (by decide +kernel), List.mem_of_getElem? (i := 843) (by decide +kernel), List.mem_of_getElem? (i := 844) (by decide +kernel)⟩
theorem lw_p19 : lw_okq (⟨"FlagHues$Orders", "takePart", "(C)Z"⟩, 6) := ⟨⟨by decide +kernel, by decide +kernel⟩, List.mem_of_getElem? (i := 126) (by decide +kernel), List.mem_of_getElem? (i := 904) (by decide +kernel), List.mem_of_getElem? (i := 905) (by decide +kernel)⟩
theorem lw_p20 : lw_okq (⟨"FlagHues$Orders", "takeDigits", "(I)Z"⟩, 6) := ⟨⟨by decide +kernel, by decide +kernel⟩, List.mem_of_getElem? (i := 126) (by decide +kernel), List.mem_of_getElem? (i := 908) (by decide +kernel), List.mem_of_getElem? (i := 909) (by decide +kernel)⟩
theorem lw_p21 : lw_okq (⟨"FlagHues", "carryOutAll", "()I"⟩, 12) := ⟨⟨by decide +kernel, by decide +kernel⟩, List.mem_of_getElem? (i := 25) (by decide +kernel), List.mem_of_getElem? (i := 912) (by decide +kernel), List.mem_of_getElem? (i := 913) (by decide +kernel)⟩
theorem lw_p22 : lw_okq (⟨"FlagHues", "judge", "(IIII)I"⟩, 12) := ⟨⟨by decide +kernel, by decide +kernel⟩, List.mem_of_getElem? (i := 25) (by decide +kernel), List.mem_of_getElem? (i := 920) (by decide +kernel), List.mem_of_getElem? (i := 921) (by decide +kernel)⟩
theorem lw_p23 : lw_okq (⟨"FlagHues", "isInRange", "(IIII)Z"⟩, 12) := ⟨⟨by decide +kernel, by decide +kernel⟩, List.mem_of_getElem? (i := 25) (by decide +kernel), List.mem_of_getElem? (i := 924) (by decide +kernel), List.mem_of_getElem? (i := 925) (by decide +kernel)⟩
theorem lw_p24 : lw_okq (⟨"FlagHues", "reasonAgainstOrder", "(III)I"⟩, 12) := ⟨⟨by decide +kernel, by decide +kernel⟩, List.mem_of_getElem? (i := 25) (by decide +kernel), List.mem_of_getElem? (i := 928) (by decide +kernel), List.mem_of_getElem? (i := 929) (by decide +kernel)⟩
theorem lw_p25 : lw_okq (⟨"FlagHues", "perform", "(IIII)V"⟩, 12) := ⟨⟨by decide +kernel, by decide +kernel⟩, List.mem_of_getElem? (i := 25) (by decide +kernel), List.mem_of_getElem? (i := 932) (by decide +kernel), List.mem_of_getElem? (i := 933) (by decide +kernel)⟩
theorem lw_p26 : lw_okq (⟨"FlagHuesModel", "fails", "(I)Z"⟩, 19) := ⟨⟨by decide +kernel, by decide +kernel⟩, List.mem_of_getElem? (i := 1026) (by decide +kernel), List.mem_of_getElem? (i := 1101) (by decide +kernel), List.mem_of_getElem? (i := 1102) (by decide +kernel)⟩
theorem lw_p27 : lw_okq (⟨"FlagHuesModel", "refuses", "(III)I"⟩, 19) := ⟨⟨by decide +kernel, by decide +kernel⟩, List.mem_of_getElem? (i := 1026) (by decide +kernel), List.mem_of_getElem? (i := 1105) (by decide +kernel), List.mem_of_getElem? (i := 1106) (by decide +kernel)⟩
theorem lw_p28 : lw_okq (⟨"FlagHuesModel", "keeps", "([I)V"⟩, 19) := ⟨⟨by decide +kernel, by decide +kernel⟩, List.mem_of_getElem? (i := 1026) (by decide +kernel), List.mem_of_getElem? (i := 1109) (by decide +kernel), List.mem_of_getElem? (i := 1110) (by decide +kernel)⟩
theorem lw_p29 : lw_okq (⟨"FlagHuesModel", "lays", "(III)V"⟩, 19) := ⟨⟨by decide +kernel, by decide +kernel⟩, List.mem_of_getElem? (i := 1026) (by decide +kernel), List.mem_of_getElem? (i := 1116) (by decide +kernel), List.mem_of_getElem? (i := 1117) (by decide +kernel)⟩
theorem lw_p30 : lw_okq (⟨"FlagHuesModel", "isCountry", "(I)Z"⟩, 19) := ⟨⟨by decide +kernel, by decide +kernel⟩, List.mem_of_getElem? (i := 1026) (by decide +kernel), List.mem_of_getElem? (i := 1124) (by decide +kernel), List.mem_of_getElem? (i := 1125) (by decide +kernel)⟩
theorem lw_p31 : lw_okq (⟨"FlagHuesModel", "touches", "(II)Z"⟩, 19) := ⟨⟨by decide +kernel, by decide +kernel⟩, List.mem_of_getElem? (i := 1026) (by decide +kernel), List.mem_of_getElem? (i := 1128) (by decide +kernel), List.mem_of_getElem? (i := 1129) (by decide +kernel)⟩
def lw_privs_2 : List (MethodName × Nat) := [(⟨"FlagHues", "put", "(C)V"⟩, 12), (⟨"FlagHues", "putNeighbours", "(I)V"⟩, 12), (⟨"FlagHues$Orders", "takeParts", "()Z"⟩, 6), (⟨"FlagHues$Orders", "takePart", "(C)Z"⟩, 6), (⟨"FlagHues$Orders", "takeDigits", "(I)Z"⟩, 6), (⟨"FlagHues", "carryOutAll", "()I"⟩, 12), (⟨"FlagHues", "judge", "(IIII)I"⟩, 12), (⟨"FlagHues", "isInRange", "(IIII)Z"⟩, 12), (⟨"FlagHues", "reasonAgainstOrder", "(III)I"⟩, 12), (⟨"FlagHues", "perform", "(IIII)V"⟩, 12), (⟨"FlagHuesModel", "fails", "(I)Z"⟩, 19), (⟨"FlagHuesModel", "refuses", "(III)I"⟩, 19), (⟨"FlagHuesModel", "keeps", "([I)V"⟩, 19), (⟨"FlagHuesModel", "lays", "(III)V"⟩, 19), (⟨"FlagHuesModel", "isCountry", "(I)Z"⟩, 19), (⟨"FlagHuesModel", "touches", "(II)Z"⟩, 19)]
theorem lw_r2 : ∀ q ∈ lw_privs_2, lw_okq q := List.forall_mem_cons.mpr ⟨lw_p16, List.forall_mem_cons.mpr ⟨lw_p17, List.forall_mem_cons.mpr ⟨lw_p18, List.forall_mem_cons.mpr ⟨lw_p19, List.forall_mem_cons.mpr ⟨lw_p20, List.forall_mem_cons.mpr ⟨lw_p21, List.forall_mem_cons.mpr ⟨lw_p22, List.forall_mem_cons.mpr ⟨lw_p23, List.forall_mem_cons.mpr ⟨lw_p24, List.forall_mem_cons.mpr ⟨lw_p25, List.forall_mem_cons.mpr ⟨lw_p26, List.forall_mem_cons.mpr ⟨lw_p27, List.forall_mem_cons.mpr ⟨lw_p28, List.forall_mem_cons.mpr ⟨lw_p29, List.forall_mem_cons.mpr ⟨lw_p30, List.forall_mem_cons.mpr ⟨lw_p31, fun _ h => absurd h List.not_mem_nil⟩⟩⟩⟩⟩⟩⟩⟩⟩⟩⟩⟩⟩⟩⟩⟩
theorem lw_p32 : lw_okq (⟨"FlagHuesModel", "isPainted", "(I)Z"⟩, 19) := ⟨⟨by decide +kernel, by decide +kernel⟩, List.mem_of_getElem? (i := 1026) (by decide +kernel), List.mem_of_getElem? (i := 1132) (by decide +kernel), List.mem_of_getElem? (i := 1133) (by decide +kernel)⟩
theorem lw_p33 : lw_okq (⟨"FlagHuesModel", "of", "(II)I"⟩, 19) := ⟨⟨by decide +kernel, by decide +kernel⟩, List.mem_of_getElem? (i := 1026) (by decide +kernel), List.mem_of_getElem? (i := 1136) (by decide +kernel), List.mem_of_getElem? (i := 1137) (by decide +kernel)⟩
theorem lw_p34 : lw_okq (⟨"FlagHuesModel", "borders", "()I"⟩, 19) := ⟨⟨by decide +kernel, by decide +kernel⟩, List.mem_of_getElem? (i := 1026) (by decide +kernel), List.mem_of_getElem? (i := 1140) (by decide +kernel), List.mem_of_getElem? (i := 1141) (by decide +kernel)⟩
theorem lw_p35 : lw_okq (⟨"FlagHuesModel", "neighbours", "(I)I"⟩, 19) := ⟨⟨by decide +kernel, by decide +kernel⟩, List.mem_of_getElem? (i := 1026) (by decide +kernel), List.mem_of_getElem? (i := 1156) (by decide +kernel), List.mem_of_getElem? (i := 1157) (by decide +kernel)⟩
theorem lw_p36 : lw_okq (⟨"FlagHuesModel", "freeMany", "(I)I"⟩, 19) := ⟨⟨by decide +kernel, by decide +kernel⟩, List.mem_of_getElem? (i := 1026) (by decide +kernel), List.mem_of_getElem? (i := 1160) (by decide +kernel), List.mem_of_getElem? (i := 1161) (by decide +kernel)⟩
theorem lw_p37 : lw_okq (⟨"FlagHuesModel", "isFree", "(II)Z"⟩, 19) := ⟨⟨by decide +kernel, by decide +kernel⟩, List.mem_of_getElem? (i := 1026) (by decide +kernel), List.mem_of_getElem? (i := 1164) (by decide +kernel), List.mem_of_getElem? (i := 1165) (by decide +kernel)⟩
theorem lw_p38 : lw_okq (⟨"FlagHuesModel", "neighbourIn", "(II)I"⟩, 19) := ⟨⟨by decide +kernel, by decide +kernel⟩, List.mem_of_getElem? (i := 1026) (by decide +kernel), List.mem_of_getElem? (i := 1168) (by decide +kernel), List.mem_of_getElem? (i := 1169) (by decide +kernel)⟩
theorem lw_p39 : lw_okq (⟨"FlagHuesModel", "placeOf", "(I)I"⟩, 19) := ⟨⟨by decide +kernel, by decide +kernel⟩, List.mem_of_getElem? (i := 1026) (by decide +kernel), List.mem_of_getElem? (i := 1172) (by decide +kernel), List.mem_of_getElem? (i := 1173) (by decide +kernel)⟩
theorem lw_p40 : lw_okq (⟨"FlagHuesModel", "paintedIn", "(I)I"⟩, 19) := ⟨⟨by decide +kernel, by decide +kernel⟩, List.mem_of_getElem? (i := 1026) (by decide +kernel), List.mem_of_getElem? (i := 1194) (by decide +kernel), List.mem_of_getElem? (i := 1195) (by decide +kernel)⟩
theorem lw_p41 : lw_okq (⟨"FlagHuesModel", "against", "(II)I"⟩, 19) := ⟨⟨by decide +kernel, by decide +kernel⟩, List.mem_of_getElem? (i := 1026) (by decide +kernel), List.mem_of_getElem? (i := 1202) (by decide +kernel), List.mem_of_getElem? (i := 1203) (by decide +kernel)⟩
theorem lw_p42 : lw_okq (⟨"FlagHuesModel", "paints", "(II)V"⟩, 19) := ⟨⟨by decide +kernel, by decide +kernel⟩, List.mem_of_getElem? (i := 1026) (by decide +kernel), List.mem_of_getElem? (i := 1206) (by decide +kernel), List.mem_of_getElem? (i := 1207) (by decide +kernel)⟩
theorem lw_p43 : lw_okq (⟨"FlagHuesModel", "onlyHue", "(I)I"⟩, 19) := ⟨⟨by decide +kernel, by decide +kernel⟩, List.mem_of_getElem? (i := 1026) (by decide +kernel), List.mem_of_getElem? (i := 1222) (by decide +kernel), List.mem_of_getElem? (i := 1223) (by decide +kernel)⟩
theorem lw_p44 : lw_okq (⟨"FlagHuesModel", "isStuck", "(I)Z"⟩, 19) := ⟨⟨by decide +kernel, by decide +kernel⟩, List.mem_of_getElem? (i := 1026) (by decide +kernel), List.mem_of_getElem? (i := 1234) (by decide +kernel), List.mem_of_getElem? (i := 1235) (by decide +kernel)⟩
theorem lw_p45 : lw_okq (⟨"FlagHuesModel", "plainNeighbours", "(I)I"⟩, 19) := ⟨⟨by decide +kernel, by decide +kernel⟩, List.mem_of_getElem? (i := 1026) (by decide +kernel), List.mem_of_getElem? (i := 1242) (by decide +kernel), List.mem_of_getElem? (i := 1243) (by decide +kernel)⟩
theorem lw_p46 : lw_okq (⟨"FlagHuesModel", "takes", "(II)I"⟩, 19) := ⟨⟨by decide +kernel, by decide +kernel⟩, List.mem_of_getElem? (i := 1026) (by decide +kernel), List.mem_of_getElem? (i := 1250) (by decide +kernel), List.mem_of_getElem? (i := 1251) (by decide +kernel)⟩
theorem lw_p47 : lw_okq (⟨"FlagHuesModel", "isFulfilled", "(I)Z"⟩, 19) := ⟨⟨by decide +kernel, by decide +kernel⟩, List.mem_of_getElem? (i := 1026) (by decide +kernel), List.mem_of_getElem? (i := 1262) (by decide +kernel), List.mem_of_getElem? (i := 1263) (by decide +kernel)⟩
def lw_privs_3 : List (MethodName × Nat) := [(⟨"FlagHuesModel", "isPainted", "(I)Z"⟩, 19), (⟨"FlagHuesModel", "of", "(II)I"⟩, 19), (⟨"FlagHuesModel", "borders", "()I"⟩, 19), (⟨"FlagHuesModel", "neighbours", "(I)I"⟩, 19), (⟨"FlagHuesModel", "freeMany", "(I)I"⟩, 19), (⟨"FlagHuesModel", "isFree", "(II)Z"⟩, 19), (⟨"FlagHuesModel", "neighbourIn", "(II)I"⟩, 19), (⟨"FlagHuesModel", "placeOf", "(I)I"⟩, 19), (⟨"FlagHuesModel", "paintedIn", "(I)I"⟩, 19), (⟨"FlagHuesModel", "against", "(II)I"⟩, 19), (⟨"FlagHuesModel", "paints", "(II)V"⟩, 19), (⟨"FlagHuesModel", "onlyHue", "(I)I"⟩, 19), (⟨"FlagHuesModel", "isStuck", "(I)Z"⟩, 19), (⟨"FlagHuesModel", "plainNeighbours", "(I)I"⟩, 19), (⟨"FlagHuesModel", "takes", "(II)I"⟩, 19), (⟨"FlagHuesModel", "isFulfilled", "(I)Z"⟩, 19)]
theorem lw_r3 : ∀ q ∈ lw_privs_3, lw_okq q := List.forall_mem_cons.mpr ⟨lw_p32, List.forall_mem_cons.mpr ⟨lw_p33, List.forall_mem_cons.mpr ⟨lw_p34, List.forall_mem_cons.mpr ⟨lw_p35, List.forall_mem_cons.mpr ⟨lw_p36, List.forall_mem_cons.mpr ⟨lw_p37, List.forall_mem_cons.mpr ⟨lw_p38, List.forall_mem_cons.mpr ⟨lw_p39, List.forall_mem_cons.mpr ⟨lw_p40, List.forall_mem_cons.mpr ⟨lw_p41, List.forall_mem_cons.mpr ⟨lw_p42, List.forall_mem_cons.mpr ⟨lw_p43, List.forall_mem_cons.mpr ⟨lw_p44, List.forall_mem_cons.mpr ⟨lw_p45, List.forall_mem_cons.mpr ⟨lw_p46, List.forall_mem_cons.mpr ⟨lw_p47, fun _ h => absurd h List.not_mem_nil⟩⟩⟩⟩⟩⟩⟩⟩⟩⟩⟩⟩⟩⟩⟩⟩
theorem lw_p48 : lw_okq (⟨"FlagHuesModel", "waysFrom", "(IIII)I"⟩, 19) := ⟨⟨by decide +kernel, by decide +kernel⟩, List.mem_of_getElem? (i := 1026) (by decide +kernel), List.mem_of_getElem? (i := 1270) (by decide +kernel), List.mem_of_getElem? (i := 1271) (by decide +kernel)⟩
theorem lw_p49 : lw_okq (⟨"FlagHuesModel", "clashes", "(III)Z"⟩, 19) := ⟨⟨by decide +kernel, by decide +kernel⟩, List.mem_of_getElem? (i := 1026) (by decide +kernel), List.mem_of_getElem? (i := 1274) (by decide +kernel), List.mem_of_getElem? (i := 1275) (by decide +kernel)⟩
theorem lw_p50 : lw_okq (⟨"FlagHuesModel", "left", "()I"⟩, 19) := ⟨⟨by decide +kernel, by decide +kernel⟩, List.mem_of_getElem? (i := 1026) (by decide +kernel), List.mem_of_getElem? (i := 1282) (by decide +kernel), List.mem_of_getElem? (i := 1283) (by decide +kernel)⟩
theorem lw_p51 : lw_okq (⟨"FlagHuesModel", "areAll", "(I)Z"⟩, 19) := ⟨⟨by decide +kernel, by decide +kernel⟩, List.mem_of_getElem? (i := 1026) (by decide +kernel), List.mem_of_getElem? (i := 1302) (by decide +kernel), List.mem_of_getElem? (i := 1303) (by decide +kernel)⟩
theorem lw_p52 : lw_okq (⟨"FlagHuesModel", "writes", "(I)V"⟩, 19) := ⟨⟨by decide +kernel, by decide +kernel⟩, List.mem_of_getElem? (i := 1026) (by decide +kernel), List.mem_of_getElem? (i := 1310) (by decide +kernel), List.mem_of_getElem? (i := 1311) (by decide +kernel)⟩
theorem lw_p53 : lw_okq (⟨"FlagHuesModel", "isText", "()Z"⟩, 19) := ⟨⟨by decide +kernel, by decide +kernel⟩, List.mem_of_getElem? (i := 1026) (by decide +kernel), List.mem_of_getElem? (i := 1326) (by decide +kernel), List.mem_of_getElem? (i := 1327) (by decide +kernel)⟩
theorem lw_p54 : lw_okq (⟨"FlagHuesModel", "orderHere", "()Z"⟩, 19) := ⟨⟨by decide +kernel, by decide +kernel⟩, List.mem_of_getElem? (i := 1026) (by decide +kernel), List.mem_of_getElem? (i := 1330) (by decide +kernel), List.mem_of_getElem? (i := 1331) (by decide +kernel)⟩
theorem lw_p55 : lw_okq (⟨"FlagHuesModel", "here", "()I"⟩, 19) := ⟨⟨by decide +kernel, by decide +kernel⟩, List.mem_of_getElem? (i := 1026) (by decide +kernel), List.mem_of_getElem? (i := 1334) (by decide +kernel), List.mem_of_getElem? (i := 1335) (by decide +kernel)⟩
theorem lw_p56 : lw_okq (⟨"FlagHuesModel", "skips", "(I)Z"⟩, 19) := ⟨⟨by decide +kernel, by decide +kernel⟩, List.mem_of_getElem? (i := 1026) (by decide +kernel), List.mem_of_getElem? (i := 1338) (by decide +kernel), List.mem_of_getElem? (i := 1339) (by decide +kernel)⟩
theorem lw_p57 : lw_okq (⟨"FlagHuesModel", "number", "(II)Z"⟩, 19) := ⟨⟨by decide +kernel, by decide +kernel⟩, List.mem_of_getElem? (i := 1026) (by decide +kernel), List.mem_of_getElem? (i := 1342) (by decide +kernel), List.mem_of_getElem? (i := 1343) (by decide +kernel)⟩
theorem lw_p58 : lw_okq (⟨"FlagHuesModel", "carries", "(I)I"⟩, 19) := ⟨⟨by decide +kernel, by decide +kernel⟩, List.mem_of_getElem? (i := 1026) (by decide +kernel), List.mem_of_getElem? (i := 1346) (by decide +kernel), List.mem_of_getElem? (i := 1347) (by decide +kernel)⟩
theorem lw_p59 : lw_okq (⟨"FlagHuesModel", "isRefusal", "(I)Z"⟩, 19) := ⟨⟨by decide +kernel, by decide +kernel⟩, List.mem_of_getElem? (i := 1026) (by decide +kernel), List.mem_of_getElem? (i := 1357) (by decide +kernel), List.mem_of_getElem? (i := 1358) (by decide +kernel)⟩
theorem lw_p60 : lw_okq (⟨"FlagHuesModel", "paintedMany", "()I"⟩, 19) := ⟨⟨by decide +kernel, by decide +kernel⟩, List.mem_of_getElem? (i := 1026) (by decide +kernel), List.mem_of_getElem? (i := 1373) (by decide +kernel), List.mem_of_getElem? (i := 1374) (by decide +kernel)⟩
theorem lw_p61 : lw_okq (⟨"FlagHuesModel", "stuckMany", "()I"⟩, 19) := ⟨⟨by decide +kernel, by decide +kernel⟩, List.mem_of_getElem? (i := 1026) (by decide +kernel), List.mem_of_getElem? (i := 1377) (by decide +kernel), List.mem_of_getElem? (i := 1378) (by decide +kernel)⟩
theorem lw_p62 : lw_okq (⟨"FlagHuesModel", "sumOf", "(I)I"⟩, 19) := ⟨⟨by decide +kernel, by decide +kernel⟩, List.mem_of_getElem? (i := 1026) (by decide +kernel), List.mem_of_getElem? (i := 1381) (by decide +kernel), List.mem_of_getElem? (i := 1382) (by decide +kernel)⟩
theorem lw_p63 : lw_okq (⟨"FlagHuesModel", "wishes", "(Z)I"⟩, 19) := ⟨⟨by decide +kernel, by decide +kernel⟩, List.mem_of_getElem? (i := 1026) (by decide +kernel), List.mem_of_getElem? (i := 1385) (by decide +kernel), List.mem_of_getElem? (i := 1386) (by decide +kernel)⟩
def lw_privs_4 : List (MethodName × Nat) := [(⟨"FlagHuesModel", "waysFrom", "(IIII)I"⟩, 19), (⟨"FlagHuesModel", "clashes", "(III)Z"⟩, 19), (⟨"FlagHuesModel", "left", "()I"⟩, 19), (⟨"FlagHuesModel", "areAll", "(I)Z"⟩, 19), (⟨"FlagHuesModel", "writes", "(I)V"⟩, 19), (⟨"FlagHuesModel", "isText", "()Z"⟩, 19), (⟨"FlagHuesModel", "orderHere", "()Z"⟩, 19), (⟨"FlagHuesModel", "here", "()I"⟩, 19), (⟨"FlagHuesModel", "skips", "(I)Z"⟩, 19), (⟨"FlagHuesModel", "number", "(II)Z"⟩, 19), (⟨"FlagHuesModel", "carries", "(I)I"⟩, 19), (⟨"FlagHuesModel", "isRefusal", "(I)Z"⟩, 19), (⟨"FlagHuesModel", "paintedMany", "()I"⟩, 19), (⟨"FlagHuesModel", "stuckMany", "()I"⟩, 19), (⟨"FlagHuesModel", "sumOf", "(I)I"⟩, 19), (⟨"FlagHuesModel", "wishes", "(Z)I"⟩, 19)]
theorem lw_r4 : ∀ q ∈ lw_privs_4, lw_okq q := List.forall_mem_cons.mpr ⟨lw_p48, List.forall_mem_cons.mpr ⟨lw_p49, List.forall_mem_cons.mpr ⟨lw_p50, List.forall_mem_cons.mpr ⟨lw_p51, List.forall_mem_cons.mpr ⟨lw_p52, List.forall_mem_cons.mpr ⟨lw_p53, List.forall_mem_cons.mpr ⟨lw_p54, List.forall_mem_cons.mpr ⟨lw_p55, List.forall_mem_cons.mpr ⟨lw_p56, List.forall_mem_cons.mpr ⟨lw_p57, List.forall_mem_cons.mpr ⟨lw_p58, List.forall_mem_cons.mpr ⟨lw_p59, List.forall_mem_cons.mpr ⟨lw_p60, List.forall_mem_cons.mpr ⟨lw_p61, List.forall_mem_cons.mpr ⟨lw_p62, List.forall_mem_cons.mpr ⟨lw_p63, fun _ h => absurd h List.not_mem_nil⟩⟩⟩⟩⟩⟩⟩⟩⟩⟩⟩⟩⟩⟩⟩⟩
def lw_privs : List (MethodName × Nat) := lw_privs_1 ++ (lw_privs_2 ++ (lw_privs_3 ++ (lw_privs_4)))
def lw_tbl : List Cond := k2_sels lw_privs ++ tables_1
theorem lw_privs_ok : ∀ q ∈ lw_privs, lw_okq q := by
  show ∀ q ∈ lw_privs_1 ++ (lw_privs_2 ++ (lw_privs_3 ++ (lw_privs_4))), lw_okq q
  exact List.forall_mem_append.mpr ⟨lw_r1, List.forall_mem_append.mpr ⟨lw_r2, List.forall_mem_append.mpr ⟨lw_r3, lw_r4⟩⟩⟩
/-- the streams that the claim lets the run draw from -/
abbrev lw_cs : List Choice := [Jvm.Choice.named "NaN.bits"]
theorem lw_bits : nanBits ∈ lw_cs := by first | decide | exact List.mem_cons_self | simp [lw_cs, nanBits]

/-! ===== BEGIN words of one list among another's, by their places ===== -/
theorem goodIn_r {big : List Cond} (ws : List Cond) (ps : List Nat) (hp : ws = ps.filterMap (fun i => big[i]?)) (h : ws.all goodWord = true) : GoodIn big ws := by
  intro w hw
  have h1 := List.all_eq_true.mp h w hw
  rw [hp] at hw
  obtain ⟨i, -, hi⟩ := List.mem_filterMap.mp hw
  have hm : w ∈ big := by first | exact List.mem_of_getElem? hi | exact List.getElem?_mem hi
  exact ⟨hm, good_of_word h1⟩
theorem goodIn_app {big a b : List Cond} (ha : GoodIn big a) (hb : GoodIn big b) : GoodIn big (a ++ b) := fun w h => (List.mem_append.mp h).elim (ha w) (hb w)
theorem goodIn_ca {big a b : List Cond} {c : Cond} (ha : GoodIn big (c :: a)) (hb : GoodIn big b) : GoodIn big (c :: (a ++ b)) := fun w h => (List.mem_cons.mp h).elim (fun e => ha w (List.mem_cons.mpr (Or.inl e))) (fun h => (List.mem_append.mp h).elim (fun h => ha w (List.mem_cons.mpr (Or.inr h))) (hb w))
theorem goodIn_sub {big ws : List Cond} (hm : ∀ w ∈ ws, w ∈ big) (h : ws.all goodWord = true) : GoodIn big ws := fun w hw => ⟨hm w hw, good_of_word (List.all_eq_true.mp h w hw)⟩
/-! ===== END ===== -/

/-! ===== BEGIN exceptions that leave a method, and their catching by the caller (launches without stack traces) ===== -/
section VXA
/-! The laws vx_back, vx_callV, vx_callS, vx_callSW, vx_throw0, vx_throwS follow proofs of the library, with one case more: JvmDerived/Free/Laws.lean (Back.of_free), Shelf42/LK1.lean (callV, callS), Shelf/KitTraced.lean (throwNew0V, throwNewS). -/
/-- where a method has thrown q: the class by its name, the cell, what was written, the world -/
def vx_T (XC : String → State → State → Prop) (st : State) (q : Addr) (t : State) (mc ms : Nat) (free : Addr → Prop) : Prop :=
  ∃ (E : String) (ce : Cell) (L : List Loc), XC E st t ∧ t.heap[q]? = some ce ∧ ce.vm = .none ∧ st.vm.findClass E = some ce.cls ∧ st.WarmedH t.vm ∧ st.sameButNew ({ t with vm := st.vm } : State) L mc ms ∧ ∀ z ∈ L, free z.base
def vx_Q (Qc : Array Value → State → Outcome → State → Prop) (XC : String → State → State → Prop) (mc ms : Nat) (free : Addr → Prop) : Array Value → State → Outcome → State → Prop := fun a st o t =>
  (Qc a st o t ∧ ∃ L, FrameEnd st o t L mc ms ∧ ∀ q ∈ L, free q.base) ∨ ∃ q, o = .threw q ∧ vx_T XC st q t mc ms free
/-- a callee that returns or throws -/
def vx_Met (l : Launch) (y : MethodName) (ws : List Cond) (rm : Room) (Pc : Array Value → State → Prop) (Qc : Array Value → State → Outcome → State → Prop) (XC : String → State → State → Prop) (mc ms : Nat) (free : Addr → Prop) : Prop :=
  MetFree l y (headSpec ws rm) Pc (fun _ _ _ _ _ => True) (vx_Q Qc XC mc ms free)
def vx_Post (XC : String → State → State → Prop) (mc ms : Nat) (free : Addr → Prop) : Pt → Array Value → Addr → Pt → Prop := fun A a q B =>
  ∃ (g : JFrame) (mk : MethodId) (t : State) (L : List Loc) (E : String) (ce : Cell), B.U.heap = t.heap ∧ B.U.vm = t.vm ∧ XC E (A.U.calling g mk a) t ∧ t.heap[q]? = some ce ∧ ce.vm = .none ∧ A.U.vm.findClass E = some ce.cls ∧ B.locs = A.locs ++ L ∧ (∀ z ∈ L, free z.base) ∧ B.cells = A.cells + mc ∧ B.slots = A.slots + ms
def vx_Back (l : Launch) (R : Room) (p : Program) (e : Env) (below : List Frame) (s : State) (sargs : Array Value) (y : MethodName) (len W9 : Nat)
    (Pre : Pt → Array Value → Prop) (Post : Pt → Array Value → Option Value → Pt → Prop) (PostX : Pt → Array Value → Addr → Pt → Prop) : Prop :=
  ∀ (m : MethodId) (meth : Method) (c : Code) (A : Pt) (g : JFrame) (ig : Instr) (mk : MethodId) (a : Array Value),
    Stand p l e R s m sargs below meth c A.U A.locs A.cells A.slots → g.method = m → g.locals.size = c.maxLocals → decode c.code g.pc = .ok (ig, len) →
    2 * g.monitorRoom + (g.stack.map fun v => v.category).sum ≤ W9 → A.U.methodNamed? y = some mk → Pre A a →
    (∃ (v : Option Value) (B : Pt), Stand p l e R s m sargs below meth c B.U B.locs B.cells B.slots ∧ Post A a v B ∧
      Steps p.tables e below (doInvoke e (A.U.setTop g) [] mk a).1 (B.U.setTop { g with pc := g.pc + len, stack := v.toList ++ g.stack })) ∨
    (∃ (q : Addr) (B : Pt), Stand p l e R s m sargs below meth c B.U B.locs B.cells B.slots ∧ PostX A a q B ∧
      Steps p.tables e below (doInvoke e (A.U.setTop g) [] mk a).1 ((B.U.setTop g).pushFrame (.throwing q)))
section Payer
variable {l : Launch} {R : Room} {p : Program} {e : Env} {below : List Frame} {s : State} {sargs : Array Value} {y : MethodName} {len W9 : Nat}
theorem vx_back {ws : List Cond} {rm : Room} {Pc : Array Value → State → Prop} {Qc : Array Value → State → Outcome → State → Prop} {XC : String → State → State → Prop} {mc ms : Nat} {free : Addr → Prop} {bytes : ByteArray} {maxL : Nat} {ret : Option FieldType}
    (hM : vx_Met l y ws rm Pc Qc XC mc ms free) (hblind : FrameBlind Pc) (hrc : rm.cells = mc) (hrs : rm.slots = ms)
    (hframes : rm.frames + 1 ≤ R.frames) (hlocals : W9 + (maxL + 11) + rm.locals ≤ R.locals)
    (hws : ∀ w ∈ ws, ∀ a' U, s.WarmedH U.vm → w.before a' U = true) (hcode : Cond.code y bytes maxL ret ∈ ws) (hinit : ∀ a' U, s.WarmedH U.vm → (Cond.initialized y.cls).before a' U = true) :
    vx_Back l R p e below s sargs y len W9 (PreOf R mc ms Pc) (PostOf Qc mc ms free) (vx_Post XC mc ms free) := by
  intro m meth c A g ig mk a X hg hsize hdg hW hn hp
  have h1 : (headSpec ws rm).pre.before a A.U = true := atoms_intro fun w hw => hws w hw _ _ X.warmed
  have h2 : (Cond.code y bytes maxL ret).before a A.U = true := hws _ hcode _ _ X.warmed
  have h3 : (Cond.initialized y.cls).before a A.U = true := hinit _ _ X.warmed
  have h4 : A.cells + (headSpec ws rm).room.cells ≤ R.cells := by rw [show (headSpec ws rm).room.cells = mc from hrc]; exact hp.1
  have h5 : A.slots + (headSpec ws rm).room.slots ≤ R.slots := by rw [show (headSpec ws rm).room.slots = ms from hrs]; exact hp.2.1
  have hPc : Pc a (A.U.calling g mk a) := hblind _ _ _ _ hp.2.2
  obtain ⟨U, Ls, c0, s0⟩ := A
  dsimp only [Pt.U, Pt.locs, Pt.cells, Pt.slots] at h1 h2 h3 h4 h5 X hn hPc ⊢
  obtain ⟨methY, cY, hmY, hcY, -, hlY, -, -, -, -⟩ := Cond.code_spec hn h2
  obtain ⟨kY, hkY, -⟩ := className_of_methodNamed hn
  have hinitY : kY.init = .initialized := Cond.initialized_spec (findClass_of_methodNamed hn) hkY h3
  have h : At U g.method c below := by rw [hg]; exact X.here
  have hlocals9 : W9 + (maxL + 11) + (headSpec ws rm).room.locals ≤ R.locals := hlocals
  have happ : (headSpec ws rm).appliesLoose y e.platform (U.calling g mk a) = true :=
    Spec.appliesLoose_calling (g := g) h hdg hn hkY hinitY
      (X.room_calling (g := g) (R' := (headSpec ws rm).room) hsize hmY hcY hframes (by rw [hlY]; omega) h4 h5) h1
  obtain ⟨mid, hmid⟩ := h.above
  have hfr : (U.setTop g).frames = (.java g :: mid) ++ below := by rw [State.frames_setTop' g h.top, hmid]; rfl
  obtain ⟨o, s₂, hsteps, -, hend, hq⟩ := Steps.callFree hM p X.admits X.cas X.clock (acts := []) hfr happ hPc trivial
  have hq' : vx_Q Qc XC mc ms free a (U.calling g mk a) o s₂ := hq
  rw [State.frames_setTop' g h.top] at hend
  obtain ⟨g₀, hg0⟩ := Option.isSome_iff_exists.mp h.top
  obtain ⟨r, hr⟩ := State.topJava?_eq_some.mp hg0
  have hr' : (({ U with heap := s₂.heap, slotsUsed := s₂.slotsUsed } : State).setVm s₂.vm).frames = .java g₀ :: r := hr
  rcases hq' with ⟨hqc, L, hfe, hL⟩ | ⟨q, rfl, E, ce, L, hx, hce, hcv, hcl, hW₂, hsm, hL⟩
  · obtain ⟨⟨v, rfl⟩, hW₂, e2, q2, q3, q4, q5, q6⟩ := id hfe
    have e3 : s₂ = ({ (U.calling g mk a).setFrames s₂.frames with heap := s₂.heap, slotsUsed := s₂.slotsUsed } : State).setVm s₂.vm := by
      have : s₂ = ({ s₂ with vm := (U.calling g mk a).vm } : State).setVm s₂.vm := rfl
      rw [e2] at this
      exact this
    obtain ⟨c₂, i₂, len₂, hc₂, hd₂, hf₂⟩ := hend
    have hW' : U.WarmedH s₂.vm := hW₂
    have hcc : c₂ = c := by
      have h1 : s₂.code? g.method = U.code? g.method := by
        rw [State.code?_eq, State.code?_eq, hW'.alike.method?]
      exact Option.some.inj (hc₂.symm.trans (h1.trans h.code))
    subst hcc
    have hlen : len₂ = len := by rw [hdg] at hd₂; cases hd₂; rfl
    subst hlen
    have hs₂ : s₂ = (({ U with heap := s₂.heap, slotsUsed := s₂.slotsUsed } : State).setVm s₂.vm).setTop { g with pc := g.pc + len₂, stack := v.toList ++ g.stack } := by
      refine e3.trans ?_
      rw [hf₂, State.calling_eq h.top, State.setFrames_setFrames, State.setTop_of_frames _ hr', hr]
      rfl
    have hsame : U.sameButNew ({ U with heap := s₂.heap, slotsUsed := s₂.slotsUsed } : State) L mc ms := by
      refine ⟨?_, q2, q3, q4, q5, q6⟩
      obtain ⟨t, ht, -⟩ := State.frames_cons hr
      show ({ U with heap := s₂.heap, slotsUsed := s₂.slotsUsed } : State) = { U.setFrames U.frames with heap := s₂.heap, slotsUsed := s₂.slotsUsed }
      rw [State.setFrames_self ht]
    subst hg
    refine Or.inl ⟨v, ⟨(({ U with heap := s₂.heap, slotsUsed := s₂.slotsUsed } : State).setVm s₂.vm), Ls ++ L, c0 + mc, s0 + ms⟩,
      ⟨X.admits, X.cas, X.clock, X.frames, X.room, X.hears, X.method, X.code, (X.here.setHeapUsed s₂.heap s₂.slotsUsed).setVm hW'.alike, X.tail, State.WarmedH.trans X.warmed hW', X.limits, X.bytes, X.same.trans (hsame.setVm s.vm)⟩,
      ⟨g, mk, s₂, L, rfl, rfl, hqc, rfl, hL, rfl, rfl⟩, ?_⟩
    show Steps p.tables e below _ ((({ U with heap := s₂.heap, slotsUsed := s₂.slotsUsed } : State).setVm s₂.vm).setTop { g with pc := g.pc + len₂, stack := v.toList ++ g.stack })
    rw [← hs₂]
    exact hsteps
  · obtain ⟨e2, q2, q3, q4, q5, q6⟩ := id hsm
    have e3 : s₂ = ({ (U.calling g mk a).setFrames s₂.frames with heap := s₂.heap, slotsUsed := s₂.slotsUsed } : State).setVm s₂.vm := by
      have : s₂ = ({ s₂ with vm := (U.calling g mk a).vm } : State).setVm s₂.vm := rfl
      rw [e2] at this
      exact this
    have hf₂ : s₂.frames = .throwing q :: .java g :: U.frames.tail := hend
    have hW' : U.WarmedH s₂.vm := hW₂
    have hs₂ : s₂ = ((({ U with heap := s₂.heap, slotsUsed := s₂.slotsUsed } : State).setVm s₂.vm).setTop g).pushFrame (.throwing q) := by
      refine e3.trans ?_
      rw [hf₂, State.calling_eq h.top, State.setFrames_setFrames, State.pushFrame, State.frames_setTop _ hr', State.setTop_of_frames _ hr', State.setFrames_setFrames, hr]
      rfl
    have hsame : U.sameButNew ({ U with heap := s₂.heap, slotsUsed := s₂.slotsUsed } : State) L mc ms := by
      refine ⟨?_, q2, q3, q4, q5, q6⟩
      obtain ⟨t, ht, -⟩ := State.frames_cons hr
      show ({ U with heap := s₂.heap, slotsUsed := s₂.slotsUsed } : State) = { U.setFrames U.frames with heap := s₂.heap, slotsUsed := s₂.slotsUsed }
      rw [State.setFrames_self ht]
    subst hg
    refine Or.inr ⟨q, ⟨(({ U with heap := s₂.heap, slotsUsed := s₂.slotsUsed } : State).setVm s₂.vm), Ls ++ L, c0 + mc, s0 + ms⟩,
      ⟨X.admits, X.cas, X.clock, X.frames, X.room, X.hears, X.method, X.code, (X.here.setHeapUsed s₂.heap s₂.slotsUsed).setVm hW'.alike, X.tail, State.WarmedH.trans X.warmed hW', X.limits, X.bytes, X.same.trans (hsame.setVm s.vm)⟩,
      ⟨g, mk, s₂, L, E, ce, rfl, rfl, hx, hce, hcv, hcl, rfl, hL, rfl, rfl⟩, ?_⟩
    show Steps p.tables e below _ (((({ U with heap := s₂.heap, slotsUsed := s₂.slotsUsed } : State).setVm s₂.vm).setTop g).pushFrame (.throwing q))
    rw [← hs₂]
    exact hsteps
end Payer
section Calls
variable {p : Program} {l : Launch} {e : Env} {R : Room} {s : State} {m : MethodId} {args : Array Value} {below : List Frame} {meth : Method} {c : Code} {T : State} {locs : List Loc} {cells slots : Nat}
theorem vx_callV (X : Stand p l e R s m args below meth c T locs cells slots) (hexec : p.tables.exec = Jvm.exec) {own C : String} {index : Nat} {y : MethodName} {bytes : ByteArray} {maxL : Nat} {ret : Option FieldType}
    (hown : s.vm.findClass own = some m.cls) (hlink : (Cond.methodLink own index y).before args s = true) (hinst : (Cond.instanceMethod y).before args s = true) (hsel : (Cond.selects C y y).before args s = true)
    (hcode : (Cond.code y bytes maxL ret).before args s = true) (hy : y.cls ≠ "java/lang/invoke/MethodHandle" ∧ y.cls ≠ "java/lang/invoke/VarHandle")
    {W9 : Nat} {Pre : Pt → Array Value → Prop} {Post : Pt → Array Value → Option Value → Pt → Prop} {PostX : Pt → Array Value → Addr → Pt → Prop} (hK : vx_Back l R p e below s args y 3 W9 Pre Post PostX)
    {b : Addr} {cellB : Cell} (hcell : T.heap[b]? = some cellB) (hobj : cellB.vm.isStatics = false) (hcls : s.vm.findClass C = some cellB.cls)
    {g : JFrame} (hg : g.method = m) (hsize : g.locals.size = c.maxLocals) {argsL rest : List Value} (hlen : ∀ sig, parseMethodDescriptor y.desc = some sig → argsL.length = sig.parameters.length)
    (hstack : g.stack = argsL.reverse ++ .ref b :: rest) (hW : 2 * g.monitorRoom + (rest.map fun v => v.category).sum ≤ W9) (hdg : decode c.code g.pc = .ok (.invokevirtual index, 3))
    (hpre : ∀ vm₁, s.WarmedH vm₁ → Pre ⟨T.setVm vm₁, locs, cells, slots⟩ (Value.ref b :: argsL).toArray) :
    (∃ (v : Option Value) (vm₁ : Vm) (B : Pt), s.WarmedH vm₁ ∧ Stand p l e R s m args below meth c B.U B.locs B.cells B.slots ∧ Post ⟨T.setVm vm₁, locs, cells, slots⟩ (Value.ref b :: argsL).toArray v B ∧
      ∀ target, Steps p.tables e below (B.U.setTop { g with pc := g.pc + 3, stack := v.toList ++ rest }) target → Steps p.tables e below (T.setTop g) target) ∨
    (∃ (q : Addr) (vm₁ : Vm) (B : Pt), s.WarmedH vm₁ ∧ Stand p l e R s m args below meth c B.U B.locs B.cells B.slots ∧ PostX ⟨T.setVm vm₁, locs, cells, slots⟩ (Value.ref b :: argsL).toArray q B ∧
      Steps p.tables e below (T.setTop g) ((B.U.setTop { g with stack := rest }).pushFrame (.throwing q))) := by
  obtain ⟨mk, methM, hnamed, hmethM, hstM, habM⟩ := Cond.instanceMethod_spec hinst
  obtain ⟨methM', cM, hmethM', -, -, -, -, -, -, hsigM⟩ := Cond.code_spec hnamed hcode
  cases hmethM.symm.trans hmethM'
  obtain ⟨c2, r2, m2, q1, q2, q3, q4, kP, hkP, hkPi⟩ := Cond.selects_spec hsel
  cases hcls.symm.trans q1
  cases (State.methodFound?_of_named hnamed hy).symm.trans q2
  cases hnamed.symm.trans q3
  have hselP : selectMethod e.platform s.vm cellB.cls mk = .method mk := by rw [Launch.admits_selectMethod X.admits]; exact q4
  obtain ⟨vm₁, X₁, hstep₁⟩ := X.invokevirtual hexec hown hlink hnamed hmethM hstM hkP hkPi hy (a := b) (cell := cellB) hcell
    (fun z h => by rw [h] at hobj; cases hobj) hselP hmethM habM hkP hkPi (g := g) hg (argsL := argsL) (rest := rest) (hlen _ hsigM) hstack hdg
  rcases hK m meth c ⟨T.setVm vm₁, locs, cells, slots⟩ { g with stack := rest } (.invokevirtual index) mk (Value.ref b :: argsL).toArray X₁ hg hsize hdg hW (X₁.named hnamed) (hpre vm₁ X₁.warmed) with ⟨v, B, X', hpost, hsteps⟩ | ⟨q, B, X', hpost, hsteps⟩
  · exact Or.inl ⟨v, vm₁, B, X₁.warmed, X', hpost, fun target h => hstep₁ _ fun acts => by rw [doInvoke_state]; exact hsteps.trans h⟩
  · exact Or.inr ⟨q, vm₁, B, X₁.warmed, X', hpost, hstep₁ _ fun acts => by rw [doInvoke_state]; exact hsteps⟩
theorem vx_callS (X : Stand p l e R s m args below meth c T locs cells slots) (hexec : p.tables.exec = Jvm.exec) {own : String} {index : Nat} {y : MethodName} {bytes : ByteArray} {maxL : Nat} {ret : Option FieldType}
    (hown : s.vm.findClass own = some m.cls) (hlink : (Cond.methodLink own index y).before args s = true) (hstat : (Cond.static y).before args s = true) (hinit : (Cond.initialized y.cls).before args s = true)
    (hcode : (Cond.code y bytes maxL ret).before args s = true) (hy : y.cls ≠ "java/lang/invoke/MethodHandle" ∧ y.cls ≠ "java/lang/invoke/VarHandle")
    {W9 : Nat} {Pre : Pt → Array Value → Prop} {Post : Pt → Array Value → Option Value → Pt → Prop} {PostX : Pt → Array Value → Addr → Pt → Prop} (hK : vx_Back l R p e below s args y 3 W9 Pre Post PostX)
    {g : JFrame} (hg : g.method = m) (hsize : g.locals.size = c.maxLocals) {argsL rest : List Value} (hlen : ∀ sig, parseMethodDescriptor y.desc = some sig → argsL.length = sig.parameters.length)
    (hstack : g.stack = argsL.reverse ++ rest) (hW : 2 * g.monitorRoom + (rest.map fun v => v.category).sum ≤ W9) (hdg : decode c.code g.pc = .ok (.invokestatic index, 3))
    (hpre : ∀ vm₁, s.WarmedH vm₁ → Pre ⟨T.setVm vm₁, locs, cells, slots⟩ argsL.toArray) :
    (∃ (v : Option Value) (vm₁ : Vm) (B : Pt), s.WarmedH vm₁ ∧ Stand p l e R s m args below meth c B.U B.locs B.cells B.slots ∧ Post ⟨T.setVm vm₁, locs, cells, slots⟩ argsL.toArray v B ∧
      ∀ target, Steps p.tables e below (B.U.setTop { g with pc := g.pc + 3, stack := v.toList ++ rest }) target → Steps p.tables e below (T.setTop g) target) ∨
    (∃ (q : Addr) (vm₁ : Vm) (B : Pt), s.WarmedH vm₁ ∧ Stand p l e R s m args below meth c B.U B.locs B.cells B.slots ∧ PostX ⟨T.setVm vm₁, locs, cells, slots⟩ argsL.toArray q B ∧
      Steps p.tables e below (T.setTop g) ((B.U.setTop { g with stack := rest }).pushFrame (.throwing q))) := by
  obtain ⟨mk, hnamed⟩ := Cond.code_named hcode
  obtain ⟨methM, cM, hmethM, -, -, -, -, -, -, hsigM⟩ := Cond.code_spec hnamed hcode
  have hstatic : methM.isStatic = true := Cond.static_spec hnamed hmethM hstat
  obtain ⟨kP, hkP, -⟩ := className_of_methodNamed hnamed
  have hinitP : kP.init = .initialized := Cond.initialized_spec (findClass_of_methodNamed hnamed) hkP hinit
  obtain ⟨vm₁, X₁, hstep₁⟩ := X.invokestatic hexec hown hlink hnamed hmethM hstatic hkP hinitP hy (g := g) hg (argsL := argsL) (rest := rest) (hlen _ hsigM) hstack hdg
  rcases hK m meth c ⟨T.setVm vm₁, locs, cells, slots⟩ { g with stack := rest } (.invokestatic index) mk argsL.toArray X₁ hg hsize hdg hW (X₁.named hnamed) (hpre vm₁ X₁.warmed) with ⟨v, B, X', hpost, hsteps⟩ | ⟨q, B, X', hpost, hsteps⟩
  · exact Or.inl ⟨v, vm₁, B, X₁.warmed, X', hpost, fun target h => hstep₁ _ fun acts => by rw [doInvoke_state]; exact hsteps.trans h⟩
  · exact Or.inr ⟨q, vm₁, B, X₁.warmed, X', hpost, hstep₁ _ fun acts => by rw [doInvoke_state]; exact hsteps⟩
end Calls
theorem vx_cls {s : State} {T : State} {vm₁ : Vm} {E : String} {k : ClassId} (hW : s.WarmedH vm₁) (h : (T.setVm vm₁).vm.findClass E = some k) : s.vm.findClass E = some k := by
  have h1 : vm₁.findClass E = some k := h
  rw [hW.alike.findClass] at h1
  exact h1
/-- the method's frame g, with q thrown over it -/
def vx_W (p : Program) (l : Launch) (e : Env) (R : Room) (s : State) (m : MethodId) (args : Array Value) (below : List Frame) (meth : Method) (c : Code) (H : Heap) (locs : List Loc) (cells slots : Nat) (Q : State → Prop) (g : JFrame) (q : Addr) : Prop :=
  ∀ T : State, T.heap = H → Stand p l e R s m args below meth c T locs cells slots → ∃ t, Steps p.tables e below ((T.setTop g).pushFrame (.throwing q)) t ∧ Q t
def vx_Run (p : Program) (l : Launch) (e : Env) (R : Room) (s : State) (m : MethodId) (args : Array Value) (below : List Frame) (meth : Method) (c : Code) (H : Heap) (locs : List Loc) (cells slots mc ms : Nat) (g : JFrame) (rest : List Value) (Qa : State → Outcome → State → Prop) (XC : String → State → State → Prop) (free : Addr → Prop) : Prop :=
  ∀ T : State, T.heap = H → Stand p l e R s m args below meth c T locs cells slots →
    (∃ (v : Option Value) (st₀ t T' : State) (L : List Loc), st₀.heap = H ∧ Stand p l e R s m args below meth c T' (locs ++ L) (cells + mc) (slots + ms) ∧ (∀ q ∈ L, free q.base) ∧ T'.heap = t.heap ∧ T'.vm = t.vm ∧ Qa st₀ (.returned v) t ∧
      Goes p e below T g T' { g with pc := g.pc + 3, stack := v.toList ++ rest }) ∨
    (∃ (q : Addr) (st₀ t T' : State) (L : List Loc) (E : String) (ce : Cell), st₀.heap = H ∧ Stand p l e R s m args below meth c T' (locs ++ L) (cells + mc) (slots + ms) ∧ (∀ z ∈ L, free z.base) ∧ T'.heap = t.heap ∧ T'.vm = t.vm ∧ XC E st₀ t ∧ t.heap[q]? = some ce ∧ ce.vm = .none ∧ s.vm.findClass E = some ce.cls ∧
      Steps p.tables e below (T.setTop g) ((T'.setTop { g with stack := rest }).pushFrame (.throwing q)))
def vx_X {S : Type} (px : S → Prop) (B : String → S → State → Prop) (A : Nat → Prop) : String → State → State → Prop := fun E st t => ∃ u : S, px u ∧ B E u t ∧ va_F A st t
section Runs
variable {p : Program} {l : Launch} {e : Env} {R : Room} {s : State} {m : MethodId} {args : Array Value} {below : List Frame} {meth : Method} {c : Code} {H : Heap} {locs : List Loc} {cells slots : Nat}
variable {y : MethodName} {bytes cc : ByteArray} {maxL nL mc ms n index : Nat} {ret : Option FieldType} {ws : List Cond} {rm : Room} {Pc : Array Value → State → Prop} {Qc : Array Value → State → Outcome → State → Prop} {XC : String → State → State → Prop} {free : Addr → Prop} {Ts : List Cond} {own C : String} {b : Addr} {As rest : List Value} {g : JFrame}
theorem vx_callBack (cb : CallB R s args own index y bytes maxL ret ws rm mc ms n) (hM : vx_Met l y ws rm Pc Qc XC mc ms free) (hbl : FrameBlind Pc) : vx_Back l R p e below s args y 3 8 (PreOf R mc ms Pc) (PostOf Qc mc ms free) (vx_Post XC mc ms free) := by
  obtain ⟨hrc, hrs, hfr, hlo, hws, hcw, -, hini, -⟩ := cb
  exact vx_back (bytes := bytes) (maxL := maxL) (ret := ret) hM hbl hrc hrs hfr hlo hws hcw (fun a' U hW => word_at hW (Or.inl (by first | rfl | simp [Cond.onTables, Cond.keeps, Cond.steady])) hini)
theorem vx_runV (S : CallFix p m c cc nL s args Ts own) (hM : vx_Met l y ws rm Pc Qc XC mc ms free) (cw : CallW R s args own C index y bytes maxL ret ws rm mc ms n) (hp : PreV s H C b Pc As)
    (hg : g.method = m) (hn : As.length = n) (hsize : g.locals.size = nL) (hstack : g.stack = As.reverse ++ .ref b :: rest) (hW : 2 * g.monitorRoom + (rest.map fun v => v.category).sum ≤ 8) (hdg : decode cc g.pc = .ok (.invokevirtual index, 3)) (hf : cells + mc ≤ R.cells ∧ slots + ms ≤ R.slots) :
    vx_Run p l e R s m args below meth c H locs cells slots mc ms g rest (Qc (Value.ref b :: As).toArray) XC free := by
  have hK : vx_Back l R p e below s args y 3 8 (PreOf R mc ms Pc) (PostOf Qc mc ms free) (vx_Post XC mc ms free) := vx_callBack cw.1 hM hp.1
  obtain ⟨⟨-, -, -, -, -, -, hcode, -, hy, hlen, hl⟩, hin, hse⟩ := cw
  obtain ⟨hx, hb, hml, ho, -⟩ := S
  obtain ⟨-, ⟨cellB, hcB, hoB, hclB⟩, hPc⟩ := hp
  intro T hT X
  rcases vx_callV X hx (C := C) (bytes := bytes) (maxL := maxL) (ret := ret) ho hl hin hse hcode hy hK (by rw [hT]; exact hcB) hoB hclB hg (hsize.trans hml.symm) (argsL := As) (rest := rest) (fun sig h => hn.trans (hlen sig h)) hstack hW (by rw [hb]; exact hdg)
    (fun vm₁ hW₁ => ⟨hf.1, hf.2, hPc (T.setVm vm₁) hT hW₁⟩) with ⟨v, vm₁, ⟨U', l2, c2, s2⟩, hW₁, X', ⟨g', mk, t, L, e1, e2, hq, h1, hL, h2, h3⟩, st⟩ | ⟨q, vm₁, ⟨U', l2, c2, s2⟩, hW₁, X', ⟨g', mk, t, L, E, ce, e1, e2, hq, hce, hcv, hcl, h1, hL, h2, h3⟩, st⟩
  · dsimp only [Pt.U, Pt.locs, Pt.cells, Pt.slots] at X' e1 e2 h1 h2 h3 st
    subst h1; subst h2; subst h3
    exact Or.inl ⟨v, (T.setVm vm₁).calling g' mk (Value.ref b :: As).toArray, t, U', L, hT, X', hL, e1, e2, hq, st⟩
  · dsimp only [Pt.U, Pt.locs, Pt.cells, Pt.slots] at X' e1 e2 h1 h2 h3 st hcl
    subst h1; subst h2; subst h3
    exact Or.inr ⟨q, (T.setVm vm₁).calling g' mk (Value.ref b :: As).toArray, t, U', L, E, ce, hT, X', hL, e1, e2, hq, hce, hcv, vx_cls hW₁ hcl, st⟩
theorem vx_runS (S : CallFix p m c cc nL s args Ts own) (hM : vx_Met l y ws rm Pc Qc XC mc ms free) (cw : CallB R s args own index y bytes maxL ret ws rm mc ms n ∧ (Cond.static y).before args s = true) (hp : PreS s H Pc As)
    (hg : g.method = m) (hn : As.length = n) (hsize : g.locals.size = nL) (hstack : g.stack = As.reverse ++ rest) (hW : 2 * g.monitorRoom + (rest.map fun v => v.category).sum ≤ 8) (hdg : decode cc g.pc = .ok (.invokestatic index, 3)) (hf : cells + mc ≤ R.cells ∧ slots + ms ≤ R.slots) :
    vx_Run p l e R s m args below meth c H locs cells slots mc ms g rest (Qc As.toArray) XC free := by
  have hK : vx_Back l R p e below s args y 3 8 (PreOf R mc ms Pc) (PostOf Qc mc ms free) (vx_Post XC mc ms free) := vx_callBack cw.1 hM hp.1
  obtain ⟨⟨-, -, -, -, -, -, hcode, hini, hy, hlen, hl⟩, hstt⟩ := cw
  obtain ⟨hx, hb, hml, ho, -⟩ := S
  intro T hT X
  rcases vx_callS X hx (bytes := bytes) (maxL := maxL) (ret := ret) ho hl hstt hini hcode hy hK hg (hsize.trans hml.symm) (argsL := As) (rest := rest) (fun sig h => hn.trans (hlen sig h)) hstack hW (by rw [hb]; exact hdg)
    (fun vm₁ hW₁ => ⟨hf.1, hf.2, hp.2 (T.setVm vm₁) hT hW₁⟩) with ⟨v, vm₁, ⟨U', l2, c2, s2⟩, hW₁, X', ⟨g', mk, t, L, e1, e2, hq, h1, hL, h2, h3⟩, st⟩ | ⟨q, vm₁, ⟨U', l2, c2, s2⟩, hW₁, X', ⟨g', mk, t, L, E, ce, e1, e2, hq, hce, hcv, hcl, h1, hL, h2, h3⟩, st⟩
  · dsimp only [Pt.U, Pt.locs, Pt.cells, Pt.slots] at X' e1 e2 h1 h2 h3 st
    subst h1; subst h2; subst h3
    exact Or.inl ⟨v, (T.setVm vm₁).calling g' mk As.toArray, t, U', L, hT, X', hL, e1, e2, hq, st⟩
  · dsimp only [Pt.U, Pt.locs, Pt.cells, Pt.slots] at X' e1 e2 h1 h2 h3 st hcl
    subst h1; subst h2; subst h3
    exact Or.inr ⟨q, (T.setVm vm₁).calling g' mk As.toArray, t, U', L, E, ce, hT, X', hL, e1, e2, hq, hce, hcv, vx_cls hW₁ hcl, st⟩
end Runs
section Rows
variable {p : Program} {l : Launch} {e : Env} {R : Room} {s : State} {m : MethodId} {args : Array Value} {below : List Frame} {meth : Method} {c : Code} {H : Heap} {locs : List Loc} {cells slots : Nat} {Q : State → Prop}
variable {mc ms : Nat} {free : Addr → Prop} {A0 A1 : Nat → Prop} {H0 : Heap} {a : Array Value} {pc : Nat} {ls : Array Slot} {st0 rest : List Value}
theorem vx_keep {st₀ t T' : State} {L : List Loc} (h0 : st₀.heap = H) (e1 : T'.heap = t.heap) (hS : va_S A0 H0 H locs) (hA : ∀ q, q < H.size → A1 q → A0 q) (hf : ∀ q, free q → A0 q) (hL : ∀ q ∈ L, free q.base) (hF : va_F A1 st₀ t) :
    H.size ≤ T'.heap.size ∧ (∀ q : Nat, q < H.size → ¬ A1 q → T'.heap[q]? = H[q]?) ∧ va_S A0 H0 T'.heap (locs ++ L) := by
  obtain ⟨hz, hk⟩ := hF
  rw [h0] at hz hk
  exact ⟨by rw [e1]; exact hz, fun q h1 h2 => by rw [e1]; exact hk q h1 h2,
    ⟨Nat.le_trans hS.1 (by rw [e1]; exact hz), fun q h1 h2 => by rw [e1, hk q (Nat.lt_of_lt_of_le h1 hS.1) (fun z => h2 (hA q (Nat.lt_of_lt_of_le h1 hS.1) z))]; exact hS.2.1 q h1 h2, fun q hq => by
      rcases List.mem_append.mp hq with h | h
      · exact hS.2.2 q h
      · exact hf _ (hL q h)⟩⟩
theorem vx_calli {S SX : Type} {post : Int32 → S → Prop} {px : SX → Prop} {B : S → State → Prop} {BX : String → SX → State → Prop} {AX : Nat → Prop} (hr : vx_Run p l e R s m args below meth c H locs cells slots mc ms (F0 m pc ls st0) rest (va_Qi post B A1 a) (vx_X px BX AX) free) (hS : va_S A0 H0 H locs) (hA : ∀ q, q < H.size → A1 q → A0 q) (hf : ∀ q, free q → A0 q) (hAX : ∀ q, q < H.size → AX q → A0 q)
    (kx : ∀ (E : String) (ce : Cell) (q9 : Addr) (u : SX) (t : State) (H1 : Heap) (locs1 : List Loc), t.heap = H1 → s.vm.Alike t.vm → px u → BX E u t → H.size ≤ H1.size → (∀ q : Nat, q < H.size → ¬ AX q → H1[q]? = H[q]?) → va_S A0 H0 H1 locs1 → H1[q9]? = some ce → ce.vm = .none → s.vm.findClass E = some ce.cls → vx_W p l e R s m args below meth c H1 locs1 (cells + mc) (slots + ms) Q (F0 m pc ls rest) q9)
    (kk : ∀ (r : Int32) (u : S) (t : State) (H1 : Heap) (locs1 : List Loc), t.heap = H1 → s.vm.Alike t.vm → post r u → B u t → H.size ≤ H1.size → (∀ q : Nat, q < H.size → ¬ A1 q → H1[q]? = H[q]?) → va_S A0 H0 H1 locs1 → W p l e R s m args below meth c H1 locs1 (cells + mc) (slots + ms) Q (F0 m (pc + 3) ls (.int r :: rest))) : W p l e R s m args below meth c H locs cells slots Q (F0 m pc ls st0) := by
  intro T hT X
  rcases hr T hT X with ⟨v, st₀, t, T', L, h0, X', hL, e1, e2, ⟨⟨r, u, hv, hp, hb⟩, hF⟩, st⟩ | ⟨q, st₀, t, T', L, E, ce, h0, X', hL, e1, e2, ⟨u, hp, hb, hF⟩, hce, hcv, hcl, st⟩
  · cases hv
    obtain ⟨k1, k2, k3⟩ := vx_keep h0 e1 hS hA hf hL hF
    obtain ⟨t2, a1, b1⟩ := kk r u t T'.heap (locs ++ L) e1.symm (by rw [← e2]; exact X'.warmed.alike) hp hb k1 k2 k3 T' rfl X'
    exact ⟨t2, st t2 a1, b1⟩
  · obtain ⟨k1, k2, k3⟩ := vx_keep h0 e1 hS hAX hf hL hF
    obtain ⟨t2, a1, b1⟩ := kx E ce q u t T'.heap (locs ++ L) e1.symm (by rw [← e2]; exact X'.warmed.alike) hp hb k1 k2 k3 (by rw [e1]; exact hce) hcv hcl T' rfl X'
    exact ⟨t2, st.trans a1, b1⟩
theorem vx_calll {S SX : Type} {post : Int64 → S → Prop} {px : SX → Prop} {B : S → State → Prop} {BX : String → SX → State → Prop} {AX : Nat → Prop} (hr : vx_Run p l e R s m args below meth c H locs cells slots mc ms (F0 m pc ls st0) rest (va_Ql post B A1 a) (vx_X px BX AX) free) (hS : va_S A0 H0 H locs) (hA : ∀ q, q < H.size → A1 q → A0 q) (hf : ∀ q, free q → A0 q) (hAX : ∀ q, q < H.size → AX q → A0 q)
    (kx : ∀ (E : String) (ce : Cell) (q9 : Addr) (u : SX) (t : State) (H1 : Heap) (locs1 : List Loc), t.heap = H1 → s.vm.Alike t.vm → px u → BX E u t → H.size ≤ H1.size → (∀ q : Nat, q < H.size → ¬ AX q → H1[q]? = H[q]?) → va_S A0 H0 H1 locs1 → H1[q9]? = some ce → ce.vm = .none → s.vm.findClass E = some ce.cls → vx_W p l e R s m args below meth c H1 locs1 (cells + mc) (slots + ms) Q (F0 m pc ls rest) q9)
    (kk : ∀ (r : Int64) (u : S) (t : State) (H1 : Heap) (locs1 : List Loc), t.heap = H1 → s.vm.Alike t.vm → post r u → B u t → H.size ≤ H1.size → (∀ q : Nat, q < H.size → ¬ A1 q → H1[q]? = H[q]?) → va_S A0 H0 H1 locs1 → W p l e R s m args below meth c H1 locs1 (cells + mc) (slots + ms) Q (F0 m (pc + 3) ls (.long r :: rest))) : W p l e R s m args below meth c H locs cells slots Q (F0 m pc ls st0) := by
  intro T hT X
  rcases hr T hT X with ⟨v, st₀, t, T', L, h0, X', hL, e1, e2, ⟨⟨r, u, hv, hp, hb⟩, hF⟩, st⟩ | ⟨q, st₀, t, T', L, E, ce, h0, X', hL, e1, e2, ⟨u, hp, hb, hF⟩, hce, hcv, hcl, st⟩
  · cases hv
    obtain ⟨k1, k2, k3⟩ := vx_keep h0 e1 hS hA hf hL hF
    obtain ⟨t2, a1, b1⟩ := kk r u t T'.heap (locs ++ L) e1.symm (by rw [← e2]; exact X'.warmed.alike) hp hb k1 k2 k3 T' rfl X'
    exact ⟨t2, st t2 a1, b1⟩
  · obtain ⟨k1, k2, k3⟩ := vx_keep h0 e1 hS hAX hf hL hF
    obtain ⟨t2, a1, b1⟩ := kx E ce q u t T'.heap (locs ++ L) e1.symm (by rw [← e2]; exact X'.warmed.alike) hp hb k1 k2 k3 (by rw [e1]; exact hce) hcv hcl T' rfl X'
    exact ⟨t2, st.trans a1, b1⟩
theorem vx_callf {S SX : Type} {post : UInt32 → S → Prop} {px : SX → Prop} {B : S → State → Prop} {BX : String → SX → State → Prop} {AX : Nat → Prop} (hr : vx_Run p l e R s m args below meth c H locs cells slots mc ms (F0 m pc ls st0) rest (va_Qf post B A1 a) (vx_X px BX AX) free) (hS : va_S A0 H0 H locs) (hA : ∀ q, q < H.size → A1 q → A0 q) (hf : ∀ q, free q → A0 q) (hAX : ∀ q, q < H.size → AX q → A0 q)
    (kx : ∀ (E : String) (ce : Cell) (q9 : Addr) (u : SX) (t : State) (H1 : Heap) (locs1 : List Loc), t.heap = H1 → s.vm.Alike t.vm → px u → BX E u t → H.size ≤ H1.size → (∀ q : Nat, q < H.size → ¬ AX q → H1[q]? = H[q]?) → va_S A0 H0 H1 locs1 → H1[q9]? = some ce → ce.vm = .none → s.vm.findClass E = some ce.cls → vx_W p l e R s m args below meth c H1 locs1 (cells + mc) (slots + ms) Q (F0 m pc ls rest) q9)
    (kk : ∀ (r : UInt32) (u : S) (t : State) (H1 : Heap) (locs1 : List Loc), t.heap = H1 → s.vm.Alike t.vm → post r u → B u t → H.size ≤ H1.size → (∀ q : Nat, q < H.size → ¬ A1 q → H1[q]? = H[q]?) → va_S A0 H0 H1 locs1 → W p l e R s m args below meth c H1 locs1 (cells + mc) (slots + ms) Q (F0 m (pc + 3) ls (.float r :: rest))) : W p l e R s m args below meth c H locs cells slots Q (F0 m pc ls st0) := by
  intro T hT X
  rcases hr T hT X with ⟨v, st₀, t, T', L, h0, X', hL, e1, e2, ⟨⟨r, u, hv, hp, hb⟩, hF⟩, st⟩ | ⟨q, st₀, t, T', L, E, ce, h0, X', hL, e1, e2, ⟨u, hp, hb, hF⟩, hce, hcv, hcl, st⟩
  · cases hv
    obtain ⟨k1, k2, k3⟩ := vx_keep h0 e1 hS hA hf hL hF
    obtain ⟨t2, a1, b1⟩ := kk r u t T'.heap (locs ++ L) e1.symm (by rw [← e2]; exact X'.warmed.alike) hp hb k1 k2 k3 T' rfl X'
    exact ⟨t2, st t2 a1, b1⟩
  · obtain ⟨k1, k2, k3⟩ := vx_keep h0 e1 hS hAX hf hL hF
    obtain ⟨t2, a1, b1⟩ := kx E ce q u t T'.heap (locs ++ L) e1.symm (by rw [← e2]; exact X'.warmed.alike) hp hb k1 k2 k3 (by rw [e1]; exact hce) hcv hcl T' rfl X'
    exact ⟨t2, st.trans a1, b1⟩
theorem vx_calld {S SX : Type} {post : UInt64 → S → Prop} {px : SX → Prop} {B : S → State → Prop} {BX : String → SX → State → Prop} {AX : Nat → Prop} (hr : vx_Run p l e R s m args below meth c H locs cells slots mc ms (F0 m pc ls st0) rest (va_Qd post B A1 a) (vx_X px BX AX) free) (hS : va_S A0 H0 H locs) (hA : ∀ q, q < H.size → A1 q → A0 q) (hf : ∀ q, free q → A0 q) (hAX : ∀ q, q < H.size → AX q → A0 q)
    (kx : ∀ (E : String) (ce : Cell) (q9 : Addr) (u : SX) (t : State) (H1 : Heap) (locs1 : List Loc), t.heap = H1 → s.vm.Alike t.vm → px u → BX E u t → H.size ≤ H1.size → (∀ q : Nat, q < H.size → ¬ AX q → H1[q]? = H[q]?) → va_S A0 H0 H1 locs1 → H1[q9]? = some ce → ce.vm = .none → s.vm.findClass E = some ce.cls → vx_W p l e R s m args below meth c H1 locs1 (cells + mc) (slots + ms) Q (F0 m pc ls rest) q9)
    (kk : ∀ (r : UInt64) (u : S) (t : State) (H1 : Heap) (locs1 : List Loc), t.heap = H1 → s.vm.Alike t.vm → post r u → B u t → H.size ≤ H1.size → (∀ q : Nat, q < H.size → ¬ A1 q → H1[q]? = H[q]?) → va_S A0 H0 H1 locs1 → W p l e R s m args below meth c H1 locs1 (cells + mc) (slots + ms) Q (F0 m (pc + 3) ls (.double r :: rest))) : W p l e R s m args below meth c H locs cells slots Q (F0 m pc ls st0) := by
  intro T hT X
  rcases hr T hT X with ⟨v, st₀, t, T', L, h0, X', hL, e1, e2, ⟨⟨r, u, hv, hp, hb⟩, hF⟩, st⟩ | ⟨q, st₀, t, T', L, E, ce, h0, X', hL, e1, e2, ⟨u, hp, hb, hF⟩, hce, hcv, hcl, st⟩
  · cases hv
    obtain ⟨k1, k2, k3⟩ := vx_keep h0 e1 hS hA hf hL hF
    obtain ⟨t2, a1, b1⟩ := kk r u t T'.heap (locs ++ L) e1.symm (by rw [← e2]; exact X'.warmed.alike) hp hb k1 k2 k3 T' rfl X'
    exact ⟨t2, st t2 a1, b1⟩
  · obtain ⟨k1, k2, k3⟩ := vx_keep h0 e1 hS hAX hf hL hF
    obtain ⟨t2, a1, b1⟩ := kx E ce q u t T'.heap (locs ++ L) e1.symm (by rw [← e2]; exact X'.warmed.alike) hp hb k1 k2 k3 (by rw [e1]; exact hce) hcv hcl T' rfl X'
    exact ⟨t2, st.trans a1, b1⟩
theorem vx_callv {S SX : Type} {post : S → Prop} {px : SX → Prop} {B : S → State → Prop} {BX : String → SX → State → Prop} {AX : Nat → Prop} (hr : vx_Run p l e R s m args below meth c H locs cells slots mc ms (F0 m pc ls st0) rest (va_Qv post B A1 a) (vx_X px BX AX) free) (hS : va_S A0 H0 H locs) (hA : ∀ q, q < H.size → A1 q → A0 q) (hf : ∀ q, free q → A0 q) (hAX : ∀ q, q < H.size → AX q → A0 q)
    (kx : ∀ (E : String) (ce : Cell) (q9 : Addr) (u : SX) (t : State) (H1 : Heap) (locs1 : List Loc), t.heap = H1 → s.vm.Alike t.vm → px u → BX E u t → H.size ≤ H1.size → (∀ q : Nat, q < H.size → ¬ AX q → H1[q]? = H[q]?) → va_S A0 H0 H1 locs1 → H1[q9]? = some ce → ce.vm = .none → s.vm.findClass E = some ce.cls → vx_W p l e R s m args below meth c H1 locs1 (cells + mc) (slots + ms) Q (F0 m pc ls rest) q9)
    (kk : ∀ (u : S) (t : State) (H1 : Heap) (locs1 : List Loc), t.heap = H1 → s.vm.Alike t.vm → post u → B u t → H.size ≤ H1.size → (∀ q : Nat, q < H.size → ¬ A1 q → H1[q]? = H[q]?) → va_S A0 H0 H1 locs1 → W p l e R s m args below meth c H1 locs1 (cells + mc) (slots + ms) Q (F0 m (pc + 3) ls (rest))) : W p l e R s m args below meth c H locs cells slots Q (F0 m pc ls st0) := by
  intro T hT X
  rcases hr T hT X with ⟨v, st₀, t, T', L, h0, X', hL, e1, e2, ⟨⟨u, hv, hp, hb⟩, hF⟩, st⟩ | ⟨q, st₀, t, T', L, E, ce, h0, X', hL, e1, e2, ⟨u, hp, hb, hF⟩, hce, hcv, hcl, st⟩
  · cases hv
    obtain ⟨k1, k2, k3⟩ := vx_keep h0 e1 hS hA hf hL hF
    obtain ⟨t2, a1, b1⟩ := kk u t T'.heap (locs ++ L) e1.symm (by rw [← e2]; exact X'.warmed.alike) hp hb k1 k2 k3 T' rfl X'
    exact ⟨t2, st t2 a1, b1⟩
  · obtain ⟨k1, k2, k3⟩ := vx_keep h0 e1 hS hAX hf hL hF
    obtain ⟨t2, a1, b1⟩ := kx E ce q u t T'.heap (locs ++ L) e1.symm (by rw [← e2]; exact X'.warmed.alike) hp hb k1 k2 k3 (by rw [e1]; exact hce) hcv hcl T' rfl X'
    exact ⟨t2, st.trans a1, b1⟩
/-- caught by the row x of this method's table; the rows ahead don't take it -/
theorem vx_catch {own name : String} {E : String} {ce : Cell} {q : Addr} (hown : s.vm.findClass own = some m.cls) (pre : List ExceptionTableEntry) (x : ExceptionTableEntry) (suf : List ExceptionTableEntry) (hsplit : c.exceptionTable.toList = pre ++ x :: suf)
    (hpass : ∀ z ∈ pre, covers z pc = false ∨ (z.catchType ≠ 0 ∧ ∃ nm : String, (Cond.classLink own z.catchType nm).before args s = true ∧ va_Nc E nm s)) (hx : covers x pc = true) (h0 : x.catchType ≠ 0)
    (hlink : (Cond.classLink own x.catchType name).before args s = true) (hcast : (Cond.castable E name).before args s = true) (hcell : H[q]? = some ce) (hv : ce.vm = .none) (hcl : s.vm.findClass E = some ce.cls)
    (kk : W p l e R s m args below meth c H locs cells slots Q (F0 m x.handlerPc ls [.ref q])) : vx_W p l e R s m args below meth c H locs cells slots Q (F0 m pc ls rest) q := by
  intro T hT X
  have hpl : e.platform.magicAccessors = ({} : Platform).magicAccessors := by rw [X.admits.platform]
  obtain ⟨c3, c4, hc3, hc4, hasg⟩ := Cond.castable_spec hcast
  cases Option.some.inj (hc3.symm.trans hcl)
  obtain ⟨c5, hc5, hcl5⟩ := Cond.classLink_spec hown hlink e.platform hpl
  cases Option.some.inj (hc4.symm.trans hc5)
  obtain ⟨vm', X', st⟩ := X.thenCaughtThrough q (g := F0 m pc ls rest) rfl (Steps.refl _) (by rw [hT]; exact hcell) (by rw [hv]; rfl) (by obtain ⟨k9, h9, -⟩ := Vm.findClass_spec hcl; exact ⟨k9, h9⟩) pre x suf hsplit
    (fun z hz => by
      rcases hpass z hz with h | ⟨hz0, nm, hl1, hn1⟩
      · exact Or.inl h
      · obtain ⟨c6, hc6, hcl6⟩ := Cond.classLink_spec hown hl1 e.platform hpl
        obtain ⟨a8, b8, h1, h2, h3⟩ := hn1
        cases Option.some.inj (h1.symm.trans hcl)
        cases Option.some.inj (h2.symm.trans hc6)
        exact Or.inr ⟨hz0, _, hcl6, h3⟩) hx (Or.inr ⟨h0, c4, hcl5, hasg⟩)
  obtain ⟨t, a1, b1⟩ := kk (T.setVm vm') hT X'
  exact ⟨t, st.trans a1, b1⟩
end Rows
section Ends
variable {p : Program} {l : Launch} {e : Env} {R : Room} {s : State} {m : MethodId} {args : Array Value} {below : List Frame} {meth : Method} {c : Code} {H : Heap} {locs : List Loc} {cells slots : Nat} {Q : State → Prop}
variable {mc ms : Nat} {free : Addr → Prop} {A0 A1 : Nat → Prop} {H0 : Heap} {a : Array Value} {ls : Array Slot} {st0 rest : List Value}
variable {Qc : Array Value → State → Outcome → State → Prop} {XC : String → State → State → Prop}
/-- what a body that may throw owes at its end -/
def vx_MQ (below : List Frame) (Qc : Array Value → State → Outcome → State → Prop) (XC : String → State → State → Prop) (a : Array Value) (s : State) (mc ms : Nat) (free : Addr → Prop) : State → Prop := fun t =>
  ∃ o, t.status = .running ∧ Ended t below o ∧ vx_Q Qc XC mc ms free a s o t
theorem vx_ret {g : JFrame} {mc ms : Nat} (k : W p l e R s m args below meth c H locs cells slots (MQ below Qc args s mc ms free) g) : W p l e R s m args below meth c H locs cells slots (vx_MQ below Qc XC args s mc ms free) g := by
  intro T hT X
  obtain ⟨t, a1, o, b1, b2, b3, b4⟩ := k T hT X
  exact ⟨t, a1, o, b1, b2, Or.inl ⟨b3, b4⟩⟩
/-- not caught here: it goes on to the caller -/
theorem vx_widen {g : JFrame} {q : Addr} {k n : Nat} (h1 : cells ≤ k) (h2 : slots ≤ n) (kk : vx_W p l e R s m args below meth c H locs k n Q g q) : vx_W p l e R s m args below meth c H locs cells slots Q g q := fun T hT X => kk T hT (stand_widen X h1 h2)
theorem vx_out {pc : Nat} {E : String} {ce : Cell} {q : Addr} {mc ms : Nat} (hout : ∀ x ∈ c.exceptionTable.toList, covers x pc = false) (hlocks : meth.locks = false) (hcell : H[q]? = some ce) (hv : ce.vm = .none) (hcl : s.vm.findClass E = some ce.cls)
    (hx : ∀ t : State, t.heap = H → s.vm.Alike t.vm → XC E s t) (hf : ∀ z ∈ locs, free z.base) (hc : cells ≤ mc) (hs : slots ≤ ms) :
    vx_W p l e R s m args below meth c H locs cells slots (vx_MQ below Qc XC args s mc ms free) (F0 m pc ls rest) q := by
  intro T hT X
  obtain ⟨st1, hrun, hend, hW, hsm⟩ := X.leaveThrown q (g := F0 m pc ls rest) rfl rfl rfl hout hlocks
  have hcell9 : (T.setFrames (.throwing q :: below)).heap[q]? = some ce := by
    show T.heap[q]? = some ce
    rw [hT]; exact hcell
  exact ⟨_, st1, .threw q, hrun, hend, Or.inr ⟨q, rfl, E, ce, locs, hx _ hT hW.alike, hcell9, hv, hcl, hW, hsm.mono hc hs, hf⟩⟩
theorem vx_frame {U : State} {k n : Nat} (h : s.sameButNew ({ U with vm := s.vm } : State) locs k n) : s.heap.size ≤ U.heap.size ∧ ∀ q : Nat, q < s.heap.size → (∀ z ∈ locs, z.base ≠ q) → U.heap[q]? = s.heap[q]? := by
  obtain ⟨-, h2, -, -, -, h6⟩ := h
  refine ⟨h2, fun q hq hz => ?_⟩
  obtain ⟨c9, e1, e2, e3, e4⟩ := h6 q _ (Array.getElem?_eq_getElem hq)
  have hs : c9.slots = (s.heap[q]).slots := Array.ext_getElem? fun i => e4 i fun hm => hz _ hm rfl
  have h9 : c9 = s.heap[q] := by
    rw [hs] at e2
    exact e2
  have e5 : U.heap[q]? = some c9 := e1
  rw [e5, h9, Array.getElem?_eq_getElem hq]
/-- the words of a throw but the four that speak of the heap -/
def vx_no (w : Cond) : Bool := decide (w ≠ .isRef (.static Bundle.tN "UNASSIGNED_STACK" Bundle.steD)) && decide (w ≠ .isRef (.static Bundle.tN "SUPPRESSED_SENTINEL" Bundle.listD)) && decide (w ≠ .laysStatic Bundle.tN "UNASSIGNED_STACK" Bundle.steD) && decide (w ≠ .laysStatic Bundle.tN "SUPPRESSED_SENTINEL" Bundle.listD)
def vx_at0 (own : String) (ic : Nat) (X : String) (names : List String) : List Cond := (Bundle.ownAtoms0 own ic X names).filter vx_no
def vx_atS (own : String) (ic : Nat) (X : String) (names : List String) : List Cond := (Bundle.ownAtoms own ic X names).filter vx_no
/-- a word that the tables alone decide, or a good one -/
def vx_ot (w : Cond) : Bool := w.onTables || goodWord w
theorem vx_ot_at {args a' : Array Value} {s U : State} {w : Cond} (hW : s.WarmedH U.vm) (hvm : s.vm = U.vm) (hg : vx_ot w = true) (h : w.before args s = true) : w.before a' U = true := by
  simp only [vx_ot, Bool.or_eq_true] at hg
  rcases hg with hg | hg
  · exact va_tabs hg hvm h
  · exact word_at hW (good_of_word hg) h
/-- a list's words: the good ones out of the method's own list, the others by premises of their own -/
theorem vx_hat {args : Array Value} {s : State} {L B : List Cond} (h1 : ∀ w ∈ L.filter goodWord, w.before args s = true) (h2 : ∀ w ∈ L.filter (fun w => !goodWord w), w ∈ B) (h3 : ∀ w ∈ B, w.before args s = true) : ∀ w ∈ L, w.before args s = true := by
  intro w hw
  by_cases g : goodWord w = true
  · exact h1 w (List.mem_filter.mpr ⟨hw, g⟩)
  · refine h3 w (h2 w (List.mem_filter.mpr ⟨hw, ?_⟩))
    show (!goodWord w) = true
    cases hgw : goodWord w
    · rfl
    · exact absurd hgw g
theorem vx_c {args : Array Value} {s : State} {w : Cond} {B : List Cond} (h : w.before args s = true) (t : ∀ w ∈ B, w.before args s = true) : ∀ w' ∈ w :: B, w'.before args s = true := fun w' h' => (List.mem_cons.mp h').elim (fun e => by rw [e]; exact h) (t w')
theorem vx_n {args : Array Value} {s : State} : ∀ w ∈ ([] : List Cond), w.before args s = true := fun _ h => nomatch h
theorem vx_own {args : Array Value} {s : State} {L : List Cond} (h1 : ∀ w ∈ L.filter vx_no, w.before args s = true)
    (hU : (Cond.isRef (.static Bundle.tN "UNASSIGNED_STACK" Bundle.steD)).before args s = true) (hN : (Cond.isRef (.static Bundle.tN "SUPPRESSED_SENTINEL" Bundle.listD)).before args s = true)
    (lU : (Cond.laysStatic Bundle.tN "UNASSIGNED_STACK" Bundle.steD).before args s = true) (lN : (Cond.laysStatic Bundle.tN "SUPPRESSED_SENTINEL" Bundle.listD).before args s = true) : ∀ w ∈ L, w.before args s = true := by
  intro w hw
  by_cases e1 : w = .isRef (.static Bundle.tN "UNASSIGNED_STACK" Bundle.steD)
  · rw [e1]; exact hU
  · by_cases e2 : w = .isRef (.static Bundle.tN "SUPPRESSED_SENTINEL" Bundle.listD)
    · rw [e2]; exact hN
    · by_cases e3 : w = .laysStatic Bundle.tN "UNASSIGNED_STACK" Bundle.steD
      · rw [e3]; exact lU
      · by_cases e4 : w = .laysStatic Bundle.tN "SUPPRESSED_SENTINEL" Bundle.listD
        · rw [e4]; exact lN
        · exact h1 w (List.mem_filter.mpr ⟨hw, by unfold vx_no; rw [decide_eq_true e1, decide_eq_true e2, decide_eq_true e3, decide_eq_true e4]; rfl⟩)
/-- where a static field lies, its class's statics cell in H -/
def vx_L (C n d : String) (A : Nat → Prop) (U : State) (H : Heap) : Prop := ∃ (c : ClassId) (k : Class) (i : Nat) (f : Field) (a : Nat) (cell : Cell), U.vm.findClass C = some c ∧ U.fieldFound? C n d = some (c, k, i, f) ∧ f.isStatic = true ∧ k.statics = some a ∧ H[a]? = some cell ∧ cell.vm.isStatics = true ∧ cell.cls = c ∧ f.slot < cell.slots.size ∧ k.staticTypes[f.slot]? = some f.type ∧ ¬ A a
theorem vx_L.moved {C n d : String} {A : Nat → Prop} {u U : State} {H : Heap} (hvm : u.vm.Alike U.vm) (h : vx_L C n d A u H) : vx_L C n d A U H := by
  obtain ⟨c, k, i, f, a, cell, h1, h2, h3, h4, h5, h6, h7, h8, h9, h10⟩ := h
  obtain ⟨k', hi', he⟩ := State.fieldFound?_setVm hvm h2
  exact ⟨c, k', i, f, a, cell, by rw [hvm.findClass]; exact h1, hi', h3, by rw [he]; exact h4, h5, h6, h7, h8, by rw [he]; exact h9, h10⟩
theorem vx_L.kept {C n d : String} {A : Nat → Prop} {U : State} {H H1 : Heap} (h : vx_L C n d A U H) (hq : ∀ a : Nat, a < H.size → ¬ A a → H1[a]? = H[a]?) : vx_L C n d A U H1 := by
  obtain ⟨c, k, i, f, a, cell, h1, h2, h3, h4, h5, h6, h7, h8, h9, h10⟩ := h
  exact ⟨c, k, i, f, a, cell, h1, h2, h3, h4, by rw [hq a (Array.getElem?_eq_some_iff.mp h5).1 h10]; exact h5, h6, h7, h8, h9, h10⟩
theorem vx_L.narrow {C n d : String} {A B : Nat → Prop} {U : State} {H : Heap} (h : vx_L C n d A U H) (hAB : ∀ q, B q → A q) : vx_L C n d B U H := by
  obtain ⟨c, k, i, f, a, cell, h1, h2, h3, h4, h5, h6, h7, h8, h9, h10⟩ := h
  exact ⟨c, k, i, f, a, cell, h1, h2, h3, h4, h5, h6, h7, h8, h9, fun z => h10 (hAB _ z)⟩
theorem vx_L.word {C n d : String} {A : Nat → Prop} {s : State} {args : Array Value} (h : vx_L C n d A s s.heap) : (Cond.laysStatic C n d).before args s = true := by
  obtain ⟨c, k, i, f, a, cell, h1, h2, h3, h4, h5, h6, h7, h8, h9, -⟩ := h
  show (Cond.laysStatic C n d).holds args s none s [] = true
  exact Cond.laysStatic_of h1 h2 h3 h4 h5 h6 h7 h8 h9
/-- .. and what it holds: null or some reference -/
def vx_Zq (C n d : String) (A : Nat → Prop) (U : State) (H : Heap) : Prop := va_Zq C n d A U H ∧ vx_L C n d A U H
theorem vx_Zq.moved {C n d : String} {A : Nat → Prop} {u U : State} {H : Heap} (hvm : u.vm.Alike U.vm) (h : vx_Zq C n d A u H) : vx_Zq C n d A U H := ⟨va_Zq.moved hvm h.1, vx_L.moved hvm h.2⟩
theorem vx_Zq.kept {C n d : String} {A : Nat → Prop} {U : State} {H H1 : Heap} (h : vx_Zq C n d A U H) (hq : ∀ a : Nat, a < H.size → ¬ A a → H1[a]? = H[a]?) : vx_Zq C n d A U H1 := ⟨va_Zq.kept h.1 hq, vx_L.kept h.2 hq⟩
theorem vx_Zq.narrow {C n d : String} {A B : Nat → Prop} {U : State} {H : Heap} (h : vx_Zq C n d A U H) (hAB : ∀ q, B q → A q) : vx_Zq C n d B U H := ⟨va_Zq.narrow h.1 hAB, vx_L.narrow h.2 hAB⟩
theorem vx_Zqof {args : Array Value} {s : State} {C n d : String} {A : Nat → Prop} (hl : (Cond.laysStatic C n d).before args s = true) (hini : (Cond.initialized C).before args s = true) (h : (Cond.isRef (.static C n d)).before args s = true) (hA : ∀ a : Nat, a < s.heap.size → ¬ A a) : vx_Zq C n d A s s.heap := by
  refine ⟨va_Zqof hl hini h hA, ?_⟩
  obtain ⟨c, k, i, f, a, cell, h1, h2, h3, h4, h5, h6, h7, h8, h9⟩ := Cond.laysStatic_spec hl
  exact ⟨c, k, i, f, a, cell, h1, h2, h3, h4, h5, h6, h7, h8, h9, hA a (Array.getElem?_eq_some_iff.mp h5).1⟩
theorem vx_isRef {C n d : String} {v : Value} {A : Nat → Prop} {s : State} {args : Array Value} (h : va_Z C n d v A s s.heap) (hv : v.isRef = true) : (Cond.isRef (.static C n d)).before args s = true := by
  obtain ⟨cf, kf, fi, f, a, cell, h1, h2, h3, h4, h5, h6, h7, -⟩ := h
  have he : (Term.static C n d).eval args s none [] s = some v := by
    simp [Term.eval, State.fieldNamed?, h1, h2, h4, h5, h6, h7]
  simp only [Cond.before, Cond.holds, Cond.value, he]
  cases v <;> simp_all [Value.isRef]
theorem vx_isRefq {C n d : String} {A : Nat → Prop} {s : State} {args : Array Value} (h : va_Zq C n d A s s.heap) : (Cond.isRef (.static C n d)).before args s = true := by
  rcases h with h | ⟨t, h⟩
  · exact vx_isRef h rfl
  · exact vx_isRef h rfl
/-- the same frame, seen from here: as if the method were called anew in this heap -/
theorem vx_rebase {T : State} (X : Stand p l e R s m args below meth c T locs cells slots) {R' : Room} (hf : R'.frames ≤ R.frames) (hl : R'.locals ≤ R.locals) (hc : cells + R'.cells ≤ R.cells) (hs : slots + R'.slots ≤ R.slots) :
    Stand p l e R' ((T.setVm s.vm).setFrames (.invoking m args :: below)) m args below meth c T [] 0 0 := by
  have htop : (T.setVm s.vm).topJava?.isSome := X.here.top
  have hF : ((T.setVm s.vm).setFrames (.invoking m args :: below)).frames = .invoking m args :: below := State.frames_setFrames _ (State.cur_lt_of_top htop)
  obtain ⟨g₀, hg0⟩ := Option.isSome_iff_exists.mp htop
  obtain ⟨r, hr⟩ := State.topJava?_eq_some.mp hg0
  have hl9 : e.platform.stackLimits (T.setVm s.vm).me = e.platform.stackLimits s.me := X.limits
  have hb9 : (T.setVm s.vm).me.stackBytes = s.me.stackBytes := X.bytes
  refine ⟨X.admits, X.cas, X.clock, hF, ?_, X.hears, X.method, X.code, X.here, X.tail, X.warmed, ?_, ?_, ?_⟩
  · have h := X.room
    have hU : ((T.setVm s.vm).setFrames (.invoking m args :: below)).localsInUse = s.localsInUse := by
      rw [State.localsInUse_invoking hF (meth := meth) (c := c) X.method X.code, State.localsInUse_invoking X.frames X.method X.code]
    simp only [State.hasRoom, Bool.and_eq_true, decide_eq_true_eq] at h ⊢
    obtain ⟨⟨⟨⟨h1, h2, h3, h4, h5, h6⟩, h7⟩, h8⟩, h9⟩ := h
    rw [X.frames, List.length_cons] at h2 h3
    have q1 := X.heapSize
    have q2 := X.used
    simp only [hF, hU, List.length_cons, State.stackLimits_setFrames, State.stackBytes_setFrames, hl9, hb9]
    refine ⟨⟨⟨⟨by omega, by omega, by omega, by omega, by omega, h6⟩, ?_⟩, ?_⟩, X.book⟩
    · show T.heap.size + R'.cells ≤ e.platform.maxCells
      omega
    · show T.slotsUsed + R'.slots ≤ e.platform.maxSlots
      omega
  · rw [State.stackLimits_setFrames]; rfl
  · rw [State.stackBytes_setFrames]; rfl
  · refine ⟨?_, Nat.le_refl _, Nat.le_refl _, ?_, ?_, fun a c9 h9 => ⟨c9, h9, rfl, rfl, fun _ _ => rfl⟩⟩
    · obtain ⟨t, ht, -⟩ := State.frames_cons hr
      show T.setVm s.vm = { ((T.setVm s.vm).setFrames (.invoking m args :: below)).setFrames (T.setVm s.vm).frames with heap := T.heap, slotsUsed := T.slotsUsed }
      rw [State.setFrames_setFrames, State.setFrames_self ht]
      rfl
    · show T.slotsUsed = T.slotsUsed + ((T.heap.toList.drop T.heap.size).map (·.slots.size)).sum
      rw [List.drop_eq_nil_of_le (Nat.le_of_eq Array.length_toList)]
      rfl
    · show ((T.heap.toList.drop T.heap.size).map (·.slots.size)).sum ≤ 0
      rw [List.drop_eq_nil_of_le (Nat.le_of_eq Array.length_toList)]
      exact Nat.le_refl _
/-- 'throw new E()': new; dup; invokespecial; athrow -/
theorem vx_throw0 {cc : ByteArray} {pc : Nat} (hexec : p.tables.exec = Jvm.exec) (hb : c.code = cc) (hl : l.stackTraces = false) {own cls : String} {names : List String} {ik ic mc ms : Nat} {A : Nat → Prop}
    (hown : s.vm.findClass own = some m.cls) (hcls : Bundle.fit cls = true) (hnames : ∀ n ∈ names, Bundle.fit n = true)
    (hk : (Cond.classLink own ik cls).before args s = true) (hini : (Cond.initialized cls).before args s = true) (hat : ∀ w ∈ vx_at0 own ic cls names, w.before args s = true)
    (hgood : ∀ w ∈ Cond.classLink own ik cls :: Cond.initialized cls :: vx_at0 own ic cls names, vx_ot w = true)
    (hU : vx_Zq Bundle.tN "UNASSIGNED_STACK" Bundle.steD A s s.heap) (hN : vx_Zq Bundle.tN "SUPPRESSED_SENTINEL" Bundle.listD A s s.heap) (hS : va_S A s.heap H locs) (hsize : ls.size = c.maxLocals)
    (d0 : decode cc pc = .ok (.new ik, 3)) (d3 : decode cc (pc + 3) = .ok (.dup, 1)) (d4 : decode cc (pc + 4) = .ok (.invokespecial ic, 3)) (d7 : decode cc (pc + 7) = .ok (.athrow, 1))
    (hout : ∀ x ∈ c.exceptionTable.toList, covers x (pc + 7) = false)
    (hRframes : names.length + 3 < R.frames) (hRlocals : (rest.map fun v => v.category).sum + (13 * (names.length + 1) + 42) ≤ R.locals) (hRcells : cells + 1 ≤ R.cells) (hRslots : slots + 6 ≤ R.slots) (hlocks : meth.locks = false)
    (hx : ∀ t : State, s.vm.Alike t.vm → H.size ≤ t.heap.size → (∀ q : Nat, q < H.size → t.heap[q]? = H[q]?) → XC cls s t)
    (hf : ∀ z ∈ locs, free z.base) (hc : cells + 1 ≤ mc) (hs : slots + 6 ≤ ms) :
    W p l e R s m args below meth c H locs cells slots (vx_MQ below Qc XC args s mc ms free) (F0 m pc ls rest) := by
  intro T hT X
  have htr : e.platform.stackTraces = false := (show e.platform.stackTraces = l.stackTraces by rw [X.admits.platform]).trans hl
  have Y := vx_rebase X (R' := { frames := R.frames, locals := R.locals, cells := 1, slots := 6 }) (Nat.le_refl _) (Nat.le_refl _) hRcells hRslots
  obtain ⟨s', hA⟩ : ∃ z, z = (T.setVm s.vm).setFrames (.invoking m args :: below) := ⟨_, rfl⟩
  rw [← hA] at Y
  have hvm : s'.vm = s.vm := by rw [hA]; rfl
  have hhp : s'.heap = H := by rw [hA]; exact hT
  have hW0 : s.WarmedH s'.vm := by rw [hvm]; exact State.WarmedH.refl s
  have hat' : ∀ w ∈ vx_at0 own ic cls names, w.before args s' = true := fun w hw => vx_ot_at hW0 hvm.symm (hgood w (List.mem_cons_of_mem _ (List.mem_cons_of_mem _ hw))) (hat w hw)
  have hk' : (Cond.classLink own ik cls).before args s' = true := vx_ot_at hW0 hvm.symm (hgood _ List.mem_cons_self) hk
  have hini' : (Cond.initialized cls).before args s' = true := vx_ot_at hW0 hvm.symm (hgood _ (List.mem_cons_of_mem _ List.mem_cons_self)) hini
  have hU' : vx_Zq Bundle.tN "UNASSIGNED_STACK" Bundle.steD A s' s'.heap := by rw [hhp]; exact vx_Zq.moved hW0.alike (hU.kept hS.2.1)
  have hN' : vx_Zq Bundle.tN "SUPPRESSED_SENTINEL" Bundle.listD A s' s'.heap := by rw [hhp]; exact vx_Zq.moved hW0.alike (hN.kept hS.2.1)
  have h : ∀ w ∈ Bundle.ownAtoms0 own ic cls names, w.before args s' = true := vx_own hat' (vx_isRefq hU'.1) (vx_isRefq hN'.1) hU'.2.word hN'.2.word
  have hown' : s'.vm.findClass own = some m.cls := by rw [hvm]; exact hown
  have hins : (Cond.instantiable cls 6).before args s' = true := h _ (by simp [Bundle.ownAtoms0])
  obtain ⟨vm₁, cX, kX, hfX, hkX, -, -, X₁, st1⟩ := Y.newCold hexec (own := own) (C := cls) (index := ik) (n := 6) hown' hk' hins hini'
    (g := F0 m pc ls rest) rfl (by rw [hb]; exact d0) (Nat.le_refl _) (Nat.le_refl _)
  generalize hT1 : (T.setVm vm₁).pushCell { cls := cX, slots := kX.instanceTypes.map defaultValue, vm := .none } = T1 at X₁ st1
  have hcat : (Value.ref T.heap.size).category = 1 := rfl
  have hcellA : T1.heap[T.heap.size]? = some (freshCell cX kX) := by rw [← hT1]; exact State.heap_pushCell_size _ _
  have d3' : decode c.code (pc + 3) = .ok (.dup, 1) := by rw [hb]; exact d3
  obtain ⟨U, hsteps, hrun, hend, hW, hsame, ce, hce, hO⟩ := X₁.ctorThrow0 hexec htr (own := own) (cls := cls) (names := names) (ic := ic) hown' hcls hnames h (fun x hx => nomatch hx) hfX hkX hcellA (by rw [hhp, hT]; exact Nat.le_refl _)
    (g := { method := m, pc := pc + 4, locals := ls, stack := .ref T.heap.size :: .ref T.heap.size :: rest, locked := none }) rfl hsize rfl rfl (rest := rest) rfl
    (by rw [hb]; exact d4) (by rw [hb]; exact d7) hout hRframes (by simp only [List.map_cons, List.sum_cons, hcat]; omega) hlocks
  obtain ⟨f1, f2⟩ := vx_frame hsame
  rw [hhp] at f1 f2
  have hWs : s.WarmedH U.vm := State.WarmedH.trans hW0 hW
  have hcl : s.vm.findClass cls = some ce.cls := by
    have h9 := hO.cls
    rw [hvm] at h9
    exact h9
  have hall : s.sameButNew ({ U with vm := s.vm } : State) locs mc ms := by
    subst hA
    obtain ⟨e1, e2⟩ := hsame
    rw [State.setFrames_setFrames] at e1
    have h2 : (T.setVm s.vm).sameButNew ({ U with vm := s.vm } : State) [] (0 + 1) (0 + 6) := ⟨e1, e2⟩
    have h3 := X.same.trans h2
    rw [List.append_nil] at h3
    exact h3.mono hc hs
  refine ⟨U, ?_, .threw T.heap.size, hrun, hend, Or.inr ⟨T.heap.size, rfl, cls, ce, locs, hx U hWs.alike f1 (fun q hq => f2 q hq (fun z hz => nomatch hz)), hce, hO.vm, hcl, hWs, hall, hf⟩⟩
  refine st1 _ ?_
  show Steps p.tables e below (T1.setTop { method := m, pc := pc + 3, locals := ls, stack := .ref T.heap.size :: rest, locked := none }) _
  jvm_step X₁.here [X₁.here.top, hexec, d3', Value.category]
  exact hsteps
/-- 'throw new E("text")': new; dup; ldc; invokespecial; athrow -/
theorem vx_throwS {cc : ByteArray} {pc : Nat} (hexec : p.tables.exec = Jvm.exec) (hb : c.code = cc) (hl : l.stackTraces = false) {own cls text : String} {names : List String} {ik is ic mc ms sa : Nat} {A : Nat → Prop}
    (hown : s.vm.findClass own = some m.cls) (hcls : Bundle.fit cls = true) (hnames : ∀ n ∈ names, Bundle.fit n = true)
    (hk : (Cond.classLink own ik cls).before args s = true) (hini : (Cond.initialized cls).before args s = true) (hstr : vk_R own is text sa s) (hat : ∀ w ∈ vx_atS own ic cls names, w.before args s = true)
    (hgood : ∀ w ∈ Cond.classLink own ik cls :: Cond.initialized cls :: vx_atS own ic cls names, vx_ot w = true)
    (hU : vx_Zq Bundle.tN "UNASSIGNED_STACK" Bundle.steD A s s.heap) (hN : vx_Zq Bundle.tN "SUPPRESSED_SENTINEL" Bundle.listD A s s.heap) (hS : va_S A s.heap H locs) (hsize : ls.size = c.maxLocals)
    (d0 : decode cc pc = .ok (.new ik, 3)) (d3 : decode cc (pc + 3) = .ok (.dup, 1)) (d4 : decode cc (pc + 4) = .ok (.ldc is, 2)) (d6 : decode cc (pc + 6) = .ok (.invokespecial ic, 3)) (d9 : decode cc (pc + 9) = .ok (.athrow, 1))
    (hout : ∀ x ∈ c.exceptionTable.toList, covers x (pc + 9) = false)
    (hRframes : names.length + 3 < R.frames) (hRlocals : (rest.map fun v => v.category).sum + (13 * (names.length + 1) + 43) ≤ R.locals) (hRcells : cells + 1 ≤ R.cells) (hRslots : slots + 6 ≤ R.slots) (hlocks : meth.locks = false)
    (hx : ∀ t : State, s.vm.Alike t.vm → H.size ≤ t.heap.size → (∀ q : Nat, q < H.size → t.heap[q]? = H[q]?) → XC cls s t)
    (hf : ∀ z ∈ locs, free z.base) (hc : cells + 1 ≤ mc) (hs : slots + 6 ≤ ms) :
    W p l e R s m args below meth c H locs cells slots (vx_MQ below Qc XC args s mc ms free) (F0 m pc ls rest) := by
  intro T hT X
  have htr : e.platform.stackTraces = false := (show e.platform.stackTraces = l.stackTraces by rw [X.admits.platform]).trans hl
  have Y := vx_rebase X (R' := { frames := R.frames, locals := R.locals, cells := 1, slots := 6 }) (Nat.le_refl _) (Nat.le_refl _) hRcells hRslots
  obtain ⟨s', hA⟩ : ∃ z, z = (T.setVm s.vm).setFrames (.invoking m args :: below) := ⟨_, rfl⟩
  rw [← hA] at Y
  have hvm : s'.vm = s.vm := by rw [hA]; rfl
  have hhp : s'.heap = H := by rw [hA]; exact hT
  have hW0 : s.WarmedH s'.vm := by rw [hvm]; exact State.WarmedH.refl s
  have hat' : ∀ w ∈ vx_atS own ic cls names, w.before args s' = true := fun w hw => vx_ot_at hW0 hvm.symm (hgood w (List.mem_cons_of_mem _ (List.mem_cons_of_mem _ hw))) (hat w hw)
  have hk' : (Cond.classLink own ik cls).before args s' = true := vx_ot_at hW0 hvm.symm (hgood _ List.mem_cons_self) hk
  have hini' : (Cond.initialized cls).before args s' = true := vx_ot_at hW0 hvm.symm (hgood _ (List.mem_cons_of_mem _ List.mem_cons_self)) hini
  have hU' : vx_Zq Bundle.tN "UNASSIGNED_STACK" Bundle.steD A s' s'.heap := by rw [hhp]; exact vx_Zq.moved hW0.alike (hU.kept hS.2.1)
  have hN' : vx_Zq Bundle.tN "SUPPRESSED_SENTINEL" Bundle.listD A s' s'.heap := by rw [hhp]; exact vx_Zq.moved hW0.alike (hN.kept hS.2.1)
  have h : ∀ w ∈ Bundle.ownAtoms own ic cls names, w.before args s' = true := vx_own hat' (vx_isRefq hU'.1) (vx_isRefq hN'.1) hU'.2.word hN'.2.word
  have hown' : s'.vm.findClass own = some m.cls := by rw [hvm]; exact hown
  have hins : (Cond.instantiable cls 6).before args s' = true := h _ (by simp [Bundle.ownAtoms])
  obtain ⟨vm₁, cX, kX, hfX, hkX, -, -, X₁, st1⟩ := Y.newCold hexec (own := own) (C := cls) (index := ik) (n := 6) hown' hk' hins hini'
    (g := F0 m pc ls rest) rfl (by rw [hb]; exact d0) (Nat.le_refl _) (Nat.le_refl _)
  generalize hT1 : (T.setVm vm₁).pushCell { cls := cX, slots := kX.instanceTypes.map defaultValue, vm := .none } = T1 at X₁ st1
  have hcat : (Value.ref T.heap.size).category = 1 := rfl
  have hcellA : T1.heap[T.heap.size]? = some (freshCell cX kX) := by rw [← hT1]; exact State.heap_pushCell_size _ _
  have d3' : decode c.code (pc + 3) = .ok (.dup, 1) := by rw [hb]; exact d3
  have d4' : decode c.code (pc + 4) = .ok (.ldc is, 2) := by rw [hb]; exact d4
  have hstr' : vk_R own is text sa s' := vk_R.warm hW0 hstr
  obtain ⟨U, hsteps, hrun, hend, hW, hsame, ce, hce, hO⟩ := X₁.ctorThrowS hexec htr (own := own) (cls := cls) (names := names) (ic := ic) hown' hcls hnames h (fun x hx => nomatch hx) hfX hkX hcellA (by rw [hhp, hT]; exact Nat.le_refl _) (msg := .ref sa) rfl
    (g := { method := m, pc := pc + 6, locals := ls, stack := .ref sa :: .ref T.heap.size :: .ref T.heap.size :: rest, locked := none }) rfl hsize rfl rfl (rest := rest) rfl
    (by rw [hb]; exact d6) (by rw [hb]; exact d9) hout hRframes (by simp only [List.map_cons, List.sum_cons, hcat]; omega) hlocks
  obtain ⟨f1, f2⟩ := vx_frame hsame
  rw [hhp] at f1 f2
  have hWs : s.WarmedH U.vm := State.WarmedH.trans hW0 hW
  have hcl : s.vm.findClass cls = some ce.cls := by
    have h9 := hO.cls
    rw [hvm] at h9
    exact h9
  have hall : s.sameButNew ({ U with vm := s.vm } : State) locs mc ms := by
    subst hA
    obtain ⟨e1, e2⟩ := hsame
    rw [State.setFrames_setFrames] at e1
    have h2 : (T.setVm s.vm).sameButNew ({ U with vm := s.vm } : State) [] (0 + 1) (0 + 6) := ⟨e1, e2⟩
    have h3 := X.same.trans h2
    rw [List.append_nil] at h3
    exact h3.mono hc hs
  refine ⟨U, ?_, .threw T.heap.size, hrun, hend, Or.inr ⟨T.heap.size, rfl, cls, ce, locs, hx U hWs.alike f1 (fun q hq => f2 q hq (fun z hz => nomatch hz)), hce, hO.vm, hcl, hWs, hall, hf⟩⟩
  refine st1 _ ?_
  show Steps p.tables e below (T1.setTop { method := m, pc := pc + 3, locals := ls, stack := .ref T.heap.size :: rest, locked := none }) _
  jvm_step X₁.here [X₁.here.top, hexec, d3', Value.category]
  exact X₁.ldcString hexec (own := own) (text := text) (index := is) (a := sa) hown' hstr'.1 hstr'.2
    (g := { method := m, pc := pc + 4, locals := ls, stack := .ref T.heap.size :: .ref T.heap.size :: rest, locked := none }) rfl d4' _ hsteps
/-- 'throw new E("text")', the text by a wide index -/
theorem vx_throwSW {cc : ByteArray} {pc : Nat} (hexec : p.tables.exec = Jvm.exec) (hb : c.code = cc) (hl : l.stackTraces = false) {own cls text : String} {names : List String} {ik is ic mc ms sa : Nat} {A : Nat → Prop}
    (hown : s.vm.findClass own = some m.cls) (hcls : Bundle.fit cls = true) (hnames : ∀ n ∈ names, Bundle.fit n = true)
    (hk : (Cond.classLink own ik cls).before args s = true) (hini : (Cond.initialized cls).before args s = true) (hstr : vk_R own is text sa s) (hat : ∀ w ∈ vx_atS own ic cls names, w.before args s = true)
    (hgood : ∀ w ∈ Cond.classLink own ik cls :: Cond.initialized cls :: vx_atS own ic cls names, vx_ot w = true)
    (hU : vx_Zq Bundle.tN "UNASSIGNED_STACK" Bundle.steD A s s.heap) (hN : vx_Zq Bundle.tN "SUPPRESSED_SENTINEL" Bundle.listD A s s.heap) (hS : va_S A s.heap H locs) (hsize : ls.size = c.maxLocals)
    (d0 : decode cc pc = .ok (.new ik, 3)) (d3 : decode cc (pc + 3) = .ok (.dup, 1)) (d4 : decode cc (pc + 4) = .ok (.ldc_w is, 3)) (d7 : decode cc (pc + 7) = .ok (.invokespecial ic, 3)) (d10 : decode cc (pc + 10) = .ok (.athrow, 1))
    (hout : ∀ x ∈ c.exceptionTable.toList, covers x (pc + 10) = false)
    (hRframes : names.length + 3 < R.frames) (hRlocals : (rest.map fun v => v.category).sum + (13 * (names.length + 1) + 43) ≤ R.locals) (hRcells : cells + 1 ≤ R.cells) (hRslots : slots + 6 ≤ R.slots) (hlocks : meth.locks = false)
    (hx : ∀ t : State, s.vm.Alike t.vm → H.size ≤ t.heap.size → (∀ q : Nat, q < H.size → t.heap[q]? = H[q]?) → XC cls s t)
    (hf : ∀ z ∈ locs, free z.base) (hc : cells + 1 ≤ mc) (hs : slots + 6 ≤ ms) :
    W p l e R s m args below meth c H locs cells slots (vx_MQ below Qc XC args s mc ms free) (F0 m pc ls rest) := by
  intro T hT X
  have htr : e.platform.stackTraces = false := (show e.platform.stackTraces = l.stackTraces by rw [X.admits.platform]).trans hl
  have Y := vx_rebase X (R' := { frames := R.frames, locals := R.locals, cells := 1, slots := 6 }) (Nat.le_refl _) (Nat.le_refl _) hRcells hRslots
  obtain ⟨s', hA⟩ : ∃ z, z = (T.setVm s.vm).setFrames (.invoking m args :: below) := ⟨_, rfl⟩
  rw [← hA] at Y
  have hvm : s'.vm = s.vm := by rw [hA]; rfl
  have hhp : s'.heap = H := by rw [hA]; exact hT
  have hW0 : s.WarmedH s'.vm := by rw [hvm]; exact State.WarmedH.refl s
  have hat' : ∀ w ∈ vx_atS own ic cls names, w.before args s' = true := fun w hw => vx_ot_at hW0 hvm.symm (hgood w (List.mem_cons_of_mem _ (List.mem_cons_of_mem _ hw))) (hat w hw)
  have hk' : (Cond.classLink own ik cls).before args s' = true := vx_ot_at hW0 hvm.symm (hgood _ List.mem_cons_self) hk
  have hini' : (Cond.initialized cls).before args s' = true := vx_ot_at hW0 hvm.symm (hgood _ (List.mem_cons_of_mem _ List.mem_cons_self)) hini
  have hU' : vx_Zq Bundle.tN "UNASSIGNED_STACK" Bundle.steD A s' s'.heap := by rw [hhp]; exact vx_Zq.moved hW0.alike (hU.kept hS.2.1)
  have hN' : vx_Zq Bundle.tN "SUPPRESSED_SENTINEL" Bundle.listD A s' s'.heap := by rw [hhp]; exact vx_Zq.moved hW0.alike (hN.kept hS.2.1)
  have h : ∀ w ∈ Bundle.ownAtoms own ic cls names, w.before args s' = true := vx_own hat' (vx_isRefq hU'.1) (vx_isRefq hN'.1) hU'.2.word hN'.2.word
  have hown' : s'.vm.findClass own = some m.cls := by rw [hvm]; exact hown
  have hins : (Cond.instantiable cls 6).before args s' = true := h _ (by simp [Bundle.ownAtoms])
  obtain ⟨vm₁, cX, kX, hfX, hkX, -, -, X₁, st1⟩ := Y.newCold hexec (own := own) (C := cls) (index := ik) (n := 6) hown' hk' hins hini'
    (g := F0 m pc ls rest) rfl (by rw [hb]; exact d0) (Nat.le_refl _) (Nat.le_refl _)
  generalize hT1 : (T.setVm vm₁).pushCell { cls := cX, slots := kX.instanceTypes.map defaultValue, vm := .none } = T1 at X₁ st1
  have hcat : (Value.ref T.heap.size).category = 1 := rfl
  have hcellA : T1.heap[T.heap.size]? = some (freshCell cX kX) := by rw [← hT1]; exact State.heap_pushCell_size _ _
  have d3' : decode c.code (pc + 3) = .ok (.dup, 1) := by rw [hb]; exact d3
  have d4' : decode c.code (pc + 4) = .ok (.ldc_w is, 3) := by rw [hb]; exact d4
  have hstr' : vk_R own is text sa s' := vk_R.warm hW0 hstr
  obtain ⟨U, hsteps, hrun, hend, hW, hsame, ce, hce, hO⟩ := X₁.ctorThrowS hexec htr (own := own) (cls := cls) (names := names) (ic := ic) hown' hcls hnames h (fun x hx => nomatch hx) hfX hkX hcellA (by rw [hhp, hT]; exact Nat.le_refl _) (msg := .ref sa) rfl
    (g := { method := m, pc := pc + 7, locals := ls, stack := .ref sa :: .ref T.heap.size :: .ref T.heap.size :: rest, locked := none }) rfl hsize rfl rfl (rest := rest) rfl
    (by rw [hb]; exact d7) (by rw [hb]; exact d10) hout hRframes (by simp only [List.map_cons, List.sum_cons, hcat]; omega) hlocks
  obtain ⟨f1, f2⟩ := vx_frame hsame
  rw [hhp] at f1 f2
  have hWs : s.WarmedH U.vm := State.WarmedH.trans hW0 hW
  have hcl : s.vm.findClass cls = some ce.cls := by
    have h9 := hO.cls
    rw [hvm] at h9
    exact h9
  have hall : s.sameButNew ({ U with vm := s.vm } : State) locs mc ms := by
    subst hA
    obtain ⟨e1, e2⟩ := hsame
    rw [State.setFrames_setFrames] at e1
    have h2 : (T.setVm s.vm).sameButNew ({ U with vm := s.vm } : State) [] (0 + 1) (0 + 6) := ⟨e1, e2⟩
    have h3 := X.same.trans h2
    rw [List.append_nil] at h3
    exact h3.mono hc hs
  refine ⟨U, ?_, .threw T.heap.size, hrun, hend, Or.inr ⟨T.heap.size, rfl, cls, ce, locs, hx U hWs.alike f1 (fun q hq => f2 q hq (fun z hz => nomatch hz)), hce, hO.vm, hcl, hWs, hall, hf⟩⟩
  refine st1 _ ?_
  show Steps p.tables e below (T1.setTop { method := m, pc := pc + 3, locals := ls, stack := .ref T.heap.size :: rest, locked := none }) _
  jvm_step X₁.here [X₁.here.top, hexec, d3', Value.category]
  exact X₁.ldcStringW hexec (own := own) (text := text) (index := is) (a := sa) hown' hstr'.1 hstr'.2
    (g := { method := m, pc := pc + 4, locals := ls, stack := .ref T.heap.size :: .ref T.heap.size :: rest, locked := none }) rfl d4' _ hsteps
end Ends
section Bodies
variable {l : Launch}
theorem vx_ofW {y : MethodName} {ws ws' : List Cond} {rm : Room} {Pc : Array Value → State → Prop} {Qc : Array Value → State → Outcome → State → Prop} {XC : String → State → State → Prop} {mc ms : Nat} {free : Addr → Prop} {cc : ByteArray} {maxL : Nat} {ret : Option FieldType}
    (hy : plainName y.cls = true) (hw : ws = Cond.code y cc maxL ret :: ws')
    (body : ∀ p e s m args below meth c s₁, BodyLoose p l y (headSpec ws rm) cc maxL ret e s m args below meth c s₁ → c.maxLocals = maxL → (∀ x ∈ c.exceptionTable.toList, False) → Pc args s →
      W p l e (headSpec ws rm).room s m args below meth c s.heap [] 0 0 (vx_MQ below Qc XC args s mc ms free) (entryFrame m args maxL)) : vx_Met l y ws rm Pc Qc XC mc ms free := by
  refine MetFree.of_bodyS (code := cc) (maxLocals := maxL) (ret := ret) hy ?_ ?_
  · intro args s m h hn
    obtain ⟨meth, c, h1, h2, h3, h4, h5, h6, -, -⟩ := Cond.code_spec hn (atoms_spec (ws := ws) h _ (by rw [hw]; exact List.mem_cons_self))
    exact ⟨meth, c, h1, h2, h3, h4, h5, h6⟩
  · intro p e s m args below meth c s₁ B hml hP _
    have hh0 : s₁.heap = s.heap := by rw [B.state]; rfl
    have ht : ∀ x ∈ c.exceptionTable.toList, False := by
      obtain ⟨meth9, c9, h1, h2, -, -, -, -, h7, -⟩ := Cond.code_spec B.named (atoms_spec (ws := ws) B.pre _ (by rw [hw]; exact List.mem_cons_self))
      cases Option.some.inj (h1.symm.trans B.method)
      cases Option.some.inj (h2.symm.trans (Stand.of_body B).code)
      intro x hx
      rw [Array.isEmpty_iff.mp h7] at hx
      cases hx
    obtain ⟨t, a1, o, b1, b2, b3⟩ := body p e s m args below meth c s₁ B hml ht hP s₁ hh0 (Stand.of_body B)
    exact ⟨t, o, a1, b1, b2, b3⟩
/-- the table of a body with handlers -/
theorem vx_table {p : Program} {x y : MethodName} {S : Spec} {cc bytes : ByteArray} {maxL maxL' : Nat} {ret ret' : Option FieldType} {e : Env} {s s₁ : State} {m : MethodId} {args : Array Value} {below : List Frame} {meth : Method} {c : Code} {hh : List (Nat × Nat × Nat × Nat)}
    (B : BodyLoose p l y S cc maxL ret e s m args below meth c s₁) (h : (Cond.codeWith y bytes maxL' ret' hh).before args s = true) : c.exceptionTable.toList = tableOf hh := by
  obtain ⟨m9, meth9, c9, hn9, h1, h2, -, -, h6, -⟩ := Cond.codeWith_spec h
  cases Option.some.inj (hn9.symm.trans B.named)
  cases Option.some.inj (h1.symm.trans B.method)
  cases Option.some.inj (h2.symm.trans (Stand.of_body B).code)
  rw [← h6, table_eq]
end Bodies
end VXA
/-! ===== END ===== -/
/-! ===== BEGIN a static call of a method with an exception table ===== -/
section VXS
variable {p : Program} {l : Launch} {e : Env} {R : Room} {s : State} {m : MethodId} {args : Array Value} {below : List Frame} {meth : Method} {c : Code} {T : State} {H : Heap} {locs : List Loc} {cells slots : Nat}
abbrev vx_CSW (R : Room) (s : State) (args : Array Value) (own : String) (index : Nat) (y : MethodName) (bytes : ByteArray) (maxL : Nat) (ret : Option FieldType) (hh : List (Nat × Nat × Nat × Nat)) (ws : List Cond) (rm : Room) (mc ms n : Nat) : Prop :=
  (rm.cells = mc ∧ rm.slots = ms ∧ rm.frames + 1 ≤ R.frames ∧ 8 + (maxL + 11) + rm.locals ≤ R.locals ∧ (∀ w ∈ ws, ∀ (a' : Array Value) (U : State), s.WarmedH U.vm → w.before a' U = true) ∧ Cond.codeWith y bytes maxL ret hh ∈ ws) ∧
  (Cond.codeWith y bytes maxL ret hh).before args s = true ∧ (Cond.initialized y.cls).before args s = true ∧ (y.cls ≠ "java/lang/invoke/MethodHandle" ∧ y.cls ≠ "java/lang/invoke/VarHandle") ∧
  (∀ sig, parseMethodDescriptor y.desc = some sig → n = sig.parameters.length) ∧ (Cond.methodLink own index y).before args s = true ∧ (Cond.static y).before args s = true
theorem vx_cwSW {own : String} {index maxL mc ms : Nat} {y : MethodName} {bytes : ByteArray} {ret : Option FieldType} {hh : List (Nat × Nat × Nat × Nat)} {Ts ws ws' : List Cond} {rm : Room} (n : Nat) (ht : ∀ w ∈ Ts, w.before args s = true) (hT : GoodIn Ts (va_wsS own index y ws)) (hw : ws = Cond.codeWith y bytes maxL ret hh :: ws') (hrc : rm.cells = mc) (hrs : rm.slots = ms)
    (hd : y.cls ≠ "java/lang/invoke/MethodHandle" ∧ y.cls ≠ "java/lang/invoke/VarHandle" ∧ (parseMethodDescriptor y.desc).map (fun d => d.parameters.length) = some n) (hR : rm.frames + 1 ≤ R.frames ∧ 8 + (maxL + 11) + rm.locals ≤ R.locals) :
    vx_CSW R s args own index y bytes maxL ret hh ws rm mc ms n := by
  have ok : ∀ w ∈ va_wsS own index y ws, w.before args s = true := fun w h => ht w (hT w h).1
  have hG : GoodIn Ts ws := fun w h => hT w (by unfold va_wsS; exact List.mem_append_right _ h)
  have hc : Cond.codeWith y bytes maxL ret hh ∈ ws := by rw [hw]; exact List.mem_cons_self
  refine ⟨⟨hrc, hrs, hR.1, hR.2, pay_in ht hG, hc⟩, ht _ (hG _ hc).1, ok _ (by simp [va_wsS]), ⟨hd.1, hd.2.1⟩, fun sig h => ?_, ok _ (by simp [va_wsS]), ok _ (by simp [va_wsS])⟩
  have h2 := hd.2.2
  rw [h] at h2
  exact (Option.some.inj h2).symm
theorem vx_callSW (X : Stand p l e R s m args below meth c T locs cells slots) (hexec : p.tables.exec = Jvm.exec) {own : String} {index : Nat} {y : MethodName} {bytes : ByteArray} {maxL : Nat} {ret : Option FieldType} {hh : List (Nat × Nat × Nat × Nat)}
    (hown : s.vm.findClass own = some m.cls) (hlink : (Cond.methodLink own index y).before args s = true) (hstat : (Cond.static y).before args s = true) (hinit : (Cond.initialized y.cls).before args s = true)
    (hcode : (Cond.codeWith y bytes maxL ret hh).before args s = true) (hy : y.cls ≠ "java/lang/invoke/MethodHandle" ∧ y.cls ≠ "java/lang/invoke/VarHandle")
    {W9 : Nat} {Pre : Pt → Array Value → Prop} {Post : Pt → Array Value → Option Value → Pt → Prop} (hK : Back l R p e below s args y 3 W9 Pre Post)
    {g : JFrame} (hg : g.method = m) (hsize : g.locals.size = c.maxLocals) {argsL rest : List Value} (hlen : ∀ sig, parseMethodDescriptor y.desc = some sig → argsL.length = sig.parameters.length)
    (hstack : g.stack = argsL.reverse ++ rest) (hW : 2 * g.monitorRoom + (rest.map fun v => v.category).sum ≤ W9) (hdg : decode c.code g.pc = .ok (.invokestatic index, 3))
    (hpre : ∀ vm₁, s.WarmedH vm₁ → Pre ⟨T.setVm vm₁, locs, cells, slots⟩ argsL.toArray) :
    ∃ (v : Option Value) (vm₁ : Vm) (B : Pt), s.WarmedH vm₁ ∧ Stand p l e R s m args below meth c B.U B.locs B.cells B.slots ∧ Post ⟨T.setVm vm₁, locs, cells, slots⟩ argsL.toArray v B ∧
      ∀ target, Steps p.tables e below (B.U.setTop { g with pc := g.pc + 3, stack := v.toList ++ rest }) target → Steps p.tables e below (T.setTop g) target := by
  obtain ⟨mk, methM, cM, hnamed, hmethM, -, -, -, -, -, -, hsigM⟩ := Cond.codeWith_spec hcode
  have hstatic : methM.isStatic = true := Cond.static_spec hnamed hmethM hstat
  obtain ⟨kP, hkP, -⟩ := className_of_methodNamed hnamed
  have hinitP : kP.init = .initialized := Cond.initialized_spec (findClass_of_methodNamed hnamed) hkP hinit
  obtain ⟨vm₁, X₁, hstep₁⟩ := X.invokestatic hexec hown hlink hnamed hmethM hstatic hkP hinitP hy (g := g) hg (argsL := argsL) (rest := rest) (hlen _ hsigM) hstack hdg
  obtain ⟨v, B, X', hpost, hsteps⟩ := hK m meth c ⟨T.setVm vm₁, locs, cells, slots⟩ { g with stack := rest } (.invokestatic index) mk argsL.toArray X₁ hg hsize hdg hW (X₁.named hnamed) (hpre vm₁ X₁.warmed)
  exact ⟨v, vm₁, B, X₁.warmed, X', hpost, fun target h => hstep₁ _ fun acts => by rw [doInvoke_state]; exact hsteps.trans h⟩
theorem vx_runSW {y : MethodName} {bytes cc : ByteArray} {maxL nL mc ms n index : Nat} {ret : Option FieldType} {hh : List (Nat × Nat × Nat × Nat)} {ws : List Cond} {rm : Room} {Pc : Array Value → State → Prop} {Qc : Array Value → State → Outcome → State → Prop} {free : Addr → Prop} {Ts : List Cond} {own : String} {As rest : List Value} {g : JFrame}
    (S : CallFix p m c cc nL s args Ts own) (hM : Met l y ws rm Pc Qc mc ms free) (cw : vx_CSW R s args own index y bytes maxL ret hh ws rm mc ms n) (hp : PreS s H Pc As)
    (hg : g.method = m) (hn : As.length = n) (hsize : g.locals.size = nL) (hstack : g.stack = As.reverse ++ rest) (hW : 2 * g.monitorRoom + (rest.map fun v => v.category).sum ≤ 8) (hdg : decode cc g.pc = .ok (.invokestatic index, 3)) (hf : cells + mc ≤ R.cells ∧ slots + ms ≤ R.slots) :
    va_Run p l e R s m args below meth c H locs cells slots mc ms g rest (Qc As.toArray) (free) := by
  obtain ⟨⟨hrc, hrs, hfr, hlo, hws, hcw⟩, hcode, hini, hy, hlen, hl, hstt⟩ := cw
  have hK : Back l R p e below s args y 3 8 (PreOf R mc ms Pc) (PostOf Qc mc ms free) := va_backW (hh := hh) (bytes := bytes) (maxL := maxL) (ret := ret) hM hp.1 hrc hrs hfr hlo hws hcw (fun a' U hW => word_at hW (Or.inl (by first | rfl | simp [Cond.onTables, Cond.keeps, Cond.steady])) hini)
  obtain ⟨hx, hb, hml, ho, -⟩ := S
  intro T hT X
  obtain ⟨v, vm₁, ⟨U', l2, c2, s2⟩, hW₁, X', ⟨g', mk, t, L, e1, e2, hq, h1, hL, h2, h3⟩, st⟩ := vx_callSW X hx (hh := hh) (bytes := bytes) (maxL := maxL) (ret := ret) ho hl hstt hini hcode hy hK hg (hsize.trans hml.symm) (argsL := As) (rest := rest) (fun sig h => hn.trans (hlen sig h)) hstack hW (by rw [hb]; exact hdg)
    (fun vm₁ hW₁ => ⟨hf.1, hf.2, hp.2 (T.setVm vm₁) hT hW₁⟩)
  dsimp only [Pt.U, Pt.locs, Pt.cells, Pt.slots] at X' e1 e2 h1 h2 h3 st
  subst h1; subst h2; subst h3
  exact ⟨v, (T.setVm vm₁).calling g' mk As.toArray, t, U', L, hT, X', hL, e1, e2, hq, st⟩
/-- not caught here, past rows that name other classes: it goes on to the caller -/
theorem vx_outP {p : Program} {l : Launch} {e : Env} {R : Room} {s : State} {m : MethodId} {args : Array Value} {below : List Frame} {meth : Method} {c : Code} {H : Heap} {locs : List Loc} {cells slots : Nat} {free : Addr → Prop} {ls : Array Slot} {rest : List Value} {Qc : Array Value → State → Outcome → State → Prop} {XC : String → State → State → Prop}
    {pc : Nat} {own E : String} {ce : Cell} {q : Addr} {mc ms : Nat} (hown : s.vm.findClass own = some m.cls) (hlocks : meth.locks = false)
    (hpass : ∀ z ∈ c.exceptionTable.toList, covers z pc = false ∨ (z.catchType ≠ 0 ∧ ∃ nm : String, (Cond.classLink own z.catchType nm).before args s = true ∧ va_Nc E nm s)) (hcell : H[q]? = some ce) (hv : ce.vm = .none) (hcl : s.vm.findClass E = some ce.cls)
    (hx : ∀ t : State, t.heap = H → s.vm.Alike t.vm → XC E s t) (hf : ∀ z ∈ locs, free z.base) (hc : cells ≤ mc) (hs : slots ≤ ms) :
    vx_W p l e R s m args below meth c H locs cells slots (vx_MQ below Qc XC args s mc ms free) (F0 m pc ls rest) q := by
  intro T hT X
  have hpl : e.platform.magicAccessors = ({} : Platform).magicAccessors := by rw [X.admits.platform]
  obtain ⟨vm', hW', X', st⟩ := X.outThrough hlocks q (g := F0 m pc ls rest) rfl rfl rfl (cell := ce) (by rw [hT]; exact hcell) (by rw [hv]; rfl)
    (by obtain ⟨k9, h9, -⟩ := Vm.findClass_spec hcl; exact ⟨k9, h9⟩) (fun z hz => by
      rcases hpass z hz with h | ⟨hz0, nm, hl1, hn1⟩
      · exact Or.inl h
      · obtain ⟨c6, hc6, hcl6⟩ := Cond.classLink_spec hown hl1 e.platform hpl
        obtain ⟨a8, b8, h1, h2, h3⟩ := hn1
        cases Option.some.inj (h1.symm.trans hcl)
        cases Option.some.inj (h2.symm.trans hc6)
        exact Or.inr ⟨hz0, _, hcl6, h3⟩)
  obtain ⟨g₀, hfr⟩ := X'.frames_eq
  have hcell9 : ((T.setVm vm').setFrames (.throwing q :: below)).heap[q]? = some ce := by
    show T.heap[q]? = some ce
    rw [hT]; exact hcell
  have hend : Ended ((T.setVm vm').setFrames (.throwing q :: below)) below (.threw q) := State.frames_setFrames _ (State.cur_lt_of_frames hfr)
  refine ⟨(T.setVm vm').setFrames (.throwing q :: below), ?_, .threw q, X'.here.running, hend, Or.inr ⟨q, rfl, E, ce, locs, hx _ hT (X'.ends _).1.alike, hcell9, hv, hcl, (X'.ends _).1, (X'.ends _).2.mono hc hs, hf⟩⟩
  rw [X.pushThrowing_eq]
  exact st
/-- a thing of a world lies in the heap -/
theorem vx_lt {D : va_G} {cl : List vw_C} {ws : va_W} {H1 : Heap} (h : va_P D cl ws H1) {k : Nat} {q : Nat × va_E} (hk : ws[k]? = some q) : q.1 < H1.size := (h k q hk).lt
end VXS
/-! ===== END ===== -/
/-! ===== BEGIN methods with a table of their own: called by a name, returning or throwing ===== -/
section VXH
/-! vx_backW, vx_callVX, vx_callSX, vx_callVW, vx_runVW, vx_runVX, vx_runSX, vx_ofWH follow the same proofs as their sisters above (Free/Laws.lean, Shelf42/LK1.lean); vx_outP calls Shelf42/NT130.lean (outThrough). -/
section
variable {l : Launch} {R : Room} {p : Program} {e : Env} {below : List Frame} {s : State} {sargs : Array Value} {y : MethodName} {len W9 : Nat}
theorem vx_backW {ws : List Cond} {rm : Room} {Pc : Array Value → State → Prop} {Qc : Array Value → State → Outcome → State → Prop} {XC : String → State → State → Prop} {mc ms : Nat} {free : Addr → Prop} {bytes : ByteArray} {maxL : Nat} {ret : Option FieldType} {hh : List (Nat × Nat × Nat × Nat)}
    (hM : vx_Met l y ws rm Pc Qc XC mc ms free) (hblind : FrameBlind Pc) (hrc : rm.cells = mc) (hrs : rm.slots = ms)
    (hframes : rm.frames + 1 ≤ R.frames) (hlocals : W9 + (maxL + 11) + rm.locals ≤ R.locals)
    (hws : ∀ w ∈ ws, ∀ a' U, s.WarmedH U.vm → w.before a' U = true) (hcode : Cond.codeWith y bytes maxL ret hh ∈ ws) (hinit : ∀ a' U, s.WarmedH U.vm → (Cond.initialized y.cls).before a' U = true) :
    vx_Back l R p e below s sargs y len W9 (PreOf R mc ms Pc) (PostOf Qc mc ms free) (vx_Post XC mc ms free) := by
  intro m meth c A g ig mk a X hg hsize hdg hW hn hp
  have h1 : (headSpec ws rm).pre.before a A.U = true := atoms_intro fun w hw => hws w hw _ _ X.warmed
  have h2 : (Cond.codeWith y bytes maxL ret hh).before a A.U = true := hws _ hcode _ _ X.warmed
  have h3 : (Cond.initialized y.cls).before a A.U = true := hinit _ _ X.warmed
  have h4 : A.cells + (headSpec ws rm).room.cells ≤ R.cells := by rw [show (headSpec ws rm).room.cells = mc from hrc]; exact hp.1
  have h5 : A.slots + (headSpec ws rm).room.slots ≤ R.slots := by rw [show (headSpec ws rm).room.slots = ms from hrs]; exact hp.2.1
  have hPc : Pc a (A.U.calling g mk a) := hblind _ _ _ _ hp.2.2
  obtain ⟨U, Ls, c0, s0⟩ := A
  dsimp only [Pt.U, Pt.locs, Pt.cells, Pt.slots] at h1 h2 h3 h4 h5 X hn hPc ⊢
  obtain ⟨m9, methY, cY, hn9, hmY, hcY, -, hlY, -⟩ := Cond.codeWith_spec h2
  cases Option.some.inj (hn9.symm.trans hn)
  obtain ⟨kY, hkY, -⟩ := className_of_methodNamed hn
  have hinitY : kY.init = .initialized := Cond.initialized_spec (findClass_of_methodNamed hn) hkY h3
  have h : At U g.method c below := by rw [hg]; exact X.here
  have hlocals9 : W9 + (maxL + 11) + (headSpec ws rm).room.locals ≤ R.locals := hlocals
  have happ : (headSpec ws rm).appliesLoose y e.platform (U.calling g mk a) = true :=
    Spec.appliesLoose_calling (g := g) h hdg hn hkY hinitY
      (X.room_calling (g := g) (R' := (headSpec ws rm).room) hsize hmY hcY hframes (by rw [hlY]; omega) h4 h5) h1
  obtain ⟨mid, hmid⟩ := h.above
  have hfr : (U.setTop g).frames = (.java g :: mid) ++ below := by rw [State.frames_setTop' g h.top, hmid]; rfl
  obtain ⟨o, s₂, hsteps, -, hend, hq⟩ := Steps.callFree hM p X.admits X.cas X.clock (acts := []) hfr happ hPc trivial
  have hq' : vx_Q Qc XC mc ms free a (U.calling g mk a) o s₂ := hq
  rw [State.frames_setTop' g h.top] at hend
  obtain ⟨g₀, hg0⟩ := Option.isSome_iff_exists.mp h.top
  obtain ⟨r, hr⟩ := State.topJava?_eq_some.mp hg0
  have hr' : (({ U with heap := s₂.heap, slotsUsed := s₂.slotsUsed } : State).setVm s₂.vm).frames = .java g₀ :: r := hr
  rcases hq' with ⟨hqc, L, hfe, hL⟩ | ⟨q, rfl, E, ce, L, hx, hce, hcv, hcl, hW₂, hsm, hL⟩
  · obtain ⟨⟨v, rfl⟩, hW₂, e2, q2, q3, q4, q5, q6⟩ := id hfe
    have e3 : s₂ = ({ (U.calling g mk a).setFrames s₂.frames with heap := s₂.heap, slotsUsed := s₂.slotsUsed } : State).setVm s₂.vm := by
      have : s₂ = ({ s₂ with vm := (U.calling g mk a).vm } : State).setVm s₂.vm := rfl
      rw [e2] at this
      exact this
    obtain ⟨c₂, i₂, len₂, hc₂, hd₂, hf₂⟩ := hend
    have hW' : U.WarmedH s₂.vm := hW₂
    have hcc : c₂ = c := by
      have h1 : s₂.code? g.method = U.code? g.method := by
        rw [State.code?_eq, State.code?_eq, hW'.alike.method?]
      exact Option.some.inj (hc₂.symm.trans (h1.trans h.code))
    subst hcc
    have hlen : len₂ = len := by rw [hdg] at hd₂; cases hd₂; rfl
    subst hlen
    have hs₂ : s₂ = (({ U with heap := s₂.heap, slotsUsed := s₂.slotsUsed } : State).setVm s₂.vm).setTop { g with pc := g.pc + len₂, stack := v.toList ++ g.stack } := by
      refine e3.trans ?_
      rw [hf₂, State.calling_eq h.top, State.setFrames_setFrames, State.setTop_of_frames _ hr', hr]
      rfl
    have hsame : U.sameButNew ({ U with heap := s₂.heap, slotsUsed := s₂.slotsUsed } : State) L mc ms := by
      refine ⟨?_, q2, q3, q4, q5, q6⟩
      obtain ⟨t, ht, -⟩ := State.frames_cons hr
      show ({ U with heap := s₂.heap, slotsUsed := s₂.slotsUsed } : State) = { U.setFrames U.frames with heap := s₂.heap, slotsUsed := s₂.slotsUsed }
      rw [State.setFrames_self ht]
    subst hg
    refine Or.inl ⟨v, ⟨(({ U with heap := s₂.heap, slotsUsed := s₂.slotsUsed } : State).setVm s₂.vm), Ls ++ L, c0 + mc, s0 + ms⟩,
      ⟨X.admits, X.cas, X.clock, X.frames, X.room, X.hears, X.method, X.code, (X.here.setHeapUsed s₂.heap s₂.slotsUsed).setVm hW'.alike, X.tail, State.WarmedH.trans X.warmed hW', X.limits, X.bytes, X.same.trans (hsame.setVm s.vm)⟩,
      ⟨g, mk, s₂, L, rfl, rfl, hqc, rfl, hL, rfl, rfl⟩, ?_⟩
    show Steps p.tables e below _ ((({ U with heap := s₂.heap, slotsUsed := s₂.slotsUsed } : State).setVm s₂.vm).setTop { g with pc := g.pc + len₂, stack := v.toList ++ g.stack })
    rw [← hs₂]
    exact hsteps
  · obtain ⟨e2, q2, q3, q4, q5, q6⟩ := id hsm
    have e3 : s₂ = ({ (U.calling g mk a).setFrames s₂.frames with heap := s₂.heap, slotsUsed := s₂.slotsUsed } : State).setVm s₂.vm := by
      have : s₂ = ({ s₂ with vm := (U.calling g mk a).vm } : State).setVm s₂.vm := rfl
      rw [e2] at this
      exact this
    have hf₂ : s₂.frames = .throwing q :: .java g :: U.frames.tail := hend
    have hW' : U.WarmedH s₂.vm := hW₂
    have hs₂ : s₂ = ((({ U with heap := s₂.heap, slotsUsed := s₂.slotsUsed } : State).setVm s₂.vm).setTop g).pushFrame (.throwing q) := by
      refine e3.trans ?_
      rw [hf₂, State.calling_eq h.top, State.setFrames_setFrames, State.pushFrame, State.frames_setTop _ hr', State.setTop_of_frames _ hr', State.setFrames_setFrames, hr]
      rfl
    have hsame : U.sameButNew ({ U with heap := s₂.heap, slotsUsed := s₂.slotsUsed } : State) L mc ms := by
      refine ⟨?_, q2, q3, q4, q5, q6⟩
      obtain ⟨t, ht, -⟩ := State.frames_cons hr
      show ({ U with heap := s₂.heap, slotsUsed := s₂.slotsUsed } : State) = { U.setFrames U.frames with heap := s₂.heap, slotsUsed := s₂.slotsUsed }
      rw [State.setFrames_self ht]
    subst hg
    refine Or.inr ⟨q, ⟨(({ U with heap := s₂.heap, slotsUsed := s₂.slotsUsed } : State).setVm s₂.vm), Ls ++ L, c0 + mc, s0 + ms⟩,
      ⟨X.admits, X.cas, X.clock, X.frames, X.room, X.hears, X.method, X.code, (X.here.setHeapUsed s₂.heap s₂.slotsUsed).setVm hW'.alike, X.tail, State.WarmedH.trans X.warmed hW', X.limits, X.bytes, X.same.trans (hsame.setVm s.vm)⟩,
      ⟨g, mk, s₂, L, E, ce, rfl, rfl, hx, hce, hcv, hcl, rfl, hL, rfl, rfl⟩, ?_⟩
    show Steps p.tables e below _ (((({ U with heap := s₂.heap, slotsUsed := s₂.slotsUsed } : State).setVm s₂.vm).setTop g).pushFrame (.throwing q))
    rw [← hs₂]
    exact hsteps
end
variable {p : Program} {l : Launch} {e : Env} {R : Room} {s : State} {m : MethodId} {args : Array Value} {below : List Frame} {meth : Method} {c : Code} {T : State} {H : Heap} {locs : List Loc} {cells slots : Nat}
theorem vx_callVX (X : Stand p l e R s m args below meth c T locs cells slots) (hexec : p.tables.exec = Jvm.exec) {own C : String} {index : Nat} {y : MethodName} {bytes : ByteArray} {maxL : Nat} {ret : Option FieldType} {hh : List (Nat × Nat × Nat × Nat)}
    (hown : s.vm.findClass own = some m.cls) (hlink : (Cond.methodLink own index y).before args s = true) (hinst : (Cond.instanceMethod y).before args s = true) (hsel : (Cond.selects C y y).before args s = true)
    (hcode : (Cond.codeWith y bytes maxL ret hh).before args s = true) (hy : y.cls ≠ "java/lang/invoke/MethodHandle" ∧ y.cls ≠ "java/lang/invoke/VarHandle")
    {W9 : Nat} {Pre : Pt → Array Value → Prop} {Post : Pt → Array Value → Option Value → Pt → Prop} {PostX : Pt → Array Value → Addr → Pt → Prop} (hK : vx_Back l R p e below s args y 3 W9 Pre Post PostX)
    {b : Addr} {cellB : Cell} (hcell : T.heap[b]? = some cellB) (hobj : cellB.vm.isStatics = false) (hcls : s.vm.findClass C = some cellB.cls)
    {g : JFrame} (hg : g.method = m) (hsize : g.locals.size = c.maxLocals) {argsL rest : List Value} (hlen : ∀ sig, parseMethodDescriptor y.desc = some sig → argsL.length = sig.parameters.length)
    (hstack : g.stack = argsL.reverse ++ .ref b :: rest) (hW : 2 * g.monitorRoom + (rest.map fun v => v.category).sum ≤ W9) (hdg : decode c.code g.pc = .ok (.invokevirtual index, 3))
    (hpre : ∀ vm₁, s.WarmedH vm₁ → Pre ⟨T.setVm vm₁, locs, cells, slots⟩ (Value.ref b :: argsL).toArray) :
    (∃ (v : Option Value) (vm₁ : Vm) (B : Pt), s.WarmedH vm₁ ∧ Stand p l e R s m args below meth c B.U B.locs B.cells B.slots ∧ Post ⟨T.setVm vm₁, locs, cells, slots⟩ (Value.ref b :: argsL).toArray v B ∧
      ∀ target, Steps p.tables e below (B.U.setTop { g with pc := g.pc + 3, stack := v.toList ++ rest }) target → Steps p.tables e below (T.setTop g) target) ∨
    (∃ (q : Addr) (vm₁ : Vm) (B : Pt), s.WarmedH vm₁ ∧ Stand p l e R s m args below meth c B.U B.locs B.cells B.slots ∧ PostX ⟨T.setVm vm₁, locs, cells, slots⟩ (Value.ref b :: argsL).toArray q B ∧
      Steps p.tables e below (T.setTop g) ((B.U.setTop { g with stack := rest }).pushFrame (.throwing q))) := by
  obtain ⟨mk, methM, hnamed, hmethM, hstM, habM⟩ := Cond.instanceMethod_spec hinst
  obtain ⟨m8, methM', cM, hn8, hmethM', -, -, -, -, -, -, hsigM⟩ := Cond.codeWith_spec hcode
  cases Option.some.inj (hn8.symm.trans hnamed)
  cases hmethM.symm.trans hmethM'
  obtain ⟨c2, r2, m2, q1, q2, q3, q4, kP, hkP, hkPi⟩ := Cond.selects_spec hsel
  cases hcls.symm.trans q1
  cases (State.methodFound?_of_named hnamed hy).symm.trans q2
  cases hnamed.symm.trans q3
  have hselP : selectMethod e.platform s.vm cellB.cls mk = .method mk := by rw [Launch.admits_selectMethod X.admits]; exact q4
  obtain ⟨vm₁, X₁, hstep₁⟩ := X.invokevirtual hexec hown hlink hnamed hmethM hstM hkP hkPi hy (a := b) (cell := cellB) hcell
    (fun z h => by rw [h] at hobj; cases hobj) hselP hmethM habM hkP hkPi (g := g) hg (argsL := argsL) (rest := rest) (hlen _ hsigM) hstack hdg
  rcases hK m meth c ⟨T.setVm vm₁, locs, cells, slots⟩ { g with stack := rest } (.invokevirtual index) mk (Value.ref b :: argsL).toArray X₁ hg hsize hdg hW (X₁.named hnamed) (hpre vm₁ X₁.warmed) with ⟨v, B, X', hpost, hsteps⟩ | ⟨q, B, X', hpost, hsteps⟩
  · exact Or.inl ⟨v, vm₁, B, X₁.warmed, X', hpost, fun target h => hstep₁ _ fun acts => by rw [doInvoke_state]; exact hsteps.trans h⟩
  · exact Or.inr ⟨q, vm₁, B, X₁.warmed, X', hpost, hstep₁ _ fun acts => by rw [doInvoke_state]; exact hsteps⟩
theorem vx_callSX (X : Stand p l e R s m args below meth c T locs cells slots) (hexec : p.tables.exec = Jvm.exec) {own : String} {index : Nat} {y : MethodName} {bytes : ByteArray} {maxL : Nat} {ret : Option FieldType} {hh : List (Nat × Nat × Nat × Nat)}
    (hown : s.vm.findClass own = some m.cls) (hlink : (Cond.methodLink own index y).before args s = true) (hstat : (Cond.static y).before args s = true) (hinit : (Cond.initialized y.cls).before args s = true)
    (hcode : (Cond.codeWith y bytes maxL ret hh).before args s = true) (hy : y.cls ≠ "java/lang/invoke/MethodHandle" ∧ y.cls ≠ "java/lang/invoke/VarHandle")
    {W9 : Nat} {Pre : Pt → Array Value → Prop} {Post : Pt → Array Value → Option Value → Pt → Prop} {PostX : Pt → Array Value → Addr → Pt → Prop} (hK : vx_Back l R p e below s args y 3 W9 Pre Post PostX)
    {g : JFrame} (hg : g.method = m) (hsize : g.locals.size = c.maxLocals) {argsL rest : List Value} (hlen : ∀ sig, parseMethodDescriptor y.desc = some sig → argsL.length = sig.parameters.length)
    (hstack : g.stack = argsL.reverse ++ rest) (hW : 2 * g.monitorRoom + (rest.map fun v => v.category).sum ≤ W9) (hdg : decode c.code g.pc = .ok (.invokestatic index, 3))
    (hpre : ∀ vm₁, s.WarmedH vm₁ → Pre ⟨T.setVm vm₁, locs, cells, slots⟩ argsL.toArray) :
    (∃ (v : Option Value) (vm₁ : Vm) (B : Pt), s.WarmedH vm₁ ∧ Stand p l e R s m args below meth c B.U B.locs B.cells B.slots ∧ Post ⟨T.setVm vm₁, locs, cells, slots⟩ argsL.toArray v B ∧
      ∀ target, Steps p.tables e below (B.U.setTop { g with pc := g.pc + 3, stack := v.toList ++ rest }) target → Steps p.tables e below (T.setTop g) target) ∨
    (∃ (q : Addr) (vm₁ : Vm) (B : Pt), s.WarmedH vm₁ ∧ Stand p l e R s m args below meth c B.U B.locs B.cells B.slots ∧ PostX ⟨T.setVm vm₁, locs, cells, slots⟩ argsL.toArray q B ∧
      Steps p.tables e below (T.setTop g) ((B.U.setTop { g with stack := rest }).pushFrame (.throwing q))) := by
  obtain ⟨mk, methM, cM, hnamed, hmethM, -, -, -, -, -, -, hsigM⟩ := Cond.codeWith_spec hcode
  have hstatic : methM.isStatic = true := Cond.static_spec hnamed hmethM hstat
  obtain ⟨kP, hkP, -⟩ := className_of_methodNamed hnamed
  have hinitP : kP.init = .initialized := Cond.initialized_spec (findClass_of_methodNamed hnamed) hkP hinit
  obtain ⟨vm₁, X₁, hstep₁⟩ := X.invokestatic hexec hown hlink hnamed hmethM hstatic hkP hinitP hy (g := g) hg (argsL := argsL) (rest := rest) (hlen _ hsigM) hstack hdg
  rcases hK m meth c ⟨T.setVm vm₁, locs, cells, slots⟩ { g with stack := rest } (.invokestatic index) mk argsL.toArray X₁ hg hsize hdg hW (X₁.named hnamed) (hpre vm₁ X₁.warmed) with ⟨v, B, X', hpost, hsteps⟩ | ⟨q, B, X', hpost, hsteps⟩
  · exact Or.inl ⟨v, vm₁, B, X₁.warmed, X', hpost, fun target h => hstep₁ _ fun acts => by rw [doInvoke_state]; exact hsteps.trans h⟩
  · exact Or.inr ⟨q, vm₁, B, X₁.warmed, X', hpost, hstep₁ _ fun acts => by rw [doInvoke_state]; exact hsteps⟩
theorem vx_callVW (X : Stand p l e R s m args below meth c T locs cells slots) (hexec : p.tables.exec = Jvm.exec) {own C : String} {index : Nat} {y : MethodName} {bytes : ByteArray} {maxL : Nat} {ret : Option FieldType} {hh : List (Nat × Nat × Nat × Nat)}
    (hown : s.vm.findClass own = some m.cls) (hlink : (Cond.methodLink own index y).before args s = true) (hinst : (Cond.instanceMethod y).before args s = true) (hsel : (Cond.selects C y y).before args s = true)
    (hcode : (Cond.codeWith y bytes maxL ret hh).before args s = true) (hy : y.cls ≠ "java/lang/invoke/MethodHandle" ∧ y.cls ≠ "java/lang/invoke/VarHandle")
    {W9 : Nat} {Pre : Pt → Array Value → Prop} {Post : Pt → Array Value → Option Value → Pt → Prop} (hK : Back l R p e below s args y 3 W9 Pre Post)
    {b : Addr} {cellB : Cell} (hcell : T.heap[b]? = some cellB) (hobj : cellB.vm.isStatics = false) (hcls : s.vm.findClass C = some cellB.cls)
    {g : JFrame} (hg : g.method = m) (hsize : g.locals.size = c.maxLocals) {argsL rest : List Value} (hlen : ∀ sig, parseMethodDescriptor y.desc = some sig → argsL.length = sig.parameters.length)
    (hstack : g.stack = argsL.reverse ++ .ref b :: rest) (hW : 2 * g.monitorRoom + (rest.map fun v => v.category).sum ≤ W9) (hdg : decode c.code g.pc = .ok (.invokevirtual index, 3))
    (hpre : ∀ vm₁, s.WarmedH vm₁ → Pre ⟨T.setVm vm₁, locs, cells, slots⟩ (Value.ref b :: argsL).toArray) :
    ∃ (v : Option Value) (vm₁ : Vm) (B : Pt), s.WarmedH vm₁ ∧ Stand p l e R s m args below meth c B.U B.locs B.cells B.slots ∧ Post ⟨T.setVm vm₁, locs, cells, slots⟩ (Value.ref b :: argsL).toArray v B ∧
      ∀ target, Steps p.tables e below (B.U.setTop { g with pc := g.pc + 3, stack := v.toList ++ rest }) target → Steps p.tables e below (T.setTop g) target := by
  obtain ⟨mk, methM, hnamed, hmethM, hstM, habM⟩ := Cond.instanceMethod_spec hinst
  obtain ⟨m8, methM', cM, hn8, hmethM', -, -, -, -, -, -, hsigM⟩ := Cond.codeWith_spec hcode
  cases Option.some.inj (hn8.symm.trans hnamed)
  cases hmethM.symm.trans hmethM'
  obtain ⟨c2, r2, m2, q1, q2, q3, q4, kP, hkP, hkPi⟩ := Cond.selects_spec hsel
  cases hcls.symm.trans q1
  cases (State.methodFound?_of_named hnamed hy).symm.trans q2
  cases hnamed.symm.trans q3
  have hselP : selectMethod e.platform s.vm cellB.cls mk = .method mk := by rw [Launch.admits_selectMethod X.admits]; exact q4
  obtain ⟨vm₁, X₁, hstep₁⟩ := X.invokevirtual hexec hown hlink hnamed hmethM hstM hkP hkPi hy (a := b) (cell := cellB) hcell
    (fun z h => by rw [h] at hobj; cases hobj) hselP hmethM habM hkP hkPi (g := g) hg (argsL := argsL) (rest := rest) (hlen _ hsigM) hstack hdg
  obtain ⟨v, B, X', hpost, hsteps⟩ := hK m meth c ⟨T.setVm vm₁, locs, cells, slots⟩ { g with stack := rest } (.invokevirtual index) mk (Value.ref b :: argsL).toArray X₁ hg hsize hdg hW (X₁.named hnamed) (hpre vm₁ X₁.warmed)
  exact ⟨v, vm₁, B, X₁.warmed, X', hpost, fun target h => hstep₁ _ fun acts => by rw [doInvoke_state]; exact hsteps.trans h⟩
abbrev vx_CVW (R : Room) (s : State) (args : Array Value) (own C : String) (index : Nat) (y : MethodName) (bytes : ByteArray) (maxL : Nat) (ret : Option FieldType) (hh : List (Nat × Nat × Nat × Nat)) (ws : List Cond) (rm : Room) (mc ms n : Nat) : Prop :=
  (rm.cells = mc ∧ rm.slots = ms ∧ rm.frames + 1 ≤ R.frames ∧ 8 + (maxL + 11) + rm.locals ≤ R.locals ∧ (∀ w ∈ ws, ∀ (a' : Array Value) (U : State), s.WarmedH U.vm → w.before a' U = true) ∧ Cond.codeWith y bytes maxL ret hh ∈ ws) ∧
  (Cond.codeWith y bytes maxL ret hh).before args s = true ∧ (Cond.initialized y.cls).before args s = true ∧ (y.cls ≠ "java/lang/invoke/MethodHandle" ∧ y.cls ≠ "java/lang/invoke/VarHandle") ∧
  (∀ sig, parseMethodDescriptor y.desc = some sig → n = sig.parameters.length) ∧ (Cond.methodLink own index y).before args s = true ∧ (Cond.instanceMethod y).before args s = true ∧ (Cond.selects C y y).before args s = true
theorem vx_cwVW {own C : String} {index maxL mc ms : Nat} {y : MethodName} {bytes : ByteArray} {ret : Option FieldType} {hh : List (Nat × Nat × Nat × Nat)} {Ts ws ws' : List Cond} {rm : Room} (n : Nat) (ht : ∀ w ∈ Ts, w.before args s = true) (hT : GoodIn Ts (wsV own index C y ws)) (hw : ws = Cond.codeWith y bytes maxL ret hh :: ws') (hrc : rm.cells = mc) (hrs : rm.slots = ms)
    (hd : y.cls = C ∧ y.cls ≠ "java/lang/invoke/MethodHandle" ∧ y.cls ≠ "java/lang/invoke/VarHandle" ∧ (parseMethodDescriptor y.desc).map (fun d => d.parameters.length) = some n) (hR : rm.frames + 1 ≤ R.frames ∧ 8 + (maxL + 11) + rm.locals ≤ R.locals) :
    vx_CVW R s args own C index y bytes maxL ret hh ws rm mc ms n := by
  obtain ⟨hC, hd⟩ := hd
  subst hC
  have ok : ∀ w ∈ wsV own index y.cls y ws, w.before args s = true := fun w h => ht w (hT w h).1
  have hG : GoodIn Ts ws := fun w h => hT w (by unfold wsV; exact List.mem_append_right _ h)
  have hc : Cond.codeWith y bytes maxL ret hh ∈ ws := by rw [hw]; exact List.mem_cons_self
  refine ⟨⟨hrc, hrs, hR.1, hR.2, pay_in ht hG, hc⟩, ht _ (hG _ hc).1, ok _ (by simp [wsV]), ⟨hd.1, hd.2.1⟩, fun sig h => ?_, ok _ (by simp [wsV]), ok _ (by simp [wsV]), ok _ (by simp [wsV])⟩
  have h2 := hd.2.2
  rw [h] at h2
  exact (Option.some.inj h2).symm
theorem vx_runVW {y : MethodName} {bytes cc : ByteArray} {maxL nL mc ms n index : Nat} {ret : Option FieldType} {hh : List (Nat × Nat × Nat × Nat)} {ws : List Cond} {rm : Room} {Pc : Array Value → State → Prop} {Qc : Array Value → State → Outcome → State → Prop} {free : Addr → Prop} {Ts : List Cond} {own C : String} {b : Addr} {As rest : List Value} {g : JFrame}
    (S : CallFix p m c cc nL s args Ts own) (hM : Met l y ws rm Pc Qc mc ms free) (cw : vx_CVW R s args own C index y bytes maxL ret hh ws rm mc ms n) (hp : PreV s H C b Pc As)
    (hg : g.method = m) (hn : As.length = n) (hsize : g.locals.size = nL) (hstack : g.stack = As.reverse ++ .ref b :: rest) (hW : 2 * g.monitorRoom + (rest.map fun v => v.category).sum ≤ 8) (hdg : decode cc g.pc = .ok (.invokevirtual index, 3)) (hf : cells + mc ≤ R.cells ∧ slots + ms ≤ R.slots) :
    va_Run p l e R s m args below meth c H locs cells slots mc ms g rest (Qc (Value.ref b :: As).toArray) free := by
  obtain ⟨⟨hrc, hrs, hfr, hlo, hws, hcw⟩, hcode, hini, hy, hlen, hl, hin, hse⟩ := cw
  have hK : Back l R p e below s args y 3 8 (PreOf R mc ms Pc) (PostOf Qc mc ms free) := va_backW (hh := hh) (bytes := bytes) (maxL := maxL) (ret := ret) hM hp.1 hrc hrs hfr hlo hws hcw (fun a' U hW => word_at hW (Or.inl (by first | rfl | simp [Cond.onTables, Cond.keeps, Cond.steady])) hini)
  obtain ⟨hx, hb, hml, ho, -⟩ := S
  obtain ⟨-, ⟨cellB, hcB, hoB, hclB⟩, hPc⟩ := hp
  intro T hT X
  obtain ⟨v, vm₁, ⟨U', l2, c2, s2⟩, hW₁, X', ⟨g', mk, t, L, e1, e2, hq, h1, hL, h2, h3⟩, st⟩ := vx_callVW X hx (C := C) (hh := hh) (bytes := bytes) (maxL := maxL) (ret := ret) ho hl hin hse hcode hy hK (by rw [hT]; exact hcB) hoB hclB hg (hsize.trans hml.symm) (argsL := As) (rest := rest) (fun sig h => hn.trans (hlen sig h)) hstack hW (by rw [hb]; exact hdg)
    (fun vm₁ hW₁ => ⟨hf.1, hf.2, hPc (T.setVm vm₁) hT hW₁⟩)
  dsimp only [Pt.U, Pt.locs, Pt.cells, Pt.slots] at X' e1 e2 h1 h2 h3 st
  subst h1; subst h2; subst h3
  exact ⟨v, (T.setVm vm₁).calling g' mk (Value.ref b :: As).toArray, t, U', L, hT, X', hL, e1, e2, hq, st⟩
section
variable {y : MethodName} {bytes cc : ByteArray} {maxL nL mc ms n index : Nat} {ret : Option FieldType} {ws : List Cond} {rm : Room} {Pc : Array Value → State → Prop} {Qc : Array Value → State → Outcome → State → Prop} {XC : String → State → State → Prop} {free : Addr → Prop} {Ts : List Cond} {own C : String} {b : Addr} {As rest : List Value} {g : JFrame}
theorem vx_runVX {hh : List (Nat × Nat × Nat × Nat)} (S : CallFix p m c cc nL s args Ts own) (hM : vx_Met l y ws rm Pc Qc XC mc ms free) (cw : vx_CVW R s args own C index y bytes maxL ret hh ws rm mc ms n) (hp : PreV s H C b Pc As)
    (hg : g.method = m) (hn : As.length = n) (hsize : g.locals.size = nL) (hstack : g.stack = As.reverse ++ .ref b :: rest) (hW : 2 * g.monitorRoom + (rest.map fun v => v.category).sum ≤ 8) (hdg : decode cc g.pc = .ok (.invokevirtual index, 3)) (hf : cells + mc ≤ R.cells ∧ slots + ms ≤ R.slots) :
    vx_Run p l e R s m args below meth c H locs cells slots mc ms g rest (Qc (Value.ref b :: As).toArray) XC free := by
  obtain ⟨⟨hrc, hrs, hfr, hlo, hws, hcw⟩, hcode, hini, hy, hlen, hl, hin, hse⟩ := cw
  have hK : vx_Back l R p e below s args y 3 8 (PreOf R mc ms Pc) (PostOf Qc mc ms free) (vx_Post XC mc ms free) := vx_backW (hh := hh) (bytes := bytes) (maxL := maxL) (ret := ret) hM hp.1 hrc hrs hfr hlo hws hcw (fun a' U hW => word_at hW (Or.inl (by first | rfl | simp [Cond.onTables, Cond.keeps, Cond.steady])) hini)
  obtain ⟨hx, hb, hml, ho, -⟩ := S
  obtain ⟨-, ⟨cellB, hcB, hoB, hclB⟩, hPc⟩ := hp
  intro T hT X
  rcases vx_callVX X hx (C := C) (hh := hh) (bytes := bytes) (maxL := maxL) (ret := ret) ho hl hin hse hcode hy hK (by rw [hT]; exact hcB) hoB hclB hg (hsize.trans hml.symm) (argsL := As) (rest := rest) (fun sig h => hn.trans (hlen sig h)) hstack hW (by rw [hb]; exact hdg)
    (fun vm₁ hW₁ => ⟨hf.1, hf.2, hPc (T.setVm vm₁) hT hW₁⟩) with ⟨v, vm₁, ⟨U', l2, c2, s2⟩, hW₁, X', ⟨g', mk, t, L, e1, e2, hq, h1, hL, h2, h3⟩, st⟩ | ⟨q, vm₁, ⟨U', l2, c2, s2⟩, hW₁, X', ⟨g', mk, t, L, E, ce, e1, e2, hq, hce, hcv, hcl, h1, hL, h2, h3⟩, st⟩
  · dsimp only [Pt.U, Pt.locs, Pt.cells, Pt.slots] at X' e1 e2 h1 h2 h3 st
    subst h1; subst h2; subst h3
    exact Or.inl ⟨v, (T.setVm vm₁).calling g' mk (Value.ref b :: As).toArray, t, U', L, hT, X', hL, e1, e2, hq, st⟩
  · dsimp only [Pt.U, Pt.locs, Pt.cells, Pt.slots] at X' e1 e2 h1 h2 h3 st hcl
    subst h1; subst h2; subst h3
    exact Or.inr ⟨q, (T.setVm vm₁).calling g' mk (Value.ref b :: As).toArray, t, U', L, E, ce, hT, X', hL, e1, e2, hq, hce, hcv, vx_cls hW₁ hcl, st⟩
theorem vx_runSX {hh : List (Nat × Nat × Nat × Nat)} (S : CallFix p m c cc nL s args Ts own) (hM : vx_Met l y ws rm Pc Qc XC mc ms free) (cw : vx_CSW R s args own index y bytes maxL ret hh ws rm mc ms n) (hp : PreS s H Pc As)
    (hg : g.method = m) (hn : As.length = n) (hsize : g.locals.size = nL) (hstack : g.stack = As.reverse ++ rest) (hW : 2 * g.monitorRoom + (rest.map fun v => v.category).sum ≤ 8) (hdg : decode cc g.pc = .ok (.invokestatic index, 3)) (hf : cells + mc ≤ R.cells ∧ slots + ms ≤ R.slots) :
    vx_Run p l e R s m args below meth c H locs cells slots mc ms g rest (Qc As.toArray) XC free := by
  obtain ⟨⟨hrc, hrs, hfr, hlo, hws, hcw⟩, hcode, hini, hy, hlen, hl, hstt⟩ := cw
  have hK : vx_Back l R p e below s args y 3 8 (PreOf R mc ms Pc) (PostOf Qc mc ms free) (vx_Post XC mc ms free) := vx_backW (hh := hh) (bytes := bytes) (maxL := maxL) (ret := ret) hM hp.1 hrc hrs hfr hlo hws hcw (fun a' U hW => word_at hW (Or.inl (by first | rfl | simp [Cond.onTables, Cond.keeps, Cond.steady])) hini)
  obtain ⟨hx, hb, hml, ho, -⟩ := S
  intro T hT X
  rcases vx_callSX X hx (hh := hh) (bytes := bytes) (maxL := maxL) (ret := ret) ho hl hstt hini hcode hy hK hg (hsize.trans hml.symm) (argsL := As) (rest := rest) (fun sig h => hn.trans (hlen sig h)) hstack hW (by rw [hb]; exact hdg)
    (fun vm₁ hW₁ => ⟨hf.1, hf.2, hp.2 (T.setVm vm₁) hT hW₁⟩) with ⟨v, vm₁, ⟨U', l2, c2, s2⟩, hW₁, X', ⟨g', mk, t, L, e1, e2, hq, h1, hL, h2, h3⟩, st⟩ | ⟨q, vm₁, ⟨U', l2, c2, s2⟩, hW₁, X', ⟨g', mk, t, L, E, ce, e1, e2, hq, hce, hcv, hcl, h1, hL, h2, h3⟩, st⟩
  · dsimp only [Pt.U, Pt.locs, Pt.cells, Pt.slots] at X' e1 e2 h1 h2 h3 st
    subst h1; subst h2; subst h3
    exact Or.inl ⟨v, (T.setVm vm₁).calling g' mk As.toArray, t, U', L, hT, X', hL, e1, e2, hq, st⟩
  · dsimp only [Pt.U, Pt.locs, Pt.cells, Pt.slots] at X' e1 e2 h1 h2 h3 st hcl
    subst h1; subst h2; subst h3
    exact Or.inr ⟨q, (T.setVm vm₁).calling g' mk As.toArray, t, U', L, E, ce, hT, X', hL, e1, e2, hq, hce, hcv, vx_cls hW₁ hcl, st⟩
end
end VXH
theorem vx_ofWH {l : Launch} {y : MethodName} {ws ws' : List Cond} {rm : Room} {Pc : Array Value → State → Prop} {Qc : Array Value → State → Outcome → State → Prop} {XC : String → State → State → Prop} {mc ms : Nat} {free : Addr → Prop} {cc : ByteArray} {maxL : Nat} {ret : Option FieldType} {hh : List (Nat × Nat × Nat × Nat)}
    (hy : plainName y.cls = true) (hw : ws = Cond.codeWith y cc maxL ret hh :: ws')
    (body : ∀ p e s m args below meth c s₁, BodyLoose p l y (headSpec ws rm) cc maxL ret e s m args below meth c s₁ → c.maxLocals = maxL → Pc args s →
      W p l e (headSpec ws rm).room s m args below meth c s.heap [] 0 0 (vx_MQ below Qc XC args s mc ms free) (entryFrame m args maxL)) : vx_Met l y ws rm Pc Qc XC mc ms free := by
  refine MetFree.of_bodyS (code := cc) (maxLocals := maxL) (ret := ret) hy ?_ ?_
  · intro args s m h hn
    obtain ⟨m9, meth, c, hn9, h1, h2, h3, h4, -, h5, h6, -⟩ := Cond.codeWith_spec (atoms_spec (ws := ws) h _ (by rw [hw]; exact List.mem_cons_self))
    cases hn.symm.trans hn9
    exact ⟨meth, c, h1, h2, h3, h4, h5, h6⟩
  · intro p e s m args below meth c s₁ B hml hP _
    have hh0 : s₁.heap = s.heap := by rw [B.state]; rfl
    obtain ⟨t, a1, o, b1, b2, b3⟩ := body p e s m args below meth c s₁ B hml hP s₁ hh0 (Stand.of_body B)
    exact ⟨t, o, a1, b1, b2, b3⟩
/-! ===== END ===== -/
end
section
/-! names, fields, codes -/
def RX0 : String := "FlagHues$Counter"
def TX0 : u_T := fun k => match k with
  | 0 => ("FlagHues$Counter", "holders", "[I", true)
  | _ => ("FlagHues$Counter", "tried", "[I", true)
def tyX0 : Nat → FieldType := fun k => match k with
  | 0 => .array .int
  | _ => .array .int
theorem nmX0 : ∀ a, a < 2 → ∀ b, b < 2 → a ≠ b → (TX0 a).2.1 ≠ (TX0 b).2.1 := by decide +kernel
theorem tyX0_ok : ∀ k, k < 2 → parseFieldDescriptor (TX0 k).2.2.1 = some (tyX0 k) := by decide +kernel
abbrev cX0_init : ByteArray := prog_2_method_1_code
def yX0_init : MethodName := ⟨RX0, "<init>", "()V"⟩
abbrev cX0_count : ByteArray := prog_2_method_2_code
def yX0_count : MethodName := ⟨RX0, "count", "(LFlagHues$Land;I)I"⟩
abbrev cX0_countWithWish : ByteArray := prog_2_method_3_code
def yX0_countWithWish : MethodName := ⟨RX0, "countWithWish", "(LFlagHues$Land;I)I"⟩
abbrev cX0_countByNumbers : ByteArray := prog_2_method_4_code
def yX0_countByNumbers : MethodName := ⟨RX0, "countByNumbers", "(LFlagHues$Land;)I"⟩
abbrev cX0_noteHolders : ByteArray := prog_2_method_5_code
def yX0_noteHolders : MethodName := ⟨RX0, "noteHolders", "(LFlagHues$Land;)V"⟩
abbrev cX0_countFrom : ByteArray := prog_2_method_6_code
def yX0_countFrom : MethodName := ⟨RX0, "countFrom", "(III[I[I)I"⟩
abbrev cX0_countChoices : ByteArray := prog_2_method_7_code
def yX0_countChoices : MethodName := ⟨RX0, "countChoices", "(II[I)I"⟩
abbrev cX0_spellOut : ByteArray := prog_2_method_8_code
def yX0_spellOut : MethodName := ⟨RX0, "spellOut", "(LFlagHues$Land;I)V"⟩
abbrev cX0_isWay : ByteArray := prog_2_method_9_code
def yX0_isWay : MethodName := ⟨RX0, "isWay", "(LFlagHues$Land;)Z"⟩
def RX1 : String := "FlagHues$Land"
def TX1 : u_T := fun k => match k with
  | 0 => ("FlagHues$Land", "size", "[I", true)
  | 1 => ("FlagHues$Land", "hue", "[I", true)
  | 2 => ("FlagHues$Land", "wish", "[I", true)
  | 3 => ("FlagHues$Land", "crown", "[I", true)
  | 4 => ("FlagHues$Land", "neighbours", "[I", true)
  | 5 => ("FlagHues$Land", "steps", "[I", true)
  | 6 => ("FlagHues$Land", "pots", "[I", true)
  | 7 => ("FlagHues$Land", "used", "[I", true)
  | 8 => ("FlagHues$Land", "countries", "I", false)
  | 9 => ("FlagHues$Land", "usable", "I", false)
  | 10 => ("FlagHues$Land", "stepCount", "I", false)
  | _ => ("FlagHues$Land", "takenOff", "I", false)
def tyX1 : Nat → FieldType := fun k => match k with
  | 0 => .array .int
  | 1 => .array .int
  | 2 => .array .int
  | 3 => .array .int
  | 4 => .array .int
  | 5 => .array .int
  | 6 => .array .int
  | 7 => .array .int
  | 8 => .int
  | 9 => .int
  | 10 => .int
  | _ => .int
theorem nmX1 : ∀ a, a < 12 → ∀ b, b < 12 → a ≠ b → (TX1 a).2.1 ≠ (TX1 b).2.1 := by decide +kernel
theorem tyX1_ok : ∀ k, k < 12 → parseFieldDescriptor (TX1 k).2.2.1 = some (tyX1 k) := by decide +kernel
abbrev cX1_init : ByteArray := prog_3_method_1_code
def yX1_init : MethodName := ⟨RX1, "<init>", "()V"⟩
abbrev cX1_copyFrom : ByteArray := prog_3_method_2_code
def yX1_copyFrom : MethodName := ⟨RX1, "copyFrom", "(LFlagHues$Land;)V"⟩
abbrev cX1_reasonAgainstCountry : ByteArray := prog_3_method_3_code
def yX1_reasonAgainstCountry : MethodName := ⟨RX1, "reasonAgainstCountry", "()I"⟩
abbrev cX1_reasonAgainstBorder : ByteArray := prog_3_method_4_code
def yX1_reasonAgainstBorder : MethodName := ⟨RX1, "reasonAgainstBorder", "(II)I"⟩
abbrev cX1_reasonAgainstErasing : ByteArray := prog_3_method_5_code
def yX1_reasonAgainstErasing : MethodName := ⟨RX1, "reasonAgainstErasing", "(II)I"⟩
abbrev cX1_reasonAgainstHues : ByteArray := prog_3_method_6_code
def yX1_reasonAgainstHues : MethodName := ⟨RX1, "reasonAgainstHues", "(I)I"⟩
abbrev cX1_reasonAgainstPaint : ByteArray := prog_3_method_7_code
def yX1_reasonAgainstPaint : MethodName := ⟨RX1, "reasonAgainstPaint", "(II)I"⟩
abbrev cX1_reasonAgainstBack : ByteArray := prog_3_method_8_code
def yX1_reasonAgainstBack : MethodName := ⟨RX1, "reasonAgainstBack", "()I"⟩
abbrev cX1_detailOf : ByteArray := prog_3_method_9_code
def yX1_detailOf : MethodName := ⟨RX1, "detailOf", "(III)I"⟩
abbrev cX1_lowestNeighbourIn : ByteArray := prog_3_method_10_code
def yX1_lowestNeighbourIn : MethodName := ⟨RX1, "lowestNeighbourIn", "(II)I"⟩
abbrev cX1_lowestPaintedBeyond : ByteArray := prog_3_method_11_code
def yX1_lowestPaintedBeyond : MethodName := ⟨RX1, "lowestPaintedBeyond", "(I)I"⟩
abbrev cX1_addCountry : ByteArray := prog_3_method_12_code
def yX1_addCountry : MethodName := ⟨RX1, "addCountry", "(I)I"⟩
abbrev cX1_join : ByteArray := prog_3_method_13_code
def yX1_join : MethodName := ⟨RX1, "join", "(II)V"⟩
abbrev cX1_part : ByteArray := prog_3_method_14_code
def yX1_part : MethodName := ⟨RX1, "part", "(II)V"⟩
abbrev cX1_bring : ByteArray := prog_3_method_15_code
def yX1_bring : MethodName := ⟨RX1, "bring", "(II)V"⟩
abbrev cX1_setWish : ByteArray := prog_3_method_16_code
def yX1_setWish : MethodName := ⟨RX1, "setWish", "(III)V"⟩
abbrev cX1_cover : ByteArray := prog_3_method_17_code
def yX1_cover : MethodName := ⟨RX1, "cover", "(II)V"⟩
abbrev cX1_stepBack : ByteArray := prog_3_method_18_code
def yX1_stepBack : MethodName := ⟨RX1, "stepBack", "()I"⟩
abbrev cX1_fillIn : ByteArray := prog_3_method_19_code
def yX1_fillIn : MethodName := ⟨RX1, "fillIn", "()I"⟩
abbrev cX1_isCountry : ByteArray := prog_3_method_20_code
def yX1_isCountry : MethodName := ⟨RX1, "isCountry", "(I)Z"⟩
abbrev cX1_isPainted : ByteArray := prog_3_method_21_code
def yX1_isPainted : MethodName := ⟨RX1, "isPainted", "(I)Z"⟩
abbrev cX1_areNeighbours : ByteArray := prog_3_method_22_code
def yX1_areNeighbours : MethodName := ⟨RX1, "areNeighbours", "(II)Z"⟩
abbrev cX1_freeHues : ByteArray := prog_3_method_23_code
def yX1_freeHues : MethodName := ⟨RX1, "freeHues", "(I)I"⟩
abbrev cX1_huesAround : ByteArray := prog_3_method_24_code
def yX1_huesAround : MethodName := ⟨RX1, "huesAround", "(I)I"⟩
abbrev cX1_isStuck : ByteArray := prog_3_method_25_code
def yX1_isStuck : MethodName := ⟨RX1, "isStuck", "(I)Z"⟩
abbrev cX1_isFulfilled : ByteArray := prog_3_method_26_code
def yX1_isFulfilled : MethodName := ⟨RX1, "isFulfilled", "(I)Z"⟩
abbrev cX1_countNeighbours : ByteArray := prog_3_method_27_code
def yX1_countNeighbours : MethodName := ⟨RX1, "countNeighbours", "(I)I"⟩
abbrev cX1_placeOf : ByteArray := prog_3_method_28_code
def yX1_placeOf : MethodName := ⟨RX1, "placeOf", "(I)I"⟩
abbrev cX1_firstStuck : ByteArray := prog_3_method_29_code
def yX1_firstStuck : MethodName := ⟨RX1, "firstStuck", "()I"⟩
abbrev cX1_bestToPaint : ByteArray := prog_3_method_30_code
def yX1_bestToPaint : MethodName := ⟨RX1, "bestToPaint", "()I"⟩
abbrev cX1_isBetterToPaint : ByteArray := prog_3_method_31_code
def yX1_isBetterToPaint : MethodName := ⟨RX1, "isBetterToPaint", "(II)Z"⟩
abbrev cX1_gentlestHue : ByteArray := prog_3_method_32_code
def yX1_gentlestHue : MethodName := ⟨RX1, "gentlestHue", "(I)I"⟩
abbrev cX1_countRobbed : ByteArray := prog_3_method_33_code
def yX1_countRobbed : MethodName := ⟨RX1, "countRobbed", "(II)I"⟩
abbrev cX1_firstWithOneFreeHue : ByteArray := prog_3_method_34_code
def yX1_firstWithOneFreeHue : MethodName := ⟨RX1, "firstWithOneFreeHue", "()I"⟩
abbrev cX1_lowestOf : ByteArray := prog_3_method_35_code
def yX1_lowestOf : MethodName := ⟨RX1, "lowestOf", "(I)I"⟩
abbrev cX1_unpainted : ByteArray := prog_3_method_36_code
def yX1_unpainted : MethodName := ⟨RX1, "unpainted", "()I"⟩
abbrev cX1_countPainted : ByteArray := prog_3_method_37_code
def yX1_countPainted : MethodName := ⟨RX1, "countPainted", "()I"⟩
abbrev cX1_countPaintedIn : ByteArray := prog_3_method_38_code
def yX1_countPaintedIn : MethodName := ⟨RX1, "countPaintedIn", "(I)I"⟩
abbrev cX1_countBorders : ByteArray := prog_3_method_39_code
def yX1_countBorders : MethodName := ⟨RX1, "countBorders", "()I"⟩
abbrev cX1_countStuck : ByteArray := prog_3_method_40_code
def yX1_countStuck : MethodName := ⟨RX1, "countStuck", "()I"⟩
abbrev cX1_countWishes : ByteArray := prog_3_method_41_code
def yX1_countWishes : MethodName := ⟨RX1, "countWishes", "()I"⟩
abbrev cX1_countFulfilled : ByteArray := prog_3_method_42_code
def yX1_countFulfilled : MethodName := ⟨RX1, "countFulfilled", "()I"⟩
abbrev cX1_sumFulfilledCrowns : ByteArray := prog_3_method_43_code
def yX1_sumFulfilledCrowns : MethodName := ⟨RX1, "sumFulfilledCrowns", "()I"⟩
abbrev cX1_sumPaintedSizes : ByteArray := prog_3_method_44_code
def yX1_sumPaintedSizes : MethodName := ⟨RX1, "sumPaintedSizes", "()I"⟩
abbrev cX1_countHuesNeeded : ByteArray := prog_3_method_45_code
def yX1_countHuesNeeded : MethodName := ⟨RX1, "countHuesNeeded", "()I"⟩
abbrev cX1_isClique : ByteArray := prog_3_method_46_code
def yX1_isClique : MethodName := ⟨RX1, "isClique", "(I)Z"⟩
abbrev cX1_noBorderInOneHue : ByteArray := prog_3_method_47_code
def yX1_noBorderInOneHue : MethodName := ⟨RX1, "noBorderInOneHue", "()Z"⟩
abbrev cX1_stepsAreThePainted : ByteArray := prog_3_method_48_code
def yX1_stepsAreThePainted : MethodName := ⟨RX1, "stepsAreThePainted", "()Z"⟩
def RX2 : String := "FlagHues$Orders"
def TX2 : u_T := fun k => match k with
  | 0 => ("FlagHues$Orders", "text", "[C", true)
  | 1 => ("FlagHues$Orders", "length", "I", false)
  | 2 => ("FlagHues$Orders", "at", "I", false)
  | 3 => ("FlagHues$Orders", "letter", "I", false)
  | 4 => ("FlagHues$Orders", "values", "[I", true)
  | _ => ("FlagHues$Orders", "found", "I", false)
def tyX2 : Nat → FieldType := fun k => match k with
  | 0 => .array .char
  | 1 => .int
  | 2 => .int
  | 3 => .int
  | 4 => .array .int
  | _ => .int
theorem nmX2 : ∀ a, a < 6 → ∀ b, b < 6 → a ≠ b → (TX2 a).2.1 ≠ (TX2 b).2.1 := by decide +kernel
theorem tyX2_ok : ∀ k, k < 6 → parseFieldDescriptor (TX2 k).2.2.1 = some (tyX2 k) := by decide +kernel
abbrev cX2_init : ByteArray := prog_4_method_1_code
def yX2_init : MethodName := ⟨RX2, "<init>", "()V"⟩
abbrev cX2_add : ByteArray := prog_4_method_2_code
def yX2_add : MethodName := ⟨RX2, "add", "(C)V"⟩
abbrev cX2_findError : ByteArray := prog_4_method_3_code
def yX2_findError : MethodName := ⟨RX2, "findError", "()I"⟩
abbrev cX2_takeOrder : ByteArray := prog_4_method_4_code
def yX2_takeOrder : MethodName := ⟨RX2, "takeOrder", "()Z"⟩
abbrev cX2_takeParts : ByteArray := prog_4_method_5_code
def yX2_takeParts : MethodName := ⟨RX2, "takeParts", "()Z"⟩
abbrev cX2_shapeOf : ByteArray := prog_4_method_6_code
def yX2_shapeOf : MethodName := ⟨RX2, "shapeOf", "(I)Ljava/lang/String;"⟩
abbrev cX2_takePart : ByteArray := prog_4_method_7_code
def yX2_takePart : MethodName := ⟨RX2, "takePart", "(C)Z"⟩
abbrev cX2_takeDigits : ByteArray := prog_4_method_8_code
def yX2_takeDigits : MethodName := ⟨RX2, "takeDigits", "(I)Z"⟩
def RX3 : String := "FlagHues$Past"
def TX3 : u_T := fun k => match k with
  | 0 => ("FlagHues$Past", "kept", "[LFlagHues$Land;", true)
  | 1 => ("FlagHues$Past", "oldest", "I", false)
  | _ => ("FlagHues$Past", "many", "I", false)
def tyX3 : Nat → FieldType := fun k => match k with
  | 0 => .array (.object "FlagHues$Land")
  | 1 => .int
  | _ => .int
theorem nmX3 : ∀ a, a < 3 → ∀ b, b < 3 → a ≠ b → (TX3 a).2.1 ≠ (TX3 b).2.1 := by decide +kernel
theorem tyX3_ok : ∀ k, k < 3 → parseFieldDescriptor (TX3 k).2.2.1 = some (tyX3 k) := by decide +kernel
abbrev cX3_init : ByteArray := prog_5_method_1_code
def yX3_init : MethodName := ⟨RX3, "<init>", "()V"⟩
abbrev cX3_keep : ByteArray := prog_5_method_2_code
def yX3_keep : MethodName := ⟨RX3, "keep", "(LFlagHues$Land;)V"⟩
abbrev cX3_takeLatest : ByteArray := prog_5_method_3_code
def yX3_takeLatest : MethodName := ⟨RX3, "takeLatest", "(LFlagHues$Land;)V"⟩
abbrev cX3_placeAfter : ByteArray := prog_5_method_4_code
def yX3_placeAfter : MethodName := ⟨RX3, "placeAfter", "(I)I"⟩
def RX4 : String := "FlagHues"
def TX4 : u_T := fun k => match k with
  | 0 => ("FlagHues", "now", "LFlagHues$Land;", true)
  | 1 => ("FlagHues", "before", "LFlagHues$Land;", true)
  | 2 => ("FlagHues", "snapshot", "LFlagHues$Land;", true)
  | 3 => ("FlagHues", "past", "LFlagHues$Past;", true)
  | 4 => ("FlagHues", "counter", "LFlagHues$Counter;", true)
  | 5 => ("FlagHues", "orders", "LFlagHues$Orders;", true)
  | 6 => ("FlagHues", "line", "[C", true)
  | 7 => ("FlagHues", "lineLength", "I", false)
  | 8 => ("FlagHues", "hasSnapshot", "Z", false)
  | 9 => ("FlagHues", "errorPosition", "I", false)
  | 10 => ("FlagHues", "reason", "I", false)
  | _ => ("FlagHues", "detail", "I", false)
def tyX4 : Nat → FieldType := fun k => match k with
  | 0 => .object "FlagHues$Land"
  | 1 => .object "FlagHues$Land"
  | 2 => .object "FlagHues$Land"
  | 3 => .object "FlagHues$Past"
  | 4 => .object "FlagHues$Counter"
  | 5 => .object "FlagHues$Orders"
  | 6 => .array .char
  | 7 => .int
  | 8 => .boolean
  | 9 => .int
  | 10 => .int
  | _ => .int
theorem nmX4 : ∀ a, a < 12 → ∀ b, b < 12 → a ≠ b → (TX4 a).2.1 ≠ (TX4 b).2.1 := by decide +kernel
theorem tyX4_ok : ∀ k, k < 12 → parseFieldDescriptor (TX4 k).2.2.1 = some (tyX4 k) := by decide +kernel
abbrev cX4_init : ByteArray := prog_1_method_1_code
def yX4_init : MethodName := ⟨RX4, "<init>", "()V"⟩
abbrev cX4_country : ByteArray := prog_1_method_2_code
def yX4_country : MethodName := ⟨RX4, "country", "(I)I"⟩
abbrev cX4_border : ByteArray := prog_1_method_3_code
def yX4_border : MethodName := ⟨RX4, "border", "(II)I"⟩
abbrev cX4_erase : ByteArray := prog_1_method_4_code
def yX4_erase : MethodName := ⟨RX4, "erase", "(II)I"⟩
abbrev cX4_hasBorder : ByteArray := prog_1_method_5_code
def yX4_hasBorder : MethodName := ⟨RX4, "hasBorder", "(II)Z"⟩
abbrev cX4_countryOf : ByteArray := prog_1_method_6_code
def yX4_countryOf : MethodName := ⟨RX4, "countryOf", "(II)I"⟩
abbrev cX4_hues : ByteArray := prog_1_method_7_code
def yX4_hues : MethodName := ⟨RX4, "hues", "(I)I"⟩
abbrev cX4_pots : ByteArray := prog_1_method_8_code
def yX4_pots : MethodName := ⟨RX4, "pots", "(II)I"⟩
abbrev cX4_hueOf : ByteArray := prog_1_method_9_code
def yX4_hueOf : MethodName := ⟨RX4, "hueOf", "(II)I"⟩
abbrev cX4_paint : ByteArray := prog_1_method_10_code
def yX4_paint : MethodName := ⟨RX4, "paint", "(II)I"⟩
abbrev cX4_bars : ByteArray := prog_1_method_11_code
def yX4_bars : MethodName := ⟨RX4, "bars", "(II)I"⟩
abbrev cX4_back : ByteArray := prog_1_method_12_code
def yX4_back : MethodName := ⟨RX4, "back", "()I"⟩
abbrev cX4_fill : ByteArray := prog_1_method_13_code
def yX4_fill : MethodName := ⟨RX4, "fill", "()I"⟩
abbrev cX4_step : ByteArray := prog_1_method_14_code
def yX4_step : MethodName := ⟨RX4, "step", "(I)I"⟩
abbrev cX4_stuck : ByteArray := prog_1_method_15_code
def yX4_stuck : MethodName := ⟨RX4, "stuck", "()I"⟩
abbrev cX4_next : ByteArray := prog_1_method_16_code
def yX4_next : MethodName := ⟨RX4, "next", "()I"⟩
abbrev cX4_gentle : ByteArray := prog_1_method_17_code
def yX4_gentle : MethodName := ⟨RX4, "gentle", "(I)I"⟩
abbrev cX4_wish : ByteArray := prog_1_method_18_code
def yX4_wish : MethodName := ⟨RX4, "wish", "(III)I"⟩
abbrev cX4_fulfilled : ByteArray := prog_1_method_19_code
def yX4_fulfilled : MethodName := ⟨RX4, "fulfilled", "()I"⟩
abbrev cX4_ways : ByteArray := prog_1_method_20_code
def yX4_ways : MethodName := ⟨RX4, "ways", "()I"⟩
abbrev cX4_waysAgain : ByteArray := prog_1_method_21_code
def yX4_waysAgain : MethodName := ⟨RX4, "waysAgain", "()I"⟩
abbrev cX4_waysFor : ByteArray := prog_1_method_22_code
def yX4_waysFor : MethodName := ⟨RX4, "waysFor", "(I)I"⟩
abbrev cX4_fewest : ByteArray := prog_1_method_23_code
def yX4_fewest : MethodName := ⟨RX4, "fewest", "()I"⟩
abbrev cX4_clique : ByteArray := prog_1_method_24_code
def yX4_clique : MethodName := ⟨RX4, "clique", "()I"⟩
abbrev cX4_line : ByteArray := prog_1_method_25_code
def yX4_line : MethodName := ⟨RX4, "line", "(I)I"⟩
abbrev cX4_character : ByteArray := prog_1_method_26_code
def yX4_character : MethodName := ⟨RX4, "character", "(I)C"⟩
abbrev cX4_append : ByteArray := prog_1_method_27_code
def yX4_append : MethodName := ⟨RX4, "append", "(C)I"⟩
abbrev cX4_read : ByteArray := prog_1_method_28_code
def yX4_read : MethodName := ⟨RX4, "read", "()I"⟩
abbrev cX4_errorPosition : ByteArray := prog_1_method_29_code
def yX4_errorPosition : MethodName := ⟨RX4, "errorPosition", "()I"⟩
abbrev cX4_refusal : ByteArray := prog_1_method_30_code
def yX4_refusal : MethodName := ⟨RX4, "refusal", "(Z)I"⟩
abbrev cX4_account : ByteArray := prog_1_method_31_code
def yX4_account : MethodName := ⟨RX4, "account", "(I)I"⟩
abbrev cX4_isWell : ByteArray := prog_1_method_32_code
def yX4_isWell : MethodName := ⟨RX4, "isWell", "()Z"⟩
abbrev cX4_meanSize : ByteArray := prog_1_method_33_code
def yX4_meanSize : MethodName := ⟨RX4, "meanSize", "()D"⟩
abbrev cX4_painted : ByteArray := prog_1_method_34_code
def yX4_painted : MethodName := ⟨RX4, "painted", "()F"⟩
abbrev cX4_undo : ByteArray := prog_1_method_35_code
def yX4_undo : MethodName := ⟨RX4, "undo", "()I"⟩
abbrev cX4_save : ByteArray := prog_1_method_36_code
def yX4_save : MethodName := ⟨RX4, "save", "()I"⟩
abbrev cX4_restore : ByteArray := prog_1_method_37_code
def yX4_restore : MethodName := ⟨RX4, "restore", "()I"⟩
abbrev cX4_isHue : ByteArray := prog_1_method_38_code
def yX4_isHue : MethodName := ⟨RX4, "isHue", "(I)Z"⟩
abbrev cX4_isManyHues : ByteArray := prog_1_method_39_code
def yX4_isManyHues : MethodName := ⟨RX4, "isManyHues", "(I)Z"⟩
abbrev cX4_isManyPots : ByteArray := prog_1_method_40_code
def yX4_isManyPots : MethodName := ⟨RX4, "isManyPots", "(I)Z"⟩
abbrev cX4_isCrown : ByteArray := prog_1_method_41_code
def yX4_isCrown : MethodName := ⟨RX4, "isCrown", "(I)Z"⟩
abbrev cX4_sum : ByteArray := prog_1_method_42_code
def yX4_sum : MethodName := ⟨RX4, "sum", "([I)I"⟩
abbrev cX4_stopIfNoCountry : ByteArray := prog_1_method_43_code
def yX4_stopIfNoCountry : MethodName := ⟨RX4, "stopIfNoCountry", "(I)V"⟩
abbrev cX4_stopIfNoHue : ByteArray := prog_1_method_44_code
def yX4_stopIfNoHue : MethodName := ⟨RX4, "stopIfNoHue", "(I)V"⟩
abbrev cX4_stopIfRefused : ByteArray := prog_1_method_45_code
def yX4_stopIfRefused : MethodName := ⟨RX4, "stopIfRefused", "(III)V"⟩
abbrev cX4_keepReason : ByteArray := prog_1_method_46_code
def yX4_keepReason : MethodName := ⟨RX4, "keepReason", "(III)V"⟩
abbrev cX4_put : ByteArray := prog_1_method_47_code
def yX4_put : MethodName := ⟨RX4, "put", "(C)V"⟩
abbrev cX4_putDigit : ByteArray := prog_1_method_48_code
def yX4_putDigit : MethodName := ⟨RX4, "putDigit", "(I)V"⟩
abbrev cX4_putNeighbours : ByteArray := prog_1_method_49_code
def yX4_putNeighbours : MethodName := ⟨RX4, "putNeighbours", "(I)V"⟩
abbrev cX4_carryOutAll : ByteArray := prog_1_method_50_code
def yX4_carryOutAll : MethodName := ⟨RX4, "carryOutAll", "()I"⟩
abbrev cX4_judge : ByteArray := prog_1_method_51_code
def yX4_judge : MethodName := ⟨RX4, "judge", "(IIII)I"⟩
abbrev cX4_isInRange : ByteArray := prog_1_method_52_code
def yX4_isInRange : MethodName := ⟨RX4, "isInRange", "(IIII)Z"⟩
abbrev cX4_reasonAgainstOrder : ByteArray := prog_1_method_53_code
def yX4_reasonAgainstOrder : MethodName := ⟨RX4, "reasonAgainstOrder", "(III)I"⟩
abbrev cX4_perform : ByteArray := prog_1_method_54_code
def yX4_perform : MethodName := ⟨RX4, "perform", "(IIII)V"⟩
def RX5 : String := "FlagHuesModel"
def TX5 : u_T := fun k => match k with
  | 0 => ("FlagHuesModel", "g", "[I", true)
  | 1 => ("FlagHuesModel", "kept", "[I", true)
  | 2 => ("FlagHuesModel", "saved", "[I", true)
  | 3 => ("FlagHuesModel", "before", "[I", true)
  | 4 => ("FlagHuesModel", "isSaved", "Z", false)
  | 5 => ("FlagHuesModel", "changes", "I", false)
  | 6 => ("FlagHuesModel", "isWithin", "Z", false)
  | 7 => ("FlagHuesModel", "code", "I", false)
  | 8 => ("FlagHuesModel", "why", "I", false)
  | 9 => ("FlagHuesModel", "detail", "I", false)
  | 10 => ("FlagHuesModel", "input", "[I", true)
  | 11 => ("FlagHuesModel", "length", "I", false)
  | 12 => ("FlagHuesModel", "error", "I", false)
  | 13 => ("FlagHuesModel", "signs", "[C", true)
  | 14 => ("FlagHuesModel", "signMany", "I", false)
  | 15 => ("FlagHuesModel", "tried", "[I", true)
  | 16 => ("FlagHuesModel", "at", "I", false)
  | 17 => ("FlagHuesModel", "told", "[I", true)
  | _ => ("FlagHuesModel", "toldMany", "I", false)
def tyX5 : Nat → FieldType := fun k => match k with
  | 0 => .array .int
  | 1 => .array .int
  | 2 => .array .int
  | 3 => .array .int
  | 4 => .boolean
  | 5 => .int
  | 6 => .boolean
  | 7 => .int
  | 8 => .int
  | 9 => .int
  | 10 => .array .int
  | 11 => .int
  | 12 => .int
  | 13 => .array .char
  | 14 => .int
  | 15 => .array .int
  | 16 => .int
  | 17 => .array .int
  | _ => .int
theorem nmX5 : ∀ a, a < 19 → ∀ b, b < 19 → a ≠ b → (TX5 a).2.1 ≠ (TX5 b).2.1 := by decide +kernel
theorem tyX5_ok : ∀ k, k < 19 → parseFieldDescriptor (TX5 k).2.2.1 = some (tyX5 k) := by decide +kernel
abbrev cX5_init : ByteArray := prog_7_method_1_code
def yX5_init : MethodName := ⟨RX5, "<init>", "()V"⟩
abbrev cX5_thrown : ByteArray := prog_7_method_2_code
def yX5_thrown : MethodName := ⟨RX5, "thrown", "()I"⟩
abbrev cX5_fails : ByteArray := prog_7_method_3_code
def yX5_fails : MethodName := ⟨RX5, "fails", "(I)Z"⟩
abbrev cX5_refuses : ByteArray := prog_7_method_4_code
def yX5_refuses : MethodName := ⟨RX5, "refuses", "(III)I"⟩
abbrev cX5_in : ByteArray := prog_7_method_5_code
def yX5_in : MethodName := ⟨RX5, "in", "(III)Z"⟩
abbrev cX5_less : ByteArray := prog_7_method_6_code
def yX5_less : MethodName := ⟨RX5, "less", "(II)I"⟩
abbrev cX5_more : ByteArray := prog_7_method_7_code
def yX5_more : MethodName := ⟨RX5, "more", "(II)I"⟩
abbrev cX5_copies : ByteArray := prog_7_method_8_code
def yX5_copies : MethodName := ⟨RX5, "copies", "([II[II)V"⟩
abbrev cX5_keeps : ByteArray := prog_7_method_9_code
def yX5_keeps : MethodName := ⟨RX5, "keeps", "([I)V"⟩
abbrev cX5_isCountry : ByteArray := prog_7_method_10_code
def yX5_isCountry : MethodName := ⟨RX5, "isCountry", "(I)Z"⟩
abbrev cX5_isHue : ByteArray := prog_7_method_11_code
def yX5_isHue : MethodName := ⟨RX5, "isHue", "(I)Z"⟩
abbrev cX5_of : ByteArray := prog_7_method_12_code
def yX5_of : MethodName := ⟨RX5, "of", "(II)I"⟩
abbrev cX5_lays : ByteArray := prog_7_method_13_code
def yX5_lays : MethodName := ⟨RX5, "lays", "(III)V"⟩
abbrev cX5_isPainted : ByteArray := prog_7_method_14_code
def yX5_isPainted : MethodName := ⟨RX5, "isPainted", "(I)Z"⟩
abbrev cX5_touches : ByteArray := prog_7_method_15_code
def yX5_touches : MethodName := ⟨RX5, "touches", "(II)Z"⟩
abbrev cX5_borders : ByteArray := prog_7_method_16_code
def yX5_borders : MethodName := ⟨RX5, "borders", "()I"⟩
abbrev cX5_country : ByteArray := prog_7_method_17_code
def yX5_country : MethodName := ⟨RX5, "country", "(I)I"⟩
abbrev cX5_border : ByteArray := prog_7_method_18_code
def yX5_border : MethodName := ⟨RX5, "border", "(II)I"⟩
abbrev cX5_erase : ByteArray := prog_7_method_19_code
def yX5_erase : MethodName := ⟨RX5, "erase", "(II)I"⟩
abbrev cX5_hasBorder : ByteArray := prog_7_method_20_code
def yX5_hasBorder : MethodName := ⟨RX5, "hasBorder", "(II)Z"⟩
abbrev cX5_neighbourIn : ByteArray := prog_7_method_21_code
def yX5_neighbourIn : MethodName := ⟨RX5, "neighbourIn", "(II)I"⟩
abbrev cX5_isFree : ByteArray := prog_7_method_22_code
def yX5_isFree : MethodName := ⟨RX5, "isFree", "(II)Z"⟩
abbrev cX5_freeMany : ByteArray := prog_7_method_23_code
def yX5_freeMany : MethodName := ⟨RX5, "freeMany", "(I)I"⟩
abbrev cX5_neighbours : ByteArray := prog_7_method_24_code
def yX5_neighbours : MethodName := ⟨RX5, "neighbours", "(I)I"⟩
abbrev cX5_placeOf : ByteArray := prog_7_method_25_code
def yX5_placeOf : MethodName := ⟨RX5, "placeOf", "(I)I"⟩
abbrev cX5_countryOf : ByteArray := prog_7_method_26_code
def yX5_countryOf : MethodName := ⟨RX5, "countryOf", "(II)I"⟩
abbrev cX5_hues : ByteArray := prog_7_method_27_code
def yX5_hues : MethodName := ⟨RX5, "hues", "(I)I"⟩
abbrev cX5_pots : ByteArray := prog_7_method_28_code
def yX5_pots : MethodName := ⟨RX5, "pots", "(II)I"⟩
abbrev cX5_paintedIn : ByteArray := prog_7_method_29_code
def yX5_paintedIn : MethodName := ⟨RX5, "paintedIn", "(I)I"⟩
abbrev cX5_hueOf : ByteArray := prog_7_method_30_code
def yX5_hueOf : MethodName := ⟨RX5, "hueOf", "(II)I"⟩
abbrev cX5_against : ByteArray := prog_7_method_31_code
def yX5_against : MethodName := ⟨RX5, "against", "(II)I"⟩
abbrev cX5_paints : ByteArray := prog_7_method_32_code
def yX5_paints : MethodName := ⟨RX5, "paints", "(II)V"⟩
abbrev cX5_paint : ByteArray := prog_7_method_33_code
def yX5_paint : MethodName := ⟨RX5, "paint", "(II)I"⟩
abbrev cX5_bars : ByteArray := prog_7_method_34_code
def yX5_bars : MethodName := ⟨RX5, "bars", "(II)I"⟩
abbrev cX5_back : ByteArray := prog_7_method_35_code
def yX5_back : MethodName := ⟨RX5, "back", "()I"⟩
abbrev cX5_onlyHue : ByteArray := prog_7_method_36_code
def yX5_onlyHue : MethodName := ⟨RX5, "onlyHue", "(I)I"⟩
abbrev cX5_fill : ByteArray := prog_7_method_37_code
def yX5_fill : MethodName := ⟨RX5, "fill", "()I"⟩
abbrev cX5_step : ByteArray := prog_7_method_38_code
def yX5_step : MethodName := ⟨RX5, "step", "(I)I"⟩
abbrev cX5_isStuck : ByteArray := prog_7_method_39_code
def yX5_isStuck : MethodName := ⟨RX5, "isStuck", "(I)Z"⟩
abbrev cX5_stuck : ByteArray := prog_7_method_40_code
def yX5_stuck : MethodName := ⟨RX5, "stuck", "()I"⟩
abbrev cX5_plainNeighbours : ByteArray := prog_7_method_41_code
def yX5_plainNeighbours : MethodName := ⟨RX5, "plainNeighbours", "(I)I"⟩
abbrev cX5_next : ByteArray := prog_7_method_42_code
def yX5_next : MethodName := ⟨RX5, "next", "()I"⟩
abbrev cX5_takes : ByteArray := prog_7_method_43_code
def yX5_takes : MethodName := ⟨RX5, "takes", "(II)I"⟩
abbrev cX5_gentle : ByteArray := prog_7_method_44_code
def yX5_gentle : MethodName := ⟨RX5, "gentle", "(I)I"⟩
abbrev cX5_wish : ByteArray := prog_7_method_45_code
def yX5_wish : MethodName := ⟨RX5, "wish", "(III)I"⟩
abbrev cX5_isFulfilled : ByteArray := prog_7_method_46_code
def yX5_isFulfilled : MethodName := ⟨RX5, "isFulfilled", "(I)Z"⟩
abbrev cX5_fulfilled : ByteArray := prog_7_method_47_code
def yX5_fulfilled : MethodName := ⟨RX5, "fulfilled", "()I"⟩
abbrev cX5_clashes : ByteArray := prog_7_method_48_code
def yX5_clashes : MethodName := ⟨RX5, "clashes", "(III)Z"⟩
abbrev cX5_waysFrom : ByteArray := prog_7_method_49_code
def yX5_waysFrom : MethodName := ⟨RX5, "waysFrom", "(IIII)I"⟩
abbrev cX5_ways : ByteArray := prog_7_method_50_code
def yX5_ways : MethodName := ⟨RX5, "ways", "()I"⟩
abbrev cX5_left : ByteArray := prog_7_method_51_code
def yX5_left : MethodName := ⟨RX5, "left", "()I"⟩
abbrev cX5_waysAgain : ByteArray := prog_7_method_52_code
def yX5_waysAgain : MethodName := ⟨RX5, "waysAgain", "()I"⟩
abbrev cX5_waysFor : ByteArray := prog_7_method_53_code
def yX5_waysFor : MethodName := ⟨RX5, "waysFor", "(I)I"⟩
abbrev cX5_fewest : ByteArray := prog_7_method_54_code
def yX5_fewest : MethodName := ⟨RX5, "fewest", "()I"⟩
abbrev cX5_areAll : ByteArray := prog_7_method_55_code
def yX5_areAll : MethodName := ⟨RX5, "areAll", "(I)Z"⟩
abbrev cX5_clique : ByteArray := prog_7_method_56_code
def yX5_clique : MethodName := ⟨RX5, "clique", "()I"⟩
abbrev cX5_writes : ByteArray := prog_7_method_57_code
def yX5_writes : MethodName := ⟨RX5, "writes", "(I)V"⟩
abbrev cX5_line : ByteArray := prog_7_method_58_code
def yX5_line : MethodName := ⟨RX5, "line", "(I)I"⟩
abbrev cX5_character : ByteArray := prog_7_method_59_code
def yX5_character : MethodName := ⟨RX5, "character", "(I)C"⟩
abbrev cX5_append : ByteArray := prog_7_method_60_code
def yX5_append : MethodName := ⟨RX5, "append", "(C)I"⟩
abbrev cX5_here : ByteArray := prog_7_method_61_code
def yX5_here : MethodName := ⟨RX5, "here", "()I"⟩
abbrev cX5_skips : ByteArray := prog_7_method_62_code
def yX5_skips : MethodName := ⟨RX5, "skips", "(I)Z"⟩
abbrev cX5_number : ByteArray := prog_7_method_63_code
def yX5_number : MethodName := ⟨RX5, "number", "(II)Z"⟩
abbrev cX5_orderHere : ByteArray := prog_7_method_64_code
def yX5_orderHere : MethodName := ⟨RX5, "orderHere", "()Z"⟩
abbrev cX5_isText : ByteArray := prog_7_method_65_code
def yX5_isText : MethodName := ⟨RX5, "isText", "()Z"⟩
abbrev cX5_carries : ByteArray := prog_7_method_66_code
def yX5_carries : MethodName := ⟨RX5, "carries", "(I)I"⟩
abbrev cX5_isRefusal : ByteArray := prog_7_method_67_code
def yX5_isRefusal : MethodName := ⟨RX5, "isRefusal", "(I)Z"⟩
abbrev cX5_read : ByteArray := prog_7_method_68_code
def yX5_read : MethodName := ⟨RX5, "read", "()I"⟩
abbrev cX5_errorPosition : ByteArray := prog_7_method_69_code
def yX5_errorPosition : MethodName := ⟨RX5, "errorPosition", "()I"⟩
abbrev cX5_refusal : ByteArray := prog_7_method_70_code
def yX5_refusal : MethodName := ⟨RX5, "refusal", "(Z)I"⟩
abbrev cX5_sumOf : ByteArray := prog_7_method_71_code
def yX5_sumOf : MethodName := ⟨RX5, "sumOf", "(I)I"⟩
abbrev cX5_paintedMany : ByteArray := prog_7_method_72_code
def yX5_paintedMany : MethodName := ⟨RX5, "paintedMany", "()I"⟩
abbrev cX5_stuckMany : ByteArray := prog_7_method_73_code
def yX5_stuckMany : MethodName := ⟨RX5, "stuckMany", "()I"⟩
abbrev cX5_wishes : ByteArray := prog_7_method_74_code
def yX5_wishes : MethodName := ⟨RX5, "wishes", "(Z)I"⟩
abbrev cX5_account : ByteArray := prog_7_method_75_code
def yX5_account : MethodName := ⟨RX5, "account", "(I)I"⟩
abbrev cX5_isWell : ByteArray := prog_7_method_76_code
def yX5_isWell : MethodName := ⟨RX5, "isWell", "()Z"⟩
abbrev cX5_meanSize : ByteArray := prog_7_method_77_code
def yX5_meanSize : MethodName := ⟨RX5, "meanSize", "()D"⟩
abbrev cX5_painted : ByteArray := prog_7_method_78_code
def yX5_painted : MethodName := ⟨RX5, "painted", "()F"⟩
abbrev cX5_undo : ByteArray := prog_7_method_79_code
def yX5_undo : MethodName := ⟨RX5, "undo", "()I"⟩
abbrev cX5_save : ByteArray := prog_7_method_80_code
def yX5_save : MethodName := ⟨RX5, "save", "()I"⟩
abbrev cX5_restore : ByteArray := prog_7_method_81_code
def yX5_restore : MethodName := ⟨RX5, "restore", "()I"⟩
def RJx145de : String := "java/io/Serializable"
def TJx145de : u_T := fun k => match k with
  | _ => ("", "", "", false)
def tyJx145de : Nat → FieldType := fun k => match k with
  | _ => .int
theorem nmJx145de : ∀ a, a < 0 → ∀ b, b < 0 → a ≠ b → (TJx145de a).2.1 ≠ (TJx145de b).2.1 := by decide +kernel
theorem tyJx145de_ok : ∀ k, k < 0 → parseFieldDescriptor (TJx145de k).2.2.1 = some (tyJx145de k) := by decide +kernel
def RJx00060 : String := "java/lang/ArrayIndexOutOfBoundsException"
def TJx00060 : u_T := fun k => match k with
  | 0 => ("java/lang/Throwable", "backtrace", "Ljava/lang/Object;", false)
  | 1 => ("java/lang/Throwable", "detailMessage", "Ljava/lang/String;", false)
  | 2 => ("java/lang/Throwable", "cause", "Ljava/lang/Throwable;", false)
  | 3 => ("java/lang/Throwable", "stackTrace", "[Ljava/lang/StackTraceElement;", false)
  | 4 => ("java/lang/Throwable", "depth", "I", false)
  | _ => ("java/lang/Throwable", "suppressedExceptions", "Ljava/util/List;", false)
def tyJx00060 : Nat → FieldType := fun k => match k with
  | 0 => .object "java/lang/Object"
  | 1 => .object "java/lang/String"
  | 2 => .object "java/lang/Throwable"
  | 3 => .array (.object "java/lang/StackTraceElement")
  | 4 => .int
  | _ => .object "java/util/List"
theorem nmJx00060 : ∀ a, a < 6 → ∀ b, b < 6 → a ≠ b → (TJx00060 a).2.1 ≠ (TJx00060 b).2.1 := by decide +kernel
theorem tyJx00060_ok : ∀ k, k < 6 → parseFieldDescriptor (TJx00060 k).2.2.1 = some (tyJx00060 k) := by decide +kernel
abbrev cJx00060_init_a7421 : ByteArray := prog_10_method_2_code
def yJx00060_init_a7421 : MethodName := ⟨RJx00060, "<init>", "(Ljava/lang/String;)V"⟩
def RJx9f9b0 : String := "java/lang/CharSequence"
def TJx9f9b0 : u_T := fun k => match k with
  | _ => ("", "", "", false)
def tyJx9f9b0 : Nat → FieldType := fun k => match k with
  | _ => .int
theorem nmJx9f9b0 : ∀ a, a < 0 → ∀ b, b < 0 → a ≠ b → (TJx9f9b0 a).2.1 ≠ (TJx9f9b0 b).2.1 := by decide +kernel
theorem tyJx9f9b0_ok : ∀ k, k < 0 → parseFieldDescriptor (TJx9f9b0 k).2.2.1 = some (tyJx9f9b0 k) := by decide +kernel
def RJxb160c : String := "java/lang/Comparable"
def TJxb160c : u_T := fun k => match k with
  | _ => ("", "", "", false)
def tyJxb160c : Nat → FieldType := fun k => match k with
  | _ => .int
theorem nmJxb160c : ∀ a, a < 0 → ∀ b, b < 0 → a ≠ b → (TJxb160c a).2.1 ≠ (TJxb160c b).2.1 := by decide +kernel
theorem tyJxb160c_ok : ∀ k, k < 0 → parseFieldDescriptor (TJxb160c k).2.2.1 = some (tyJxb160c k) := by decide +kernel
def RJ6 : String := "java/lang/Integer"
def TJ6 : u_T := fun k => match k with
  | _ => ("", "", "", false)
def tyJ6 : Nat → FieldType := fun k => match k with
  | _ => .int
theorem nmJ6 : ∀ a, a < 0 → ∀ b, b < 0 → a ≠ b → (TJ6 a).2.1 ≠ (TJ6 b).2.1 := by decide +kernel
theorem tyJ6_ok : ∀ k, k < 0 → parseFieldDescriptor (TJ6 k).2.2.1 = some (tyJ6 k) := by decide +kernel
abbrev cJ6_bitCount_0f7a4 : ByteArray := prog_17_method_49_code
def yJ6_bitCount_0f7a4 : MethodName := ⟨RJ6, "bitCount", "(I)I"⟩
def RJ9 : String := "java/lang/Math"
def TJ9 : u_T := fun k => match k with
  | _ => ("", "", "", false)
def tyJ9 : Nat → FieldType := fun k => match k with
  | _ => .int
theorem nmJ9 : ∀ a, a < 0 → ∀ b, b < 0 → a ≠ b → (TJ9 a).2.1 ≠ (TJ9 b).2.1 := by decide +kernel
theorem tyJ9_ok : ∀ k, k < 0 → parseFieldDescriptor (TJ9 k).2.2.1 = some (tyJ9 k) := by decide +kernel
abbrev cJ9_floorMod_7cf53 : ByteArray := prog_18_method_50_code
def yJ9_floorMod_7cf53 : MethodName := ⟨RJ9, "floorMod", "(II)I"⟩
abbrev cJ9_max_7cf53 : ByteArray := prog_18_method_65_code
def yJ9_max_7cf53 : MethodName := ⟨RJ9, "max", "(II)I"⟩
abbrev cJ9_min_7cf53 : ByteArray := prog_18_method_69_code
def yJ9_min_7cf53 : MethodName := ⟨RJ9, "min", "(II)I"⟩
def RJ0 : String := "java/lang/String"
def TJ0 : u_T := fun k => match k with
  | 0 => ("java/lang/String", "value", "[B", true)
  | _ => ("java/lang/String", "coder", "B", true)
def tyJ0 : Nat → FieldType := fun k => match k with
  | 0 => .array .byte
  | _ => .byte
theorem nmJ0 : ∀ a, a < 2 → ∀ b, b < 2 → a ≠ b → (TJ0 a).2.1 ≠ (TJ0 b).2.1 := by decide +kernel
theorem tyJ0_ok : ∀ k, k < 2 → parseFieldDescriptor (TJ0 k).2.2.1 = some (tyJ0 k) := by decide +kernel
abbrev cJ0_length_8abf5 : ByteArray := prog_20_method_54_code
def yJ0_length_8abf5 : MethodName := ⟨RJ0, "length", "()I"⟩
abbrev cJ0_charAt_5068e : ByteArray := prog_20_method_56_code
def yJ0_charAt_5068e : MethodName := ⟨RJ0, "charAt", "(I)C"⟩
abbrev cJ0_coder_7d493 : ByteArray := prog_20_method_152_code
def yJ0_coder_7d493 : MethodName := ⟨RJ0, "coder", "()B"⟩
abbrev cJ0_isLatin1_aae02 : ByteArray := prog_20_method_154_code
def yJ0_isLatin1_aae02 : MethodName := ⟨RJ0, "isLatin1", "()Z"⟩
abbrev cJ0_checkIndex_df160 : ByteArray := prog_20_method_155_code
def yJ0_checkIndex_df160 : MethodName := ⟨RJ0, "checkIndex", "(II)V"⟩
def RJ1 : String := "java/lang/StringLatin1"
def TJ1 : u_T := fun k => match k with
  | _ => ("", "", "", false)
def tyJ1 : Nat → FieldType := fun k => match k with
  | _ => .int
theorem nmJ1 : ∀ a, a < 0 → ∀ b, b < 0 → a ≠ b → (TJ1 a).2.1 ≠ (TJ1 b).2.1 := by decide +kernel
theorem tyJ1_ok : ∀ k, k < 0 → parseFieldDescriptor (TJ1 k).2.2.1 = some (tyJ1 k) := by decide +kernel
abbrev cJ1_charAt_3b067 : ByteArray := prog_21_method_2_code
def yJ1_charAt_3b067 : MethodName := ⟨RJ1, "charAt", "([BI)C"⟩
def RJ2 : String := "java/lang/StringUTF16"
def TJ2 : u_T := fun k => match k with
  | _ => ("", "", "", false)
def tyJ2 : Nat → FieldType := fun k => match k with
  | _ => .int
theorem nmJ2 : ∀ a, a < 0 → ∀ b, b < 0 → a ≠ b → (TJ2 a).2.1 ≠ (TJ2 b).2.1 := by decide +kernel
theorem tyJ2_ok : ∀ k, k < 0 → parseFieldDescriptor (TJ2 k).2.2.1 = some (tyJ2 k) := by decide +kernel
abbrev cJ2_getChar_3b067 : ByteArray := prog_22_method_5_code
def yJ2_getChar_3b067 : MethodName := ⟨RJ2, "getChar", "([BI)C"⟩
abbrev cJ2_length_9d52b : ByteArray := prog_22_method_6_code
def yJ2_length_9d52b : MethodName := ⟨RJ2, "length", "([B)I"⟩
abbrev cJ2_charAt_3b067 : ByteArray := prog_22_method_83_code
def yJ2_charAt_3b067 : MethodName := ⟨RJ2, "charAt", "([BI)C"⟩
abbrev cJ2_checkIndex_2214a : ByteArray := prog_22_method_91_code
def yJ2_checkIndex_2214a : MethodName := ⟨RJ2, "checkIndex", "(I[B)V"⟩
def RJ10 : String := "java/lang/System"
def TJ10 : u_T := fun k => match k with
  | _ => ("", "", "", false)
def tyJ10 : Nat → FieldType := fun k => match k with
  | _ => .int
theorem nmJ10 : ∀ a, a < 0 → ∀ b, b < 0 → a ≠ b → (TJ10 a).2.1 ≠ (TJ10 b).2.1 := by decide +kernel
theorem tyJ10_ok : ∀ k, k < 0 → parseFieldDescriptor (TJ10 k).2.2.1 = some (tyJ10 k) := by decide +kernel
def RJxfd54e : String := "java/lang/constant/Constable"
def TJxfd54e : u_T := fun k => match k with
  | _ => ("", "", "", false)
def tyJxfd54e : Nat → FieldType := fun k => match k with
  | _ => .int
theorem nmJxfd54e : ∀ a, a < 0 → ∀ b, b < 0 → a ≠ b → (TJxfd54e a).2.1 ≠ (TJxfd54e b).2.1 := by decide +kernel
theorem tyJxfd54e_ok : ∀ k, k < 0 → parseFieldDescriptor (TJxfd54e k).2.2.1 = some (tyJxfd54e k) := by decide +kernel
def RJx3cf43 : String := "java/lang/constant/ConstantDesc"
def TJx3cf43 : u_T := fun k => match k with
  | _ => ("", "", "", false)
def tyJx3cf43 : Nat → FieldType := fun k => match k with
  | _ => .int
theorem nmJx3cf43 : ∀ a, a < 0 → ∀ b, b < 0 → a ≠ b → (TJx3cf43 a).2.1 ≠ (TJx3cf43 b).2.1 := by decide +kernel
theorem tyJx3cf43_ok : ∀ k, k < 0 → parseFieldDescriptor (TJx3cf43 k).2.2.1 = some (tyJx3cf43 k) := by decide +kernel
def RJ3 : String := "jdk/internal/util/Preconditions"
def TJ3 : u_T := fun k => match k with
  | _ => ("", "", "", false)
def tyJ3 : Nat → FieldType := fun k => match k with
  | _ => .int
theorem nmJ3 : ∀ a, a < 0 → ∀ b, b < 0 → a ≠ b → (TJ3 a).2.1 ≠ (TJ3 b).2.1 := by decide +kernel
theorem tyJ3_ok : ∀ k, k < 0 → parseFieldDescriptor (TJ3 k).2.2.1 = some (tyJ3 k) := by decide +kernel
abbrev cJ3_checkIndex_8e157 : ByteArray := prog_29_method_11_code
def yJ3_checkIndex_8e157 : MethodName := ⟨RJ3, "checkIndex", "(IILjava/util/function/BiFunction;)I"⟩
def RL : String := "FlagHuesLaw"
abbrev cL_country : ByteArray := method_3_code
def yL_country : MethodName := ⟨RL, "country", "(LFlagHues;I[J)I"⟩
abbrev cL_border : ByteArray := method_4_code
def yL_border : MethodName := ⟨RL, "border", "(LFlagHues;II[J)I"⟩
abbrev cL_erase : ByteArray := method_5_code
def yL_erase : MethodName := ⟨RL, "erase", "(LFlagHues;II[J)I"⟩
abbrev cL_hasBorder : ByteArray := method_6_code
def yL_hasBorder : MethodName := ⟨RL, "hasBorder", "(LFlagHues;II[J)I"⟩
abbrev cL_countryOf : ByteArray := method_7_code
def yL_countryOf : MethodName := ⟨RL, "countryOf", "(LFlagHues;II[J)I"⟩
abbrev cL_hues : ByteArray := method_8_code
def yL_hues : MethodName := ⟨RL, "hues", "(LFlagHues;I[J)I"⟩
abbrev cL_pots : ByteArray := method_9_code
def yL_pots : MethodName := ⟨RL, "pots", "(LFlagHues;II[J)I"⟩
abbrev cL_hueOf : ByteArray := method_10_code
def yL_hueOf : MethodName := ⟨RL, "hueOf", "(LFlagHues;II[J)I"⟩
abbrev cL_paint : ByteArray := method_11_code
def yL_paint : MethodName := ⟨RL, "paint", "(LFlagHues;II[J)I"⟩
abbrev cL_bars : ByteArray := method_12_code
def yL_bars : MethodName := ⟨RL, "bars", "(LFlagHues;II[J)I"⟩
abbrev cL_back : ByteArray := method_13_code
def yL_back : MethodName := ⟨RL, "back", "(LFlagHues;[J)I"⟩
abbrev cL_step : ByteArray := method_14_code
def yL_step : MethodName := ⟨RL, "step", "(LFlagHues;I[J)I"⟩
abbrev cL_stuck : ByteArray := method_15_code
def yL_stuck : MethodName := ⟨RL, "stuck", "(LFlagHues;[J)I"⟩
abbrev cL_next : ByteArray := method_16_code
def yL_next : MethodName := ⟨RL, "next", "(LFlagHues;[J)I"⟩
abbrev cL_gentle : ByteArray := method_17_code
def yL_gentle : MethodName := ⟨RL, "gentle", "(LFlagHues;I[J)I"⟩
abbrev cL_wish : ByteArray := method_18_code
def yL_wish : MethodName := ⟨RL, "wish", "(LFlagHues;III[J)I"⟩
abbrev cL_waysFor : ByteArray := method_19_code
def yL_waysFor : MethodName := ⟨RL, "waysFor", "(LFlagHues;I[J)I"⟩
abbrev cL_fewest : ByteArray := method_20_code
def yL_fewest : MethodName := ⟨RL, "fewest", "(LFlagHues;[J)I"⟩
abbrev cL_line : ByteArray := method_21_code
def yL_line : MethodName := ⟨RL, "line", "(LFlagHues;I[J)I"⟩
abbrev cL_character : ByteArray := method_22_code
def yL_character : MethodName := ⟨RL, "character", "(LFlagHues;I[J)I"⟩
abbrev cL_append : ByteArray := method_23_code
def yL_append : MethodName := ⟨RL, "append", "(LFlagHues;C[J)I"⟩
abbrev cL_read : ByteArray := method_24_code
def yL_read : MethodName := ⟨RL, "read", "(LFlagHues;[J)I"⟩
abbrev cL_refusal : ByteArray := method_25_code
def yL_refusal : MethodName := ⟨RL, "refusal", "(LFlagHues;Z[J)I"⟩
abbrev cL_account : ByteArray := method_26_code
def yL_account : MethodName := ⟨RL, "account", "(LFlagHues;I[J)I"⟩
abbrev cL_meanSize : ByteArray := method_27_code
def yL_meanSize : MethodName := ⟨RL, "meanSize", "(LFlagHues;[D)I"⟩
abbrev cL_painted : ByteArray := method_28_code
def yL_painted : MethodName := ⟨RL, "painted", "(LFlagHues;[D)I"⟩
abbrev cL_undo : ByteArray := method_29_code
def yL_undo : MethodName := ⟨RL, "undo", "(LFlagHues;[J)I"⟩
abbrev cL_restore : ByteArray := method_30_code
def yL_restore : MethodName := ⟨RL, "restore", "(LFlagHues;[J)I"⟩
abbrev cL_law : ByteArray := code
def yL_law : MethodName := ⟨RL, "law", "([I)Z"⟩
end
section
/-! each instruction, decoded -/
theorem dX0_init_0 : decode cX0_init 0 = .ok (.aload_n 0, 1) := by decide +kernel
theorem dX0_init_1 : decode cX0_init 1 = .ok (.invokespecial 3, 3) := by decide +kernel
theorem dX0_init_4 : decode cX0_init 4 = .ok (.aload_n 0, 1) := by decide +kernel
theorem dX0_init_5 : decode cX0_init 5 = .ok (.iconst 5, 1) := by decide +kernel
theorem dX0_init_6 : decode cX0_init 6 = .ok (.newarray .int, 2) := by decide +kernel
theorem dX0_init_8 : decode cX0_init 8 = .ok (.putfield 9, 3) := by decide +kernel
theorem dX0_init_11 : decode cX0_init 11 = .ok (.aload_n 0, 1) := by decide +kernel
theorem dX0_init_12 : decode cX0_init 12 = .ok (.bipush 7, 2) := by decide +kernel
theorem dX0_init_14 : decode cX0_init 14 = .ok (.newarray .int, 2) := by decide +kernel
theorem dX0_init_16 : decode cX0_init 16 = .ok (.putfield 15, 3) := by decide +kernel
theorem dX0_init_19 : decode cX0_init 19 = .ok (.return_, 1) := by decide +kernel
theorem dX0_count_0 : decode cX0_count 0 = .ok (.aload_n 0, 1) := by decide +kernel
theorem dX0_count_1 : decode cX0_count 1 = .ok (.aload_n 1, 1) := by decide +kernel
theorem dX0_count_2 : decode cX0_count 2 = .ok (.invokevirtual 18, 3) := by decide +kernel
theorem dX0_count_5 : decode cX0_count 5 = .ok (.iconst 0, 1) := by decide +kernel
theorem dX0_count_6 : decode cX0_count 6 = .ok (.aload_n 1, 1) := by decide +kernel
theorem dX0_count_7 : decode cX0_count 7 = .ok (.invokevirtual 22, 3) := by decide +kernel
theorem dX0_count_10 : decode cX0_count 10 = .ok (.iload_n 2, 1) := by decide +kernel
theorem dX0_count_11 : decode cX0_count 11 = .ok (.aload_n 0, 1) := by decide +kernel
theorem dX0_count_12 : decode cX0_count 12 = .ok (.getfield 9, 3) := by decide +kernel
theorem dX0_count_15 : decode cX0_count 15 = .ok (.aload_n 1, 1) := by decide +kernel
theorem dX0_count_16 : decode cX0_count 16 = .ok (.getfield 28, 3) := by decide +kernel
theorem dX0_count_19 : decode cX0_count 19 = .ok (.invokestatic 31, 3) := by decide +kernel
theorem dX0_count_22 : decode cX0_count 22 = .ok (.ireturn, 1) := by decide +kernel
theorem dX0_countWithWish_0 : decode cX0_countWithWish 0 = .ok (.aload_n 1, 1) := by decide +kernel
theorem dX0_countWithWish_1 : decode cX0_countWithWish 1 = .ok (.getfield 35, 3) := by decide +kernel
theorem dX0_countWithWish_4 : decode cX0_countWithWish 4 = .ok (.iload_n 2, 1) := by decide +kernel
theorem dX0_countWithWish_5 : decode cX0_countWithWish 5 = .ok (.iaload, 1) := by decide +kernel
theorem dX0_countWithWish_6 : decode cX0_countWithWish 6 = .ok (.istore_n 3, 1) := by decide +kernel
theorem dX0_countWithWish_7 : decode cX0_countWithWish 7 = .ok (.aload_n 1, 1) := by decide +kernel
theorem dX0_countWithWish_8 : decode cX0_countWithWish 8 = .ok (.iload_n 2, 1) := by decide +kernel
theorem dX0_countWithWish_9 : decode cX0_countWithWish 9 = .ok (.invokevirtual 38, 3) := by decide +kernel
theorem dX0_countWithWish_12 : decode cX0_countWithWish 12 = .ok (.ifCond .eq 25, 3) := by decide +kernel
theorem dX0_countWithWish_15 : decode cX0_countWithWish 15 = .ok (.aload_n 1, 1) := by decide +kernel
theorem dX0_countWithWish_16 : decode cX0_countWithWish 16 = .ok (.iload_n 2, 1) := by decide +kernel
theorem dX0_countWithWish_17 : decode cX0_countWithWish 17 = .ok (.invokevirtual 42, 3) := by decide +kernel
theorem dX0_countWithWish_20 : decode cX0_countWithWish 20 = .ok (.ifCond .eq 15, 3) := by decide +kernel
theorem dX0_countWithWish_23 : decode cX0_countWithWish 23 = .ok (.aload_n 0, 1) := by decide +kernel
theorem dX0_countWithWish_24 : decode cX0_countWithWish 24 = .ok (.aload_n 1, 1) := by decide +kernel
theorem dX0_countWithWish_25 : decode cX0_countWithWish 25 = .ok (.aload_n 1, 1) := by decide +kernel
theorem dX0_countWithWish_26 : decode cX0_countWithWish 26 = .ok (.getfield 45, 3) := by decide +kernel
theorem dX0_countWithWish_29 : decode cX0_countWithWish 29 = .ok (.invokevirtual 49, 3) := by decide +kernel
theorem dX0_countWithWish_32 : decode cX0_countWithWish 32 = .ok (.goto 4, 3) := by decide +kernel
theorem dX0_countWithWish_35 : decode cX0_countWithWish 35 = .ok (.iconst 0, 1) := by decide +kernel
theorem dX0_countWithWish_36 : decode cX0_countWithWish 36 = .ok (.ireturn, 1) := by decide +kernel
theorem dX0_countWithWish_37 : decode cX0_countWithWish 37 = .ok (.aload_n 0, 1) := by decide +kernel
theorem dX0_countWithWish_38 : decode cX0_countWithWish 38 = .ok (.aload_n 1, 1) := by decide +kernel
theorem dX0_countWithWish_39 : decode cX0_countWithWish 39 = .ok (.invokevirtual 18, 3) := by decide +kernel
theorem dX0_countWithWish_42 : decode cX0_countWithWish 42 = .ok (.iload_n 3, 1) := by decide +kernel
theorem dX0_countWithWish_43 : decode cX0_countWithWish 43 = .ok (.ifCond .lt 27, 3) := by decide +kernel
theorem dX0_countWithWish_46 : decode cX0_countWithWish 46 = .ok (.iload_n 3, 1) := by decide +kernel
theorem dX0_countWithWish_47 : decode cX0_countWithWish 47 = .ok (.aload_n 1, 1) := by decide +kernel
theorem dX0_countWithWish_48 : decode cX0_countWithWish 48 = .ok (.getfield 45, 3) := by decide +kernel
theorem dX0_countWithWish_51 : decode cX0_countWithWish 51 = .ok (.if_icmp .ge 19, 3) := by decide +kernel
theorem dX0_countWithWish_54 : decode cX0_countWithWish 54 = .ok (.aload_n 0, 1) := by decide +kernel
theorem dX0_countWithWish_55 : decode cX0_countWithWish 55 = .ok (.getfield 9, 3) := by decide +kernel
theorem dX0_countWithWish_58 : decode cX0_countWithWish 58 = .ok (.iload_n 3, 1) := by decide +kernel
theorem dX0_countWithWish_59 : decode cX0_countWithWish 59 = .ok (.iaload, 1) := by decide +kernel
theorem dX0_countWithWish_60 : decode cX0_countWithWish 60 = .ok (.aload_n 1, 1) := by decide +kernel
theorem dX0_countWithWish_61 : decode cX0_countWithWish 61 = .ok (.getfield 28, 3) := by decide +kernel
theorem dX0_countWithWish_64 : decode cX0_countWithWish 64 = .ok (.iload_n 2, 1) := by decide +kernel
theorem dX0_countWithWish_65 : decode cX0_countWithWish 65 = .ok (.iaload, 1) := by decide +kernel
theorem dX0_countWithWish_66 : decode cX0_countWithWish 66 = .ok (.iand, 1) := by decide +kernel
theorem dX0_countWithWish_67 : decode cX0_countWithWish 67 = .ok (.ifCond .eq 5, 3) := by decide +kernel
theorem dX0_countWithWish_70 : decode cX0_countWithWish 70 = .ok (.iconst 0, 1) := by decide +kernel
theorem dX0_countWithWish_71 : decode cX0_countWithWish 71 = .ok (.ireturn, 1) := by decide +kernel
theorem dX0_countWithWish_72 : decode cX0_countWithWish 72 = .ok (.iconst 1, 1) := by decide +kernel
theorem dX0_countWithWish_73 : decode cX0_countWithWish 73 = .ok (.iload_n 2, 1) := by decide +kernel
theorem dX0_countWithWish_74 : decode cX0_countWithWish 74 = .ok (.ishl, 1) := by decide +kernel
theorem dX0_countWithWish_75 : decode cX0_countWithWish 75 = .ok (.istore 4, 2) := by decide +kernel
theorem dX0_countWithWish_77 : decode cX0_countWithWish 77 = .ok (.aload_n 0, 1) := by decide +kernel
theorem dX0_countWithWish_78 : decode cX0_countWithWish 78 = .ok (.getfield 9, 3) := by decide +kernel
theorem dX0_countWithWish_81 : decode cX0_countWithWish 81 = .ok (.iload_n 3, 1) := by decide +kernel
theorem dX0_countWithWish_82 : decode cX0_countWithWish 82 = .ok (.dup2, 1) := by decide +kernel
theorem dX0_countWithWish_83 : decode cX0_countWithWish 83 = .ok (.iaload, 1) := by decide +kernel
theorem dX0_countWithWish_84 : decode cX0_countWithWish 84 = .ok (.iload 4, 2) := by decide +kernel
theorem dX0_countWithWish_86 : decode cX0_countWithWish 86 = .ok (.ior, 1) := by decide +kernel
theorem dX0_countWithWish_87 : decode cX0_countWithWish 87 = .ok (.iastore, 1) := by decide +kernel
theorem dX0_countWithWish_88 : decode cX0_countWithWish 88 = .ok (.iconst 0, 1) := by decide +kernel
theorem dX0_countWithWish_89 : decode cX0_countWithWish 89 = .ok (.aload_n 1, 1) := by decide +kernel
theorem dX0_countWithWish_90 : decode cX0_countWithWish 90 = .ok (.invokevirtual 22, 3) := by decide +kernel
theorem dX0_countWithWish_93 : decode cX0_countWithWish 93 = .ok (.iload 4, 2) := by decide +kernel
theorem dX0_countWithWish_95 : decode cX0_countWithWish 95 = .ok (.iconst (-1), 1) := by decide +kernel
theorem dX0_countWithWish_96 : decode cX0_countWithWish 96 = .ok (.ixor, 1) := by decide +kernel
theorem dX0_countWithWish_97 : decode cX0_countWithWish 97 = .ok (.iand, 1) := by decide +kernel
theorem dX0_countWithWish_98 : decode cX0_countWithWish 98 = .ok (.aload_n 1, 1) := by decide +kernel
theorem dX0_countWithWish_99 : decode cX0_countWithWish 99 = .ok (.getfield 45, 3) := by decide +kernel
theorem dX0_countWithWish_102 : decode cX0_countWithWish 102 = .ok (.aload_n 0, 1) := by decide +kernel
theorem dX0_countWithWish_103 : decode cX0_countWithWish 103 = .ok (.getfield 9, 3) := by decide +kernel
theorem dX0_countWithWish_106 : decode cX0_countWithWish 106 = .ok (.aload_n 1, 1) := by decide +kernel
theorem dX0_countWithWish_107 : decode cX0_countWithWish 107 = .ok (.getfield 28, 3) := by decide +kernel
theorem dX0_countWithWish_110 : decode cX0_countWithWish 110 = .ok (.invokestatic 31, 3) := by decide +kernel
theorem dX0_countWithWish_113 : decode cX0_countWithWish 113 = .ok (.ireturn, 1) := by decide +kernel
theorem dX0_countByNumbers_0 : decode cX0_countByNumbers 0 = .ok (.iconst 1, 1) := by decide +kernel
theorem dX0_countByNumbers_1 : decode cX0_countByNumbers 1 = .ok (.istore_n 2, 1) := by decide +kernel
theorem dX0_countByNumbers_2 : decode cX0_countByNumbers 2 = .ok (.iconst 0, 1) := by decide +kernel
theorem dX0_countByNumbers_3 : decode cX0_countByNumbers 3 = .ok (.istore_n 3, 1) := by decide +kernel
theorem dX0_countByNumbers_4 : decode cX0_countByNumbers 4 = .ok (.iload_n 3, 1) := by decide +kernel
theorem dX0_countByNumbers_5 : decode cX0_countByNumbers 5 = .ok (.aload_n 1, 1) := by decide +kernel
theorem dX0_countByNumbers_6 : decode cX0_countByNumbers 6 = .ok (.getfield 53, 3) := by decide +kernel
theorem dX0_countByNumbers_9 : decode cX0_countByNumbers 9 = .ok (.if_icmp .ge 28, 3) := by decide +kernel
theorem dX0_countByNumbers_12 : decode cX0_countByNumbers 12 = .ok (.iload_n 2, 1) := by decide +kernel
theorem dX0_countByNumbers_13 : decode cX0_countByNumbers 13 = .ok (.aload_n 1, 1) := by decide +kernel
theorem dX0_countByNumbers_14 : decode cX0_countByNumbers 14 = .ok (.iload_n 3, 1) := by decide +kernel
theorem dX0_countByNumbers_15 : decode cX0_countByNumbers 15 = .ok (.invokevirtual 38, 3) := by decide +kernel
theorem dX0_countByNumbers_18 : decode cX0_countByNumbers 18 = .ok (.ifCond .eq 7, 3) := by decide +kernel
theorem dX0_countByNumbers_21 : decode cX0_countByNumbers 21 = .ok (.iconst 1, 1) := by decide +kernel
theorem dX0_countByNumbers_22 : decode cX0_countByNumbers 22 = .ok (.goto 7, 3) := by decide +kernel
theorem dX0_countByNumbers_25 : decode cX0_countByNumbers 25 = .ok (.aload_n 1, 1) := by decide +kernel
theorem dX0_countByNumbers_26 : decode cX0_countByNumbers 26 = .ok (.getfield 45, 3) := by decide +kernel
theorem dX0_countByNumbers_29 : decode cX0_countByNumbers 29 = .ok (.imul, 1) := by decide +kernel
theorem dX0_countByNumbers_30 : decode cX0_countByNumbers 30 = .ok (.istore_n 2, 1) := by decide +kernel
theorem dX0_countByNumbers_31 : decode cX0_countByNumbers 31 = .ok (.iinc 3 1, 3) := by decide +kernel
theorem dX0_countByNumbers_34 : decode cX0_countByNumbers 34 = .ok (.goto (-30), 3) := by decide +kernel
theorem dX0_countByNumbers_37 : decode cX0_countByNumbers 37 = .ok (.iconst 0, 1) := by decide +kernel
theorem dX0_countByNumbers_38 : decode cX0_countByNumbers 38 = .ok (.istore_n 3, 1) := by decide +kernel
theorem dX0_countByNumbers_39 : decode cX0_countByNumbers 39 = .ok (.iconst 0, 1) := by decide +kernel
theorem dX0_countByNumbers_40 : decode cX0_countByNumbers 40 = .ok (.istore 4, 2) := by decide +kernel
theorem dX0_countByNumbers_42 : decode cX0_countByNumbers 42 = .ok (.iload 4, 2) := by decide +kernel
theorem dX0_countByNumbers_44 : decode cX0_countByNumbers 44 = .ok (.iload_n 2, 1) := by decide +kernel
theorem dX0_countByNumbers_45 : decode cX0_countByNumbers 45 = .ok (.if_icmp .ge 27, 3) := by decide +kernel
theorem dX0_countByNumbers_48 : decode cX0_countByNumbers 48 = .ok (.aload_n 0, 1) := by decide +kernel
theorem dX0_countByNumbers_49 : decode cX0_countByNumbers 49 = .ok (.aload_n 1, 1) := by decide +kernel
theorem dX0_countByNumbers_50 : decode cX0_countByNumbers 50 = .ok (.iload 4, 2) := by decide +kernel
theorem dX0_countByNumbers_52 : decode cX0_countByNumbers 52 = .ok (.invokevirtual 56, 3) := by decide +kernel
theorem dX0_countByNumbers_55 : decode cX0_countByNumbers 55 = .ok (.aload_n 0, 1) := by decide +kernel
theorem dX0_countByNumbers_56 : decode cX0_countByNumbers 56 = .ok (.aload_n 1, 1) := by decide +kernel
theorem dX0_countByNumbers_57 : decode cX0_countByNumbers 57 = .ok (.invokevirtual 60, 3) := by decide +kernel
theorem dX0_countByNumbers_60 : decode cX0_countByNumbers 60 = .ok (.ifCond .eq 6, 3) := by decide +kernel
theorem dX0_countByNumbers_63 : decode cX0_countByNumbers 63 = .ok (.iinc 3 1, 3) := by decide +kernel
theorem dX0_countByNumbers_66 : decode cX0_countByNumbers 66 = .ok (.iinc 4 1, 3) := by decide +kernel
theorem dX0_countByNumbers_69 : decode cX0_countByNumbers 69 = .ok (.goto (-27), 3) := by decide +kernel
theorem dX0_countByNumbers_72 : decode cX0_countByNumbers 72 = .ok (.iload_n 3, 1) := by decide +kernel
theorem dX0_countByNumbers_73 : decode cX0_countByNumbers 73 = .ok (.ireturn, 1) := by decide +kernel
theorem dX0_noteHolders_0 : decode cX0_noteHolders 0 = .ok (.iconst 0, 1) := by decide +kernel
theorem dX0_noteHolders_1 : decode cX0_noteHolders 1 = .ok (.istore_n 2, 1) := by decide +kernel
theorem dX0_noteHolders_2 : decode cX0_noteHolders 2 = .ok (.iload_n 2, 1) := by decide +kernel
theorem dX0_noteHolders_3 : decode cX0_noteHolders 3 = .ok (.iconst 5, 1) := by decide +kernel
theorem dX0_noteHolders_4 : decode cX0_noteHolders 4 = .ok (.if_icmp .ge 54, 3) := by decide +kernel
theorem dX0_noteHolders_7 : decode cX0_noteHolders 7 = .ok (.aload_n 0, 1) := by decide +kernel
theorem dX0_noteHolders_8 : decode cX0_noteHolders 8 = .ok (.getfield 9, 3) := by decide +kernel
theorem dX0_noteHolders_11 : decode cX0_noteHolders 11 = .ok (.iload_n 2, 1) := by decide +kernel
theorem dX0_noteHolders_12 : decode cX0_noteHolders 12 = .ok (.iconst 0, 1) := by decide +kernel
theorem dX0_noteHolders_13 : decode cX0_noteHolders 13 = .ok (.iastore, 1) := by decide +kernel
theorem dX0_noteHolders_14 : decode cX0_noteHolders 14 = .ok (.iconst 0, 1) := by decide +kernel
theorem dX0_noteHolders_15 : decode cX0_noteHolders 15 = .ok (.istore_n 3, 1) := by decide +kernel
theorem dX0_noteHolders_16 : decode cX0_noteHolders 16 = .ok (.iload_n 3, 1) := by decide +kernel
theorem dX0_noteHolders_17 : decode cX0_noteHolders 17 = .ok (.aload_n 1, 1) := by decide +kernel
theorem dX0_noteHolders_18 : decode cX0_noteHolders 18 = .ok (.getfield 53, 3) := by decide +kernel
theorem dX0_noteHolders_21 : decode cX0_noteHolders 21 = .ok (.if_icmp .ge 31, 3) := by decide +kernel
theorem dX0_noteHolders_24 : decode cX0_noteHolders 24 = .ok (.aload_n 1, 1) := by decide +kernel
theorem dX0_noteHolders_25 : decode cX0_noteHolders 25 = .ok (.getfield 64, 3) := by decide +kernel
theorem dX0_noteHolders_28 : decode cX0_noteHolders 28 = .ok (.iload_n 3, 1) := by decide +kernel
theorem dX0_noteHolders_29 : decode cX0_noteHolders 29 = .ok (.iaload, 1) := by decide +kernel
theorem dX0_noteHolders_30 : decode cX0_noteHolders 30 = .ok (.iload_n 2, 1) := by decide +kernel
theorem dX0_noteHolders_31 : decode cX0_noteHolders 31 = .ok (.if_icmp .ne 15, 3) := by decide +kernel
theorem dX0_noteHolders_34 : decode cX0_noteHolders 34 = .ok (.aload_n 0, 1) := by decide +kernel
theorem dX0_noteHolders_35 : decode cX0_noteHolders 35 = .ok (.getfield 9, 3) := by decide +kernel
theorem dX0_noteHolders_38 : decode cX0_noteHolders 38 = .ok (.iload_n 2, 1) := by decide +kernel
theorem dX0_noteHolders_39 : decode cX0_noteHolders 39 = .ok (.dup2, 1) := by decide +kernel
theorem dX0_noteHolders_40 : decode cX0_noteHolders 40 = .ok (.iaload, 1) := by decide +kernel
theorem dX0_noteHolders_41 : decode cX0_noteHolders 41 = .ok (.iconst 1, 1) := by decide +kernel
theorem dX0_noteHolders_42 : decode cX0_noteHolders 42 = .ok (.iload_n 3, 1) := by decide +kernel
theorem dX0_noteHolders_43 : decode cX0_noteHolders 43 = .ok (.ishl, 1) := by decide +kernel
theorem dX0_noteHolders_44 : decode cX0_noteHolders 44 = .ok (.ior, 1) := by decide +kernel
theorem dX0_noteHolders_45 : decode cX0_noteHolders 45 = .ok (.iastore, 1) := by decide +kernel
theorem dX0_noteHolders_46 : decode cX0_noteHolders 46 = .ok (.iinc 3 1, 3) := by decide +kernel
theorem dX0_noteHolders_49 : decode cX0_noteHolders 49 = .ok (.goto (-33), 3) := by decide +kernel
theorem dX0_noteHolders_52 : decode cX0_noteHolders 52 = .ok (.iinc 2 1, 3) := by decide +kernel
theorem dX0_noteHolders_55 : decode cX0_noteHolders 55 = .ok (.goto (-53), 3) := by decide +kernel
theorem dX0_noteHolders_58 : decode cX0_noteHolders 58 = .ok (.return_, 1) := by decide +kernel
theorem dX0_countFrom_0 : decode cX0_countFrom 0 = .ok (.iload_n 0, 1) := by decide +kernel
theorem dX0_countFrom_1 : decode cX0_countFrom 1 = .ok (.bipush 7, 2) := by decide +kernel
theorem dX0_countFrom_3 : decode cX0_countFrom 3 = .ok (.if_icmp .ge 9, 3) := by decide +kernel
theorem dX0_countFrom_6 : decode cX0_countFrom 6 = .ok (.iload_n 1, 1) := by decide +kernel
theorem dX0_countFrom_7 : decode cX0_countFrom 7 = .ok (.iload_n 0, 1) := by decide +kernel
theorem dX0_countFrom_8 : decode cX0_countFrom 8 = .ok (.ishr, 1) := by decide +kernel
theorem dX0_countFrom_9 : decode cX0_countFrom 9 = .ok (.ifCond .ne 5, 3) := by decide +kernel
theorem dX0_countFrom_12 : decode cX0_countFrom 12 = .ok (.iconst 1, 1) := by decide +kernel
theorem dX0_countFrom_13 : decode cX0_countFrom 13 = .ok (.ireturn, 1) := by decide +kernel
theorem dX0_countFrom_14 : decode cX0_countFrom 14 = .ok (.iload_n 1, 1) := by decide +kernel
theorem dX0_countFrom_15 : decode cX0_countFrom 15 = .ok (.iload_n 0, 1) := by decide +kernel
theorem dX0_countFrom_16 : decode cX0_countFrom 16 = .ok (.ishr, 1) := by decide +kernel
theorem dX0_countFrom_17 : decode cX0_countFrom 17 = .ok (.iconst 1, 1) := by decide +kernel
theorem dX0_countFrom_18 : decode cX0_countFrom 18 = .ok (.iand, 1) := by decide +kernel
theorem dX0_countFrom_19 : decode cX0_countFrom 19 = .ok (.ifCond .ne 15, 3) := by decide +kernel
theorem dX0_countFrom_22 : decode cX0_countFrom 22 = .ok (.iload_n 0, 1) := by decide +kernel
theorem dX0_countFrom_23 : decode cX0_countFrom 23 = .ok (.iconst 1, 1) := by decide +kernel
theorem dX0_countFrom_24 : decode cX0_countFrom 24 = .ok (.iadd, 1) := by decide +kernel
theorem dX0_countFrom_25 : decode cX0_countFrom 25 = .ok (.iload_n 1, 1) := by decide +kernel
theorem dX0_countFrom_26 : decode cX0_countFrom 26 = .ok (.iload_n 2, 1) := by decide +kernel
theorem dX0_countFrom_27 : decode cX0_countFrom 27 = .ok (.aload_n 3, 1) := by decide +kernel
theorem dX0_countFrom_28 : decode cX0_countFrom 28 = .ok (.aload 4, 2) := by decide +kernel
theorem dX0_countFrom_30 : decode cX0_countFrom 30 = .ok (.invokestatic 31, 3) := by decide +kernel
theorem dX0_countFrom_33 : decode cX0_countFrom 33 = .ok (.ireturn, 1) := by decide +kernel
theorem dX0_countFrom_34 : decode cX0_countFrom 34 = .ok (.aload 4, 2) := by decide +kernel
theorem dX0_countFrom_36 : decode cX0_countFrom 36 = .ok (.iload_n 0, 1) := by decide +kernel
theorem dX0_countFrom_37 : decode cX0_countFrom 37 = .ok (.iaload, 1) := by decide +kernel
theorem dX0_countFrom_38 : decode cX0_countFrom 38 = .ok (.iload_n 1, 1) := by decide +kernel
theorem dX0_countFrom_39 : decode cX0_countFrom 39 = .ok (.iand, 1) := by decide +kernel
theorem dX0_countFrom_40 : decode cX0_countFrom 40 = .ok (.iload_n 0, 1) := by decide +kernel
theorem dX0_countFrom_41 : decode cX0_countFrom 41 = .ok (.ishr, 1) := by decide +kernel
theorem dX0_countFrom_42 : decode cX0_countFrom 42 = .ok (.ifCond .ne 38, 3) := by decide +kernel
theorem dX0_countFrom_45 : decode cX0_countFrom 45 = .ok (.aload 4, 2) := by decide +kernel
theorem dX0_countFrom_47 : decode cX0_countFrom 47 = .ok (.iload_n 0, 1) := by decide +kernel
theorem dX0_countFrom_48 : decode cX0_countFrom 48 = .ok (.iaload, 1) := by decide +kernel
theorem dX0_countFrom_49 : decode cX0_countFrom 49 = .ok (.iload_n 2, 1) := by decide +kernel
theorem dX0_countFrom_50 : decode cX0_countFrom 50 = .ok (.aload_n 3, 1) := by decide +kernel
theorem dX0_countFrom_51 : decode cX0_countFrom 51 = .ok (.invokestatic 67, 3) := by decide +kernel
theorem dX0_countFrom_54 : decode cX0_countFrom 54 = .ok (.istore 5, 2) := by decide +kernel
theorem dX0_countFrom_56 : decode cX0_countFrom 56 = .ok (.iload 5, 2) := by decide +kernel
theorem dX0_countFrom_58 : decode cX0_countFrom 58 = .ok (.ifCond .ne 7, 3) := by decide +kernel
theorem dX0_countFrom_61 : decode cX0_countFrom 61 = .ok (.iconst 0, 1) := by decide +kernel
theorem dX0_countFrom_62 : decode cX0_countFrom 62 = .ok (.goto 17, 3) := by decide +kernel
theorem dX0_countFrom_65 : decode cX0_countFrom 65 = .ok (.iload 5, 2) := by decide +kernel
theorem dX0_countFrom_67 : decode cX0_countFrom 67 = .ok (.iload_n 0, 1) := by decide +kernel
theorem dX0_countFrom_68 : decode cX0_countFrom 68 = .ok (.iconst 1, 1) := by decide +kernel
theorem dX0_countFrom_69 : decode cX0_countFrom 69 = .ok (.iadd, 1) := by decide +kernel
theorem dX0_countFrom_70 : decode cX0_countFrom 70 = .ok (.iload_n 1, 1) := by decide +kernel
theorem dX0_countFrom_71 : decode cX0_countFrom 71 = .ok (.iload_n 2, 1) := by decide +kernel
theorem dX0_countFrom_72 : decode cX0_countFrom 72 = .ok (.aload_n 3, 1) := by decide +kernel
theorem dX0_countFrom_73 : decode cX0_countFrom 73 = .ok (.aload 4, 2) := by decide +kernel
theorem dX0_countFrom_75 : decode cX0_countFrom 75 = .ok (.invokestatic 31, 3) := by decide +kernel
theorem dX0_countFrom_78 : decode cX0_countFrom 78 = .ok (.imul, 1) := by decide +kernel
theorem dX0_countFrom_79 : decode cX0_countFrom 79 = .ok (.ireturn, 1) := by decide +kernel
theorem dX0_countFrom_80 : decode cX0_countFrom 80 = .ok (.iconst 0, 1) := by decide +kernel
theorem dX0_countFrom_81 : decode cX0_countFrom 81 = .ok (.istore 5, 2) := by decide +kernel
theorem dX0_countFrom_83 : decode cX0_countFrom 83 = .ok (.iconst 0, 1) := by decide +kernel
theorem dX0_countFrom_84 : decode cX0_countFrom 84 = .ok (.istore 6, 2) := by decide +kernel
theorem dX0_countFrom_86 : decode cX0_countFrom 86 = .ok (.iload 6, 2) := by decide +kernel
theorem dX0_countFrom_88 : decode cX0_countFrom 88 = .ok (.iload_n 2, 1) := by decide +kernel
theorem dX0_countFrom_89 : decode cX0_countFrom 89 = .ok (.if_icmp .ge 59, 3) := by decide +kernel
theorem dX0_countFrom_92 : decode cX0_countFrom 92 = .ok (.aload_n 3, 1) := by decide +kernel
theorem dX0_countFrom_93 : decode cX0_countFrom 93 = .ok (.iload 6, 2) := by decide +kernel
theorem dX0_countFrom_95 : decode cX0_countFrom 95 = .ok (.iaload, 1) := by decide +kernel
theorem dX0_countFrom_96 : decode cX0_countFrom 96 = .ok (.aload 4, 2) := by decide +kernel
theorem dX0_countFrom_98 : decode cX0_countFrom 98 = .ok (.iload_n 0, 1) := by decide +kernel
theorem dX0_countFrom_99 : decode cX0_countFrom 99 = .ok (.iaload, 1) := by decide +kernel
theorem dX0_countFrom_100 : decode cX0_countFrom 100 = .ok (.iand, 1) := by decide +kernel
theorem dX0_countFrom_101 : decode cX0_countFrom 101 = .ok (.ifCond .ne 41, 3) := by decide +kernel
theorem dX0_countFrom_104 : decode cX0_countFrom 104 = .ok (.aload_n 3, 1) := by decide +kernel
theorem dX0_countFrom_105 : decode cX0_countFrom 105 = .ok (.iload 6, 2) := by decide +kernel
theorem dX0_countFrom_107 : decode cX0_countFrom 107 = .ok (.dup2, 1) := by decide +kernel
theorem dX0_countFrom_108 : decode cX0_countFrom 108 = .ok (.iaload, 1) := by decide +kernel
theorem dX0_countFrom_109 : decode cX0_countFrom 109 = .ok (.iconst 1, 1) := by decide +kernel
theorem dX0_countFrom_110 : decode cX0_countFrom 110 = .ok (.iload_n 0, 1) := by decide +kernel
theorem dX0_countFrom_111 : decode cX0_countFrom 111 = .ok (.ishl, 1) := by decide +kernel
theorem dX0_countFrom_112 : decode cX0_countFrom 112 = .ok (.ior, 1) := by decide +kernel
theorem dX0_countFrom_113 : decode cX0_countFrom 113 = .ok (.iastore, 1) := by decide +kernel
theorem dX0_countFrom_114 : decode cX0_countFrom 114 = .ok (.iload 5, 2) := by decide +kernel
theorem dX0_countFrom_116 : decode cX0_countFrom 116 = .ok (.iload_n 0, 1) := by decide +kernel
theorem dX0_countFrom_117 : decode cX0_countFrom 117 = .ok (.iconst 1, 1) := by decide +kernel
theorem dX0_countFrom_118 : decode cX0_countFrom 118 = .ok (.iadd, 1) := by decide +kernel
theorem dX0_countFrom_119 : decode cX0_countFrom 119 = .ok (.iload_n 1, 1) := by decide +kernel
theorem dX0_countFrom_120 : decode cX0_countFrom 120 = .ok (.iload_n 2, 1) := by decide +kernel
theorem dX0_countFrom_121 : decode cX0_countFrom 121 = .ok (.aload_n 3, 1) := by decide +kernel
theorem dX0_countFrom_122 : decode cX0_countFrom 122 = .ok (.aload 4, 2) := by decide +kernel
theorem dX0_countFrom_124 : decode cX0_countFrom 124 = .ok (.invokestatic 31, 3) := by decide +kernel
theorem dX0_countFrom_127 : decode cX0_countFrom 127 = .ok (.iadd, 1) := by decide +kernel
theorem dX0_countFrom_128 : decode cX0_countFrom 128 = .ok (.istore 5, 2) := by decide +kernel
theorem dX0_countFrom_130 : decode cX0_countFrom 130 = .ok (.aload_n 3, 1) := by decide +kernel
theorem dX0_countFrom_131 : decode cX0_countFrom 131 = .ok (.iload 6, 2) := by decide +kernel
theorem dX0_countFrom_133 : decode cX0_countFrom 133 = .ok (.dup2, 1) := by decide +kernel
theorem dX0_countFrom_134 : decode cX0_countFrom 134 = .ok (.iaload, 1) := by decide +kernel
theorem dX0_countFrom_135 : decode cX0_countFrom 135 = .ok (.iconst 1, 1) := by decide +kernel
theorem dX0_countFrom_136 : decode cX0_countFrom 136 = .ok (.iload_n 0, 1) := by decide +kernel
theorem dX0_countFrom_137 : decode cX0_countFrom 137 = .ok (.ishl, 1) := by decide +kernel
theorem dX0_countFrom_138 : decode cX0_countFrom 138 = .ok (.iconst (-1), 1) := by decide +kernel
theorem dX0_countFrom_139 : decode cX0_countFrom 139 = .ok (.ixor, 1) := by decide +kernel
theorem dX0_countFrom_140 : decode cX0_countFrom 140 = .ok (.iand, 1) := by decide +kernel
theorem dX0_countFrom_141 : decode cX0_countFrom 141 = .ok (.iastore, 1) := by decide +kernel
theorem dX0_countFrom_142 : decode cX0_countFrom 142 = .ok (.iinc 6 1, 3) := by decide +kernel
theorem dX0_countFrom_145 : decode cX0_countFrom 145 = .ok (.goto (-59), 3) := by decide +kernel
theorem dX0_countFrom_148 : decode cX0_countFrom 148 = .ok (.iload 5, 2) := by decide +kernel
theorem dX0_countFrom_150 : decode cX0_countFrom 150 = .ok (.ireturn, 1) := by decide +kernel
theorem dX0_countChoices_0 : decode cX0_countChoices 0 = .ok (.iconst 0, 1) := by decide +kernel
theorem dX0_countChoices_1 : decode cX0_countChoices 1 = .ok (.istore_n 3, 1) := by decide +kernel
theorem dX0_countChoices_2 : decode cX0_countChoices 2 = .ok (.iconst 0, 1) := by decide +kernel
theorem dX0_countChoices_3 : decode cX0_countChoices 3 = .ok (.istore 4, 2) := by decide +kernel
theorem dX0_countChoices_5 : decode cX0_countChoices 5 = .ok (.iload 4, 2) := by decide +kernel
theorem dX0_countChoices_7 : decode cX0_countChoices 7 = .ok (.iload_n 1, 1) := by decide +kernel
theorem dX0_countChoices_8 : decode cX0_countChoices 8 = .ok (.if_icmp .ge 21, 3) := by decide +kernel
theorem dX0_countChoices_11 : decode cX0_countChoices 11 = .ok (.aload_n 2, 1) := by decide +kernel
theorem dX0_countChoices_12 : decode cX0_countChoices 12 = .ok (.iload 4, 2) := by decide +kernel
theorem dX0_countChoices_14 : decode cX0_countChoices 14 = .ok (.iaload, 1) := by decide +kernel
theorem dX0_countChoices_15 : decode cX0_countChoices 15 = .ok (.iload_n 0, 1) := by decide +kernel
theorem dX0_countChoices_16 : decode cX0_countChoices 16 = .ok (.iand, 1) := by decide +kernel
theorem dX0_countChoices_17 : decode cX0_countChoices 17 = .ok (.ifCond .ne 6, 3) := by decide +kernel
theorem dX0_countChoices_20 : decode cX0_countChoices 20 = .ok (.iinc 3 1, 3) := by decide +kernel
theorem dX0_countChoices_23 : decode cX0_countChoices 23 = .ok (.iinc 4 1, 3) := by decide +kernel
theorem dX0_countChoices_26 : decode cX0_countChoices 26 = .ok (.goto (-21), 3) := by decide +kernel
theorem dX0_countChoices_29 : decode cX0_countChoices 29 = .ok (.iload_n 3, 1) := by decide +kernel
theorem dX0_countChoices_30 : decode cX0_countChoices 30 = .ok (.ireturn, 1) := by decide +kernel
theorem dX0_spellOut_0 : decode cX0_spellOut 0 = .ok (.iload_n 2, 1) := by decide +kernel
theorem dX0_spellOut_1 : decode cX0_spellOut 1 = .ok (.istore_n 3, 1) := by decide +kernel
theorem dX0_spellOut_2 : decode cX0_spellOut 2 = .ok (.iconst 0, 1) := by decide +kernel
theorem dX0_spellOut_3 : decode cX0_spellOut 3 = .ok (.istore 4, 2) := by decide +kernel
theorem dX0_spellOut_5 : decode cX0_spellOut 5 = .ok (.iload 4, 2) := by decide +kernel
theorem dX0_spellOut_7 : decode cX0_spellOut 7 = .ok (.aload_n 1, 1) := by decide +kernel
theorem dX0_spellOut_8 : decode cX0_spellOut 8 = .ok (.getfield 53, 3) := by decide +kernel
theorem dX0_spellOut_11 : decode cX0_spellOut 11 = .ok (.if_icmp .ge 63, 3) := by decide +kernel
theorem dX0_spellOut_14 : decode cX0_spellOut 14 = .ok (.aload_n 1, 1) := by decide +kernel
theorem dX0_spellOut_15 : decode cX0_spellOut 15 = .ok (.iload 4, 2) := by decide +kernel
theorem dX0_spellOut_17 : decode cX0_spellOut 17 = .ok (.invokevirtual 38, 3) := by decide +kernel
theorem dX0_spellOut_20 : decode cX0_spellOut 20 = .ok (.ifCond .ne 11, 3) := by decide +kernel
theorem dX0_spellOut_23 : decode cX0_spellOut 23 = .ok (.aload_n 1, 1) := by decide +kernel
theorem dX0_spellOut_24 : decode cX0_spellOut 24 = .ok (.getfield 45, 3) := by decide +kernel
theorem dX0_spellOut_27 : decode cX0_spellOut 27 = .ok (.iconst 1, 1) := by decide +kernel
theorem dX0_spellOut_28 : decode cX0_spellOut 28 = .ok (.if_icmp .ge 20, 3) := by decide +kernel
theorem dX0_spellOut_31 : decode cX0_spellOut 31 = .ok (.aload_n 0, 1) := by decide +kernel
theorem dX0_spellOut_32 : decode cX0_spellOut 32 = .ok (.getfield 15, 3) := by decide +kernel
theorem dX0_spellOut_35 : decode cX0_spellOut 35 = .ok (.iload 4, 2) := by decide +kernel
theorem dX0_spellOut_37 : decode cX0_spellOut 37 = .ok (.aload_n 1, 1) := by decide +kernel
theorem dX0_spellOut_38 : decode cX0_spellOut 38 = .ok (.getfield 64, 3) := by decide +kernel
theorem dX0_spellOut_41 : decode cX0_spellOut 41 = .ok (.iload 4, 2) := by decide +kernel
theorem dX0_spellOut_43 : decode cX0_spellOut 43 = .ok (.iaload, 1) := by decide +kernel
theorem dX0_spellOut_44 : decode cX0_spellOut 44 = .ok (.iastore, 1) := by decide +kernel
theorem dX0_spellOut_45 : decode cX0_spellOut 45 = .ok (.goto 23, 3) := by decide +kernel
theorem dX0_spellOut_48 : decode cX0_spellOut 48 = .ok (.aload_n 0, 1) := by decide +kernel
theorem dX0_spellOut_49 : decode cX0_spellOut 49 = .ok (.getfield 15, 3) := by decide +kernel
theorem dX0_spellOut_52 : decode cX0_spellOut 52 = .ok (.iload 4, 2) := by decide +kernel
theorem dX0_spellOut_54 : decode cX0_spellOut 54 = .ok (.iload_n 3, 1) := by decide +kernel
theorem dX0_spellOut_55 : decode cX0_spellOut 55 = .ok (.aload_n 1, 1) := by decide +kernel
theorem dX0_spellOut_56 : decode cX0_spellOut 56 = .ok (.getfield 45, 3) := by decide +kernel
theorem dX0_spellOut_59 : decode cX0_spellOut 59 = .ok (.irem, 1) := by decide +kernel
theorem dX0_spellOut_60 : decode cX0_spellOut 60 = .ok (.iastore, 1) := by decide +kernel
theorem dX0_spellOut_61 : decode cX0_spellOut 61 = .ok (.iload_n 3, 1) := by decide +kernel
theorem dX0_spellOut_62 : decode cX0_spellOut 62 = .ok (.aload_n 1, 1) := by decide +kernel
theorem dX0_spellOut_63 : decode cX0_spellOut 63 = .ok (.getfield 45, 3) := by decide +kernel
theorem dX0_spellOut_66 : decode cX0_spellOut 66 = .ok (.idiv, 1) := by decide +kernel
theorem dX0_spellOut_67 : decode cX0_spellOut 67 = .ok (.istore_n 3, 1) := by decide +kernel
theorem dX0_spellOut_68 : decode cX0_spellOut 68 = .ok (.iinc 4 1, 3) := by decide +kernel
theorem dX0_spellOut_71 : decode cX0_spellOut 71 = .ok (.goto (-66), 3) := by decide +kernel
theorem dX0_spellOut_74 : decode cX0_spellOut 74 = .ok (.return_, 1) := by decide +kernel
theorem dX0_isWay_0 : decode cX0_isWay 0 = .ok (.iconst 0, 1) := by decide +kernel
theorem dX0_isWay_1 : decode cX0_isWay 1 = .ok (.istore_n 2, 1) := by decide +kernel
theorem dX0_isWay_2 : decode cX0_isWay 2 = .ok (.iload_n 2, 1) := by decide +kernel
theorem dX0_isWay_3 : decode cX0_isWay 3 = .ok (.aload_n 1, 1) := by decide +kernel
theorem dX0_isWay_4 : decode cX0_isWay 4 = .ok (.getfield 53, 3) := by decide +kernel
theorem dX0_isWay_7 : decode cX0_isWay 7 = .ok (.if_icmp .ge 48, 3) := by decide +kernel
theorem dX0_isWay_10 : decode cX0_isWay 10 = .ok (.iconst 0, 1) := by decide +kernel
theorem dX0_isWay_11 : decode cX0_isWay 11 = .ok (.istore_n 3, 1) := by decide +kernel
theorem dX0_isWay_12 : decode cX0_isWay 12 = .ok (.iload_n 3, 1) := by decide +kernel
theorem dX0_isWay_13 : decode cX0_isWay 13 = .ok (.iload_n 2, 1) := by decide +kernel
theorem dX0_isWay_14 : decode cX0_isWay 14 = .ok (.if_icmp .ge 35, 3) := by decide +kernel
theorem dX0_isWay_17 : decode cX0_isWay 17 = .ok (.aload_n 1, 1) := by decide +kernel
theorem dX0_isWay_18 : decode cX0_isWay 18 = .ok (.iload_n 2, 1) := by decide +kernel
theorem dX0_isWay_19 : decode cX0_isWay 19 = .ok (.iload_n 3, 1) := by decide +kernel
theorem dX0_isWay_20 : decode cX0_isWay 20 = .ok (.invokevirtual 71, 3) := by decide +kernel
theorem dX0_isWay_23 : decode cX0_isWay 23 = .ok (.ifCond .eq 20, 3) := by decide +kernel
theorem dX0_isWay_26 : decode cX0_isWay 26 = .ok (.aload_n 0, 1) := by decide +kernel
theorem dX0_isWay_27 : decode cX0_isWay 27 = .ok (.getfield 15, 3) := by decide +kernel
theorem dX0_isWay_30 : decode cX0_isWay 30 = .ok (.iload_n 2, 1) := by decide +kernel
theorem dX0_isWay_31 : decode cX0_isWay 31 = .ok (.iaload, 1) := by decide +kernel
theorem dX0_isWay_32 : decode cX0_isWay 32 = .ok (.aload_n 0, 1) := by decide +kernel
theorem dX0_isWay_33 : decode cX0_isWay 33 = .ok (.getfield 15, 3) := by decide +kernel
theorem dX0_isWay_36 : decode cX0_isWay 36 = .ok (.iload_n 3, 1) := by decide +kernel
theorem dX0_isWay_37 : decode cX0_isWay 37 = .ok (.iaload, 1) := by decide +kernel
theorem dX0_isWay_38 : decode cX0_isWay 38 = .ok (.if_icmp .ne 5, 3) := by decide +kernel
theorem dX0_isWay_41 : decode cX0_isWay 41 = .ok (.iconst 0, 1) := by decide +kernel
theorem dX0_isWay_42 : decode cX0_isWay 42 = .ok (.ireturn, 1) := by decide +kernel
theorem dX0_isWay_43 : decode cX0_isWay 43 = .ok (.iinc 3 1, 3) := by decide +kernel
theorem dX0_isWay_46 : decode cX0_isWay 46 = .ok (.goto (-34), 3) := by decide +kernel
theorem dX0_isWay_49 : decode cX0_isWay 49 = .ok (.iinc 2 1, 3) := by decide +kernel
theorem dX0_isWay_52 : decode cX0_isWay 52 = .ok (.goto (-50), 3) := by decide +kernel
theorem dX0_isWay_55 : decode cX0_isWay 55 = .ok (.iconst 1, 1) := by decide +kernel
theorem dX0_isWay_56 : decode cX0_isWay 56 = .ok (.ireturn, 1) := by decide +kernel
theorem dX1_init_0 : decode cX1_init 0 = .ok (.aload_n 0, 1) := by decide +kernel
theorem dX1_init_1 : decode cX1_init 1 = .ok (.invokespecial 3, 3) := by decide +kernel
theorem dX1_init_4 : decode cX1_init 4 = .ok (.aload_n 0, 1) := by decide +kernel
theorem dX1_init_5 : decode cX1_init 5 = .ok (.bipush 7, 2) := by decide +kernel
theorem dX1_init_7 : decode cX1_init 7 = .ok (.newarray .int, 2) := by decide +kernel
theorem dX1_init_9 : decode cX1_init 9 = .ok (.putfield 9, 3) := by decide +kernel
theorem dX1_init_12 : decode cX1_init 12 = .ok (.aload_n 0, 1) := by decide +kernel
theorem dX1_init_13 : decode cX1_init 13 = .ok (.bipush 7, 2) := by decide +kernel
theorem dX1_init_15 : decode cX1_init 15 = .ok (.newarray .int, 2) := by decide +kernel
theorem dX1_init_17 : decode cX1_init 17 = .ok (.putfield 15, 3) := by decide +kernel
theorem dX1_init_20 : decode cX1_init 20 = .ok (.aload_n 0, 1) := by decide +kernel
theorem dX1_init_21 : decode cX1_init 21 = .ok (.bipush 7, 2) := by decide +kernel
theorem dX1_init_23 : decode cX1_init 23 = .ok (.newarray .int, 2) := by decide +kernel
theorem dX1_init_25 : decode cX1_init 25 = .ok (.putfield 18, 3) := by decide +kernel
theorem dX1_init_28 : decode cX1_init 28 = .ok (.aload_n 0, 1) := by decide +kernel
theorem dX1_init_29 : decode cX1_init 29 = .ok (.bipush 7, 2) := by decide +kernel
theorem dX1_init_31 : decode cX1_init 31 = .ok (.newarray .int, 2) := by decide +kernel
theorem dX1_init_33 : decode cX1_init 33 = .ok (.putfield 21, 3) := by decide +kernel
theorem dX1_init_36 : decode cX1_init 36 = .ok (.aload_n 0, 1) := by decide +kernel
theorem dX1_init_37 : decode cX1_init 37 = .ok (.bipush 7, 2) := by decide +kernel
theorem dX1_init_39 : decode cX1_init 39 = .ok (.newarray .int, 2) := by decide +kernel
theorem dX1_init_41 : decode cX1_init 41 = .ok (.putfield 24, 3) := by decide +kernel
theorem dX1_init_44 : decode cX1_init 44 = .ok (.aload_n 0, 1) := by decide +kernel
theorem dX1_init_45 : decode cX1_init 45 = .ok (.bipush 7, 2) := by decide +kernel
theorem dX1_init_47 : decode cX1_init 47 = .ok (.newarray .int, 2) := by decide +kernel
theorem dX1_init_49 : decode cX1_init 49 = .ok (.putfield 27, 3) := by decide +kernel
theorem dX1_init_52 : decode cX1_init 52 = .ok (.aload_n 0, 1) := by decide +kernel
theorem dX1_init_53 : decode cX1_init 53 = .ok (.iconst 5, 1) := by decide +kernel
theorem dX1_init_54 : decode cX1_init 54 = .ok (.newarray .int, 2) := by decide +kernel
theorem dX1_init_56 : decode cX1_init 56 = .ok (.putfield 30, 3) := by decide +kernel
theorem dX1_init_59 : decode cX1_init 59 = .ok (.aload_n 0, 1) := by decide +kernel
theorem dX1_init_60 : decode cX1_init 60 = .ok (.iconst 5, 1) := by decide +kernel
theorem dX1_init_61 : decode cX1_init 61 = .ok (.newarray .int, 2) := by decide +kernel
theorem dX1_init_63 : decode cX1_init 63 = .ok (.putfield 33, 3) := by decide +kernel
theorem dX1_init_66 : decode cX1_init 66 = .ok (.aload_n 0, 1) := by decide +kernel
theorem dX1_init_67 : decode cX1_init 67 = .ok (.iconst 0, 1) := by decide +kernel
theorem dX1_init_68 : decode cX1_init 68 = .ok (.putfield 36, 3) := by decide +kernel
theorem dX1_init_71 : decode cX1_init 71 = .ok (.aload_n 0, 1) := by decide +kernel
theorem dX1_init_72 : decode cX1_init 72 = .ok (.iconst 3, 1) := by decide +kernel
theorem dX1_init_73 : decode cX1_init 73 = .ok (.putfield 40, 3) := by decide +kernel
theorem dX1_init_76 : decode cX1_init 76 = .ok (.aload_n 0, 1) := by decide +kernel
theorem dX1_init_77 : decode cX1_init 77 = .ok (.iconst 0, 1) := by decide +kernel
theorem dX1_init_78 : decode cX1_init 78 = .ok (.putfield 43, 3) := by decide +kernel
theorem dX1_init_81 : decode cX1_init 81 = .ok (.aload_n 0, 1) := by decide +kernel
theorem dX1_init_82 : decode cX1_init 82 = .ok (.iconst 0, 1) := by decide +kernel
theorem dX1_init_83 : decode cX1_init 83 = .ok (.putfield 46, 3) := by decide +kernel
theorem dX1_init_86 : decode cX1_init 86 = .ok (.iconst 0, 1) := by decide +kernel
theorem dX1_init_87 : decode cX1_init 87 = .ok (.istore_n 1, 1) := by decide +kernel
theorem dX1_init_88 : decode cX1_init 88 = .ok (.iload_n 1, 1) := by decide +kernel
theorem dX1_init_89 : decode cX1_init 89 = .ok (.iconst 5, 1) := by decide +kernel
theorem dX1_init_90 : decode cX1_init 90 = .ok (.if_icmp .ge 17, 3) := by decide +kernel
theorem dX1_init_93 : decode cX1_init 93 = .ok (.aload_n 0, 1) := by decide +kernel
theorem dX1_init_94 : decode cX1_init 94 = .ok (.getfield 30, 3) := by decide +kernel
theorem dX1_init_97 : decode cX1_init 97 = .ok (.iload_n 1, 1) := by decide +kernel
theorem dX1_init_98 : decode cX1_init 98 = .ok (.bipush 9, 2) := by decide +kernel
theorem dX1_init_100 : decode cX1_init 100 = .ok (.iastore, 1) := by decide +kernel
theorem dX1_init_101 : decode cX1_init 101 = .ok (.iinc 1 1, 3) := by decide +kernel
theorem dX1_init_104 : decode cX1_init 104 = .ok (.goto (-16), 3) := by decide +kernel
theorem dX1_init_107 : decode cX1_init 107 = .ok (.return_, 1) := by decide +kernel
theorem dX1_copyFrom_0 : decode cX1_copyFrom 0 = .ok (.aload_n 1, 1) := by decide +kernel
theorem dX1_copyFrom_1 : decode cX1_copyFrom 1 = .ok (.getfield 9, 3) := by decide +kernel
theorem dX1_copyFrom_4 : decode cX1_copyFrom 4 = .ok (.iconst 0, 1) := by decide +kernel
theorem dX1_copyFrom_5 : decode cX1_copyFrom 5 = .ok (.aload_n 0, 1) := by decide +kernel
theorem dX1_copyFrom_6 : decode cX1_copyFrom 6 = .ok (.getfield 9, 3) := by decide +kernel
theorem dX1_copyFrom_9 : decode cX1_copyFrom 9 = .ok (.iconst 0, 1) := by decide +kernel
theorem dX1_copyFrom_10 : decode cX1_copyFrom 10 = .ok (.bipush 7, 2) := by decide +kernel
theorem dX1_copyFrom_12 : decode cX1_copyFrom 12 = .ok (.invokestatic 49, 3) := by decide +kernel
theorem dX1_copyFrom_15 : decode cX1_copyFrom 15 = .ok (.aload_n 1, 1) := by decide +kernel
theorem dX1_copyFrom_16 : decode cX1_copyFrom 16 = .ok (.getfield 15, 3) := by decide +kernel
theorem dX1_copyFrom_19 : decode cX1_copyFrom 19 = .ok (.iconst 0, 1) := by decide +kernel
theorem dX1_copyFrom_20 : decode cX1_copyFrom 20 = .ok (.aload_n 0, 1) := by decide +kernel
theorem dX1_copyFrom_21 : decode cX1_copyFrom 21 = .ok (.getfield 15, 3) := by decide +kernel
theorem dX1_copyFrom_24 : decode cX1_copyFrom 24 = .ok (.iconst 0, 1) := by decide +kernel
theorem dX1_copyFrom_25 : decode cX1_copyFrom 25 = .ok (.bipush 7, 2) := by decide +kernel
theorem dX1_copyFrom_27 : decode cX1_copyFrom 27 = .ok (.invokestatic 49, 3) := by decide +kernel
theorem dX1_copyFrom_30 : decode cX1_copyFrom 30 = .ok (.aload_n 1, 1) := by decide +kernel
theorem dX1_copyFrom_31 : decode cX1_copyFrom 31 = .ok (.getfield 18, 3) := by decide +kernel
theorem dX1_copyFrom_34 : decode cX1_copyFrom 34 = .ok (.iconst 0, 1) := by decide +kernel
theorem dX1_copyFrom_35 : decode cX1_copyFrom 35 = .ok (.aload_n 0, 1) := by decide +kernel
theorem dX1_copyFrom_36 : decode cX1_copyFrom 36 = .ok (.getfield 18, 3) := by decide +kernel
theorem dX1_copyFrom_39 : decode cX1_copyFrom 39 = .ok (.iconst 0, 1) := by decide +kernel
theorem dX1_copyFrom_40 : decode cX1_copyFrom 40 = .ok (.bipush 7, 2) := by decide +kernel
theorem dX1_copyFrom_42 : decode cX1_copyFrom 42 = .ok (.invokestatic 49, 3) := by decide +kernel
theorem dX1_copyFrom_45 : decode cX1_copyFrom 45 = .ok (.aload_n 1, 1) := by decide +kernel
theorem dX1_copyFrom_46 : decode cX1_copyFrom 46 = .ok (.getfield 21, 3) := by decide +kernel
theorem dX1_copyFrom_49 : decode cX1_copyFrom 49 = .ok (.iconst 0, 1) := by decide +kernel
theorem dX1_copyFrom_50 : decode cX1_copyFrom 50 = .ok (.aload_n 0, 1) := by decide +kernel
theorem dX1_copyFrom_51 : decode cX1_copyFrom 51 = .ok (.getfield 21, 3) := by decide +kernel
theorem dX1_copyFrom_54 : decode cX1_copyFrom 54 = .ok (.iconst 0, 1) := by decide +kernel
theorem dX1_copyFrom_55 : decode cX1_copyFrom 55 = .ok (.bipush 7, 2) := by decide +kernel
theorem dX1_copyFrom_57 : decode cX1_copyFrom 57 = .ok (.invokestatic 49, 3) := by decide +kernel
theorem dX1_copyFrom_60 : decode cX1_copyFrom 60 = .ok (.aload_n 1, 1) := by decide +kernel
theorem dX1_copyFrom_61 : decode cX1_copyFrom 61 = .ok (.getfield 24, 3) := by decide +kernel
theorem dX1_copyFrom_64 : decode cX1_copyFrom 64 = .ok (.iconst 0, 1) := by decide +kernel
theorem dX1_copyFrom_65 : decode cX1_copyFrom 65 = .ok (.aload_n 0, 1) := by decide +kernel
theorem dX1_copyFrom_66 : decode cX1_copyFrom 66 = .ok (.getfield 24, 3) := by decide +kernel
theorem dX1_copyFrom_69 : decode cX1_copyFrom 69 = .ok (.iconst 0, 1) := by decide +kernel
theorem dX1_copyFrom_70 : decode cX1_copyFrom 70 = .ok (.bipush 7, 2) := by decide +kernel
theorem dX1_copyFrom_72 : decode cX1_copyFrom 72 = .ok (.invokestatic 49, 3) := by decide +kernel
theorem dX1_copyFrom_75 : decode cX1_copyFrom 75 = .ok (.aload_n 1, 1) := by decide +kernel
theorem dX1_copyFrom_76 : decode cX1_copyFrom 76 = .ok (.getfield 27, 3) := by decide +kernel
theorem dX1_copyFrom_79 : decode cX1_copyFrom 79 = .ok (.iconst 0, 1) := by decide +kernel
theorem dX1_copyFrom_80 : decode cX1_copyFrom 80 = .ok (.aload_n 0, 1) := by decide +kernel
theorem dX1_copyFrom_81 : decode cX1_copyFrom 81 = .ok (.getfield 27, 3) := by decide +kernel
theorem dX1_copyFrom_84 : decode cX1_copyFrom 84 = .ok (.iconst 0, 1) := by decide +kernel
theorem dX1_copyFrom_85 : decode cX1_copyFrom 85 = .ok (.bipush 7, 2) := by decide +kernel
theorem dX1_copyFrom_87 : decode cX1_copyFrom 87 = .ok (.invokestatic 49, 3) := by decide +kernel
theorem dX1_copyFrom_90 : decode cX1_copyFrom 90 = .ok (.aload_n 1, 1) := by decide +kernel
theorem dX1_copyFrom_91 : decode cX1_copyFrom 91 = .ok (.getfield 30, 3) := by decide +kernel
theorem dX1_copyFrom_94 : decode cX1_copyFrom 94 = .ok (.iconst 0, 1) := by decide +kernel
theorem dX1_copyFrom_95 : decode cX1_copyFrom 95 = .ok (.aload_n 0, 1) := by decide +kernel
theorem dX1_copyFrom_96 : decode cX1_copyFrom 96 = .ok (.getfield 30, 3) := by decide +kernel
theorem dX1_copyFrom_99 : decode cX1_copyFrom 99 = .ok (.iconst 0, 1) := by decide +kernel
theorem dX1_copyFrom_100 : decode cX1_copyFrom 100 = .ok (.iconst 5, 1) := by decide +kernel
theorem dX1_copyFrom_101 : decode cX1_copyFrom 101 = .ok (.invokestatic 49, 3) := by decide +kernel
theorem dX1_copyFrom_104 : decode cX1_copyFrom 104 = .ok (.aload_n 1, 1) := by decide +kernel
theorem dX1_copyFrom_105 : decode cX1_copyFrom 105 = .ok (.getfield 33, 3) := by decide +kernel
theorem dX1_copyFrom_108 : decode cX1_copyFrom 108 = .ok (.iconst 0, 1) := by decide +kernel
theorem dX1_copyFrom_109 : decode cX1_copyFrom 109 = .ok (.aload_n 0, 1) := by decide +kernel
theorem dX1_copyFrom_110 : decode cX1_copyFrom 110 = .ok (.getfield 33, 3) := by decide +kernel
theorem dX1_copyFrom_113 : decode cX1_copyFrom 113 = .ok (.iconst 0, 1) := by decide +kernel
theorem dX1_copyFrom_114 : decode cX1_copyFrom 114 = .ok (.iconst 5, 1) := by decide +kernel
theorem dX1_copyFrom_115 : decode cX1_copyFrom 115 = .ok (.invokestatic 49, 3) := by decide +kernel
theorem dX1_copyFrom_118 : decode cX1_copyFrom 118 = .ok (.aload_n 0, 1) := by decide +kernel
theorem dX1_copyFrom_119 : decode cX1_copyFrom 119 = .ok (.aload_n 1, 1) := by decide +kernel
theorem dX1_copyFrom_120 : decode cX1_copyFrom 120 = .ok (.getfield 36, 3) := by decide +kernel
theorem dX1_copyFrom_123 : decode cX1_copyFrom 123 = .ok (.putfield 36, 3) := by decide +kernel
theorem dX1_copyFrom_126 : decode cX1_copyFrom 126 = .ok (.aload_n 0, 1) := by decide +kernel
theorem dX1_copyFrom_127 : decode cX1_copyFrom 127 = .ok (.aload_n 1, 1) := by decide +kernel
theorem dX1_copyFrom_128 : decode cX1_copyFrom 128 = .ok (.getfield 40, 3) := by decide +kernel
theorem dX1_copyFrom_131 : decode cX1_copyFrom 131 = .ok (.putfield 40, 3) := by decide +kernel
theorem dX1_copyFrom_134 : decode cX1_copyFrom 134 = .ok (.aload_n 0, 1) := by decide +kernel
theorem dX1_copyFrom_135 : decode cX1_copyFrom 135 = .ok (.aload_n 1, 1) := by decide +kernel
theorem dX1_copyFrom_136 : decode cX1_copyFrom 136 = .ok (.getfield 43, 3) := by decide +kernel
theorem dX1_copyFrom_139 : decode cX1_copyFrom 139 = .ok (.putfield 43, 3) := by decide +kernel
theorem dX1_copyFrom_142 : decode cX1_copyFrom 142 = .ok (.aload_n 0, 1) := by decide +kernel
theorem dX1_copyFrom_143 : decode cX1_copyFrom 143 = .ok (.aload_n 1, 1) := by decide +kernel
theorem dX1_copyFrom_144 : decode cX1_copyFrom 144 = .ok (.getfield 46, 3) := by decide +kernel
theorem dX1_copyFrom_147 : decode cX1_copyFrom 147 = .ok (.putfield 46, 3) := by decide +kernel
theorem dX1_copyFrom_150 : decode cX1_copyFrom 150 = .ok (.return_, 1) := by decide +kernel
theorem dX1_reasonAgainstCountry_0 : decode cX1_reasonAgainstCountry 0 = .ok (.aload_n 0, 1) := by decide +kernel
theorem dX1_reasonAgainstCountry_1 : decode cX1_reasonAgainstCountry 1 = .ok (.getfield 36, 3) := by decide +kernel
theorem dX1_reasonAgainstCountry_4 : decode cX1_reasonAgainstCountry 4 = .ok (.bipush 7, 2) := by decide +kernel
theorem dX1_reasonAgainstCountry_6 : decode cX1_reasonAgainstCountry 6 = .ok (.if_icmp .lt 7, 3) := by decide +kernel
theorem dX1_reasonAgainstCountry_9 : decode cX1_reasonAgainstCountry 9 = .ok (.iconst 1, 1) := by decide +kernel
theorem dX1_reasonAgainstCountry_10 : decode cX1_reasonAgainstCountry 10 = .ok (.goto 4, 3) := by decide +kernel
theorem dX1_reasonAgainstCountry_13 : decode cX1_reasonAgainstCountry 13 = .ok (.iconst 0, 1) := by decide +kernel
theorem dX1_reasonAgainstCountry_14 : decode cX1_reasonAgainstCountry 14 = .ok (.ireturn, 1) := by decide +kernel
theorem dX1_reasonAgainstBorder_0 : decode cX1_reasonAgainstBorder 0 = .ok (.iload_n 1, 1) := by decide +kernel
theorem dX1_reasonAgainstBorder_1 : decode cX1_reasonAgainstBorder 1 = .ok (.iload_n 2, 1) := by decide +kernel
theorem dX1_reasonAgainstBorder_2 : decode cX1_reasonAgainstBorder 2 = .ok (.if_icmp .ne 5, 3) := by decide +kernel
theorem dX1_reasonAgainstBorder_5 : decode cX1_reasonAgainstBorder 5 = .ok (.iconst 5, 1) := by decide +kernel
theorem dX1_reasonAgainstBorder_6 : decode cX1_reasonAgainstBorder 6 = .ok (.ireturn, 1) := by decide +kernel
theorem dX1_reasonAgainstBorder_7 : decode cX1_reasonAgainstBorder 7 = .ok (.aload_n 0, 1) := by decide +kernel
theorem dX1_reasonAgainstBorder_8 : decode cX1_reasonAgainstBorder 8 = .ok (.iload_n 1, 1) := by decide +kernel
theorem dX1_reasonAgainstBorder_9 : decode cX1_reasonAgainstBorder 9 = .ok (.iload_n 2, 1) := by decide +kernel
theorem dX1_reasonAgainstBorder_10 : decode cX1_reasonAgainstBorder 10 = .ok (.invokevirtual 55, 3) := by decide +kernel
theorem dX1_reasonAgainstBorder_13 : decode cX1_reasonAgainstBorder 13 = .ok (.ifCond .eq 6, 3) := by decide +kernel
theorem dX1_reasonAgainstBorder_16 : decode cX1_reasonAgainstBorder 16 = .ok (.bipush 6, 2) := by decide +kernel
theorem dX1_reasonAgainstBorder_18 : decode cX1_reasonAgainstBorder 18 = .ok (.ireturn, 1) := by decide +kernel
theorem dX1_reasonAgainstBorder_19 : decode cX1_reasonAgainstBorder 19 = .ok (.aload_n 0, 1) := by decide +kernel
theorem dX1_reasonAgainstBorder_20 : decode cX1_reasonAgainstBorder 20 = .ok (.iload_n 1, 1) := by decide +kernel
theorem dX1_reasonAgainstBorder_21 : decode cX1_reasonAgainstBorder 21 = .ok (.invokevirtual 59, 3) := by decide +kernel
theorem dX1_reasonAgainstBorder_24 : decode cX1_reasonAgainstBorder 24 = .ok (.ifCond .eq 21, 3) := by decide +kernel
theorem dX1_reasonAgainstBorder_27 : decode cX1_reasonAgainstBorder 27 = .ok (.aload_n 0, 1) := by decide +kernel
theorem dX1_reasonAgainstBorder_28 : decode cX1_reasonAgainstBorder 28 = .ok (.getfield 15, 3) := by decide +kernel
theorem dX1_reasonAgainstBorder_31 : decode cX1_reasonAgainstBorder 31 = .ok (.iload_n 1, 1) := by decide +kernel
theorem dX1_reasonAgainstBorder_32 : decode cX1_reasonAgainstBorder 32 = .ok (.iaload, 1) := by decide +kernel
theorem dX1_reasonAgainstBorder_33 : decode cX1_reasonAgainstBorder 33 = .ok (.aload_n 0, 1) := by decide +kernel
theorem dX1_reasonAgainstBorder_34 : decode cX1_reasonAgainstBorder 34 = .ok (.getfield 15, 3) := by decide +kernel
theorem dX1_reasonAgainstBorder_37 : decode cX1_reasonAgainstBorder 37 = .ok (.iload_n 2, 1) := by decide +kernel
theorem dX1_reasonAgainstBorder_38 : decode cX1_reasonAgainstBorder 38 = .ok (.iaload, 1) := by decide +kernel
theorem dX1_reasonAgainstBorder_39 : decode cX1_reasonAgainstBorder 39 = .ok (.if_icmp .ne 6, 3) := by decide +kernel
theorem dX1_reasonAgainstBorder_42 : decode cX1_reasonAgainstBorder 42 = .ok (.bipush 7, 2) := by decide +kernel
theorem dX1_reasonAgainstBorder_44 : decode cX1_reasonAgainstBorder 44 = .ok (.ireturn, 1) := by decide +kernel
theorem dX1_reasonAgainstBorder_45 : decode cX1_reasonAgainstBorder 45 = .ok (.iconst 0, 1) := by decide +kernel
theorem dX1_reasonAgainstBorder_46 : decode cX1_reasonAgainstBorder 46 = .ok (.ireturn, 1) := by decide +kernel
theorem dX1_reasonAgainstErasing_0 : decode cX1_reasonAgainstErasing 0 = .ok (.iload_n 1, 1) := by decide +kernel
theorem dX1_reasonAgainstErasing_1 : decode cX1_reasonAgainstErasing 1 = .ok (.iload_n 2, 1) := by decide +kernel
theorem dX1_reasonAgainstErasing_2 : decode cX1_reasonAgainstErasing 2 = .ok (.if_icmp .ne 5, 3) := by decide +kernel
theorem dX1_reasonAgainstErasing_5 : decode cX1_reasonAgainstErasing 5 = .ok (.iconst 5, 1) := by decide +kernel
theorem dX1_reasonAgainstErasing_6 : decode cX1_reasonAgainstErasing 6 = .ok (.ireturn, 1) := by decide +kernel
theorem dX1_reasonAgainstErasing_7 : decode cX1_reasonAgainstErasing 7 = .ok (.aload_n 0, 1) := by decide +kernel
theorem dX1_reasonAgainstErasing_8 : decode cX1_reasonAgainstErasing 8 = .ok (.iload_n 1, 1) := by decide +kernel
theorem dX1_reasonAgainstErasing_9 : decode cX1_reasonAgainstErasing 9 = .ok (.iload_n 2, 1) := by decide +kernel
theorem dX1_reasonAgainstErasing_10 : decode cX1_reasonAgainstErasing 10 = .ok (.invokevirtual 55, 3) := by decide +kernel
theorem dX1_reasonAgainstErasing_13 : decode cX1_reasonAgainstErasing 13 = .ok (.ifCond .eq 7, 3) := by decide +kernel
theorem dX1_reasonAgainstErasing_16 : decode cX1_reasonAgainstErasing 16 = .ok (.iconst 0, 1) := by decide +kernel
theorem dX1_reasonAgainstErasing_17 : decode cX1_reasonAgainstErasing 17 = .ok (.goto 5, 3) := by decide +kernel
theorem dX1_reasonAgainstErasing_20 : decode cX1_reasonAgainstErasing 20 = .ok (.bipush 6, 2) := by decide +kernel
theorem dX1_reasonAgainstErasing_22 : decode cX1_reasonAgainstErasing 22 = .ok (.ireturn, 1) := by decide +kernel
theorem dX1_reasonAgainstHues_0 : decode cX1_reasonAgainstHues 0 = .ok (.aload_n 0, 1) := by decide +kernel
theorem dX1_reasonAgainstHues_1 : decode cX1_reasonAgainstHues 1 = .ok (.iload_n 1, 1) := by decide +kernel
theorem dX1_reasonAgainstHues_2 : decode cX1_reasonAgainstHues 2 = .ok (.invokevirtual 63, 3) := by decide +kernel
theorem dX1_reasonAgainstHues_5 : decode cX1_reasonAgainstHues 5 = .ok (.iconst (-1), 1) := by decide +kernel
theorem dX1_reasonAgainstHues_6 : decode cX1_reasonAgainstHues 6 = .ok (.if_icmp .ne 7, 3) := by decide +kernel
theorem dX1_reasonAgainstHues_9 : decode cX1_reasonAgainstHues 9 = .ok (.iconst 0, 1) := by decide +kernel
theorem dX1_reasonAgainstHues_10 : decode cX1_reasonAgainstHues 10 = .ok (.goto 5, 3) := by decide +kernel
theorem dX1_reasonAgainstHues_13 : decode cX1_reasonAgainstHues 13 = .ok (.bipush 9, 2) := by decide +kernel
theorem dX1_reasonAgainstHues_15 : decode cX1_reasonAgainstHues 15 = .ok (.ireturn, 1) := by decide +kernel
theorem dX1_reasonAgainstPaint_0 : decode cX1_reasonAgainstPaint 0 = .ok (.aload_n 0, 1) := by decide +kernel
theorem dX1_reasonAgainstPaint_1 : decode cX1_reasonAgainstPaint 1 = .ok (.iload_n 1, 1) := by decide +kernel
theorem dX1_reasonAgainstPaint_2 : decode cX1_reasonAgainstPaint 2 = .ok (.invokevirtual 59, 3) := by decide +kernel
theorem dX1_reasonAgainstPaint_5 : decode cX1_reasonAgainstPaint 5 = .ok (.ifCond .eq 5, 3) := by decide +kernel
theorem dX1_reasonAgainstPaint_8 : decode cX1_reasonAgainstPaint 8 = .ok (.iconst 2, 1) := by decide +kernel
theorem dX1_reasonAgainstPaint_9 : decode cX1_reasonAgainstPaint 9 = .ok (.ireturn, 1) := by decide +kernel
theorem dX1_reasonAgainstPaint_10 : decode cX1_reasonAgainstPaint 10 = .ok (.iload_n 2, 1) := by decide +kernel
theorem dX1_reasonAgainstPaint_11 : decode cX1_reasonAgainstPaint 11 = .ok (.aload_n 0, 1) := by decide +kernel
theorem dX1_reasonAgainstPaint_12 : decode cX1_reasonAgainstPaint 12 = .ok (.getfield 40, 3) := by decide +kernel
theorem dX1_reasonAgainstPaint_15 : decode cX1_reasonAgainstPaint 15 = .ok (.if_icmp .lt 6, 3) := by decide +kernel
theorem dX1_reasonAgainstPaint_18 : decode cX1_reasonAgainstPaint 18 = .ok (.bipush 10, 2) := by decide +kernel
theorem dX1_reasonAgainstPaint_20 : decode cX1_reasonAgainstPaint 20 = .ok (.ireturn, 1) := by decide +kernel
theorem dX1_reasonAgainstPaint_21 : decode cX1_reasonAgainstPaint 21 = .ok (.aload_n 0, 1) := by decide +kernel
theorem dX1_reasonAgainstPaint_22 : decode cX1_reasonAgainstPaint 22 = .ok (.iload_n 1, 1) := by decide +kernel
theorem dX1_reasonAgainstPaint_23 : decode cX1_reasonAgainstPaint 23 = .ok (.iload_n 2, 1) := by decide +kernel
theorem dX1_reasonAgainstPaint_24 : decode cX1_reasonAgainstPaint 24 = .ok (.invokevirtual 67, 3) := by decide +kernel
theorem dX1_reasonAgainstPaint_27 : decode cX1_reasonAgainstPaint 27 = .ok (.iconst (-1), 1) := by decide +kernel
theorem dX1_reasonAgainstPaint_28 : decode cX1_reasonAgainstPaint 28 = .ok (.if_icmp .eq 5, 3) := by decide +kernel
theorem dX1_reasonAgainstPaint_31 : decode cX1_reasonAgainstPaint 31 = .ok (.iconst 3, 1) := by decide +kernel
theorem dX1_reasonAgainstPaint_32 : decode cX1_reasonAgainstPaint 32 = .ok (.ireturn, 1) := by decide +kernel
theorem dX1_reasonAgainstPaint_33 : decode cX1_reasonAgainstPaint 33 = .ok (.aload_n 0, 1) := by decide +kernel
theorem dX1_reasonAgainstPaint_34 : decode cX1_reasonAgainstPaint 34 = .ok (.getfield 30, 3) := by decide +kernel
theorem dX1_reasonAgainstPaint_37 : decode cX1_reasonAgainstPaint 37 = .ok (.iload_n 2, 1) := by decide +kernel
theorem dX1_reasonAgainstPaint_38 : decode cX1_reasonAgainstPaint 38 = .ok (.iaload, 1) := by decide +kernel
theorem dX1_reasonAgainstPaint_39 : decode cX1_reasonAgainstPaint 39 = .ok (.aload_n 0, 1) := by decide +kernel
theorem dX1_reasonAgainstPaint_40 : decode cX1_reasonAgainstPaint 40 = .ok (.getfield 9, 3) := by decide +kernel
theorem dX1_reasonAgainstPaint_43 : decode cX1_reasonAgainstPaint 43 = .ok (.iload_n 1, 1) := by decide +kernel
theorem dX1_reasonAgainstPaint_44 : decode cX1_reasonAgainstPaint 44 = .ok (.iaload, 1) := by decide +kernel
theorem dX1_reasonAgainstPaint_45 : decode cX1_reasonAgainstPaint 45 = .ok (.if_icmp .ge 7, 3) := by decide +kernel
theorem dX1_reasonAgainstPaint_48 : decode cX1_reasonAgainstPaint 48 = .ok (.iconst 4, 1) := by decide +kernel
theorem dX1_reasonAgainstPaint_49 : decode cX1_reasonAgainstPaint 49 = .ok (.goto 4, 3) := by decide +kernel
theorem dX1_reasonAgainstPaint_52 : decode cX1_reasonAgainstPaint 52 = .ok (.iconst 0, 1) := by decide +kernel
theorem dX1_reasonAgainstPaint_53 : decode cX1_reasonAgainstPaint 53 = .ok (.ireturn, 1) := by decide +kernel
theorem dX1_reasonAgainstBack_0 : decode cX1_reasonAgainstBack 0 = .ok (.aload_n 0, 1) := by decide +kernel
theorem dX1_reasonAgainstBack_1 : decode cX1_reasonAgainstBack 1 = .ok (.getfield 43, 3) := by decide +kernel
theorem dX1_reasonAgainstBack_4 : decode cX1_reasonAgainstBack 4 = .ok (.ifCond .ne 8, 3) := by decide +kernel
theorem dX1_reasonAgainstBack_7 : decode cX1_reasonAgainstBack 7 = .ok (.bipush 8, 2) := by decide +kernel
theorem dX1_reasonAgainstBack_9 : decode cX1_reasonAgainstBack 9 = .ok (.goto 4, 3) := by decide +kernel
theorem dX1_reasonAgainstBack_12 : decode cX1_reasonAgainstBack 12 = .ok (.iconst 0, 1) := by decide +kernel
theorem dX1_reasonAgainstBack_13 : decode cX1_reasonAgainstBack 13 = .ok (.ireturn, 1) := by decide +kernel
theorem dX1_detailOf_0 : decode cX1_detailOf 0 = .ok (.iload_n 1, 1) := by decide +kernel
theorem dX1_detailOf_1 : decode cX1_detailOf 1 = .ok (.tableswitch 105 1 10 #[55, 58, 65, 72, 86, 88, 90, 105, 97, 103], 55) := by decide +kernel
theorem dX1_detailOf_56 : decode cX1_detailOf 56 = .ok (.bipush 7, 2) := by decide +kernel
theorem dX1_detailOf_58 : decode cX1_detailOf 58 = .ok (.ireturn, 1) := by decide +kernel
theorem dX1_detailOf_59 : decode cX1_detailOf 59 = .ok (.aload_n 0, 1) := by decide +kernel
theorem dX1_detailOf_60 : decode cX1_detailOf 60 = .ok (.getfield 15, 3) := by decide +kernel
theorem dX1_detailOf_63 : decode cX1_detailOf 63 = .ok (.iload_n 2, 1) := by decide +kernel
theorem dX1_detailOf_64 : decode cX1_detailOf 64 = .ok (.iaload, 1) := by decide +kernel
theorem dX1_detailOf_65 : decode cX1_detailOf 65 = .ok (.ireturn, 1) := by decide +kernel
theorem dX1_detailOf_66 : decode cX1_detailOf 66 = .ok (.aload_n 0, 1) := by decide +kernel
theorem dX1_detailOf_67 : decode cX1_detailOf 67 = .ok (.iload_n 2, 1) := by decide +kernel
theorem dX1_detailOf_68 : decode cX1_detailOf 68 = .ok (.iload_n 3, 1) := by decide +kernel
theorem dX1_detailOf_69 : decode cX1_detailOf 69 = .ok (.invokevirtual 67, 3) := by decide +kernel
theorem dX1_detailOf_72 : decode cX1_detailOf 72 = .ok (.ireturn, 1) := by decide +kernel
theorem dX1_detailOf_73 : decode cX1_detailOf 73 = .ok (.aload_n 0, 1) := by decide +kernel
theorem dX1_detailOf_74 : decode cX1_detailOf 74 = .ok (.getfield 9, 3) := by decide +kernel
theorem dX1_detailOf_77 : decode cX1_detailOf 77 = .ok (.iload_n 2, 1) := by decide +kernel
theorem dX1_detailOf_78 : decode cX1_detailOf 78 = .ok (.iaload, 1) := by decide +kernel
theorem dX1_detailOf_79 : decode cX1_detailOf 79 = .ok (.aload_n 0, 1) := by decide +kernel
theorem dX1_detailOf_80 : decode cX1_detailOf 80 = .ok (.getfield 30, 3) := by decide +kernel
theorem dX1_detailOf_83 : decode cX1_detailOf 83 = .ok (.iload_n 3, 1) := by decide +kernel
theorem dX1_detailOf_84 : decode cX1_detailOf 84 = .ok (.iaload, 1) := by decide +kernel
theorem dX1_detailOf_85 : decode cX1_detailOf 85 = .ok (.isub, 1) := by decide +kernel
theorem dX1_detailOf_86 : decode cX1_detailOf 86 = .ok (.ireturn, 1) := by decide +kernel
theorem dX1_detailOf_87 : decode cX1_detailOf 87 = .ok (.iload_n 2, 1) := by decide +kernel
theorem dX1_detailOf_88 : decode cX1_detailOf 88 = .ok (.ireturn, 1) := by decide +kernel
theorem dX1_detailOf_89 : decode cX1_detailOf 89 = .ok (.iload_n 3, 1) := by decide +kernel
theorem dX1_detailOf_90 : decode cX1_detailOf 90 = .ok (.ireturn, 1) := by decide +kernel
theorem dX1_detailOf_91 : decode cX1_detailOf 91 = .ok (.aload_n 0, 1) := by decide +kernel
theorem dX1_detailOf_92 : decode cX1_detailOf 92 = .ok (.getfield 15, 3) := by decide +kernel
theorem dX1_detailOf_95 : decode cX1_detailOf 95 = .ok (.iload_n 2, 1) := by decide +kernel
theorem dX1_detailOf_96 : decode cX1_detailOf 96 = .ok (.iaload, 1) := by decide +kernel
theorem dX1_detailOf_97 : decode cX1_detailOf 97 = .ok (.ireturn, 1) := by decide +kernel
theorem dX1_detailOf_98 : decode cX1_detailOf 98 = .ok (.aload_n 0, 1) := by decide +kernel
theorem dX1_detailOf_99 : decode cX1_detailOf 99 = .ok (.iload_n 2, 1) := by decide +kernel
theorem dX1_detailOf_100 : decode cX1_detailOf 100 = .ok (.invokevirtual 63, 3) := by decide +kernel
theorem dX1_detailOf_103 : decode cX1_detailOf 103 = .ok (.ireturn, 1) := by decide +kernel
theorem dX1_detailOf_104 : decode cX1_detailOf 104 = .ok (.iload_n 3, 1) := by decide +kernel
theorem dX1_detailOf_105 : decode cX1_detailOf 105 = .ok (.ireturn, 1) := by decide +kernel
theorem dX1_detailOf_106 : decode cX1_detailOf 106 = .ok (.iconst 0, 1) := by decide +kernel
theorem dX1_detailOf_107 : decode cX1_detailOf 107 = .ok (.ireturn, 1) := by decide +kernel
theorem dX1_lowestNeighbourIn_0 : decode cX1_lowestNeighbourIn 0 = .ok (.iconst 0, 1) := by decide +kernel
theorem dX1_lowestNeighbourIn_1 : decode cX1_lowestNeighbourIn 1 = .ok (.istore_n 3, 1) := by decide +kernel
theorem dX1_lowestNeighbourIn_2 : decode cX1_lowestNeighbourIn 2 = .ok (.iload_n 3, 1) := by decide +kernel
theorem dX1_lowestNeighbourIn_3 : decode cX1_lowestNeighbourIn 3 = .ok (.aload_n 0, 1) := by decide +kernel
theorem dX1_lowestNeighbourIn_4 : decode cX1_lowestNeighbourIn 4 = .ok (.getfield 36, 3) := by decide +kernel
theorem dX1_lowestNeighbourIn_7 : decode cX1_lowestNeighbourIn 7 = .ok (.if_icmp .ge 30, 3) := by decide +kernel
theorem dX1_lowestNeighbourIn_10 : decode cX1_lowestNeighbourIn 10 = .ok (.aload_n 0, 1) := by decide +kernel
theorem dX1_lowestNeighbourIn_11 : decode cX1_lowestNeighbourIn 11 = .ok (.iload_n 1, 1) := by decide +kernel
theorem dX1_lowestNeighbourIn_12 : decode cX1_lowestNeighbourIn 12 = .ok (.iload_n 3, 1) := by decide +kernel
theorem dX1_lowestNeighbourIn_13 : decode cX1_lowestNeighbourIn 13 = .ok (.invokevirtual 55, 3) := by decide +kernel
theorem dX1_lowestNeighbourIn_16 : decode cX1_lowestNeighbourIn 16 = .ok (.ifCond .eq 15, 3) := by decide +kernel
theorem dX1_lowestNeighbourIn_19 : decode cX1_lowestNeighbourIn 19 = .ok (.aload_n 0, 1) := by decide +kernel
theorem dX1_lowestNeighbourIn_20 : decode cX1_lowestNeighbourIn 20 = .ok (.getfield 15, 3) := by decide +kernel
theorem dX1_lowestNeighbourIn_23 : decode cX1_lowestNeighbourIn 23 = .ok (.iload_n 3, 1) := by decide +kernel
theorem dX1_lowestNeighbourIn_24 : decode cX1_lowestNeighbourIn 24 = .ok (.iaload, 1) := by decide +kernel
theorem dX1_lowestNeighbourIn_25 : decode cX1_lowestNeighbourIn 25 = .ok (.iload_n 2, 1) := by decide +kernel
theorem dX1_lowestNeighbourIn_26 : decode cX1_lowestNeighbourIn 26 = .ok (.if_icmp .ne 5, 3) := by decide +kernel
theorem dX1_lowestNeighbourIn_29 : decode cX1_lowestNeighbourIn 29 = .ok (.iload_n 3, 1) := by decide +kernel
theorem dX1_lowestNeighbourIn_30 : decode cX1_lowestNeighbourIn 30 = .ok (.ireturn, 1) := by decide +kernel
theorem dX1_lowestNeighbourIn_31 : decode cX1_lowestNeighbourIn 31 = .ok (.iinc 3 1, 3) := by decide +kernel
theorem dX1_lowestNeighbourIn_34 : decode cX1_lowestNeighbourIn 34 = .ok (.goto (-32), 3) := by decide +kernel
theorem dX1_lowestNeighbourIn_37 : decode cX1_lowestNeighbourIn 37 = .ok (.iconst (-1), 1) := by decide +kernel
theorem dX1_lowestNeighbourIn_38 : decode cX1_lowestNeighbourIn 38 = .ok (.ireturn, 1) := by decide +kernel
theorem dX1_lowestPaintedBeyond_0 : decode cX1_lowestPaintedBeyond 0 = .ok (.iconst 0, 1) := by decide +kernel
theorem dX1_lowestPaintedBeyond_1 : decode cX1_lowestPaintedBeyond 1 = .ok (.istore_n 2, 1) := by decide +kernel
theorem dX1_lowestPaintedBeyond_2 : decode cX1_lowestPaintedBeyond 2 = .ok (.iload_n 2, 1) := by decide +kernel
theorem dX1_lowestPaintedBeyond_3 : decode cX1_lowestPaintedBeyond 3 = .ok (.aload_n 0, 1) := by decide +kernel
theorem dX1_lowestPaintedBeyond_4 : decode cX1_lowestPaintedBeyond 4 = .ok (.getfield 36, 3) := by decide +kernel
theorem dX1_lowestPaintedBeyond_7 : decode cX1_lowestPaintedBeyond 7 = .ok (.if_icmp .ge 21, 3) := by decide +kernel
theorem dX1_lowestPaintedBeyond_10 : decode cX1_lowestPaintedBeyond 10 = .ok (.aload_n 0, 1) := by decide +kernel
theorem dX1_lowestPaintedBeyond_11 : decode cX1_lowestPaintedBeyond 11 = .ok (.getfield 15, 3) := by decide +kernel
theorem dX1_lowestPaintedBeyond_14 : decode cX1_lowestPaintedBeyond 14 = .ok (.iload_n 2, 1) := by decide +kernel
theorem dX1_lowestPaintedBeyond_15 : decode cX1_lowestPaintedBeyond 15 = .ok (.iaload, 1) := by decide +kernel
theorem dX1_lowestPaintedBeyond_16 : decode cX1_lowestPaintedBeyond 16 = .ok (.iload_n 1, 1) := by decide +kernel
theorem dX1_lowestPaintedBeyond_17 : decode cX1_lowestPaintedBeyond 17 = .ok (.if_icmp .lt 5, 3) := by decide +kernel
theorem dX1_lowestPaintedBeyond_20 : decode cX1_lowestPaintedBeyond 20 = .ok (.iload_n 2, 1) := by decide +kernel
theorem dX1_lowestPaintedBeyond_21 : decode cX1_lowestPaintedBeyond 21 = .ok (.ireturn, 1) := by decide +kernel
theorem dX1_lowestPaintedBeyond_22 : decode cX1_lowestPaintedBeyond 22 = .ok (.iinc 2 1, 3) := by decide +kernel
theorem dX1_lowestPaintedBeyond_25 : decode cX1_lowestPaintedBeyond 25 = .ok (.goto (-23), 3) := by decide +kernel
theorem dX1_lowestPaintedBeyond_28 : decode cX1_lowestPaintedBeyond 28 = .ok (.iconst (-1), 1) := by decide +kernel
theorem dX1_lowestPaintedBeyond_29 : decode cX1_lowestPaintedBeyond 29 = .ok (.ireturn, 1) := by decide +kernel
theorem dX1_addCountry_0 : decode cX1_addCountry 0 = .ok (.aload_n 0, 1) := by decide +kernel
theorem dX1_addCountry_1 : decode cX1_addCountry 1 = .ok (.getfield 36, 3) := by decide +kernel
theorem dX1_addCountry_4 : decode cX1_addCountry 4 = .ok (.istore_n 2, 1) := by decide +kernel
theorem dX1_addCountry_5 : decode cX1_addCountry 5 = .ok (.iload_n 2, 1) := by decide +kernel
theorem dX1_addCountry_6 : decode cX1_addCountry 6 = .ok (.bipush 7, 2) := by decide +kernel
theorem dX1_addCountry_8 : decode cX1_addCountry 8 = .ok (.if_icmp .ge 48, 3) := by decide +kernel
theorem dX1_addCountry_11 : decode cX1_addCountry 11 = .ok (.aload_n 0, 1) := by decide +kernel
theorem dX1_addCountry_12 : decode cX1_addCountry 12 = .ok (.getfield 9, 3) := by decide +kernel
theorem dX1_addCountry_15 : decode cX1_addCountry 15 = .ok (.iload_n 2, 1) := by decide +kernel
theorem dX1_addCountry_16 : decode cX1_addCountry 16 = .ok (.iload_n 1, 1) := by decide +kernel
theorem dX1_addCountry_17 : decode cX1_addCountry 17 = .ok (.iastore, 1) := by decide +kernel
theorem dX1_addCountry_18 : decode cX1_addCountry 18 = .ok (.aload_n 0, 1) := by decide +kernel
theorem dX1_addCountry_19 : decode cX1_addCountry 19 = .ok (.getfield 15, 3) := by decide +kernel
theorem dX1_addCountry_22 : decode cX1_addCountry 22 = .ok (.iload_n 2, 1) := by decide +kernel
theorem dX1_addCountry_23 : decode cX1_addCountry 23 = .ok (.iconst (-1), 1) := by decide +kernel
theorem dX1_addCountry_24 : decode cX1_addCountry 24 = .ok (.iastore, 1) := by decide +kernel
theorem dX1_addCountry_25 : decode cX1_addCountry 25 = .ok (.aload_n 0, 1) := by decide +kernel
theorem dX1_addCountry_26 : decode cX1_addCountry 26 = .ok (.getfield 18, 3) := by decide +kernel
theorem dX1_addCountry_29 : decode cX1_addCountry 29 = .ok (.iload_n 2, 1) := by decide +kernel
theorem dX1_addCountry_30 : decode cX1_addCountry 30 = .ok (.iconst (-1), 1) := by decide +kernel
theorem dX1_addCountry_31 : decode cX1_addCountry 31 = .ok (.iastore, 1) := by decide +kernel
theorem dX1_addCountry_32 : decode cX1_addCountry 32 = .ok (.aload_n 0, 1) := by decide +kernel
theorem dX1_addCountry_33 : decode cX1_addCountry 33 = .ok (.getfield 21, 3) := by decide +kernel
theorem dX1_addCountry_36 : decode cX1_addCountry 36 = .ok (.iload_n 2, 1) := by decide +kernel
theorem dX1_addCountry_37 : decode cX1_addCountry 37 = .ok (.iconst 0, 1) := by decide +kernel
theorem dX1_addCountry_38 : decode cX1_addCountry 38 = .ok (.iastore, 1) := by decide +kernel
theorem dX1_addCountry_39 : decode cX1_addCountry 39 = .ok (.aload_n 0, 1) := by decide +kernel
theorem dX1_addCountry_40 : decode cX1_addCountry 40 = .ok (.getfield 24, 3) := by decide +kernel
theorem dX1_addCountry_43 : decode cX1_addCountry 43 = .ok (.iload_n 2, 1) := by decide +kernel
theorem dX1_addCountry_44 : decode cX1_addCountry 44 = .ok (.iconst 0, 1) := by decide +kernel
theorem dX1_addCountry_45 : decode cX1_addCountry 45 = .ok (.iastore, 1) := by decide +kernel
theorem dX1_addCountry_46 : decode cX1_addCountry 46 = .ok (.aload_n 0, 1) := by decide +kernel
theorem dX1_addCountry_47 : decode cX1_addCountry 47 = .ok (.dup, 1) := by decide +kernel
theorem dX1_addCountry_48 : decode cX1_addCountry 48 = .ok (.getfield 36, 3) := by decide +kernel
theorem dX1_addCountry_51 : decode cX1_addCountry 51 = .ok (.iconst 1, 1) := by decide +kernel
theorem dX1_addCountry_52 : decode cX1_addCountry 52 = .ok (.iadd, 1) := by decide +kernel
theorem dX1_addCountry_53 : decode cX1_addCountry 53 = .ok (.putfield 36, 3) := by decide +kernel
theorem dX1_addCountry_56 : decode cX1_addCountry 56 = .ok (.iload_n 2, 1) := by decide +kernel
theorem dX1_addCountry_57 : decode cX1_addCountry 57 = .ok (.ireturn, 1) := by decide +kernel
theorem dX1_join_0 : decode cX1_join 0 = .ok (.aload_n 0, 1) := by decide +kernel
theorem dX1_join_1 : decode cX1_join 1 = .ok (.getfield 24, 3) := by decide +kernel
theorem dX1_join_4 : decode cX1_join 4 = .ok (.iload_n 1, 1) := by decide +kernel
theorem dX1_join_5 : decode cX1_join 5 = .ok (.dup2, 1) := by decide +kernel
theorem dX1_join_6 : decode cX1_join 6 = .ok (.iaload, 1) := by decide +kernel
theorem dX1_join_7 : decode cX1_join 7 = .ok (.iconst 1, 1) := by decide +kernel
theorem dX1_join_8 : decode cX1_join 8 = .ok (.iload_n 2, 1) := by decide +kernel
theorem dX1_join_9 : decode cX1_join 9 = .ok (.ishl, 1) := by decide +kernel
theorem dX1_join_10 : decode cX1_join 10 = .ok (.ior, 1) := by decide +kernel
theorem dX1_join_11 : decode cX1_join 11 = .ok (.iastore, 1) := by decide +kernel
theorem dX1_join_12 : decode cX1_join 12 = .ok (.aload_n 0, 1) := by decide +kernel
theorem dX1_join_13 : decode cX1_join 13 = .ok (.getfield 24, 3) := by decide +kernel
theorem dX1_join_16 : decode cX1_join 16 = .ok (.iload_n 2, 1) := by decide +kernel
theorem dX1_join_17 : decode cX1_join 17 = .ok (.dup2, 1) := by decide +kernel
theorem dX1_join_18 : decode cX1_join 18 = .ok (.iaload, 1) := by decide +kernel
theorem dX1_join_19 : decode cX1_join 19 = .ok (.iconst 1, 1) := by decide +kernel
theorem dX1_join_20 : decode cX1_join 20 = .ok (.iload_n 1, 1) := by decide +kernel
theorem dX1_join_21 : decode cX1_join 21 = .ok (.ishl, 1) := by decide +kernel
theorem dX1_join_22 : decode cX1_join 22 = .ok (.ior, 1) := by decide +kernel
theorem dX1_join_23 : decode cX1_join 23 = .ok (.iastore, 1) := by decide +kernel
theorem dX1_join_24 : decode cX1_join 24 = .ok (.return_, 1) := by decide +kernel
theorem dX1_part_0 : decode cX1_part 0 = .ok (.aload_n 0, 1) := by decide +kernel
theorem dX1_part_1 : decode cX1_part 1 = .ok (.getfield 24, 3) := by decide +kernel
theorem dX1_part_4 : decode cX1_part 4 = .ok (.iload_n 1, 1) := by decide +kernel
theorem dX1_part_5 : decode cX1_part 5 = .ok (.dup2, 1) := by decide +kernel
theorem dX1_part_6 : decode cX1_part 6 = .ok (.iaload, 1) := by decide +kernel
theorem dX1_part_7 : decode cX1_part 7 = .ok (.iconst 1, 1) := by decide +kernel
theorem dX1_part_8 : decode cX1_part 8 = .ok (.iload_n 2, 1) := by decide +kernel
theorem dX1_part_9 : decode cX1_part 9 = .ok (.ishl, 1) := by decide +kernel
theorem dX1_part_10 : decode cX1_part 10 = .ok (.iconst (-1), 1) := by decide +kernel
theorem dX1_part_11 : decode cX1_part 11 = .ok (.ixor, 1) := by decide +kernel
theorem dX1_part_12 : decode cX1_part 12 = .ok (.iand, 1) := by decide +kernel
theorem dX1_part_13 : decode cX1_part 13 = .ok (.iastore, 1) := by decide +kernel
theorem dX1_part_14 : decode cX1_part 14 = .ok (.aload_n 0, 1) := by decide +kernel
theorem dX1_part_15 : decode cX1_part 15 = .ok (.getfield 24, 3) := by decide +kernel
theorem dX1_part_18 : decode cX1_part 18 = .ok (.iload_n 2, 1) := by decide +kernel
theorem dX1_part_19 : decode cX1_part 19 = .ok (.dup2, 1) := by decide +kernel
theorem dX1_part_20 : decode cX1_part 20 = .ok (.iaload, 1) := by decide +kernel
theorem dX1_part_21 : decode cX1_part 21 = .ok (.iconst 1, 1) := by decide +kernel
theorem dX1_part_22 : decode cX1_part 22 = .ok (.iload_n 1, 1) := by decide +kernel
theorem dX1_part_23 : decode cX1_part 23 = .ok (.ishl, 1) := by decide +kernel
theorem dX1_part_24 : decode cX1_part 24 = .ok (.iconst (-1), 1) := by decide +kernel
theorem dX1_part_25 : decode cX1_part 25 = .ok (.ixor, 1) := by decide +kernel
theorem dX1_part_26 : decode cX1_part 26 = .ok (.iand, 1) := by decide +kernel
theorem dX1_part_27 : decode cX1_part 27 = .ok (.iastore, 1) := by decide +kernel
theorem dX1_part_28 : decode cX1_part 28 = .ok (.return_, 1) := by decide +kernel
theorem dX1_bring_0 : decode cX1_bring 0 = .ok (.aload_n 0, 1) := by decide +kernel
theorem dX1_bring_1 : decode cX1_bring 1 = .ok (.getfield 30, 3) := by decide +kernel
theorem dX1_bring_4 : decode cX1_bring 4 = .ok (.iload_n 1, 1) := by decide +kernel
theorem dX1_bring_5 : decode cX1_bring 5 = .ok (.bipush 99, 2) := by decide +kernel
theorem dX1_bring_7 : decode cX1_bring 7 = .ok (.aload_n 0, 1) := by decide +kernel
theorem dX1_bring_8 : decode cX1_bring 8 = .ok (.getfield 30, 3) := by decide +kernel
theorem dX1_bring_11 : decode cX1_bring 11 = .ok (.iload_n 1, 1) := by decide +kernel
theorem dX1_bring_12 : decode cX1_bring 12 = .ok (.iaload, 1) := by decide +kernel
theorem dX1_bring_13 : decode cX1_bring 13 = .ok (.iload_n 2, 1) := by decide +kernel
theorem dX1_bring_14 : decode cX1_bring 14 = .ok (.iadd, 1) := by decide +kernel
theorem dX1_bring_15 : decode cX1_bring 15 = .ok (.invokestatic 71, 3) := by decide +kernel
theorem dX1_bring_18 : decode cX1_bring 18 = .ok (.iastore, 1) := by decide +kernel
theorem dX1_bring_19 : decode cX1_bring 19 = .ok (.return_, 1) := by decide +kernel
theorem dX1_setWish_0 : decode cX1_setWish 0 = .ok (.aload_n 0, 1) := by decide +kernel
theorem dX1_setWish_1 : decode cX1_setWish 1 = .ok (.getfield 18, 3) := by decide +kernel
theorem dX1_setWish_4 : decode cX1_setWish 4 = .ok (.iload_n 1, 1) := by decide +kernel
theorem dX1_setWish_5 : decode cX1_setWish 5 = .ok (.iload_n 2, 1) := by decide +kernel
theorem dX1_setWish_6 : decode cX1_setWish 6 = .ok (.iastore, 1) := by decide +kernel
theorem dX1_setWish_7 : decode cX1_setWish 7 = .ok (.aload_n 0, 1) := by decide +kernel
theorem dX1_setWish_8 : decode cX1_setWish 8 = .ok (.getfield 21, 3) := by decide +kernel
theorem dX1_setWish_11 : decode cX1_setWish 11 = .ok (.iload_n 1, 1) := by decide +kernel
theorem dX1_setWish_12 : decode cX1_setWish 12 = .ok (.iload_n 3, 1) := by decide +kernel
theorem dX1_setWish_13 : decode cX1_setWish 13 = .ok (.iastore, 1) := by decide +kernel
theorem dX1_setWish_14 : decode cX1_setWish 14 = .ok (.return_, 1) := by decide +kernel
theorem dX1_cover_0 : decode cX1_cover 0 = .ok (.aload_n 0, 1) := by decide +kernel
theorem dX1_cover_1 : decode cX1_cover 1 = .ok (.getfield 43, 3) := by decide +kernel
theorem dX1_cover_4 : decode cX1_cover 4 = .ok (.bipush 7, 2) := by decide +kernel
theorem dX1_cover_6 : decode cX1_cover 6 = .ok (.if_icmp .ge 60, 3) := by decide +kernel
theorem dX1_cover_9 : decode cX1_cover 9 = .ok (.aload_n 0, 1) := by decide +kernel
theorem dX1_cover_10 : decode cX1_cover 10 = .ok (.getfield 15, 3) := by decide +kernel
theorem dX1_cover_13 : decode cX1_cover 13 = .ok (.iload_n 1, 1) := by decide +kernel
theorem dX1_cover_14 : decode cX1_cover 14 = .ok (.iload_n 2, 1) := by decide +kernel
theorem dX1_cover_15 : decode cX1_cover 15 = .ok (.iastore, 1) := by decide +kernel
theorem dX1_cover_16 : decode cX1_cover 16 = .ok (.aload_n 0, 1) := by decide +kernel
theorem dX1_cover_17 : decode cX1_cover 17 = .ok (.getfield 30, 3) := by decide +kernel
theorem dX1_cover_20 : decode cX1_cover 20 = .ok (.iload_n 2, 1) := by decide +kernel
theorem dX1_cover_21 : decode cX1_cover 21 = .ok (.dup2, 1) := by decide +kernel
theorem dX1_cover_22 : decode cX1_cover 22 = .ok (.iaload, 1) := by decide +kernel
theorem dX1_cover_23 : decode cX1_cover 23 = .ok (.aload_n 0, 1) := by decide +kernel
theorem dX1_cover_24 : decode cX1_cover 24 = .ok (.getfield 9, 3) := by decide +kernel
theorem dX1_cover_27 : decode cX1_cover 27 = .ok (.iload_n 1, 1) := by decide +kernel
theorem dX1_cover_28 : decode cX1_cover 28 = .ok (.iaload, 1) := by decide +kernel
theorem dX1_cover_29 : decode cX1_cover 29 = .ok (.isub, 1) := by decide +kernel
theorem dX1_cover_30 : decode cX1_cover 30 = .ok (.iastore, 1) := by decide +kernel
theorem dX1_cover_31 : decode cX1_cover 31 = .ok (.aload_n 0, 1) := by decide +kernel
theorem dX1_cover_32 : decode cX1_cover 32 = .ok (.getfield 33, 3) := by decide +kernel
theorem dX1_cover_35 : decode cX1_cover 35 = .ok (.iload_n 2, 1) := by decide +kernel
theorem dX1_cover_36 : decode cX1_cover 36 = .ok (.dup2, 1) := by decide +kernel
theorem dX1_cover_37 : decode cX1_cover 37 = .ok (.iaload, 1) := by decide +kernel
theorem dX1_cover_38 : decode cX1_cover 38 = .ok (.aload_n 0, 1) := by decide +kernel
theorem dX1_cover_39 : decode cX1_cover 39 = .ok (.getfield 9, 3) := by decide +kernel
theorem dX1_cover_42 : decode cX1_cover 42 = .ok (.iload_n 1, 1) := by decide +kernel
theorem dX1_cover_43 : decode cX1_cover 43 = .ok (.iaload, 1) := by decide +kernel
theorem dX1_cover_44 : decode cX1_cover 44 = .ok (.iadd, 1) := by decide +kernel
theorem dX1_cover_45 : decode cX1_cover 45 = .ok (.iastore, 1) := by decide +kernel
theorem dX1_cover_46 : decode cX1_cover 46 = .ok (.aload_n 0, 1) := by decide +kernel
theorem dX1_cover_47 : decode cX1_cover 47 = .ok (.getfield 27, 3) := by decide +kernel
theorem dX1_cover_50 : decode cX1_cover 50 = .ok (.aload_n 0, 1) := by decide +kernel
theorem dX1_cover_51 : decode cX1_cover 51 = .ok (.getfield 43, 3) := by decide +kernel
theorem dX1_cover_54 : decode cX1_cover 54 = .ok (.iload_n 1, 1) := by decide +kernel
theorem dX1_cover_55 : decode cX1_cover 55 = .ok (.iastore, 1) := by decide +kernel
theorem dX1_cover_56 : decode cX1_cover 56 = .ok (.aload_n 0, 1) := by decide +kernel
theorem dX1_cover_57 : decode cX1_cover 57 = .ok (.dup, 1) := by decide +kernel
theorem dX1_cover_58 : decode cX1_cover 58 = .ok (.getfield 43, 3) := by decide +kernel
theorem dX1_cover_61 : decode cX1_cover 61 = .ok (.iconst 1, 1) := by decide +kernel
theorem dX1_cover_62 : decode cX1_cover 62 = .ok (.iadd, 1) := by decide +kernel
theorem dX1_cover_63 : decode cX1_cover 63 = .ok (.putfield 43, 3) := by decide +kernel
theorem dX1_cover_66 : decode cX1_cover 66 = .ok (.return_, 1) := by decide +kernel
theorem dX1_stepBack_0 : decode cX1_stepBack 0 = .ok (.aload_n 0, 1) := by decide +kernel
theorem dX1_stepBack_1 : decode cX1_stepBack 1 = .ok (.getfield 43, 3) := by decide +kernel
theorem dX1_stepBack_4 : decode cX1_stepBack 4 = .ok (.ifCond .le 12, 3) := by decide +kernel
theorem dX1_stepBack_7 : decode cX1_stepBack 7 = .ok (.aload_n 0, 1) := by decide +kernel
theorem dX1_stepBack_8 : decode cX1_stepBack 8 = .ok (.getfield 43, 3) := by decide +kernel
theorem dX1_stepBack_11 : decode cX1_stepBack 11 = .ok (.bipush 7, 2) := by decide +kernel
theorem dX1_stepBack_13 : decode cX1_stepBack 13 = .ok (.if_icmp .le 5, 3) := by decide +kernel
theorem dX1_stepBack_16 : decode cX1_stepBack 16 = .ok (.iconst (-1), 1) := by decide +kernel
theorem dX1_stepBack_17 : decode cX1_stepBack 17 = .ok (.ireturn, 1) := by decide +kernel
theorem dX1_stepBack_18 : decode cX1_stepBack 18 = .ok (.aload_n 0, 1) := by decide +kernel
theorem dX1_stepBack_19 : decode cX1_stepBack 19 = .ok (.dup, 1) := by decide +kernel
theorem dX1_stepBack_20 : decode cX1_stepBack 20 = .ok (.getfield 43, 3) := by decide +kernel
theorem dX1_stepBack_23 : decode cX1_stepBack 23 = .ok (.iconst 1, 1) := by decide +kernel
theorem dX1_stepBack_24 : decode cX1_stepBack 24 = .ok (.isub, 1) := by decide +kernel
theorem dX1_stepBack_25 : decode cX1_stepBack 25 = .ok (.putfield 43, 3) := by decide +kernel
theorem dX1_stepBack_28 : decode cX1_stepBack 28 = .ok (.aload_n 0, 1) := by decide +kernel
theorem dX1_stepBack_29 : decode cX1_stepBack 29 = .ok (.getfield 27, 3) := by decide +kernel
theorem dX1_stepBack_32 : decode cX1_stepBack 32 = .ok (.aload_n 0, 1) := by decide +kernel
theorem dX1_stepBack_33 : decode cX1_stepBack 33 = .ok (.getfield 43, 3) := by decide +kernel
theorem dX1_stepBack_36 : decode cX1_stepBack 36 = .ok (.iaload, 1) := by decide +kernel
theorem dX1_stepBack_37 : decode cX1_stepBack 37 = .ok (.istore_n 1, 1) := by decide +kernel
theorem dX1_stepBack_38 : decode cX1_stepBack 38 = .ok (.aload_n 0, 1) := by decide +kernel
theorem dX1_stepBack_39 : decode cX1_stepBack 39 = .ok (.iload_n 1, 1) := by decide +kernel
theorem dX1_stepBack_40 : decode cX1_stepBack 40 = .ok (.invokevirtual 76, 3) := by decide +kernel
theorem dX1_stepBack_43 : decode cX1_stepBack 43 = .ok (.ifCond .eq 20, 3) := by decide +kernel
theorem dX1_stepBack_46 : decode cX1_stepBack 46 = .ok (.aload_n 0, 1) := by decide +kernel
theorem dX1_stepBack_47 : decode cX1_stepBack 47 = .ok (.getfield 15, 3) := by decide +kernel
theorem dX1_stepBack_50 : decode cX1_stepBack 50 = .ok (.iload_n 1, 1) := by decide +kernel
theorem dX1_stepBack_51 : decode cX1_stepBack 51 = .ok (.iconst (-1), 1) := by decide +kernel
theorem dX1_stepBack_52 : decode cX1_stepBack 52 = .ok (.iastore, 1) := by decide +kernel
theorem dX1_stepBack_53 : decode cX1_stepBack 53 = .ok (.aload_n 0, 1) := by decide +kernel
theorem dX1_stepBack_54 : decode cX1_stepBack 54 = .ok (.dup, 1) := by decide +kernel
theorem dX1_stepBack_55 : decode cX1_stepBack 55 = .ok (.getfield 46, 3) := by decide +kernel
theorem dX1_stepBack_58 : decode cX1_stepBack 58 = .ok (.iconst 1, 1) := by decide +kernel
theorem dX1_stepBack_59 : decode cX1_stepBack 59 = .ok (.iadd, 1) := by decide +kernel
theorem dX1_stepBack_60 : decode cX1_stepBack 60 = .ok (.putfield 46, 3) := by decide +kernel
theorem dX1_stepBack_63 : decode cX1_stepBack 63 = .ok (.iload_n 1, 1) := by decide +kernel
theorem dX1_stepBack_64 : decode cX1_stepBack 64 = .ok (.ireturn, 1) := by decide +kernel
theorem dX1_fillIn_0 : decode cX1_fillIn 0 = .ok (.iconst 0, 1) := by decide +kernel
theorem dX1_fillIn_1 : decode cX1_fillIn 1 = .ok (.istore_n 1, 1) := by decide +kernel
theorem dX1_fillIn_2 : decode cX1_fillIn 2 = .ok (.iload_n 1, 1) := by decide +kernel
theorem dX1_fillIn_3 : decode cX1_fillIn 3 = .ok (.bipush 7, 2) := by decide +kernel
theorem dX1_fillIn_5 : decode cX1_fillIn 5 = .ok (.if_icmp .ge 35, 3) := by decide +kernel
theorem dX1_fillIn_8 : decode cX1_fillIn 8 = .ok (.aload_n 0, 1) := by decide +kernel
theorem dX1_fillIn_9 : decode cX1_fillIn 9 = .ok (.invokevirtual 79, 3) := by decide +kernel
theorem dX1_fillIn_12 : decode cX1_fillIn 12 = .ok (.istore_n 2, 1) := by decide +kernel
theorem dX1_fillIn_13 : decode cX1_fillIn 13 = .ok (.iload_n 2, 1) := by decide +kernel
theorem dX1_fillIn_14 : decode cX1_fillIn 14 = .ok (.iconst (-1), 1) := by decide +kernel
theorem dX1_fillIn_15 : decode cX1_fillIn 15 = .ok (.if_icmp .ne 6, 3) := by decide +kernel
theorem dX1_fillIn_18 : decode cX1_fillIn 18 = .ok (.goto 22, 3) := by decide +kernel
theorem dX1_fillIn_21 : decode cX1_fillIn 21 = .ok (.aload_n 0, 1) := by decide +kernel
theorem dX1_fillIn_22 : decode cX1_fillIn 22 = .ok (.iload_n 2, 1) := by decide +kernel
theorem dX1_fillIn_23 : decode cX1_fillIn 23 = .ok (.aload_n 0, 1) := by decide +kernel
theorem dX1_fillIn_24 : decode cX1_fillIn 24 = .ok (.iload_n 2, 1) := by decide +kernel
theorem dX1_fillIn_25 : decode cX1_fillIn 25 = .ok (.invokevirtual 83, 3) := by decide +kernel
theorem dX1_fillIn_28 : decode cX1_fillIn 28 = .ok (.invokestatic 86, 3) := by decide +kernel
theorem dX1_fillIn_31 : decode cX1_fillIn 31 = .ok (.invokevirtual 89, 3) := by decide +kernel
theorem dX1_fillIn_34 : decode cX1_fillIn 34 = .ok (.iinc 1 1, 3) := by decide +kernel
theorem dX1_fillIn_37 : decode cX1_fillIn 37 = .ok (.goto (-35), 3) := by decide +kernel
theorem dX1_fillIn_40 : decode cX1_fillIn 40 = .ok (.iload_n 1, 1) := by decide +kernel
theorem dX1_fillIn_41 : decode cX1_fillIn 41 = .ok (.ireturn, 1) := by decide +kernel
theorem dX1_isCountry_0 : decode cX1_isCountry 0 = .ok (.iload_n 1, 1) := by decide +kernel
theorem dX1_isCountry_1 : decode cX1_isCountry 1 = .ok (.ifCond .lt 15, 3) := by decide +kernel
theorem dX1_isCountry_4 : decode cX1_isCountry 4 = .ok (.iload_n 1, 1) := by decide +kernel
theorem dX1_isCountry_5 : decode cX1_isCountry 5 = .ok (.aload_n 0, 1) := by decide +kernel
theorem dX1_isCountry_6 : decode cX1_isCountry 6 = .ok (.getfield 36, 3) := by decide +kernel
theorem dX1_isCountry_9 : decode cX1_isCountry 9 = .ok (.if_icmp .ge 7, 3) := by decide +kernel
theorem dX1_isCountry_12 : decode cX1_isCountry 12 = .ok (.iconst 1, 1) := by decide +kernel
theorem dX1_isCountry_13 : decode cX1_isCountry 13 = .ok (.goto 4, 3) := by decide +kernel
theorem dX1_isCountry_16 : decode cX1_isCountry 16 = .ok (.iconst 0, 1) := by decide +kernel
theorem dX1_isCountry_17 : decode cX1_isCountry 17 = .ok (.ireturn, 1) := by decide +kernel
theorem dX1_isPainted_0 : decode cX1_isPainted 0 = .ok (.aload_n 0, 1) := by decide +kernel
theorem dX1_isPainted_1 : decode cX1_isPainted 1 = .ok (.getfield 15, 3) := by decide +kernel
theorem dX1_isPainted_4 : decode cX1_isPainted 4 = .ok (.iload_n 1, 1) := by decide +kernel
theorem dX1_isPainted_5 : decode cX1_isPainted 5 = .ok (.iaload, 1) := by decide +kernel
theorem dX1_isPainted_6 : decode cX1_isPainted 6 = .ok (.iconst (-1), 1) := by decide +kernel
theorem dX1_isPainted_7 : decode cX1_isPainted 7 = .ok (.if_icmp .eq 7, 3) := by decide +kernel
theorem dX1_isPainted_10 : decode cX1_isPainted 10 = .ok (.iconst 1, 1) := by decide +kernel
theorem dX1_isPainted_11 : decode cX1_isPainted 11 = .ok (.goto 4, 3) := by decide +kernel
theorem dX1_isPainted_14 : decode cX1_isPainted 14 = .ok (.iconst 0, 1) := by decide +kernel
theorem dX1_isPainted_15 : decode cX1_isPainted 15 = .ok (.ireturn, 1) := by decide +kernel
theorem dX1_areNeighbours_0 : decode cX1_areNeighbours 0 = .ok (.aload_n 0, 1) := by decide +kernel
theorem dX1_areNeighbours_1 : decode cX1_areNeighbours 1 = .ok (.getfield 24, 3) := by decide +kernel
theorem dX1_areNeighbours_4 : decode cX1_areNeighbours 4 = .ok (.iload_n 1, 1) := by decide +kernel
theorem dX1_areNeighbours_5 : decode cX1_areNeighbours 5 = .ok (.iaload, 1) := by decide +kernel
theorem dX1_areNeighbours_6 : decode cX1_areNeighbours 6 = .ok (.iload_n 2, 1) := by decide +kernel
theorem dX1_areNeighbours_7 : decode cX1_areNeighbours 7 = .ok (.ishr, 1) := by decide +kernel
theorem dX1_areNeighbours_8 : decode cX1_areNeighbours 8 = .ok (.iconst 1, 1) := by decide +kernel
theorem dX1_areNeighbours_9 : decode cX1_areNeighbours 9 = .ok (.iand, 1) := by decide +kernel
theorem dX1_areNeighbours_10 : decode cX1_areNeighbours 10 = .ok (.ifCond .eq 7, 3) := by decide +kernel
theorem dX1_areNeighbours_13 : decode cX1_areNeighbours 13 = .ok (.iconst 1, 1) := by decide +kernel
theorem dX1_areNeighbours_14 : decode cX1_areNeighbours 14 = .ok (.goto 4, 3) := by decide +kernel
theorem dX1_areNeighbours_17 : decode cX1_areNeighbours 17 = .ok (.iconst 0, 1) := by decide +kernel
theorem dX1_areNeighbours_18 : decode cX1_areNeighbours 18 = .ok (.ireturn, 1) := by decide +kernel
theorem dX1_freeHues_0 : decode cX1_freeHues 0 = .ok (.aload_n 0, 1) := by decide +kernel
theorem dX1_freeHues_1 : decode cX1_freeHues 1 = .ok (.getfield 15, 3) := by decide +kernel
theorem dX1_freeHues_4 : decode cX1_freeHues 4 = .ok (.iload_n 1, 1) := by decide +kernel
theorem dX1_freeHues_5 : decode cX1_freeHues 5 = .ok (.iaload, 1) := by decide +kernel
theorem dX1_freeHues_6 : decode cX1_freeHues 6 = .ok (.iconst (-1), 1) := by decide +kernel
theorem dX1_freeHues_7 : decode cX1_freeHues 7 = .ok (.if_icmp .eq 5, 3) := by decide +kernel
theorem dX1_freeHues_10 : decode cX1_freeHues 10 = .ok (.iconst 0, 1) := by decide +kernel
theorem dX1_freeHues_11 : decode cX1_freeHues 11 = .ok (.ireturn, 1) := by decide +kernel
theorem dX1_freeHues_12 : decode cX1_freeHues 12 = .ok (.aload_n 0, 1) := by decide +kernel
theorem dX1_freeHues_13 : decode cX1_freeHues 13 = .ok (.iload_n 1, 1) := by decide +kernel
theorem dX1_freeHues_14 : decode cX1_freeHues 14 = .ok (.invokevirtual 93, 3) := by decide +kernel
theorem dX1_freeHues_17 : decode cX1_freeHues 17 = .ok (.istore_n 2, 1) := by decide +kernel
theorem dX1_freeHues_18 : decode cX1_freeHues 18 = .ok (.iconst 0, 1) := by decide +kernel
theorem dX1_freeHues_19 : decode cX1_freeHues 19 = .ok (.istore_n 3, 1) := by decide +kernel
theorem dX1_freeHues_20 : decode cX1_freeHues 20 = .ok (.iconst 0, 1) := by decide +kernel
theorem dX1_freeHues_21 : decode cX1_freeHues 21 = .ok (.istore 4, 2) := by decide +kernel
theorem dX1_freeHues_23 : decode cX1_freeHues 23 = .ok (.iload 4, 2) := by decide +kernel
theorem dX1_freeHues_25 : decode cX1_freeHues 25 = .ok (.aload_n 0, 1) := by decide +kernel
theorem dX1_freeHues_26 : decode cX1_freeHues 26 = .ok (.getfield 40, 3) := by decide +kernel
theorem dX1_freeHues_29 : decode cX1_freeHues 29 = .ok (.if_icmp .ge 41, 3) := by decide +kernel
theorem dX1_freeHues_32 : decode cX1_freeHues 32 = .ok (.iload_n 2, 1) := by decide +kernel
theorem dX1_freeHues_33 : decode cX1_freeHues 33 = .ok (.iload 4, 2) := by decide +kernel
theorem dX1_freeHues_35 : decode cX1_freeHues 35 = .ok (.ishr, 1) := by decide +kernel
theorem dX1_freeHues_36 : decode cX1_freeHues 36 = .ok (.iconst 1, 1) := by decide +kernel
theorem dX1_freeHues_37 : decode cX1_freeHues 37 = .ok (.iand, 1) := by decide +kernel
theorem dX1_freeHues_38 : decode cX1_freeHues 38 = .ok (.ifCond .ne 26, 3) := by decide +kernel
theorem dX1_freeHues_41 : decode cX1_freeHues 41 = .ok (.aload_n 0, 1) := by decide +kernel
theorem dX1_freeHues_42 : decode cX1_freeHues 42 = .ok (.getfield 30, 3) := by decide +kernel
theorem dX1_freeHues_45 : decode cX1_freeHues 45 = .ok (.iload 4, 2) := by decide +kernel
theorem dX1_freeHues_47 : decode cX1_freeHues 47 = .ok (.iaload, 1) := by decide +kernel
theorem dX1_freeHues_48 : decode cX1_freeHues 48 = .ok (.aload_n 0, 1) := by decide +kernel
theorem dX1_freeHues_49 : decode cX1_freeHues 49 = .ok (.getfield 9, 3) := by decide +kernel
theorem dX1_freeHues_52 : decode cX1_freeHues 52 = .ok (.iload_n 1, 1) := by decide +kernel
theorem dX1_freeHues_53 : decode cX1_freeHues 53 = .ok (.iaload, 1) := by decide +kernel
theorem dX1_freeHues_54 : decode cX1_freeHues 54 = .ok (.if_icmp .lt 10, 3) := by decide +kernel
theorem dX1_freeHues_57 : decode cX1_freeHues 57 = .ok (.iload_n 3, 1) := by decide +kernel
theorem dX1_freeHues_58 : decode cX1_freeHues 58 = .ok (.iconst 1, 1) := by decide +kernel
theorem dX1_freeHues_59 : decode cX1_freeHues 59 = .ok (.iload 4, 2) := by decide +kernel
theorem dX1_freeHues_61 : decode cX1_freeHues 61 = .ok (.ishl, 1) := by decide +kernel
theorem dX1_freeHues_62 : decode cX1_freeHues 62 = .ok (.ior, 1) := by decide +kernel
theorem dX1_freeHues_63 : decode cX1_freeHues 63 = .ok (.istore_n 3, 1) := by decide +kernel
theorem dX1_freeHues_64 : decode cX1_freeHues 64 = .ok (.iinc 4 1, 3) := by decide +kernel
theorem dX1_freeHues_67 : decode cX1_freeHues 67 = .ok (.goto (-44), 3) := by decide +kernel
theorem dX1_freeHues_70 : decode cX1_freeHues 70 = .ok (.iload_n 3, 1) := by decide +kernel
theorem dX1_freeHues_71 : decode cX1_freeHues 71 = .ok (.ireturn, 1) := by decide +kernel
theorem dX1_huesAround_0 : decode cX1_huesAround 0 = .ok (.iconst 0, 1) := by decide +kernel
theorem dX1_huesAround_1 : decode cX1_huesAround 1 = .ok (.istore_n 2, 1) := by decide +kernel
theorem dX1_huesAround_2 : decode cX1_huesAround 2 = .ok (.iconst 0, 1) := by decide +kernel
theorem dX1_huesAround_3 : decode cX1_huesAround 3 = .ok (.istore_n 3, 1) := by decide +kernel
theorem dX1_huesAround_4 : decode cX1_huesAround 4 = .ok (.iload_n 3, 1) := by decide +kernel
theorem dX1_huesAround_5 : decode cX1_huesAround 5 = .ok (.aload_n 0, 1) := by decide +kernel
theorem dX1_huesAround_6 : decode cX1_huesAround 6 = .ok (.getfield 36, 3) := by decide +kernel
theorem dX1_huesAround_9 : decode cX1_huesAround 9 = .ok (.if_icmp .ge 43, 3) := by decide +kernel
theorem dX1_huesAround_12 : decode cX1_huesAround 12 = .ok (.aload_n 0, 1) := by decide +kernel
theorem dX1_huesAround_13 : decode cX1_huesAround 13 = .ok (.getfield 24, 3) := by decide +kernel
theorem dX1_huesAround_16 : decode cX1_huesAround 16 = .ok (.iload_n 1, 1) := by decide +kernel
theorem dX1_huesAround_17 : decode cX1_huesAround 17 = .ok (.iaload, 1) := by decide +kernel
theorem dX1_huesAround_18 : decode cX1_huesAround 18 = .ok (.iload_n 3, 1) := by decide +kernel
theorem dX1_huesAround_19 : decode cX1_huesAround 19 = .ok (.ishr, 1) := by decide +kernel
theorem dX1_huesAround_20 : decode cX1_huesAround 20 = .ok (.iconst 1, 1) := by decide +kernel
theorem dX1_huesAround_21 : decode cX1_huesAround 21 = .ok (.iand, 1) := by decide +kernel
theorem dX1_huesAround_22 : decode cX1_huesAround 22 = .ok (.ifCond .eq 24, 3) := by decide +kernel
theorem dX1_huesAround_25 : decode cX1_huesAround 25 = .ok (.aload_n 0, 1) := by decide +kernel
theorem dX1_huesAround_26 : decode cX1_huesAround 26 = .ok (.getfield 15, 3) := by decide +kernel
theorem dX1_huesAround_29 : decode cX1_huesAround 29 = .ok (.iload_n 3, 1) := by decide +kernel
theorem dX1_huesAround_30 : decode cX1_huesAround 30 = .ok (.iaload, 1) := by decide +kernel
theorem dX1_huesAround_31 : decode cX1_huesAround 31 = .ok (.iconst (-1), 1) := by decide +kernel
theorem dX1_huesAround_32 : decode cX1_huesAround 32 = .ok (.if_icmp .eq 14, 3) := by decide +kernel
theorem dX1_huesAround_35 : decode cX1_huesAround 35 = .ok (.iload_n 2, 1) := by decide +kernel
theorem dX1_huesAround_36 : decode cX1_huesAround 36 = .ok (.iconst 1, 1) := by decide +kernel
theorem dX1_huesAround_37 : decode cX1_huesAround 37 = .ok (.aload_n 0, 1) := by decide +kernel
theorem dX1_huesAround_38 : decode cX1_huesAround 38 = .ok (.getfield 15, 3) := by decide +kernel
theorem dX1_huesAround_41 : decode cX1_huesAround 41 = .ok (.iload_n 3, 1) := by decide +kernel
theorem dX1_huesAround_42 : decode cX1_huesAround 42 = .ok (.iaload, 1) := by decide +kernel
theorem dX1_huesAround_43 : decode cX1_huesAround 43 = .ok (.ishl, 1) := by decide +kernel
theorem dX1_huesAround_44 : decode cX1_huesAround 44 = .ok (.ior, 1) := by decide +kernel
theorem dX1_huesAround_45 : decode cX1_huesAround 45 = .ok (.istore_n 2, 1) := by decide +kernel
theorem dX1_huesAround_46 : decode cX1_huesAround 46 = .ok (.iinc 3 1, 3) := by decide +kernel
theorem dX1_huesAround_49 : decode cX1_huesAround 49 = .ok (.goto (-45), 3) := by decide +kernel
theorem dX1_huesAround_52 : decode cX1_huesAround 52 = .ok (.iload_n 2, 1) := by decide +kernel
theorem dX1_huesAround_53 : decode cX1_huesAround 53 = .ok (.ireturn, 1) := by decide +kernel
theorem dX1_isStuck_0 : decode cX1_isStuck 0 = .ok (.aload_n 0, 1) := by decide +kernel
theorem dX1_isStuck_1 : decode cX1_isStuck 1 = .ok (.iload_n 1, 1) := by decide +kernel
theorem dX1_isStuck_2 : decode cX1_isStuck 2 = .ok (.invokevirtual 59, 3) := by decide +kernel
theorem dX1_isStuck_5 : decode cX1_isStuck 5 = .ok (.ifCond .ne 15, 3) := by decide +kernel
theorem dX1_isStuck_8 : decode cX1_isStuck 8 = .ok (.aload_n 0, 1) := by decide +kernel
theorem dX1_isStuck_9 : decode cX1_isStuck 9 = .ok (.iload_n 1, 1) := by decide +kernel
theorem dX1_isStuck_10 : decode cX1_isStuck 10 = .ok (.invokevirtual 83, 3) := by decide +kernel
theorem dX1_isStuck_13 : decode cX1_isStuck 13 = .ok (.ifCond .ne 7, 3) := by decide +kernel
theorem dX1_isStuck_16 : decode cX1_isStuck 16 = .ok (.iconst 1, 1) := by decide +kernel
theorem dX1_isStuck_17 : decode cX1_isStuck 17 = .ok (.goto 4, 3) := by decide +kernel
theorem dX1_isStuck_20 : decode cX1_isStuck 20 = .ok (.iconst 0, 1) := by decide +kernel
theorem dX1_isStuck_21 : decode cX1_isStuck 21 = .ok (.ireturn, 1) := by decide +kernel
theorem dX1_isFulfilled_0 : decode cX1_isFulfilled 0 = .ok (.aload_n 0, 1) := by decide +kernel
theorem dX1_isFulfilled_1 : decode cX1_isFulfilled 1 = .ok (.iload_n 1, 1) := by decide +kernel
theorem dX1_isFulfilled_2 : decode cX1_isFulfilled 2 = .ok (.invokevirtual 59, 3) := by decide +kernel
theorem dX1_isFulfilled_5 : decode cX1_isFulfilled 5 = .ok (.ifCond .eq 22, 3) := by decide +kernel
theorem dX1_isFulfilled_8 : decode cX1_isFulfilled 8 = .ok (.aload_n 0, 1) := by decide +kernel
theorem dX1_isFulfilled_9 : decode cX1_isFulfilled 9 = .ok (.getfield 15, 3) := by decide +kernel
theorem dX1_isFulfilled_12 : decode cX1_isFulfilled 12 = .ok (.iload_n 1, 1) := by decide +kernel
theorem dX1_isFulfilled_13 : decode cX1_isFulfilled 13 = .ok (.iaload, 1) := by decide +kernel
theorem dX1_isFulfilled_14 : decode cX1_isFulfilled 14 = .ok (.aload_n 0, 1) := by decide +kernel
theorem dX1_isFulfilled_15 : decode cX1_isFulfilled 15 = .ok (.getfield 18, 3) := by decide +kernel
theorem dX1_isFulfilled_18 : decode cX1_isFulfilled 18 = .ok (.iload_n 1, 1) := by decide +kernel
theorem dX1_isFulfilled_19 : decode cX1_isFulfilled 19 = .ok (.iaload, 1) := by decide +kernel
theorem dX1_isFulfilled_20 : decode cX1_isFulfilled 20 = .ok (.if_icmp .ne 7, 3) := by decide +kernel
theorem dX1_isFulfilled_23 : decode cX1_isFulfilled 23 = .ok (.iconst 1, 1) := by decide +kernel
theorem dX1_isFulfilled_24 : decode cX1_isFulfilled 24 = .ok (.goto 4, 3) := by decide +kernel
theorem dX1_isFulfilled_27 : decode cX1_isFulfilled 27 = .ok (.iconst 0, 1) := by decide +kernel
theorem dX1_isFulfilled_28 : decode cX1_isFulfilled 28 = .ok (.ireturn, 1) := by decide +kernel
theorem dX1_countNeighbours_0 : decode cX1_countNeighbours 0 = .ok (.aload_n 0, 1) := by decide +kernel
theorem dX1_countNeighbours_1 : decode cX1_countNeighbours 1 = .ok (.getfield 24, 3) := by decide +kernel
theorem dX1_countNeighbours_4 : decode cX1_countNeighbours 4 = .ok (.iload_n 1, 1) := by decide +kernel
theorem dX1_countNeighbours_5 : decode cX1_countNeighbours 5 = .ok (.iaload, 1) := by decide +kernel
theorem dX1_countNeighbours_6 : decode cX1_countNeighbours 6 = .ok (.invokestatic 96, 3) := by decide +kernel
theorem dX1_countNeighbours_9 : decode cX1_countNeighbours 9 = .ok (.ireturn, 1) := by decide +kernel
theorem dX1_placeOf_0 : decode cX1_placeOf 0 = .ok (.iconst 0, 1) := by decide +kernel
theorem dX1_placeOf_1 : decode cX1_placeOf 1 = .ok (.istore_n 2, 1) := by decide +kernel
theorem dX1_placeOf_2 : decode cX1_placeOf 2 = .ok (.iload_n 2, 1) := by decide +kernel
theorem dX1_placeOf_3 : decode cX1_placeOf 3 = .ok (.aload_n 0, 1) := by decide +kernel
theorem dX1_placeOf_4 : decode cX1_placeOf 4 = .ok (.getfield 43, 3) := by decide +kernel
theorem dX1_placeOf_7 : decode cX1_placeOf 7 = .ok (.if_icmp .ge 21, 3) := by decide +kernel
theorem dX1_placeOf_10 : decode cX1_placeOf 10 = .ok (.aload_n 0, 1) := by decide +kernel
theorem dX1_placeOf_11 : decode cX1_placeOf 11 = .ok (.getfield 27, 3) := by decide +kernel
theorem dX1_placeOf_14 : decode cX1_placeOf 14 = .ok (.iload_n 2, 1) := by decide +kernel
theorem dX1_placeOf_15 : decode cX1_placeOf 15 = .ok (.iaload, 1) := by decide +kernel
theorem dX1_placeOf_16 : decode cX1_placeOf 16 = .ok (.iload_n 1, 1) := by decide +kernel
theorem dX1_placeOf_17 : decode cX1_placeOf 17 = .ok (.if_icmp .ne 5, 3) := by decide +kernel
theorem dX1_placeOf_20 : decode cX1_placeOf 20 = .ok (.iload_n 2, 1) := by decide +kernel
theorem dX1_placeOf_21 : decode cX1_placeOf 21 = .ok (.ireturn, 1) := by decide +kernel
theorem dX1_placeOf_22 : decode cX1_placeOf 22 = .ok (.iinc 2 1, 3) := by decide +kernel
theorem dX1_placeOf_25 : decode cX1_placeOf 25 = .ok (.goto (-23), 3) := by decide +kernel
theorem dX1_placeOf_28 : decode cX1_placeOf 28 = .ok (.iconst (-1), 1) := by decide +kernel
theorem dX1_placeOf_29 : decode cX1_placeOf 29 = .ok (.ireturn, 1) := by decide +kernel
theorem dX1_firstStuck_0 : decode cX1_firstStuck 0 = .ok (.iconst 0, 1) := by decide +kernel
theorem dX1_firstStuck_1 : decode cX1_firstStuck 1 = .ok (.istore_n 1, 1) := by decide +kernel
theorem dX1_firstStuck_2 : decode cX1_firstStuck 2 = .ok (.iload_n 1, 1) := by decide +kernel
theorem dX1_firstStuck_3 : decode cX1_firstStuck 3 = .ok (.aload_n 0, 1) := by decide +kernel
theorem dX1_firstStuck_4 : decode cX1_firstStuck 4 = .ok (.getfield 36, 3) := by decide +kernel
theorem dX1_firstStuck_7 : decode cX1_firstStuck 7 = .ok (.if_icmp .ge 19, 3) := by decide +kernel
theorem dX1_firstStuck_10 : decode cX1_firstStuck 10 = .ok (.aload_n 0, 1) := by decide +kernel
theorem dX1_firstStuck_11 : decode cX1_firstStuck 11 = .ok (.iload_n 1, 1) := by decide +kernel
theorem dX1_firstStuck_12 : decode cX1_firstStuck 12 = .ok (.invokevirtual 101, 3) := by decide +kernel
theorem dX1_firstStuck_15 : decode cX1_firstStuck 15 = .ok (.ifCond .eq 5, 3) := by decide +kernel
theorem dX1_firstStuck_18 : decode cX1_firstStuck 18 = .ok (.iload_n 1, 1) := by decide +kernel
theorem dX1_firstStuck_19 : decode cX1_firstStuck 19 = .ok (.ireturn, 1) := by decide +kernel
theorem dX1_firstStuck_20 : decode cX1_firstStuck 20 = .ok (.iinc 1 1, 3) := by decide +kernel
theorem dX1_firstStuck_23 : decode cX1_firstStuck 23 = .ok (.goto (-21), 3) := by decide +kernel
theorem dX1_firstStuck_26 : decode cX1_firstStuck 26 = .ok (.iconst (-1), 1) := by decide +kernel
theorem dX1_firstStuck_27 : decode cX1_firstStuck 27 = .ok (.ireturn, 1) := by decide +kernel
theorem dX1_bestToPaint_0 : decode cX1_bestToPaint 0 = .ok (.iconst (-1), 1) := by decide +kernel
theorem dX1_bestToPaint_1 : decode cX1_bestToPaint 1 = .ok (.istore_n 1, 1) := by decide +kernel
theorem dX1_bestToPaint_2 : decode cX1_bestToPaint 2 = .ok (.iconst 0, 1) := by decide +kernel
theorem dX1_bestToPaint_3 : decode cX1_bestToPaint 3 = .ok (.istore_n 2, 1) := by decide +kernel
theorem dX1_bestToPaint_4 : decode cX1_bestToPaint 4 = .ok (.iload_n 2, 1) := by decide +kernel
theorem dX1_bestToPaint_5 : decode cX1_bestToPaint 5 = .ok (.aload_n 0, 1) := by decide +kernel
theorem dX1_bestToPaint_6 : decode cX1_bestToPaint 6 = .ok (.getfield 36, 3) := by decide +kernel
theorem dX1_bestToPaint_9 : decode cX1_bestToPaint 9 = .ok (.if_icmp .ge 33, 3) := by decide +kernel
theorem dX1_bestToPaint_12 : decode cX1_bestToPaint 12 = .ok (.aload_n 0, 1) := by decide +kernel
theorem dX1_bestToPaint_13 : decode cX1_bestToPaint 13 = .ok (.iload_n 2, 1) := by decide +kernel
theorem dX1_bestToPaint_14 : decode cX1_bestToPaint 14 = .ok (.invokevirtual 59, 3) := by decide +kernel
theorem dX1_bestToPaint_17 : decode cX1_bestToPaint 17 = .ok (.ifCond .ne 19, 3) := by decide +kernel
theorem dX1_bestToPaint_20 : decode cX1_bestToPaint 20 = .ok (.iload_n 1, 1) := by decide +kernel
theorem dX1_bestToPaint_21 : decode cX1_bestToPaint 21 = .ok (.iconst (-1), 1) := by decide +kernel
theorem dX1_bestToPaint_22 : decode cX1_bestToPaint 22 = .ok (.if_icmp .eq 12, 3) := by decide +kernel
theorem dX1_bestToPaint_25 : decode cX1_bestToPaint 25 = .ok (.aload_n 0, 1) := by decide +kernel
theorem dX1_bestToPaint_26 : decode cX1_bestToPaint 26 = .ok (.iload_n 2, 1) := by decide +kernel
theorem dX1_bestToPaint_27 : decode cX1_bestToPaint 27 = .ok (.iload_n 1, 1) := by decide +kernel
theorem dX1_bestToPaint_28 : decode cX1_bestToPaint 28 = .ok (.invokevirtual 104, 3) := by decide +kernel
theorem dX1_bestToPaint_31 : decode cX1_bestToPaint 31 = .ok (.ifCond .eq 5, 3) := by decide +kernel
theorem dX1_bestToPaint_34 : decode cX1_bestToPaint 34 = .ok (.iload_n 2, 1) := by decide +kernel
theorem dX1_bestToPaint_35 : decode cX1_bestToPaint 35 = .ok (.istore_n 1, 1) := by decide +kernel
theorem dX1_bestToPaint_36 : decode cX1_bestToPaint 36 = .ok (.iinc 2 1, 3) := by decide +kernel
theorem dX1_bestToPaint_39 : decode cX1_bestToPaint 39 = .ok (.goto (-35), 3) := by decide +kernel
theorem dX1_bestToPaint_42 : decode cX1_bestToPaint 42 = .ok (.iload_n 1, 1) := by decide +kernel
theorem dX1_bestToPaint_43 : decode cX1_bestToPaint 43 = .ok (.ireturn, 1) := by decide +kernel
theorem dX1_isBetterToPaint_0 : decode cX1_isBetterToPaint 0 = .ok (.aload_n 0, 1) := by decide +kernel
theorem dX1_isBetterToPaint_1 : decode cX1_isBetterToPaint 1 = .ok (.iload_n 1, 1) := by decide +kernel
theorem dX1_isBetterToPaint_2 : decode cX1_isBetterToPaint 2 = .ok (.invokevirtual 83, 3) := by decide +kernel
theorem dX1_isBetterToPaint_5 : decode cX1_isBetterToPaint 5 = .ok (.invokestatic 96, 3) := by decide +kernel
theorem dX1_isBetterToPaint_8 : decode cX1_isBetterToPaint 8 = .ok (.istore_n 3, 1) := by decide +kernel
theorem dX1_isBetterToPaint_9 : decode cX1_isBetterToPaint 9 = .ok (.aload_n 0, 1) := by decide +kernel
theorem dX1_isBetterToPaint_10 : decode cX1_isBetterToPaint 10 = .ok (.iload_n 2, 1) := by decide +kernel
theorem dX1_isBetterToPaint_11 : decode cX1_isBetterToPaint 11 = .ok (.invokevirtual 83, 3) := by decide +kernel
theorem dX1_isBetterToPaint_14 : decode cX1_isBetterToPaint 14 = .ok (.invokestatic 96, 3) := by decide +kernel
theorem dX1_isBetterToPaint_17 : decode cX1_isBetterToPaint 17 = .ok (.istore 4, 2) := by decide +kernel
theorem dX1_isBetterToPaint_19 : decode cX1_isBetterToPaint 19 = .ok (.iload_n 3, 1) := by decide +kernel
theorem dX1_isBetterToPaint_20 : decode cX1_isBetterToPaint 20 = .ok (.iload 4, 2) := by decide +kernel
theorem dX1_isBetterToPaint_22 : decode cX1_isBetterToPaint 22 = .ok (.if_icmp .eq 15, 3) := by decide +kernel
theorem dX1_isBetterToPaint_25 : decode cX1_isBetterToPaint 25 = .ok (.iload_n 3, 1) := by decide +kernel
theorem dX1_isBetterToPaint_26 : decode cX1_isBetterToPaint 26 = .ok (.iload 4, 2) := by decide +kernel
theorem dX1_isBetterToPaint_28 : decode cX1_isBetterToPaint 28 = .ok (.if_icmp .ge 7, 3) := by decide +kernel
theorem dX1_isBetterToPaint_31 : decode cX1_isBetterToPaint 31 = .ok (.iconst 1, 1) := by decide +kernel
theorem dX1_isBetterToPaint_32 : decode cX1_isBetterToPaint 32 = .ok (.goto 4, 3) := by decide +kernel
theorem dX1_isBetterToPaint_35 : decode cX1_isBetterToPaint 35 = .ok (.iconst 0, 1) := by decide +kernel
theorem dX1_isBetterToPaint_36 : decode cX1_isBetterToPaint 36 = .ok (.ireturn, 1) := by decide +kernel
theorem dX1_isBetterToPaint_37 : decode cX1_isBetterToPaint 37 = .ok (.aload_n 0, 1) := by decide +kernel
theorem dX1_isBetterToPaint_38 : decode cX1_isBetterToPaint 38 = .ok (.invokevirtual 107, 3) := by decide +kernel
theorem dX1_isBetterToPaint_41 : decode cX1_isBetterToPaint 41 = .ok (.istore 5, 2) := by decide +kernel
theorem dX1_isBetterToPaint_43 : decode cX1_isBetterToPaint 43 = .ok (.aload_n 0, 1) := by decide +kernel
theorem dX1_isBetterToPaint_44 : decode cX1_isBetterToPaint 44 = .ok (.getfield 24, 3) := by decide +kernel
theorem dX1_isBetterToPaint_47 : decode cX1_isBetterToPaint 47 = .ok (.iload_n 1, 1) := by decide +kernel
theorem dX1_isBetterToPaint_48 : decode cX1_isBetterToPaint 48 = .ok (.iaload, 1) := by decide +kernel
theorem dX1_isBetterToPaint_49 : decode cX1_isBetterToPaint 49 = .ok (.iload 5, 2) := by decide +kernel
theorem dX1_isBetterToPaint_51 : decode cX1_isBetterToPaint 51 = .ok (.iand, 1) := by decide +kernel
theorem dX1_isBetterToPaint_52 : decode cX1_isBetterToPaint 52 = .ok (.invokestatic 96, 3) := by decide +kernel
theorem dX1_isBetterToPaint_55 : decode cX1_isBetterToPaint 55 = .ok (.aload_n 0, 1) := by decide +kernel
theorem dX1_isBetterToPaint_56 : decode cX1_isBetterToPaint 56 = .ok (.getfield 24, 3) := by decide +kernel
theorem dX1_isBetterToPaint_59 : decode cX1_isBetterToPaint 59 = .ok (.iload_n 2, 1) := by decide +kernel
theorem dX1_isBetterToPaint_60 : decode cX1_isBetterToPaint 60 = .ok (.iaload, 1) := by decide +kernel
theorem dX1_isBetterToPaint_61 : decode cX1_isBetterToPaint 61 = .ok (.iload 5, 2) := by decide +kernel
theorem dX1_isBetterToPaint_63 : decode cX1_isBetterToPaint 63 = .ok (.iand, 1) := by decide +kernel
theorem dX1_isBetterToPaint_64 : decode cX1_isBetterToPaint 64 = .ok (.invokestatic 96, 3) := by decide +kernel
theorem dX1_isBetterToPaint_67 : decode cX1_isBetterToPaint 67 = .ok (.if_icmp .le 7, 3) := by decide +kernel
theorem dX1_isBetterToPaint_70 : decode cX1_isBetterToPaint 70 = .ok (.iconst 1, 1) := by decide +kernel
theorem dX1_isBetterToPaint_71 : decode cX1_isBetterToPaint 71 = .ok (.goto 4, 3) := by decide +kernel
theorem dX1_isBetterToPaint_74 : decode cX1_isBetterToPaint 74 = .ok (.iconst 0, 1) := by decide +kernel
theorem dX1_isBetterToPaint_75 : decode cX1_isBetterToPaint 75 = .ok (.ireturn, 1) := by decide +kernel
theorem dX1_gentlestHue_0 : decode cX1_gentlestHue 0 = .ok (.aload_n 0, 1) := by decide +kernel
theorem dX1_gentlestHue_1 : decode cX1_gentlestHue 1 = .ok (.iload_n 1, 1) := by decide +kernel
theorem dX1_gentlestHue_2 : decode cX1_gentlestHue 2 = .ok (.invokevirtual 83, 3) := by decide +kernel
theorem dX1_gentlestHue_5 : decode cX1_gentlestHue 5 = .ok (.istore_n 2, 1) := by decide +kernel
theorem dX1_gentlestHue_6 : decode cX1_gentlestHue 6 = .ok (.iconst (-1), 1) := by decide +kernel
theorem dX1_gentlestHue_7 : decode cX1_gentlestHue 7 = .ok (.istore_n 3, 1) := by decide +kernel
theorem dX1_gentlestHue_8 : decode cX1_gentlestHue 8 = .ok (.iconst 0, 1) := by decide +kernel
theorem dX1_gentlestHue_9 : decode cX1_gentlestHue 9 = .ok (.istore 4, 2) := by decide +kernel
theorem dX1_gentlestHue_11 : decode cX1_gentlestHue 11 = .ok (.iconst 0, 1) := by decide +kernel
theorem dX1_gentlestHue_12 : decode cX1_gentlestHue 12 = .ok (.istore 5, 2) := by decide +kernel
theorem dX1_gentlestHue_14 : decode cX1_gentlestHue 14 = .ok (.iload 5, 2) := by decide +kernel
theorem dX1_gentlestHue_16 : decode cX1_gentlestHue 16 = .ok (.iconst 5, 1) := by decide +kernel
theorem dX1_gentlestHue_17 : decode cX1_gentlestHue 17 = .ok (.if_icmp .ge 46, 3) := by decide +kernel
theorem dX1_gentlestHue_20 : decode cX1_gentlestHue 20 = .ok (.iload_n 2, 1) := by decide +kernel
theorem dX1_gentlestHue_21 : decode cX1_gentlestHue 21 = .ok (.iload 5, 2) := by decide +kernel
theorem dX1_gentlestHue_23 : decode cX1_gentlestHue 23 = .ok (.ishr, 1) := by decide +kernel
theorem dX1_gentlestHue_24 : decode cX1_gentlestHue 24 = .ok (.iconst 1, 1) := by decide +kernel
theorem dX1_gentlestHue_25 : decode cX1_gentlestHue 25 = .ok (.iand, 1) := by decide +kernel
theorem dX1_gentlestHue_26 : decode cX1_gentlestHue 26 = .ok (.ifCond .eq 31, 3) := by decide +kernel
theorem dX1_gentlestHue_29 : decode cX1_gentlestHue 29 = .ok (.aload_n 0, 1) := by decide +kernel
theorem dX1_gentlestHue_30 : decode cX1_gentlestHue 30 = .ok (.iload_n 1, 1) := by decide +kernel
theorem dX1_gentlestHue_31 : decode cX1_gentlestHue 31 = .ok (.iload 5, 2) := by decide +kernel
theorem dX1_gentlestHue_33 : decode cX1_gentlestHue 33 = .ok (.invokevirtual 110, 3) := by decide +kernel
theorem dX1_gentlestHue_36 : decode cX1_gentlestHue 36 = .ok (.istore 6, 2) := by decide +kernel
theorem dX1_gentlestHue_38 : decode cX1_gentlestHue 38 = .ok (.iload_n 3, 1) := by decide +kernel
theorem dX1_gentlestHue_39 : decode cX1_gentlestHue 39 = .ok (.iconst (-1), 1) := by decide +kernel
theorem dX1_gentlestHue_40 : decode cX1_gentlestHue 40 = .ok (.if_icmp .eq 10, 3) := by decide +kernel
theorem dX1_gentlestHue_43 : decode cX1_gentlestHue 43 = .ok (.iload 6, 2) := by decide +kernel
theorem dX1_gentlestHue_45 : decode cX1_gentlestHue 45 = .ok (.iload 4, 2) := by decide +kernel
theorem dX1_gentlestHue_47 : decode cX1_gentlestHue 47 = .ok (.if_icmp .ge 10, 3) := by decide +kernel
theorem dX1_gentlestHue_50 : decode cX1_gentlestHue 50 = .ok (.iload 5, 2) := by decide +kernel
theorem dX1_gentlestHue_52 : decode cX1_gentlestHue 52 = .ok (.istore_n 3, 1) := by decide +kernel
theorem dX1_gentlestHue_53 : decode cX1_gentlestHue 53 = .ok (.iload 6, 2) := by decide +kernel
theorem dX1_gentlestHue_55 : decode cX1_gentlestHue 55 = .ok (.istore 4, 2) := by decide +kernel
theorem dX1_gentlestHue_57 : decode cX1_gentlestHue 57 = .ok (.iinc 5 1, 3) := by decide +kernel
theorem dX1_gentlestHue_60 : decode cX1_gentlestHue 60 = .ok (.goto (-46), 3) := by decide +kernel
theorem dX1_gentlestHue_63 : decode cX1_gentlestHue 63 = .ok (.iload_n 3, 1) := by decide +kernel
theorem dX1_gentlestHue_64 : decode cX1_gentlestHue 64 = .ok (.ireturn, 1) := by decide +kernel
theorem dX1_countRobbed_0 : decode cX1_countRobbed 0 = .ok (.iconst 0, 1) := by decide +kernel
theorem dX1_countRobbed_1 : decode cX1_countRobbed 1 = .ok (.istore_n 3, 1) := by decide +kernel
theorem dX1_countRobbed_2 : decode cX1_countRobbed 2 = .ok (.iconst 0, 1) := by decide +kernel
theorem dX1_countRobbed_3 : decode cX1_countRobbed 3 = .ok (.istore 4, 2) := by decide +kernel
theorem dX1_countRobbed_5 : decode cX1_countRobbed 5 = .ok (.iload 4, 2) := by decide +kernel
theorem dX1_countRobbed_7 : decode cX1_countRobbed 7 = .ok (.aload_n 0, 1) := by decide +kernel
theorem dX1_countRobbed_8 : decode cX1_countRobbed 8 = .ok (.getfield 36, 3) := by decide +kernel
theorem dX1_countRobbed_11 : decode cX1_countRobbed 11 = .ok (.if_icmp .ge 35, 3) := by decide +kernel
theorem dX1_countRobbed_14 : decode cX1_countRobbed 14 = .ok (.aload_n 0, 1) := by decide +kernel
theorem dX1_countRobbed_15 : decode cX1_countRobbed 15 = .ok (.iload_n 1, 1) := by decide +kernel
theorem dX1_countRobbed_16 : decode cX1_countRobbed 16 = .ok (.iload 4, 2) := by decide +kernel
theorem dX1_countRobbed_18 : decode cX1_countRobbed 18 = .ok (.invokevirtual 55, 3) := by decide +kernel
theorem dX1_countRobbed_21 : decode cX1_countRobbed 21 = .ok (.ifCond .eq 19, 3) := by decide +kernel
theorem dX1_countRobbed_24 : decode cX1_countRobbed 24 = .ok (.aload_n 0, 1) := by decide +kernel
theorem dX1_countRobbed_25 : decode cX1_countRobbed 25 = .ok (.iload 4, 2) := by decide +kernel
theorem dX1_countRobbed_27 : decode cX1_countRobbed 27 = .ok (.invokevirtual 83, 3) := by decide +kernel
theorem dX1_countRobbed_30 : decode cX1_countRobbed 30 = .ok (.iload_n 2, 1) := by decide +kernel
theorem dX1_countRobbed_31 : decode cX1_countRobbed 31 = .ok (.ishr, 1) := by decide +kernel
theorem dX1_countRobbed_32 : decode cX1_countRobbed 32 = .ok (.iconst 1, 1) := by decide +kernel
theorem dX1_countRobbed_33 : decode cX1_countRobbed 33 = .ok (.iand, 1) := by decide +kernel
theorem dX1_countRobbed_34 : decode cX1_countRobbed 34 = .ok (.ifCond .eq 6, 3) := by decide +kernel
theorem dX1_countRobbed_37 : decode cX1_countRobbed 37 = .ok (.iinc 3 1, 3) := by decide +kernel
theorem dX1_countRobbed_40 : decode cX1_countRobbed 40 = .ok (.iinc 4 1, 3) := by decide +kernel
theorem dX1_countRobbed_43 : decode cX1_countRobbed 43 = .ok (.goto (-38), 3) := by decide +kernel
theorem dX1_countRobbed_46 : decode cX1_countRobbed 46 = .ok (.iload_n 3, 1) := by decide +kernel
theorem dX1_countRobbed_47 : decode cX1_countRobbed 47 = .ok (.ireturn, 1) := by decide +kernel
theorem dX1_firstWithOneFreeHue_0 : decode cX1_firstWithOneFreeHue 0 = .ok (.iconst 0, 1) := by decide +kernel
theorem dX1_firstWithOneFreeHue_1 : decode cX1_firstWithOneFreeHue 1 = .ok (.istore_n 1, 1) := by decide +kernel
theorem dX1_firstWithOneFreeHue_2 : decode cX1_firstWithOneFreeHue 2 = .ok (.iload_n 1, 1) := by decide +kernel
theorem dX1_firstWithOneFreeHue_3 : decode cX1_firstWithOneFreeHue 3 = .ok (.aload_n 0, 1) := by decide +kernel
theorem dX1_firstWithOneFreeHue_4 : decode cX1_firstWithOneFreeHue 4 = .ok (.getfield 36, 3) := by decide +kernel
theorem dX1_firstWithOneFreeHue_7 : decode cX1_firstWithOneFreeHue 7 = .ok (.if_icmp .ge 23, 3) := by decide +kernel
theorem dX1_firstWithOneFreeHue_10 : decode cX1_firstWithOneFreeHue 10 = .ok (.aload_n 0, 1) := by decide +kernel
theorem dX1_firstWithOneFreeHue_11 : decode cX1_firstWithOneFreeHue 11 = .ok (.iload_n 1, 1) := by decide +kernel
theorem dX1_firstWithOneFreeHue_12 : decode cX1_firstWithOneFreeHue 12 = .ok (.invokevirtual 83, 3) := by decide +kernel
theorem dX1_firstWithOneFreeHue_15 : decode cX1_firstWithOneFreeHue 15 = .ok (.invokestatic 96, 3) := by decide +kernel
theorem dX1_firstWithOneFreeHue_18 : decode cX1_firstWithOneFreeHue 18 = .ok (.iconst 1, 1) := by decide +kernel
theorem dX1_firstWithOneFreeHue_19 : decode cX1_firstWithOneFreeHue 19 = .ok (.if_icmp .ne 5, 3) := by decide +kernel
theorem dX1_firstWithOneFreeHue_22 : decode cX1_firstWithOneFreeHue 22 = .ok (.iload_n 1, 1) := by decide +kernel
theorem dX1_firstWithOneFreeHue_23 : decode cX1_firstWithOneFreeHue 23 = .ok (.ireturn, 1) := by decide +kernel
theorem dX1_firstWithOneFreeHue_24 : decode cX1_firstWithOneFreeHue 24 = .ok (.iinc 1 1, 3) := by decide +kernel
theorem dX1_firstWithOneFreeHue_27 : decode cX1_firstWithOneFreeHue 27 = .ok (.goto (-25), 3) := by decide +kernel
theorem dX1_firstWithOneFreeHue_30 : decode cX1_firstWithOneFreeHue 30 = .ok (.iconst (-1), 1) := by decide +kernel
theorem dX1_firstWithOneFreeHue_31 : decode cX1_firstWithOneFreeHue 31 = .ok (.ireturn, 1) := by decide +kernel
theorem dX1_lowestOf_0 : decode cX1_lowestOf 0 = .ok (.iconst 0, 1) := by decide +kernel
theorem dX1_lowestOf_1 : decode cX1_lowestOf 1 = .ok (.istore_n 1, 1) := by decide +kernel
theorem dX1_lowestOf_2 : decode cX1_lowestOf 2 = .ok (.iload_n 1, 1) := by decide +kernel
theorem dX1_lowestOf_3 : decode cX1_lowestOf 3 = .ok (.iconst 4, 1) := by decide +kernel
theorem dX1_lowestOf_4 : decode cX1_lowestOf 4 = .ok (.if_icmp .ge 17, 3) := by decide +kernel
theorem dX1_lowestOf_7 : decode cX1_lowestOf 7 = .ok (.iload_n 0, 1) := by decide +kernel
theorem dX1_lowestOf_8 : decode cX1_lowestOf 8 = .ok (.iload_n 1, 1) := by decide +kernel
theorem dX1_lowestOf_9 : decode cX1_lowestOf 9 = .ok (.ishr, 1) := by decide +kernel
theorem dX1_lowestOf_10 : decode cX1_lowestOf 10 = .ok (.iconst 1, 1) := by decide +kernel
theorem dX1_lowestOf_11 : decode cX1_lowestOf 11 = .ok (.iand, 1) := by decide +kernel
theorem dX1_lowestOf_12 : decode cX1_lowestOf 12 = .ok (.ifCond .ne 9, 3) := by decide +kernel
theorem dX1_lowestOf_15 : decode cX1_lowestOf 15 = .ok (.iinc 1 1, 3) := by decide +kernel
theorem dX1_lowestOf_18 : decode cX1_lowestOf 18 = .ok (.goto (-16), 3) := by decide +kernel
theorem dX1_lowestOf_21 : decode cX1_lowestOf 21 = .ok (.iload_n 1, 1) := by decide +kernel
theorem dX1_lowestOf_22 : decode cX1_lowestOf 22 = .ok (.ireturn, 1) := by decide +kernel
theorem dX1_unpainted_0 : decode cX1_unpainted 0 = .ok (.iconst 0, 1) := by decide +kernel
theorem dX1_unpainted_1 : decode cX1_unpainted 1 = .ok (.istore_n 1, 1) := by decide +kernel
theorem dX1_unpainted_2 : decode cX1_unpainted 2 = .ok (.iconst 0, 1) := by decide +kernel
theorem dX1_unpainted_3 : decode cX1_unpainted 3 = .ok (.istore_n 2, 1) := by decide +kernel
theorem dX1_unpainted_4 : decode cX1_unpainted 4 = .ok (.iload_n 2, 1) := by decide +kernel
theorem dX1_unpainted_5 : decode cX1_unpainted 5 = .ok (.aload_n 0, 1) := by decide +kernel
theorem dX1_unpainted_6 : decode cX1_unpainted 6 = .ok (.getfield 36, 3) := by decide +kernel
theorem dX1_unpainted_9 : decode cX1_unpainted 9 = .ok (.if_icmp .ge 23, 3) := by decide +kernel
theorem dX1_unpainted_12 : decode cX1_unpainted 12 = .ok (.aload_n 0, 1) := by decide +kernel
theorem dX1_unpainted_13 : decode cX1_unpainted 13 = .ok (.iload_n 2, 1) := by decide +kernel
theorem dX1_unpainted_14 : decode cX1_unpainted 14 = .ok (.invokevirtual 59, 3) := by decide +kernel
theorem dX1_unpainted_17 : decode cX1_unpainted 17 = .ok (.ifCond .ne 9, 3) := by decide +kernel
theorem dX1_unpainted_20 : decode cX1_unpainted 20 = .ok (.iload_n 1, 1) := by decide +kernel
theorem dX1_unpainted_21 : decode cX1_unpainted 21 = .ok (.iconst 1, 1) := by decide +kernel
theorem dX1_unpainted_22 : decode cX1_unpainted 22 = .ok (.iload_n 2, 1) := by decide +kernel
theorem dX1_unpainted_23 : decode cX1_unpainted 23 = .ok (.ishl, 1) := by decide +kernel
theorem dX1_unpainted_24 : decode cX1_unpainted 24 = .ok (.ior, 1) := by decide +kernel
theorem dX1_unpainted_25 : decode cX1_unpainted 25 = .ok (.istore_n 1, 1) := by decide +kernel
theorem dX1_unpainted_26 : decode cX1_unpainted 26 = .ok (.iinc 2 1, 3) := by decide +kernel
theorem dX1_unpainted_29 : decode cX1_unpainted 29 = .ok (.goto (-25), 3) := by decide +kernel
theorem dX1_unpainted_32 : decode cX1_unpainted 32 = .ok (.iload_n 1, 1) := by decide +kernel
theorem dX1_unpainted_33 : decode cX1_unpainted 33 = .ok (.ireturn, 1) := by decide +kernel
theorem dX1_countPainted_0 : decode cX1_countPainted 0 = .ok (.aload_n 0, 1) := by decide +kernel
theorem dX1_countPainted_1 : decode cX1_countPainted 1 = .ok (.getfield 36, 3) := by decide +kernel
theorem dX1_countPainted_4 : decode cX1_countPainted 4 = .ok (.aload_n 0, 1) := by decide +kernel
theorem dX1_countPainted_5 : decode cX1_countPainted 5 = .ok (.invokevirtual 107, 3) := by decide +kernel
theorem dX1_countPainted_8 : decode cX1_countPainted 8 = .ok (.invokestatic 96, 3) := by decide +kernel
theorem dX1_countPainted_11 : decode cX1_countPainted 11 = .ok (.isub, 1) := by decide +kernel
theorem dX1_countPainted_12 : decode cX1_countPainted 12 = .ok (.ireturn, 1) := by decide +kernel
theorem dX1_countPaintedIn_0 : decode cX1_countPaintedIn 0 = .ok (.iconst 0, 1) := by decide +kernel
theorem dX1_countPaintedIn_1 : decode cX1_countPaintedIn 1 = .ok (.istore_n 2, 1) := by decide +kernel
theorem dX1_countPaintedIn_2 : decode cX1_countPaintedIn 2 = .ok (.iconst 0, 1) := by decide +kernel
theorem dX1_countPaintedIn_3 : decode cX1_countPaintedIn 3 = .ok (.istore_n 3, 1) := by decide +kernel
theorem dX1_countPaintedIn_4 : decode cX1_countPaintedIn 4 = .ok (.iload_n 3, 1) := by decide +kernel
theorem dX1_countPaintedIn_5 : decode cX1_countPaintedIn 5 = .ok (.aload_n 0, 1) := by decide +kernel
theorem dX1_countPaintedIn_6 : decode cX1_countPaintedIn 6 = .ok (.getfield 36, 3) := by decide +kernel
theorem dX1_countPaintedIn_9 : decode cX1_countPaintedIn 9 = .ok (.if_icmp .ge 22, 3) := by decide +kernel
theorem dX1_countPaintedIn_12 : decode cX1_countPaintedIn 12 = .ok (.aload_n 0, 1) := by decide +kernel
theorem dX1_countPaintedIn_13 : decode cX1_countPaintedIn 13 = .ok (.getfield 15, 3) := by decide +kernel
theorem dX1_countPaintedIn_16 : decode cX1_countPaintedIn 16 = .ok (.iload_n 3, 1) := by decide +kernel
theorem dX1_countPaintedIn_17 : decode cX1_countPaintedIn 17 = .ok (.iaload, 1) := by decide +kernel
theorem dX1_countPaintedIn_18 : decode cX1_countPaintedIn 18 = .ok (.iload_n 1, 1) := by decide +kernel
theorem dX1_countPaintedIn_19 : decode cX1_countPaintedIn 19 = .ok (.if_icmp .ne 6, 3) := by decide +kernel
theorem dX1_countPaintedIn_22 : decode cX1_countPaintedIn 22 = .ok (.iinc 2 1, 3) := by decide +kernel
theorem dX1_countPaintedIn_25 : decode cX1_countPaintedIn 25 = .ok (.iinc 3 1, 3) := by decide +kernel
theorem dX1_countPaintedIn_28 : decode cX1_countPaintedIn 28 = .ok (.goto (-24), 3) := by decide +kernel
theorem dX1_countPaintedIn_31 : decode cX1_countPaintedIn 31 = .ok (.iload_n 2, 1) := by decide +kernel
theorem dX1_countPaintedIn_32 : decode cX1_countPaintedIn 32 = .ok (.ireturn, 1) := by decide +kernel
theorem dX1_countBorders_0 : decode cX1_countBorders 0 = .ok (.iconst 0, 1) := by decide +kernel
theorem dX1_countBorders_1 : decode cX1_countBorders 1 = .ok (.istore_n 1, 1) := by decide +kernel
theorem dX1_countBorders_2 : decode cX1_countBorders 2 = .ok (.iconst 0, 1) := by decide +kernel
theorem dX1_countBorders_3 : decode cX1_countBorders 3 = .ok (.istore_n 2, 1) := by decide +kernel
theorem dX1_countBorders_4 : decode cX1_countBorders 4 = .ok (.iload_n 2, 1) := by decide +kernel
theorem dX1_countBorders_5 : decode cX1_countBorders 5 = .ok (.aload_n 0, 1) := by decide +kernel
theorem dX1_countBorders_6 : decode cX1_countBorders 6 = .ok (.getfield 36, 3) := by decide +kernel
theorem dX1_countBorders_9 : decode cX1_countBorders 9 = .ok (.if_icmp .ge 17, 3) := by decide +kernel
theorem dX1_countBorders_12 : decode cX1_countBorders 12 = .ok (.iload_n 1, 1) := by decide +kernel
theorem dX1_countBorders_13 : decode cX1_countBorders 13 = .ok (.aload_n 0, 1) := by decide +kernel
theorem dX1_countBorders_14 : decode cX1_countBorders 14 = .ok (.iload_n 2, 1) := by decide +kernel
theorem dX1_countBorders_15 : decode cX1_countBorders 15 = .ok (.invokevirtual 113, 3) := by decide +kernel
theorem dX1_countBorders_18 : decode cX1_countBorders 18 = .ok (.iadd, 1) := by decide +kernel
theorem dX1_countBorders_19 : decode cX1_countBorders 19 = .ok (.istore_n 1, 1) := by decide +kernel
theorem dX1_countBorders_20 : decode cX1_countBorders 20 = .ok (.iinc 2 1, 3) := by decide +kernel
theorem dX1_countBorders_23 : decode cX1_countBorders 23 = .ok (.goto (-19), 3) := by decide +kernel
theorem dX1_countBorders_26 : decode cX1_countBorders 26 = .ok (.iload_n 1, 1) := by decide +kernel
theorem dX1_countBorders_27 : decode cX1_countBorders 27 = .ok (.iconst 2, 1) := by decide +kernel
theorem dX1_countBorders_28 : decode cX1_countBorders 28 = .ok (.idiv, 1) := by decide +kernel
theorem dX1_countBorders_29 : decode cX1_countBorders 29 = .ok (.ireturn, 1) := by decide +kernel
theorem dX1_countStuck_0 : decode cX1_countStuck 0 = .ok (.iconst 0, 1) := by decide +kernel
theorem dX1_countStuck_1 : decode cX1_countStuck 1 = .ok (.istore_n 1, 1) := by decide +kernel
theorem dX1_countStuck_2 : decode cX1_countStuck 2 = .ok (.iconst 0, 1) := by decide +kernel
theorem dX1_countStuck_3 : decode cX1_countStuck 3 = .ok (.istore_n 2, 1) := by decide +kernel
theorem dX1_countStuck_4 : decode cX1_countStuck 4 = .ok (.iload_n 2, 1) := by decide +kernel
theorem dX1_countStuck_5 : decode cX1_countStuck 5 = .ok (.aload_n 0, 1) := by decide +kernel
theorem dX1_countStuck_6 : decode cX1_countStuck 6 = .ok (.getfield 36, 3) := by decide +kernel
theorem dX1_countStuck_9 : decode cX1_countStuck 9 = .ok (.if_icmp .ge 20, 3) := by decide +kernel
theorem dX1_countStuck_12 : decode cX1_countStuck 12 = .ok (.aload_n 0, 1) := by decide +kernel
theorem dX1_countStuck_13 : decode cX1_countStuck 13 = .ok (.iload_n 2, 1) := by decide +kernel
theorem dX1_countStuck_14 : decode cX1_countStuck 14 = .ok (.invokevirtual 101, 3) := by decide +kernel
theorem dX1_countStuck_17 : decode cX1_countStuck 17 = .ok (.ifCond .eq 6, 3) := by decide +kernel
theorem dX1_countStuck_20 : decode cX1_countStuck 20 = .ok (.iinc 1 1, 3) := by decide +kernel
theorem dX1_countStuck_23 : decode cX1_countStuck 23 = .ok (.iinc 2 1, 3) := by decide +kernel
theorem dX1_countStuck_26 : decode cX1_countStuck 26 = .ok (.goto (-22), 3) := by decide +kernel
theorem dX1_countStuck_29 : decode cX1_countStuck 29 = .ok (.iload_n 1, 1) := by decide +kernel
theorem dX1_countStuck_30 : decode cX1_countStuck 30 = .ok (.ireturn, 1) := by decide +kernel
theorem dX1_countWishes_0 : decode cX1_countWishes 0 = .ok (.iconst 0, 1) := by decide +kernel
theorem dX1_countWishes_1 : decode cX1_countWishes 1 = .ok (.istore_n 1, 1) := by decide +kernel
theorem dX1_countWishes_2 : decode cX1_countWishes 2 = .ok (.iconst 0, 1) := by decide +kernel
theorem dX1_countWishes_3 : decode cX1_countWishes 3 = .ok (.istore_n 2, 1) := by decide +kernel
theorem dX1_countWishes_4 : decode cX1_countWishes 4 = .ok (.iload_n 2, 1) := by decide +kernel
theorem dX1_countWishes_5 : decode cX1_countWishes 5 = .ok (.aload_n 0, 1) := by decide +kernel
theorem dX1_countWishes_6 : decode cX1_countWishes 6 = .ok (.getfield 36, 3) := by decide +kernel
theorem dX1_countWishes_9 : decode cX1_countWishes 9 = .ok (.if_icmp .ge 22, 3) := by decide +kernel
theorem dX1_countWishes_12 : decode cX1_countWishes 12 = .ok (.aload_n 0, 1) := by decide +kernel
theorem dX1_countWishes_13 : decode cX1_countWishes 13 = .ok (.getfield 18, 3) := by decide +kernel
theorem dX1_countWishes_16 : decode cX1_countWishes 16 = .ok (.iload_n 2, 1) := by decide +kernel
theorem dX1_countWishes_17 : decode cX1_countWishes 17 = .ok (.iaload, 1) := by decide +kernel
theorem dX1_countWishes_18 : decode cX1_countWishes 18 = .ok (.iconst (-1), 1) := by decide +kernel
theorem dX1_countWishes_19 : decode cX1_countWishes 19 = .ok (.if_icmp .eq 6, 3) := by decide +kernel
theorem dX1_countWishes_22 : decode cX1_countWishes 22 = .ok (.iinc 1 1, 3) := by decide +kernel
theorem dX1_countWishes_25 : decode cX1_countWishes 25 = .ok (.iinc 2 1, 3) := by decide +kernel
theorem dX1_countWishes_28 : decode cX1_countWishes 28 = .ok (.goto (-24), 3) := by decide +kernel
theorem dX1_countWishes_31 : decode cX1_countWishes 31 = .ok (.iload_n 1, 1) := by decide +kernel
theorem dX1_countWishes_32 : decode cX1_countWishes 32 = .ok (.ireturn, 1) := by decide +kernel
theorem dX1_countFulfilled_0 : decode cX1_countFulfilled 0 = .ok (.iconst 0, 1) := by decide +kernel
theorem dX1_countFulfilled_1 : decode cX1_countFulfilled 1 = .ok (.istore_n 1, 1) := by decide +kernel
theorem dX1_countFulfilled_2 : decode cX1_countFulfilled 2 = .ok (.iconst 0, 1) := by decide +kernel
theorem dX1_countFulfilled_3 : decode cX1_countFulfilled 3 = .ok (.istore_n 2, 1) := by decide +kernel
theorem dX1_countFulfilled_4 : decode cX1_countFulfilled 4 = .ok (.iload_n 2, 1) := by decide +kernel
theorem dX1_countFulfilled_5 : decode cX1_countFulfilled 5 = .ok (.aload_n 0, 1) := by decide +kernel
theorem dX1_countFulfilled_6 : decode cX1_countFulfilled 6 = .ok (.getfield 36, 3) := by decide +kernel
theorem dX1_countFulfilled_9 : decode cX1_countFulfilled 9 = .ok (.if_icmp .ge 20, 3) := by decide +kernel
theorem dX1_countFulfilled_12 : decode cX1_countFulfilled 12 = .ok (.aload_n 0, 1) := by decide +kernel
theorem dX1_countFulfilled_13 : decode cX1_countFulfilled 13 = .ok (.iload_n 2, 1) := by decide +kernel
theorem dX1_countFulfilled_14 : decode cX1_countFulfilled 14 = .ok (.invokevirtual 116, 3) := by decide +kernel
theorem dX1_countFulfilled_17 : decode cX1_countFulfilled 17 = .ok (.ifCond .eq 6, 3) := by decide +kernel
theorem dX1_countFulfilled_20 : decode cX1_countFulfilled 20 = .ok (.iinc 1 1, 3) := by decide +kernel
theorem dX1_countFulfilled_23 : decode cX1_countFulfilled 23 = .ok (.iinc 2 1, 3) := by decide +kernel
theorem dX1_countFulfilled_26 : decode cX1_countFulfilled 26 = .ok (.goto (-22), 3) := by decide +kernel
theorem dX1_countFulfilled_29 : decode cX1_countFulfilled 29 = .ok (.iload_n 1, 1) := by decide +kernel
theorem dX1_countFulfilled_30 : decode cX1_countFulfilled 30 = .ok (.ireturn, 1) := by decide +kernel
theorem dX1_sumFulfilledCrowns_0 : decode cX1_sumFulfilledCrowns 0 = .ok (.iconst 0, 1) := by decide +kernel
theorem dX1_sumFulfilledCrowns_1 : decode cX1_sumFulfilledCrowns 1 = .ok (.istore_n 1, 1) := by decide +kernel
theorem dX1_sumFulfilledCrowns_2 : decode cX1_sumFulfilledCrowns 2 = .ok (.iconst 0, 1) := by decide +kernel
theorem dX1_sumFulfilledCrowns_3 : decode cX1_sumFulfilledCrowns 3 = .ok (.istore_n 2, 1) := by decide +kernel
theorem dX1_sumFulfilledCrowns_4 : decode cX1_sumFulfilledCrowns 4 = .ok (.iload_n 2, 1) := by decide +kernel
theorem dX1_sumFulfilledCrowns_5 : decode cX1_sumFulfilledCrowns 5 = .ok (.aload_n 0, 1) := by decide +kernel
theorem dX1_sumFulfilledCrowns_6 : decode cX1_sumFulfilledCrowns 6 = .ok (.getfield 36, 3) := by decide +kernel
theorem dX1_sumFulfilledCrowns_9 : decode cX1_sumFulfilledCrowns 9 = .ok (.if_icmp .ge 26, 3) := by decide +kernel
theorem dX1_sumFulfilledCrowns_12 : decode cX1_sumFulfilledCrowns 12 = .ok (.aload_n 0, 1) := by decide +kernel
theorem dX1_sumFulfilledCrowns_13 : decode cX1_sumFulfilledCrowns 13 = .ok (.iload_n 2, 1) := by decide +kernel
theorem dX1_sumFulfilledCrowns_14 : decode cX1_sumFulfilledCrowns 14 = .ok (.invokevirtual 116, 3) := by decide +kernel
theorem dX1_sumFulfilledCrowns_17 : decode cX1_sumFulfilledCrowns 17 = .ok (.ifCond .eq 12, 3) := by decide +kernel
theorem dX1_sumFulfilledCrowns_20 : decode cX1_sumFulfilledCrowns 20 = .ok (.iload_n 1, 1) := by decide +kernel
theorem dX1_sumFulfilledCrowns_21 : decode cX1_sumFulfilledCrowns 21 = .ok (.aload_n 0, 1) := by decide +kernel
theorem dX1_sumFulfilledCrowns_22 : decode cX1_sumFulfilledCrowns 22 = .ok (.getfield 21, 3) := by decide +kernel
theorem dX1_sumFulfilledCrowns_25 : decode cX1_sumFulfilledCrowns 25 = .ok (.iload_n 2, 1) := by decide +kernel
theorem dX1_sumFulfilledCrowns_26 : decode cX1_sumFulfilledCrowns 26 = .ok (.iaload, 1) := by decide +kernel
theorem dX1_sumFulfilledCrowns_27 : decode cX1_sumFulfilledCrowns 27 = .ok (.iadd, 1) := by decide +kernel
theorem dX1_sumFulfilledCrowns_28 : decode cX1_sumFulfilledCrowns 28 = .ok (.istore_n 1, 1) := by decide +kernel
theorem dX1_sumFulfilledCrowns_29 : decode cX1_sumFulfilledCrowns 29 = .ok (.iinc 2 1, 3) := by decide +kernel
theorem dX1_sumFulfilledCrowns_32 : decode cX1_sumFulfilledCrowns 32 = .ok (.goto (-28), 3) := by decide +kernel
theorem dX1_sumFulfilledCrowns_35 : decode cX1_sumFulfilledCrowns 35 = .ok (.iload_n 1, 1) := by decide +kernel
theorem dX1_sumFulfilledCrowns_36 : decode cX1_sumFulfilledCrowns 36 = .ok (.ireturn, 1) := by decide +kernel
theorem dX1_sumPaintedSizes_0 : decode cX1_sumPaintedSizes 0 = .ok (.iconst 0, 1) := by decide +kernel
theorem dX1_sumPaintedSizes_1 : decode cX1_sumPaintedSizes 1 = .ok (.istore_n 1, 1) := by decide +kernel
theorem dX1_sumPaintedSizes_2 : decode cX1_sumPaintedSizes 2 = .ok (.iconst 0, 1) := by decide +kernel
theorem dX1_sumPaintedSizes_3 : decode cX1_sumPaintedSizes 3 = .ok (.istore_n 2, 1) := by decide +kernel
theorem dX1_sumPaintedSizes_4 : decode cX1_sumPaintedSizes 4 = .ok (.iload_n 2, 1) := by decide +kernel
theorem dX1_sumPaintedSizes_5 : decode cX1_sumPaintedSizes 5 = .ok (.aload_n 0, 1) := by decide +kernel
theorem dX1_sumPaintedSizes_6 : decode cX1_sumPaintedSizes 6 = .ok (.getfield 36, 3) := by decide +kernel
theorem dX1_sumPaintedSizes_9 : decode cX1_sumPaintedSizes 9 = .ok (.if_icmp .ge 26, 3) := by decide +kernel
theorem dX1_sumPaintedSizes_12 : decode cX1_sumPaintedSizes 12 = .ok (.aload_n 0, 1) := by decide +kernel
theorem dX1_sumPaintedSizes_13 : decode cX1_sumPaintedSizes 13 = .ok (.iload_n 2, 1) := by decide +kernel
theorem dX1_sumPaintedSizes_14 : decode cX1_sumPaintedSizes 14 = .ok (.invokevirtual 59, 3) := by decide +kernel
theorem dX1_sumPaintedSizes_17 : decode cX1_sumPaintedSizes 17 = .ok (.ifCond .eq 12, 3) := by decide +kernel
theorem dX1_sumPaintedSizes_20 : decode cX1_sumPaintedSizes 20 = .ok (.iload_n 1, 1) := by decide +kernel
theorem dX1_sumPaintedSizes_21 : decode cX1_sumPaintedSizes 21 = .ok (.aload_n 0, 1) := by decide +kernel
theorem dX1_sumPaintedSizes_22 : decode cX1_sumPaintedSizes 22 = .ok (.getfield 9, 3) := by decide +kernel
theorem dX1_sumPaintedSizes_25 : decode cX1_sumPaintedSizes 25 = .ok (.iload_n 2, 1) := by decide +kernel
theorem dX1_sumPaintedSizes_26 : decode cX1_sumPaintedSizes 26 = .ok (.iaload, 1) := by decide +kernel
theorem dX1_sumPaintedSizes_27 : decode cX1_sumPaintedSizes 27 = .ok (.iadd, 1) := by decide +kernel
theorem dX1_sumPaintedSizes_28 : decode cX1_sumPaintedSizes 28 = .ok (.istore_n 1, 1) := by decide +kernel
theorem dX1_sumPaintedSizes_29 : decode cX1_sumPaintedSizes 29 = .ok (.iinc 2 1, 3) := by decide +kernel
theorem dX1_sumPaintedSizes_32 : decode cX1_sumPaintedSizes 32 = .ok (.goto (-28), 3) := by decide +kernel
theorem dX1_sumPaintedSizes_35 : decode cX1_sumPaintedSizes 35 = .ok (.iload_n 1, 1) := by decide +kernel
theorem dX1_sumPaintedSizes_36 : decode cX1_sumPaintedSizes 36 = .ok (.ireturn, 1) := by decide +kernel
theorem dX1_countHuesNeeded_0 : decode cX1_countHuesNeeded 0 = .ok (.iconst 1, 1) := by decide +kernel
theorem dX1_countHuesNeeded_1 : decode cX1_countHuesNeeded 1 = .ok (.istore_n 1, 1) := by decide +kernel
theorem dX1_countHuesNeeded_2 : decode cX1_countHuesNeeded 2 = .ok (.iconst 0, 1) := by decide +kernel
theorem dX1_countHuesNeeded_3 : decode cX1_countHuesNeeded 3 = .ok (.istore_n 2, 1) := by decide +kernel
theorem dX1_countHuesNeeded_4 : decode cX1_countHuesNeeded 4 = .ok (.iload_n 2, 1) := by decide +kernel
theorem dX1_countHuesNeeded_5 : decode cX1_countHuesNeeded 5 = .ok (.aload_n 0, 1) := by decide +kernel
theorem dX1_countHuesNeeded_6 : decode cX1_countHuesNeeded 6 = .ok (.getfield 36, 3) := by decide +kernel
theorem dX1_countHuesNeeded_9 : decode cX1_countHuesNeeded 9 = .ok (.if_icmp .ge 22, 3) := by decide +kernel
theorem dX1_countHuesNeeded_12 : decode cX1_countHuesNeeded 12 = .ok (.iload_n 1, 1) := by decide +kernel
theorem dX1_countHuesNeeded_13 : decode cX1_countHuesNeeded 13 = .ok (.aload_n 0, 1) := by decide +kernel
theorem dX1_countHuesNeeded_14 : decode cX1_countHuesNeeded 14 = .ok (.getfield 15, 3) := by decide +kernel
theorem dX1_countHuesNeeded_17 : decode cX1_countHuesNeeded 17 = .ok (.iload_n 2, 1) := by decide +kernel
theorem dX1_countHuesNeeded_18 : decode cX1_countHuesNeeded 18 = .ok (.iaload, 1) := by decide +kernel
theorem dX1_countHuesNeeded_19 : decode cX1_countHuesNeeded 19 = .ok (.iconst 1, 1) := by decide +kernel
theorem dX1_countHuesNeeded_20 : decode cX1_countHuesNeeded 20 = .ok (.iadd, 1) := by decide +kernel
theorem dX1_countHuesNeeded_21 : decode cX1_countHuesNeeded 21 = .ok (.invokestatic 119, 3) := by decide +kernel
theorem dX1_countHuesNeeded_24 : decode cX1_countHuesNeeded 24 = .ok (.istore_n 1, 1) := by decide +kernel
theorem dX1_countHuesNeeded_25 : decode cX1_countHuesNeeded 25 = .ok (.iinc 2 1, 3) := by decide +kernel
theorem dX1_countHuesNeeded_28 : decode cX1_countHuesNeeded 28 = .ok (.goto (-24), 3) := by decide +kernel
theorem dX1_countHuesNeeded_31 : decode cX1_countHuesNeeded 31 = .ok (.iload_n 1, 1) := by decide +kernel
theorem dX1_countHuesNeeded_32 : decode cX1_countHuesNeeded 32 = .ok (.ireturn, 1) := by decide +kernel
theorem dX1_isClique_0 : decode cX1_isClique 0 = .ok (.iload_n 1, 1) := by decide +kernel
theorem dX1_isClique_1 : decode cX1_isClique 1 = .ok (.aload_n 0, 1) := by decide +kernel
theorem dX1_isClique_2 : decode cX1_isClique 2 = .ok (.getfield 36, 3) := by decide +kernel
theorem dX1_isClique_5 : decode cX1_isClique 5 = .ok (.ishr, 1) := by decide +kernel
theorem dX1_isClique_6 : decode cX1_isClique 6 = .ok (.ifCond .eq 5, 3) := by decide +kernel
theorem dX1_isClique_9 : decode cX1_isClique 9 = .ok (.iconst 0, 1) := by decide +kernel
theorem dX1_isClique_10 : decode cX1_isClique 10 = .ok (.ireturn, 1) := by decide +kernel
theorem dX1_isClique_11 : decode cX1_isClique 11 = .ok (.iconst 0, 1) := by decide +kernel
theorem dX1_isClique_12 : decode cX1_isClique 12 = .ok (.istore_n 2, 1) := by decide +kernel
theorem dX1_isClique_13 : decode cX1_isClique 13 = .ok (.iload_n 2, 1) := by decide +kernel
theorem dX1_isClique_14 : decode cX1_isClique 14 = .ok (.aload_n 0, 1) := by decide +kernel
theorem dX1_isClique_15 : decode cX1_isClique 15 = .ok (.getfield 36, 3) := by decide +kernel
theorem dX1_isClique_18 : decode cX1_isClique 18 = .ok (.if_icmp .ge 37, 3) := by decide +kernel
theorem dX1_isClique_21 : decode cX1_isClique 21 = .ok (.iload_n 1, 1) := by decide +kernel
theorem dX1_isClique_22 : decode cX1_isClique 22 = .ok (.aload_n 0, 1) := by decide +kernel
theorem dX1_isClique_23 : decode cX1_isClique 23 = .ok (.getfield 24, 3) := by decide +kernel
theorem dX1_isClique_26 : decode cX1_isClique 26 = .ok (.iload_n 2, 1) := by decide +kernel
theorem dX1_isClique_27 : decode cX1_isClique 27 = .ok (.iaload, 1) := by decide +kernel
theorem dX1_isClique_28 : decode cX1_isClique 28 = .ok (.iconst (-1), 1) := by decide +kernel
theorem dX1_isClique_29 : decode cX1_isClique 29 = .ok (.ixor, 1) := by decide +kernel
theorem dX1_isClique_30 : decode cX1_isClique 30 = .ok (.iand, 1) := by decide +kernel
theorem dX1_isClique_31 : decode cX1_isClique 31 = .ok (.istore_n 3, 1) := by decide +kernel
theorem dX1_isClique_32 : decode cX1_isClique 32 = .ok (.iload_n 3, 1) := by decide +kernel
theorem dX1_isClique_33 : decode cX1_isClique 33 = .ok (.iload_n 2, 1) := by decide +kernel
theorem dX1_isClique_34 : decode cX1_isClique 34 = .ok (.ishr, 1) := by decide +kernel
theorem dX1_isClique_35 : decode cX1_isClique 35 = .ok (.iconst 1, 1) := by decide +kernel
theorem dX1_isClique_36 : decode cX1_isClique 36 = .ok (.iand, 1) := by decide +kernel
theorem dX1_isClique_37 : decode cX1_isClique 37 = .ok (.ifCond .eq 12, 3) := by decide +kernel
theorem dX1_isClique_40 : decode cX1_isClique 40 = .ok (.iload_n 3, 1) := by decide +kernel
theorem dX1_isClique_41 : decode cX1_isClique 41 = .ok (.iconst 1, 1) := by decide +kernel
theorem dX1_isClique_42 : decode cX1_isClique 42 = .ok (.iload_n 2, 1) := by decide +kernel
theorem dX1_isClique_43 : decode cX1_isClique 43 = .ok (.ishl, 1) := by decide +kernel
theorem dX1_isClique_44 : decode cX1_isClique 44 = .ok (.if_icmp .eq 5, 3) := by decide +kernel
theorem dX1_isClique_47 : decode cX1_isClique 47 = .ok (.iconst 0, 1) := by decide +kernel
theorem dX1_isClique_48 : decode cX1_isClique 48 = .ok (.ireturn, 1) := by decide +kernel
theorem dX1_isClique_49 : decode cX1_isClique 49 = .ok (.iinc 2 1, 3) := by decide +kernel
theorem dX1_isClique_52 : decode cX1_isClique 52 = .ok (.goto (-39), 3) := by decide +kernel
theorem dX1_isClique_55 : decode cX1_isClique 55 = .ok (.iconst 1, 1) := by decide +kernel
theorem dX1_isClique_56 : decode cX1_isClique 56 = .ok (.ireturn, 1) := by decide +kernel
theorem dX1_noBorderInOneHue_0 : decode cX1_noBorderInOneHue 0 = .ok (.iconst 0, 1) := by decide +kernel
theorem dX1_noBorderInOneHue_1 : decode cX1_noBorderInOneHue 1 = .ok (.istore_n 1, 1) := by decide +kernel
theorem dX1_noBorderInOneHue_2 : decode cX1_noBorderInOneHue 2 = .ok (.iload_n 1, 1) := by decide +kernel
theorem dX1_noBorderInOneHue_3 : decode cX1_noBorderInOneHue 3 = .ok (.aload_n 0, 1) := by decide +kernel
theorem dX1_noBorderInOneHue_4 : decode cX1_noBorderInOneHue 4 = .ok (.getfield 36, 3) := by decide +kernel
theorem dX1_noBorderInOneHue_7 : decode cX1_noBorderInOneHue 7 = .ok (.if_icmp .ge 56, 3) := by decide +kernel
theorem dX1_noBorderInOneHue_10 : decode cX1_noBorderInOneHue 10 = .ok (.iconst 0, 1) := by decide +kernel
theorem dX1_noBorderInOneHue_11 : decode cX1_noBorderInOneHue 11 = .ok (.istore_n 2, 1) := by decide +kernel
theorem dX1_noBorderInOneHue_12 : decode cX1_noBorderInOneHue 12 = .ok (.iload_n 2, 1) := by decide +kernel
theorem dX1_noBorderInOneHue_13 : decode cX1_noBorderInOneHue 13 = .ok (.iload_n 1, 1) := by decide +kernel
theorem dX1_noBorderInOneHue_14 : decode cX1_noBorderInOneHue 14 = .ok (.if_icmp .ge 43, 3) := by decide +kernel
theorem dX1_noBorderInOneHue_17 : decode cX1_noBorderInOneHue 17 = .ok (.aload_n 0, 1) := by decide +kernel
theorem dX1_noBorderInOneHue_18 : decode cX1_noBorderInOneHue 18 = .ok (.iload_n 1, 1) := by decide +kernel
theorem dX1_noBorderInOneHue_19 : decode cX1_noBorderInOneHue 19 = .ok (.iload_n 2, 1) := by decide +kernel
theorem dX1_noBorderInOneHue_20 : decode cX1_noBorderInOneHue 20 = .ok (.invokevirtual 55, 3) := by decide +kernel
theorem dX1_noBorderInOneHue_23 : decode cX1_noBorderInOneHue 23 = .ok (.ifCond .eq 28, 3) := by decide +kernel
theorem dX1_noBorderInOneHue_26 : decode cX1_noBorderInOneHue 26 = .ok (.aload_n 0, 1) := by decide +kernel
theorem dX1_noBorderInOneHue_27 : decode cX1_noBorderInOneHue 27 = .ok (.iload_n 1, 1) := by decide +kernel
theorem dX1_noBorderInOneHue_28 : decode cX1_noBorderInOneHue 28 = .ok (.invokevirtual 59, 3) := by decide +kernel
theorem dX1_noBorderInOneHue_31 : decode cX1_noBorderInOneHue 31 = .ok (.ifCond .eq 20, 3) := by decide +kernel
theorem dX1_noBorderInOneHue_34 : decode cX1_noBorderInOneHue 34 = .ok (.aload_n 0, 1) := by decide +kernel
theorem dX1_noBorderInOneHue_35 : decode cX1_noBorderInOneHue 35 = .ok (.getfield 15, 3) := by decide +kernel
theorem dX1_noBorderInOneHue_38 : decode cX1_noBorderInOneHue 38 = .ok (.iload_n 1, 1) := by decide +kernel
theorem dX1_noBorderInOneHue_39 : decode cX1_noBorderInOneHue 39 = .ok (.iaload, 1) := by decide +kernel
theorem dX1_noBorderInOneHue_40 : decode cX1_noBorderInOneHue 40 = .ok (.aload_n 0, 1) := by decide +kernel
theorem dX1_noBorderInOneHue_41 : decode cX1_noBorderInOneHue 41 = .ok (.getfield 15, 3) := by decide +kernel
theorem dX1_noBorderInOneHue_44 : decode cX1_noBorderInOneHue 44 = .ok (.iload_n 2, 1) := by decide +kernel
theorem dX1_noBorderInOneHue_45 : decode cX1_noBorderInOneHue 45 = .ok (.iaload, 1) := by decide +kernel
theorem dX1_noBorderInOneHue_46 : decode cX1_noBorderInOneHue 46 = .ok (.if_icmp .ne 5, 3) := by decide +kernel
theorem dX1_noBorderInOneHue_49 : decode cX1_noBorderInOneHue 49 = .ok (.iconst 0, 1) := by decide +kernel
theorem dX1_noBorderInOneHue_50 : decode cX1_noBorderInOneHue 50 = .ok (.ireturn, 1) := by decide +kernel
theorem dX1_noBorderInOneHue_51 : decode cX1_noBorderInOneHue 51 = .ok (.iinc 2 1, 3) := by decide +kernel
theorem dX1_noBorderInOneHue_54 : decode cX1_noBorderInOneHue 54 = .ok (.goto (-42), 3) := by decide +kernel
theorem dX1_noBorderInOneHue_57 : decode cX1_noBorderInOneHue 57 = .ok (.iinc 1 1, 3) := by decide +kernel
theorem dX1_noBorderInOneHue_60 : decode cX1_noBorderInOneHue 60 = .ok (.goto (-58), 3) := by decide +kernel
theorem dX1_noBorderInOneHue_63 : decode cX1_noBorderInOneHue 63 = .ok (.iconst 1, 1) := by decide +kernel
theorem dX1_noBorderInOneHue_64 : decode cX1_noBorderInOneHue 64 = .ok (.ireturn, 1) := by decide +kernel
theorem dX1_stepsAreThePainted_0 : decode cX1_stepsAreThePainted 0 = .ok (.iconst 0, 1) := by decide +kernel
theorem dX1_stepsAreThePainted_1 : decode cX1_stepsAreThePainted 1 = .ok (.istore_n 1, 1) := by decide +kernel
theorem dX1_stepsAreThePainted_2 : decode cX1_stepsAreThePainted 2 = .ok (.iconst 0, 1) := by decide +kernel
theorem dX1_stepsAreThePainted_3 : decode cX1_stepsAreThePainted 3 = .ok (.istore_n 2, 1) := by decide +kernel
theorem dX1_stepsAreThePainted_4 : decode cX1_stepsAreThePainted 4 = .ok (.iload_n 2, 1) := by decide +kernel
theorem dX1_stepsAreThePainted_5 : decode cX1_stepsAreThePainted 5 = .ok (.aload_n 0, 1) := by decide +kernel
theorem dX1_stepsAreThePainted_6 : decode cX1_stepsAreThePainted 6 = .ok (.getfield 43, 3) := by decide +kernel
theorem dX1_stepsAreThePainted_9 : decode cX1_stepsAreThePainted 9 = .ok (.if_icmp .ge 20, 3) := by decide +kernel
theorem dX1_stepsAreThePainted_12 : decode cX1_stepsAreThePainted 12 = .ok (.iload_n 1, 1) := by decide +kernel
theorem dX1_stepsAreThePainted_13 : decode cX1_stepsAreThePainted 13 = .ok (.iconst 1, 1) := by decide +kernel
theorem dX1_stepsAreThePainted_14 : decode cX1_stepsAreThePainted 14 = .ok (.aload_n 0, 1) := by decide +kernel
theorem dX1_stepsAreThePainted_15 : decode cX1_stepsAreThePainted 15 = .ok (.getfield 27, 3) := by decide +kernel
theorem dX1_stepsAreThePainted_18 : decode cX1_stepsAreThePainted 18 = .ok (.iload_n 2, 1) := by decide +kernel
theorem dX1_stepsAreThePainted_19 : decode cX1_stepsAreThePainted 19 = .ok (.iaload, 1) := by decide +kernel
theorem dX1_stepsAreThePainted_20 : decode cX1_stepsAreThePainted 20 = .ok (.ishl, 1) := by decide +kernel
theorem dX1_stepsAreThePainted_21 : decode cX1_stepsAreThePainted 21 = .ok (.ior, 1) := by decide +kernel
theorem dX1_stepsAreThePainted_22 : decode cX1_stepsAreThePainted 22 = .ok (.istore_n 1, 1) := by decide +kernel
theorem dX1_stepsAreThePainted_23 : decode cX1_stepsAreThePainted 23 = .ok (.iinc 2 1, 3) := by decide +kernel
theorem dX1_stepsAreThePainted_26 : decode cX1_stepsAreThePainted 26 = .ok (.goto (-22), 3) := by decide +kernel
theorem dX1_stepsAreThePainted_29 : decode cX1_stepsAreThePainted 29 = .ok (.aload_n 0, 1) := by decide +kernel
theorem dX1_stepsAreThePainted_30 : decode cX1_stepsAreThePainted 30 = .ok (.getfield 43, 3) := by decide +kernel
theorem dX1_stepsAreThePainted_33 : decode cX1_stepsAreThePainted 33 = .ok (.aload_n 0, 1) := by decide +kernel
theorem dX1_stepsAreThePainted_34 : decode cX1_stepsAreThePainted 34 = .ok (.invokevirtual 122, 3) := by decide +kernel
theorem dX1_stepsAreThePainted_37 : decode cX1_stepsAreThePainted 37 = .ok (.if_icmp .ne 24, 3) := by decide +kernel
theorem dX1_stepsAreThePainted_40 : decode cX1_stepsAreThePainted 40 = .ok (.iload_n 1, 1) := by decide +kernel
theorem dX1_stepsAreThePainted_41 : decode cX1_stepsAreThePainted 41 = .ok (.aload_n 0, 1) := by decide +kernel
theorem dX1_stepsAreThePainted_42 : decode cX1_stepsAreThePainted 42 = .ok (.invokevirtual 107, 3) := by decide +kernel
theorem dX1_stepsAreThePainted_45 : decode cX1_stepsAreThePainted 45 = .ok (.ixor, 1) := by decide +kernel
theorem dX1_stepsAreThePainted_46 : decode cX1_stepsAreThePainted 46 = .ok (.iconst 1, 1) := by decide +kernel
theorem dX1_stepsAreThePainted_47 : decode cX1_stepsAreThePainted 47 = .ok (.aload_n 0, 1) := by decide +kernel
theorem dX1_stepsAreThePainted_48 : decode cX1_stepsAreThePainted 48 = .ok (.getfield 36, 3) := by decide +kernel
theorem dX1_stepsAreThePainted_51 : decode cX1_stepsAreThePainted 51 = .ok (.ishl, 1) := by decide +kernel
theorem dX1_stepsAreThePainted_52 : decode cX1_stepsAreThePainted 52 = .ok (.iconst 1, 1) := by decide +kernel
theorem dX1_stepsAreThePainted_53 : decode cX1_stepsAreThePainted 53 = .ok (.isub, 1) := by decide +kernel
theorem dX1_stepsAreThePainted_54 : decode cX1_stepsAreThePainted 54 = .ok (.if_icmp .ne 7, 3) := by decide +kernel
theorem dX1_stepsAreThePainted_57 : decode cX1_stepsAreThePainted 57 = .ok (.iconst 1, 1) := by decide +kernel
theorem dX1_stepsAreThePainted_58 : decode cX1_stepsAreThePainted 58 = .ok (.goto 4, 3) := by decide +kernel
theorem dX1_stepsAreThePainted_61 : decode cX1_stepsAreThePainted 61 = .ok (.iconst 0, 1) := by decide +kernel
theorem dX1_stepsAreThePainted_62 : decode cX1_stepsAreThePainted 62 = .ok (.ireturn, 1) := by decide +kernel
theorem dX2_init_0 : decode cX2_init 0 = .ok (.aload_n 0, 1) := by decide +kernel
theorem dX2_init_1 : decode cX2_init 1 = .ok (.invokespecial 3, 3) := by decide +kernel
theorem dX2_init_4 : decode cX2_init 4 = .ok (.aload_n 0, 1) := by decide +kernel
theorem dX2_init_5 : decode cX2_init 5 = .ok (.bipush 60, 2) := by decide +kernel
theorem dX2_init_7 : decode cX2_init 7 = .ok (.newarray .char, 2) := by decide +kernel
theorem dX2_init_9 : decode cX2_init 9 = .ok (.putfield 9, 3) := by decide +kernel
theorem dX2_init_12 : decode cX2_init 12 = .ok (.aload_n 0, 1) := by decide +kernel
theorem dX2_init_13 : decode cX2_init 13 = .ok (.iconst 0, 1) := by decide +kernel
theorem dX2_init_14 : decode cX2_init 14 = .ok (.putfield 15, 3) := by decide +kernel
theorem dX2_init_17 : decode cX2_init 17 = .ok (.aload_n 0, 1) := by decide +kernel
theorem dX2_init_18 : decode cX2_init 18 = .ok (.iconst 0, 1) := by decide +kernel
theorem dX2_init_19 : decode cX2_init 19 = .ok (.putfield 19, 3) := by decide +kernel
theorem dX2_init_22 : decode cX2_init 22 = .ok (.aload_n 0, 1) := by decide +kernel
theorem dX2_init_23 : decode cX2_init 23 = .ok (.iconst 0, 1) := by decide +kernel
theorem dX2_init_24 : decode cX2_init 24 = .ok (.putfield 22, 3) := by decide +kernel
theorem dX2_init_27 : decode cX2_init 27 = .ok (.aload_n 0, 1) := by decide +kernel
theorem dX2_init_28 : decode cX2_init 28 = .ok (.iconst 3, 1) := by decide +kernel
theorem dX2_init_29 : decode cX2_init 29 = .ok (.newarray .int, 2) := by decide +kernel
theorem dX2_init_31 : decode cX2_init 31 = .ok (.putfield 25, 3) := by decide +kernel
theorem dX2_init_34 : decode cX2_init 34 = .ok (.aload_n 0, 1) := by decide +kernel
theorem dX2_init_35 : decode cX2_init 35 = .ok (.iconst 0, 1) := by decide +kernel
theorem dX2_init_36 : decode cX2_init 36 = .ok (.putfield 29, 3) := by decide +kernel
theorem dX2_init_39 : decode cX2_init 39 = .ok (.return_, 1) := by decide +kernel
theorem dX2_add_0 : decode cX2_add 0 = .ok (.aload_n 0, 1) := by decide +kernel
theorem dX2_add_1 : decode cX2_add 1 = .ok (.getfield 15, 3) := by decide +kernel
theorem dX2_add_4 : decode cX2_add 4 = .ok (.bipush 60, 2) := by decide +kernel
theorem dX2_add_6 : decode cX2_add 6 = .ok (.if_icmp .ge 23, 3) := by decide +kernel
theorem dX2_add_9 : decode cX2_add 9 = .ok (.aload_n 0, 1) := by decide +kernel
theorem dX2_add_10 : decode cX2_add 10 = .ok (.getfield 9, 3) := by decide +kernel
theorem dX2_add_13 : decode cX2_add 13 = .ok (.aload_n 0, 1) := by decide +kernel
theorem dX2_add_14 : decode cX2_add 14 = .ok (.getfield 15, 3) := by decide +kernel
theorem dX2_add_17 : decode cX2_add 17 = .ok (.iload_n 1, 1) := by decide +kernel
theorem dX2_add_18 : decode cX2_add 18 = .ok (.castore, 1) := by decide +kernel
theorem dX2_add_19 : decode cX2_add 19 = .ok (.aload_n 0, 1) := by decide +kernel
theorem dX2_add_20 : decode cX2_add 20 = .ok (.dup, 1) := by decide +kernel
theorem dX2_add_21 : decode cX2_add 21 = .ok (.getfield 15, 3) := by decide +kernel
theorem dX2_add_24 : decode cX2_add 24 = .ok (.iconst 1, 1) := by decide +kernel
theorem dX2_add_25 : decode cX2_add 25 = .ok (.iadd, 1) := by decide +kernel
theorem dX2_add_26 : decode cX2_add 26 = .ok (.putfield 15, 3) := by decide +kernel
theorem dX2_add_29 : decode cX2_add 29 = .ok (.return_, 1) := by decide +kernel
theorem dX2_findError_0 : decode cX2_findError 0 = .ok (.aload_n 0, 1) := by decide +kernel
theorem dX2_findError_1 : decode cX2_findError 1 = .ok (.iconst 0, 1) := by decide +kernel
theorem dX2_findError_2 : decode cX2_findError 2 = .ok (.putfield 19, 3) := by decide +kernel
theorem dX2_findError_5 : decode cX2_findError 5 = .ok (.iconst 0, 1) := by decide +kernel
theorem dX2_findError_6 : decode cX2_findError 6 = .ok (.istore_n 1, 1) := by decide +kernel
theorem dX2_findError_7 : decode cX2_findError 7 = .ok (.iload_n 1, 1) := by decide +kernel
theorem dX2_findError_8 : decode cX2_findError 8 = .ok (.bipush 60, 2) := by decide +kernel
theorem dX2_findError_10 : decode cX2_findError 10 = .ok (.if_icmp .ge 63, 3) := by decide +kernel
theorem dX2_findError_13 : decode cX2_findError 13 = .ok (.aload_n 0, 1) := by decide +kernel
theorem dX2_findError_14 : decode cX2_findError 14 = .ok (.invokevirtual 32, 3) := by decide +kernel
theorem dX2_findError_17 : decode cX2_findError 17 = .ok (.ifCond .ne 8, 3) := by decide +kernel
theorem dX2_findError_20 : decode cX2_findError 20 = .ok (.aload_n 0, 1) := by decide +kernel
theorem dX2_findError_21 : decode cX2_findError 21 = .ok (.getfield 19, 3) := by decide +kernel
theorem dX2_findError_24 : decode cX2_findError 24 = .ok (.ireturn, 1) := by decide +kernel
theorem dX2_findError_25 : decode cX2_findError 25 = .ok (.aload_n 0, 1) := by decide +kernel
theorem dX2_findError_26 : decode cX2_findError 26 = .ok (.getfield 19, 3) := by decide +kernel
theorem dX2_findError_29 : decode cX2_findError 29 = .ok (.aload_n 0, 1) := by decide +kernel
theorem dX2_findError_30 : decode cX2_findError 30 = .ok (.getfield 15, 3) := by decide +kernel
theorem dX2_findError_33 : decode cX2_findError 33 = .ok (.if_icmp .lt 5, 3) := by decide +kernel
theorem dX2_findError_36 : decode cX2_findError 36 = .ok (.iconst (-1), 1) := by decide +kernel
theorem dX2_findError_37 : decode cX2_findError 37 = .ok (.ireturn, 1) := by decide +kernel
theorem dX2_findError_38 : decode cX2_findError 38 = .ok (.aload_n 0, 1) := by decide +kernel
theorem dX2_findError_39 : decode cX2_findError 39 = .ok (.getfield 9, 3) := by decide +kernel
theorem dX2_findError_42 : decode cX2_findError 42 = .ok (.aload_n 0, 1) := by decide +kernel
theorem dX2_findError_43 : decode cX2_findError 43 = .ok (.getfield 19, 3) := by decide +kernel
theorem dX2_findError_46 : decode cX2_findError 46 = .ok (.caload, 1) := by decide +kernel
theorem dX2_findError_47 : decode cX2_findError 47 = .ok (.bipush 59, 2) := by decide +kernel
theorem dX2_findError_49 : decode cX2_findError 49 = .ok (.if_icmp .eq 8, 3) := by decide +kernel
theorem dX2_findError_52 : decode cX2_findError 52 = .ok (.aload_n 0, 1) := by decide +kernel
theorem dX2_findError_53 : decode cX2_findError 53 = .ok (.getfield 19, 3) := by decide +kernel
theorem dX2_findError_56 : decode cX2_findError 56 = .ok (.ireturn, 1) := by decide +kernel
theorem dX2_findError_57 : decode cX2_findError 57 = .ok (.aload_n 0, 1) := by decide +kernel
theorem dX2_findError_58 : decode cX2_findError 58 = .ok (.dup, 1) := by decide +kernel
theorem dX2_findError_59 : decode cX2_findError 59 = .ok (.getfield 19, 3) := by decide +kernel
theorem dX2_findError_62 : decode cX2_findError 62 = .ok (.iconst 1, 1) := by decide +kernel
theorem dX2_findError_63 : decode cX2_findError 63 = .ok (.iadd, 1) := by decide +kernel
theorem dX2_findError_64 : decode cX2_findError 64 = .ok (.putfield 19, 3) := by decide +kernel
theorem dX2_findError_67 : decode cX2_findError 67 = .ok (.iinc 1 1, 3) := by decide +kernel
theorem dX2_findError_70 : decode cX2_findError 70 = .ok (.goto (-63), 3) := by decide +kernel
theorem dX2_findError_73 : decode cX2_findError 73 = .ok (.aload_n 0, 1) := by decide +kernel
theorem dX2_findError_74 : decode cX2_findError 74 = .ok (.getfield 19, 3) := by decide +kernel
theorem dX2_findError_77 : decode cX2_findError 77 = .ok (.ireturn, 1) := by decide +kernel
theorem dX2_takeOrder_0 : decode cX2_takeOrder 0 = .ok (.aload_n 0, 1) := by decide +kernel
theorem dX2_takeOrder_1 : decode cX2_takeOrder 1 = .ok (.invokevirtual 32, 3) := by decide +kernel
theorem dX2_takeOrder_4 : decode cX2_takeOrder 4 = .ok (.istore_n 1, 1) := by decide +kernel
theorem dX2_takeOrder_5 : decode cX2_takeOrder 5 = .ok (.aload_n 0, 1) := by decide +kernel
theorem dX2_takeOrder_6 : decode cX2_takeOrder 6 = .ok (.dup, 1) := by decide +kernel
theorem dX2_takeOrder_7 : decode cX2_takeOrder 7 = .ok (.getfield 19, 3) := by decide +kernel
theorem dX2_takeOrder_10 : decode cX2_takeOrder 10 = .ok (.iconst 1, 1) := by decide +kernel
theorem dX2_takeOrder_11 : decode cX2_takeOrder 11 = .ok (.iadd, 1) := by decide +kernel
theorem dX2_takeOrder_12 : decode cX2_takeOrder 12 = .ok (.putfield 19, 3) := by decide +kernel
theorem dX2_takeOrder_15 : decode cX2_takeOrder 15 = .ok (.iload_n 1, 1) := by decide +kernel
theorem dX2_takeOrder_16 : decode cX2_takeOrder 16 = .ok (.ireturn, 1) := by decide +kernel
theorem dX2_takeParts_0 : decode cX2_takeParts 0 = .ok (.aload_n 0, 1) := by decide +kernel
theorem dX2_takeParts_1 : decode cX2_takeParts 1 = .ok (.getfield 19, 3) := by decide +kernel
theorem dX2_takeParts_4 : decode cX2_takeParts 4 = .ok (.aload_n 0, 1) := by decide +kernel
theorem dX2_takeParts_5 : decode cX2_takeParts 5 = .ok (.getfield 15, 3) := by decide +kernel
theorem dX2_takeParts_8 : decode cX2_takeParts 8 = .ok (.if_icmp .lt 5, 3) := by decide +kernel
theorem dX2_takeParts_11 : decode cX2_takeParts 11 = .ok (.iconst 0, 1) := by decide +kernel
theorem dX2_takeParts_12 : decode cX2_takeParts 12 = .ok (.ireturn, 1) := by decide +kernel
theorem dX2_takeParts_13 : decode cX2_takeParts 13 = .ok (.aload_n 0, 1) := by decide +kernel
theorem dX2_takeParts_14 : decode cX2_takeParts 14 = .ok (.aload_n 0, 1) := by decide +kernel
theorem dX2_takeParts_15 : decode cX2_takeParts 15 = .ok (.getfield 9, 3) := by decide +kernel
theorem dX2_takeParts_18 : decode cX2_takeParts 18 = .ok (.aload_n 0, 1) := by decide +kernel
theorem dX2_takeParts_19 : decode cX2_takeParts 19 = .ok (.getfield 19, 3) := by decide +kernel
theorem dX2_takeParts_22 : decode cX2_takeParts 22 = .ok (.caload, 1) := by decide +kernel
theorem dX2_takeParts_23 : decode cX2_takeParts 23 = .ok (.putfield 22, 3) := by decide +kernel
theorem dX2_takeParts_26 : decode cX2_takeParts 26 = .ok (.aload_n 0, 1) := by decide +kernel
theorem dX2_takeParts_27 : decode cX2_takeParts 27 = .ok (.getfield 22, 3) := by decide +kernel
theorem dX2_takeParts_30 : decode cX2_takeParts 30 = .ok (.invokestatic 36, 3) := by decide +kernel
theorem dX2_takeParts_33 : decode cX2_takeParts 33 = .ok (.astore_n 1, 1) := by decide +kernel
theorem dX2_takeParts_34 : decode cX2_takeParts 34 = .ok (.aload_n 1, 1) := by decide +kernel
theorem dX2_takeParts_35 : decode cX2_takeParts 35 = .ok (.ifnonnull 5, 3) := by decide +kernel
theorem dX2_takeParts_38 : decode cX2_takeParts 38 = .ok (.iconst 0, 1) := by decide +kernel
theorem dX2_takeParts_39 : decode cX2_takeParts 39 = .ok (.ireturn, 1) := by decide +kernel
theorem dX2_takeParts_40 : decode cX2_takeParts 40 = .ok (.aload_n 0, 1) := by decide +kernel
theorem dX2_takeParts_41 : decode cX2_takeParts 41 = .ok (.dup, 1) := by decide +kernel
theorem dX2_takeParts_42 : decode cX2_takeParts 42 = .ok (.getfield 19, 3) := by decide +kernel
theorem dX2_takeParts_45 : decode cX2_takeParts 45 = .ok (.iconst 1, 1) := by decide +kernel
theorem dX2_takeParts_46 : decode cX2_takeParts 46 = .ok (.iadd, 1) := by decide +kernel
theorem dX2_takeParts_47 : decode cX2_takeParts 47 = .ok (.putfield 19, 3) := by decide +kernel
theorem dX2_takeParts_50 : decode cX2_takeParts 50 = .ok (.aload_n 0, 1) := by decide +kernel
theorem dX2_takeParts_51 : decode cX2_takeParts 51 = .ok (.iconst 0, 1) := by decide +kernel
theorem dX2_takeParts_52 : decode cX2_takeParts 52 = .ok (.putfield 29, 3) := by decide +kernel
theorem dX2_takeParts_55 : decode cX2_takeParts 55 = .ok (.iconst 0, 1) := by decide +kernel
theorem dX2_takeParts_56 : decode cX2_takeParts 56 = .ok (.istore_n 2, 1) := by decide +kernel
theorem dX2_takeParts_57 : decode cX2_takeParts 57 = .ok (.iload_n 2, 1) := by decide +kernel
theorem dX2_takeParts_58 : decode cX2_takeParts 58 = .ok (.aload_n 1, 1) := by decide +kernel
theorem dX2_takeParts_59 : decode cX2_takeParts 59 = .ok (.invokevirtual 40, 3) := by decide +kernel
theorem dX2_takeParts_62 : decode cX2_takeParts 62 = .ok (.if_icmp .ge 23, 3) := by decide +kernel
theorem dX2_takeParts_65 : decode cX2_takeParts 65 = .ok (.aload_n 0, 1) := by decide +kernel
theorem dX2_takeParts_66 : decode cX2_takeParts 66 = .ok (.aload_n 1, 1) := by decide +kernel
theorem dX2_takeParts_67 : decode cX2_takeParts 67 = .ok (.iload_n 2, 1) := by decide +kernel
theorem dX2_takeParts_68 : decode cX2_takeParts 68 = .ok (.invokevirtual 45, 3) := by decide +kernel
theorem dX2_takeParts_71 : decode cX2_takeParts 71 = .ok (.invokevirtual 49, 3) := by decide +kernel
theorem dX2_takeParts_74 : decode cX2_takeParts 74 = .ok (.ifCond .ne 5, 3) := by decide +kernel
theorem dX2_takeParts_77 : decode cX2_takeParts 77 = .ok (.iconst 0, 1) := by decide +kernel
theorem dX2_takeParts_78 : decode cX2_takeParts 78 = .ok (.ireturn, 1) := by decide +kernel
theorem dX2_takeParts_79 : decode cX2_takeParts 79 = .ok (.iinc 2 1, 3) := by decide +kernel
theorem dX2_takeParts_82 : decode cX2_takeParts 82 = .ok (.goto (-25), 3) := by decide +kernel
theorem dX2_takeParts_85 : decode cX2_takeParts 85 = .ok (.iconst 1, 1) := by decide +kernel
theorem dX2_takeParts_86 : decode cX2_takeParts 86 = .ok (.ireturn, 1) := by decide +kernel
theorem dX2_shapeOf_0 : decode cX2_shapeOf 0 = .ok (.iload_n 0, 1) := by decide +kernel
theorem dX2_shapeOf_1 : decode cX2_shapeOf 1 = .ok (.tableswitch 128 98 120 #[110, 128, 128, 128, 116, 128, 122, 128, 125, 128, 128, 128, 128, 128, 107, 128, 128, 128, 128, 128, 128, 119, 113], 107) := by decide +kernel
theorem dX2_shapeOf_108 : decode cX2_shapeOf 108 = .ok (.ldc 53, 2) := by decide +kernel
theorem dX2_shapeOf_110 : decode cX2_shapeOf 110 = .ok (.areturn, 1) := by decide +kernel
theorem dX2_shapeOf_111 : decode cX2_shapeOf 111 = .ok (.ldc 55, 2) := by decide +kernel
theorem dX2_shapeOf_113 : decode cX2_shapeOf 113 = .ok (.areturn, 1) := by decide +kernel
theorem dX2_shapeOf_114 : decode cX2_shapeOf 114 = .ok (.ldc 57, 2) := by decide +kernel
theorem dX2_shapeOf_116 : decode cX2_shapeOf 116 = .ok (.areturn, 1) := by decide +kernel
theorem dX2_shapeOf_117 : decode cX2_shapeOf 117 = .ok (.ldc 57, 2) := by decide +kernel
theorem dX2_shapeOf_119 : decode cX2_shapeOf 119 = .ok (.areturn, 1) := by decide +kernel
theorem dX2_shapeOf_120 : decode cX2_shapeOf 120 = .ok (.ldc 59, 2) := by decide +kernel
theorem dX2_shapeOf_122 : decode cX2_shapeOf 122 = .ok (.areturn, 1) := by decide +kernel
theorem dX2_shapeOf_123 : decode cX2_shapeOf 123 = .ok (.ldc 61, 2) := by decide +kernel
theorem dX2_shapeOf_125 : decode cX2_shapeOf 125 = .ok (.areturn, 1) := by decide +kernel
theorem dX2_shapeOf_126 : decode cX2_shapeOf 126 = .ok (.ldc 63, 2) := by decide +kernel
theorem dX2_shapeOf_128 : decode cX2_shapeOf 128 = .ok (.areturn, 1) := by decide +kernel
theorem dX2_shapeOf_129 : decode cX2_shapeOf 129 = .ok (.aconst_null, 1) := by decide +kernel
theorem dX2_shapeOf_130 : decode cX2_shapeOf 130 = .ok (.areturn, 1) := by decide +kernel
theorem dX2_takePart_0 : decode cX2_takePart 0 = .ok (.iload_n 1, 1) := by decide +kernel
theorem dX2_takePart_1 : decode cX2_takePart 1 = .ok (.bipush 100, 2) := by decide +kernel
theorem dX2_takePart_3 : decode cX2_takePart 3 = .ok (.if_icmp .ne 9, 3) := by decide +kernel
theorem dX2_takePart_6 : decode cX2_takePart 6 = .ok (.aload_n 0, 1) := by decide +kernel
theorem dX2_takePart_7 : decode cX2_takePart 7 = .ok (.iconst 1, 1) := by decide +kernel
theorem dX2_takePart_8 : decode cX2_takePart 8 = .ok (.invokevirtual 65, 3) := by decide +kernel
theorem dX2_takePart_11 : decode cX2_takePart 11 = .ok (.ireturn, 1) := by decide +kernel
theorem dX2_takePart_12 : decode cX2_takePart 12 = .ok (.iload_n 1, 1) := by decide +kernel
theorem dX2_takePart_13 : decode cX2_takePart 13 = .ok (.bipush 110, 2) := by decide +kernel
theorem dX2_takePart_15 : decode cX2_takePart 15 = .ok (.if_icmp .ne 9, 3) := by decide +kernel
theorem dX2_takePart_18 : decode cX2_takePart 18 = .ok (.aload_n 0, 1) := by decide +kernel
theorem dX2_takePart_19 : decode cX2_takePart 19 = .ok (.iconst 2, 1) := by decide +kernel
theorem dX2_takePart_20 : decode cX2_takePart 20 = .ok (.invokevirtual 65, 3) := by decide +kernel
theorem dX2_takePart_23 : decode cX2_takePart 23 = .ok (.ireturn, 1) := by decide +kernel
theorem dX2_takePart_24 : decode cX2_takePart 24 = .ok (.aload_n 0, 1) := by decide +kernel
theorem dX2_takePart_25 : decode cX2_takePart 25 = .ok (.getfield 19, 3) := by decide +kernel
theorem dX2_takePart_28 : decode cX2_takePart 28 = .ok (.aload_n 0, 1) := by decide +kernel
theorem dX2_takePart_29 : decode cX2_takePart 29 = .ok (.getfield 15, 3) := by decide +kernel
theorem dX2_takePart_32 : decode cX2_takePart 32 = .ok (.if_icmp .ge 16, 3) := by decide +kernel
theorem dX2_takePart_35 : decode cX2_takePart 35 = .ok (.aload_n 0, 1) := by decide +kernel
theorem dX2_takePart_36 : decode cX2_takePart 36 = .ok (.getfield 9, 3) := by decide +kernel
theorem dX2_takePart_39 : decode cX2_takePart 39 = .ok (.aload_n 0, 1) := by decide +kernel
theorem dX2_takePart_40 : decode cX2_takePart 40 = .ok (.getfield 19, 3) := by decide +kernel
theorem dX2_takePart_43 : decode cX2_takePart 43 = .ok (.caload, 1) := by decide +kernel
theorem dX2_takePart_44 : decode cX2_takePart 44 = .ok (.iload_n 1, 1) := by decide +kernel
theorem dX2_takePart_45 : decode cX2_takePart 45 = .ok (.if_icmp .eq 5, 3) := by decide +kernel
theorem dX2_takePart_48 : decode cX2_takePart 48 = .ok (.iconst 0, 1) := by decide +kernel
theorem dX2_takePart_49 : decode cX2_takePart 49 = .ok (.ireturn, 1) := by decide +kernel
theorem dX2_takePart_50 : decode cX2_takePart 50 = .ok (.aload_n 0, 1) := by decide +kernel
theorem dX2_takePart_51 : decode cX2_takePart 51 = .ok (.dup, 1) := by decide +kernel
theorem dX2_takePart_52 : decode cX2_takePart 52 = .ok (.getfield 19, 3) := by decide +kernel
theorem dX2_takePart_55 : decode cX2_takePart 55 = .ok (.iconst 1, 1) := by decide +kernel
theorem dX2_takePart_56 : decode cX2_takePart 56 = .ok (.iadd, 1) := by decide +kernel
theorem dX2_takePart_57 : decode cX2_takePart 57 = .ok (.putfield 19, 3) := by decide +kernel
theorem dX2_takePart_60 : decode cX2_takePart 60 = .ok (.iconst 1, 1) := by decide +kernel
theorem dX2_takePart_61 : decode cX2_takePart 61 = .ok (.ireturn, 1) := by decide +kernel
theorem dX2_takeDigits_0 : decode cX2_takeDigits 0 = .ok (.iconst 0, 1) := by decide +kernel
theorem dX2_takeDigits_1 : decode cX2_takeDigits 1 = .ok (.istore_n 2, 1) := by decide +kernel
theorem dX2_takeDigits_2 : decode cX2_takeDigits 2 = .ok (.iconst 0, 1) := by decide +kernel
theorem dX2_takeDigits_3 : decode cX2_takeDigits 3 = .ok (.istore_n 3, 1) := by decide +kernel
theorem dX2_takeDigits_4 : decode cX2_takeDigits 4 = .ok (.iload_n 3, 1) := by decide +kernel
theorem dX2_takeDigits_5 : decode cX2_takeDigits 5 = .ok (.iload_n 1, 1) := by decide +kernel
theorem dX2_takeDigits_6 : decode cX2_takeDigits 6 = .ok (.if_icmp .ge 76, 3) := by decide +kernel
theorem dX2_takeDigits_9 : decode cX2_takeDigits 9 = .ok (.aload_n 0, 1) := by decide +kernel
theorem dX2_takeDigits_10 : decode cX2_takeDigits 10 = .ok (.getfield 19, 3) := by decide +kernel
theorem dX2_takeDigits_13 : decode cX2_takeDigits 13 = .ok (.aload_n 0, 1) := by decide +kernel
theorem dX2_takeDigits_14 : decode cX2_takeDigits 14 = .ok (.getfield 15, 3) := by decide +kernel
theorem dX2_takeDigits_17 : decode cX2_takeDigits 17 = .ok (.if_icmp .ge 65, 3) := by decide +kernel
theorem dX2_takeDigits_20 : decode cX2_takeDigits 20 = .ok (.aload_n 0, 1) := by decide +kernel
theorem dX2_takeDigits_21 : decode cX2_takeDigits 21 = .ok (.getfield 9, 3) := by decide +kernel
theorem dX2_takeDigits_24 : decode cX2_takeDigits 24 = .ok (.aload_n 0, 1) := by decide +kernel
theorem dX2_takeDigits_25 : decode cX2_takeDigits 25 = .ok (.getfield 19, 3) := by decide +kernel
theorem dX2_takeDigits_28 : decode cX2_takeDigits 28 = .ok (.caload, 1) := by decide +kernel
theorem dX2_takeDigits_29 : decode cX2_takeDigits 29 = .ok (.bipush 48, 2) := by decide +kernel
theorem dX2_takeDigits_31 : decode cX2_takeDigits 31 = .ok (.if_icmp .lt 51, 3) := by decide +kernel
theorem dX2_takeDigits_34 : decode cX2_takeDigits 34 = .ok (.aload_n 0, 1) := by decide +kernel
theorem dX2_takeDigits_35 : decode cX2_takeDigits 35 = .ok (.getfield 9, 3) := by decide +kernel
theorem dX2_takeDigits_38 : decode cX2_takeDigits 38 = .ok (.aload_n 0, 1) := by decide +kernel
theorem dX2_takeDigits_39 : decode cX2_takeDigits 39 = .ok (.getfield 19, 3) := by decide +kernel
theorem dX2_takeDigits_42 : decode cX2_takeDigits 42 = .ok (.caload, 1) := by decide +kernel
theorem dX2_takeDigits_43 : decode cX2_takeDigits 43 = .ok (.bipush 57, 2) := by decide +kernel
theorem dX2_takeDigits_45 : decode cX2_takeDigits 45 = .ok (.if_icmp .gt 37, 3) := by decide +kernel
theorem dX2_takeDigits_48 : decode cX2_takeDigits 48 = .ok (.iload_n 2, 1) := by decide +kernel
theorem dX2_takeDigits_49 : decode cX2_takeDigits 49 = .ok (.bipush 10, 2) := by decide +kernel
theorem dX2_takeDigits_51 : decode cX2_takeDigits 51 = .ok (.imul, 1) := by decide +kernel
theorem dX2_takeDigits_52 : decode cX2_takeDigits 52 = .ok (.aload_n 0, 1) := by decide +kernel
theorem dX2_takeDigits_53 : decode cX2_takeDigits 53 = .ok (.getfield 9, 3) := by decide +kernel
theorem dX2_takeDigits_56 : decode cX2_takeDigits 56 = .ok (.aload_n 0, 1) := by decide +kernel
theorem dX2_takeDigits_57 : decode cX2_takeDigits 57 = .ok (.getfield 19, 3) := by decide +kernel
theorem dX2_takeDigits_60 : decode cX2_takeDigits 60 = .ok (.caload, 1) := by decide +kernel
theorem dX2_takeDigits_61 : decode cX2_takeDigits 61 = .ok (.bipush 48, 2) := by decide +kernel
theorem dX2_takeDigits_63 : decode cX2_takeDigits 63 = .ok (.isub, 1) := by decide +kernel
theorem dX2_takeDigits_64 : decode cX2_takeDigits 64 = .ok (.iadd, 1) := by decide +kernel
theorem dX2_takeDigits_65 : decode cX2_takeDigits 65 = .ok (.istore_n 2, 1) := by decide +kernel
theorem dX2_takeDigits_66 : decode cX2_takeDigits 66 = .ok (.aload_n 0, 1) := by decide +kernel
theorem dX2_takeDigits_67 : decode cX2_takeDigits 67 = .ok (.dup, 1) := by decide +kernel
theorem dX2_takeDigits_68 : decode cX2_takeDigits 68 = .ok (.getfield 19, 3) := by decide +kernel
theorem dX2_takeDigits_71 : decode cX2_takeDigits 71 = .ok (.iconst 1, 1) := by decide +kernel
theorem dX2_takeDigits_72 : decode cX2_takeDigits 72 = .ok (.iadd, 1) := by decide +kernel
theorem dX2_takeDigits_73 : decode cX2_takeDigits 73 = .ok (.putfield 19, 3) := by decide +kernel
theorem dX2_takeDigits_76 : decode cX2_takeDigits 76 = .ok (.iinc 3 1, 3) := by decide +kernel
theorem dX2_takeDigits_79 : decode cX2_takeDigits 79 = .ok (.goto (-75), 3) := by decide +kernel
theorem dX2_takeDigits_82 : decode cX2_takeDigits 82 = .ok (.iload_n 3, 1) := by decide +kernel
theorem dX2_takeDigits_83 : decode cX2_takeDigits 83 = .ok (.ifCond .eq 11, 3) := by decide +kernel
theorem dX2_takeDigits_86 : decode cX2_takeDigits 86 = .ok (.aload_n 0, 1) := by decide +kernel
theorem dX2_takeDigits_87 : decode cX2_takeDigits 87 = .ok (.getfield 29, 3) := by decide +kernel
theorem dX2_takeDigits_90 : decode cX2_takeDigits 90 = .ok (.iconst 3, 1) := by decide +kernel
theorem dX2_takeDigits_91 : decode cX2_takeDigits 91 = .ok (.if_icmp .lt 5, 3) := by decide +kernel
theorem dX2_takeDigits_94 : decode cX2_takeDigits 94 = .ok (.iconst 0, 1) := by decide +kernel
theorem dX2_takeDigits_95 : decode cX2_takeDigits 95 = .ok (.ireturn, 1) := by decide +kernel
theorem dX2_takeDigits_96 : decode cX2_takeDigits 96 = .ok (.aload_n 0, 1) := by decide +kernel
theorem dX2_takeDigits_97 : decode cX2_takeDigits 97 = .ok (.getfield 25, 3) := by decide +kernel
theorem dX2_takeDigits_100 : decode cX2_takeDigits 100 = .ok (.aload_n 0, 1) := by decide +kernel
theorem dX2_takeDigits_101 : decode cX2_takeDigits 101 = .ok (.getfield 29, 3) := by decide +kernel
theorem dX2_takeDigits_104 : decode cX2_takeDigits 104 = .ok (.iload_n 2, 1) := by decide +kernel
theorem dX2_takeDigits_105 : decode cX2_takeDigits 105 = .ok (.iastore, 1) := by decide +kernel
theorem dX2_takeDigits_106 : decode cX2_takeDigits 106 = .ok (.aload_n 0, 1) := by decide +kernel
theorem dX2_takeDigits_107 : decode cX2_takeDigits 107 = .ok (.dup, 1) := by decide +kernel
theorem dX2_takeDigits_108 : decode cX2_takeDigits 108 = .ok (.getfield 29, 3) := by decide +kernel
theorem dX2_takeDigits_111 : decode cX2_takeDigits 111 = .ok (.iconst 1, 1) := by decide +kernel
theorem dX2_takeDigits_112 : decode cX2_takeDigits 112 = .ok (.iadd, 1) := by decide +kernel
theorem dX2_takeDigits_113 : decode cX2_takeDigits 113 = .ok (.putfield 29, 3) := by decide +kernel
theorem dX2_takeDigits_116 : decode cX2_takeDigits 116 = .ok (.iconst 1, 1) := by decide +kernel
theorem dX2_takeDigits_117 : decode cX2_takeDigits 117 = .ok (.ireturn, 1) := by decide +kernel
theorem dX3_init_0 : decode cX3_init 0 = .ok (.aload_n 0, 1) := by decide +kernel
theorem dX3_init_1 : decode cX3_init 1 = .ok (.invokespecial 3, 3) := by decide +kernel
theorem dX3_init_4 : decode cX3_init 4 = .ok (.aload_n 0, 1) := by decide +kernel
theorem dX3_init_5 : decode cX3_init 5 = .ok (.bipush 8, 2) := by decide +kernel
theorem dX3_init_7 : decode cX3_init 7 = .ok (.anewarray 9, 3) := by decide +kernel
theorem dX3_init_10 : decode cX3_init 10 = .ok (.putfield 11, 3) := by decide +kernel
theorem dX3_init_13 : decode cX3_init 13 = .ok (.aload_n 0, 1) := by decide +kernel
theorem dX3_init_14 : decode cX3_init 14 = .ok (.iconst 0, 1) := by decide +kernel
theorem dX3_init_15 : decode cX3_init 15 = .ok (.putfield 17, 3) := by decide +kernel
theorem dX3_init_18 : decode cX3_init 18 = .ok (.aload_n 0, 1) := by decide +kernel
theorem dX3_init_19 : decode cX3_init 19 = .ok (.iconst 0, 1) := by decide +kernel
theorem dX3_init_20 : decode cX3_init 20 = .ok (.putfield 21, 3) := by decide +kernel
theorem dX3_init_23 : decode cX3_init 23 = .ok (.iconst 0, 1) := by decide +kernel
theorem dX3_init_24 : decode cX3_init 24 = .ok (.istore_n 1, 1) := by decide +kernel
theorem dX3_init_25 : decode cX3_init 25 = .ok (.iload_n 1, 1) := by decide +kernel
theorem dX3_init_26 : decode cX3_init 26 = .ok (.bipush 8, 2) := by decide +kernel
theorem dX3_init_28 : decode cX3_init 28 = .ok (.if_icmp .ge 22, 3) := by decide +kernel
theorem dX3_init_31 : decode cX3_init 31 = .ok (.aload_n 0, 1) := by decide +kernel
theorem dX3_init_32 : decode cX3_init 32 = .ok (.getfield 11, 3) := by decide +kernel
theorem dX3_init_35 : decode cX3_init 35 = .ok (.iload_n 1, 1) := by decide +kernel
theorem dX3_init_36 : decode cX3_init 36 = .ok (.new 9, 3) := by decide +kernel
theorem dX3_init_39 : decode cX3_init 39 = .ok (.dup, 1) := by decide +kernel
theorem dX3_init_40 : decode cX3_init 40 = .ok (.invokespecial 24, 3) := by decide +kernel
theorem dX3_init_43 : decode cX3_init 43 = .ok (.aastore, 1) := by decide +kernel
theorem dX3_init_44 : decode cX3_init 44 = .ok (.iinc 1 1, 3) := by decide +kernel
theorem dX3_init_47 : decode cX3_init 47 = .ok (.goto (-22), 3) := by decide +kernel
theorem dX3_init_50 : decode cX3_init 50 = .ok (.return_, 1) := by decide +kernel
theorem dX3_keep_0 : decode cX3_keep 0 = .ok (.aload_n 0, 1) := by decide +kernel
theorem dX3_keep_1 : decode cX3_keep 1 = .ok (.getfield 11, 3) := by decide +kernel
theorem dX3_keep_4 : decode cX3_keep 4 = .ok (.aload_n 0, 1) := by decide +kernel
theorem dX3_keep_5 : decode cX3_keep 5 = .ok (.aload_n 0, 1) := by decide +kernel
theorem dX3_keep_6 : decode cX3_keep 6 = .ok (.getfield 21, 3) := by decide +kernel
theorem dX3_keep_9 : decode cX3_keep 9 = .ok (.invokevirtual 25, 3) := by decide +kernel
theorem dX3_keep_12 : decode cX3_keep 12 = .ok (.aaload, 1) := by decide +kernel
theorem dX3_keep_13 : decode cX3_keep 13 = .ok (.aload_n 1, 1) := by decide +kernel
theorem dX3_keep_14 : decode cX3_keep 14 = .ok (.invokevirtual 29, 3) := by decide +kernel
theorem dX3_keep_17 : decode cX3_keep 17 = .ok (.aload_n 0, 1) := by decide +kernel
theorem dX3_keep_18 : decode cX3_keep 18 = .ok (.getfield 21, 3) := by decide +kernel
theorem dX3_keep_21 : decode cX3_keep 21 = .ok (.bipush 8, 2) := by decide +kernel
theorem dX3_keep_23 : decode cX3_keep 23 = .ok (.if_icmp .ge 16, 3) := by decide +kernel
theorem dX3_keep_26 : decode cX3_keep 26 = .ok (.aload_n 0, 1) := by decide +kernel
theorem dX3_keep_27 : decode cX3_keep 27 = .ok (.dup, 1) := by decide +kernel
theorem dX3_keep_28 : decode cX3_keep 28 = .ok (.getfield 21, 3) := by decide +kernel
theorem dX3_keep_31 : decode cX3_keep 31 = .ok (.iconst 1, 1) := by decide +kernel
theorem dX3_keep_32 : decode cX3_keep 32 = .ok (.iadd, 1) := by decide +kernel
theorem dX3_keep_33 : decode cX3_keep 33 = .ok (.putfield 21, 3) := by decide +kernel
theorem dX3_keep_36 : decode cX3_keep 36 = .ok (.goto 12, 3) := by decide +kernel
theorem dX3_keep_39 : decode cX3_keep 39 = .ok (.aload_n 0, 1) := by decide +kernel
theorem dX3_keep_40 : decode cX3_keep 40 = .ok (.aload_n 0, 1) := by decide +kernel
theorem dX3_keep_41 : decode cX3_keep 41 = .ok (.iconst 1, 1) := by decide +kernel
theorem dX3_keep_42 : decode cX3_keep 42 = .ok (.invokevirtual 25, 3) := by decide +kernel
theorem dX3_keep_45 : decode cX3_keep 45 = .ok (.putfield 17, 3) := by decide +kernel
theorem dX3_keep_48 : decode cX3_keep 48 = .ok (.return_, 1) := by decide +kernel
theorem dX3_takeLatest_0 : decode cX3_takeLatest 0 = .ok (.aload_n 0, 1) := by decide +kernel
theorem dX3_takeLatest_1 : decode cX3_takeLatest 1 = .ok (.getfield 21, 3) := by decide +kernel
theorem dX3_takeLatest_4 : decode cX3_takeLatest 4 = .ok (.ifCond .le 30, 3) := by decide +kernel
theorem dX3_takeLatest_7 : decode cX3_takeLatest 7 = .ok (.aload_n 0, 1) := by decide +kernel
theorem dX3_takeLatest_8 : decode cX3_takeLatest 8 = .ok (.dup, 1) := by decide +kernel
theorem dX3_takeLatest_9 : decode cX3_takeLatest 9 = .ok (.getfield 21, 3) := by decide +kernel
theorem dX3_takeLatest_12 : decode cX3_takeLatest 12 = .ok (.iconst 1, 1) := by decide +kernel
theorem dX3_takeLatest_13 : decode cX3_takeLatest 13 = .ok (.isub, 1) := by decide +kernel
theorem dX3_takeLatest_14 : decode cX3_takeLatest 14 = .ok (.putfield 21, 3) := by decide +kernel
theorem dX3_takeLatest_17 : decode cX3_takeLatest 17 = .ok (.aload_n 1, 1) := by decide +kernel
theorem dX3_takeLatest_18 : decode cX3_takeLatest 18 = .ok (.aload_n 0, 1) := by decide +kernel
theorem dX3_takeLatest_19 : decode cX3_takeLatest 19 = .ok (.getfield 11, 3) := by decide +kernel
theorem dX3_takeLatest_22 : decode cX3_takeLatest 22 = .ok (.aload_n 0, 1) := by decide +kernel
theorem dX3_takeLatest_23 : decode cX3_takeLatest 23 = .ok (.aload_n 0, 1) := by decide +kernel
theorem dX3_takeLatest_24 : decode cX3_takeLatest 24 = .ok (.getfield 21, 3) := by decide +kernel
theorem dX3_takeLatest_27 : decode cX3_takeLatest 27 = .ok (.invokevirtual 25, 3) := by decide +kernel
theorem dX3_takeLatest_30 : decode cX3_takeLatest 30 = .ok (.aaload, 1) := by decide +kernel
theorem dX3_takeLatest_31 : decode cX3_takeLatest 31 = .ok (.invokevirtual 29, 3) := by decide +kernel
theorem dX3_takeLatest_34 : decode cX3_takeLatest 34 = .ok (.return_, 1) := by decide +kernel
theorem dX3_placeAfter_0 : decode cX3_placeAfter 0 = .ok (.aload_n 0, 1) := by decide +kernel
theorem dX3_placeAfter_1 : decode cX3_placeAfter 1 = .ok (.getfield 17, 3) := by decide +kernel
theorem dX3_placeAfter_4 : decode cX3_placeAfter 4 = .ok (.iload_n 1, 1) := by decide +kernel
theorem dX3_placeAfter_5 : decode cX3_placeAfter 5 = .ok (.iadd, 1) := by decide +kernel
theorem dX3_placeAfter_6 : decode cX3_placeAfter 6 = .ok (.bipush 8, 2) := by decide +kernel
theorem dX3_placeAfter_8 : decode cX3_placeAfter 8 = .ok (.invokestatic 33, 3) := by decide +kernel
theorem dX3_placeAfter_11 : decode cX3_placeAfter 11 = .ok (.ireturn, 1) := by decide +kernel
theorem dX4_init_0 : decode cX4_init 0 = .ok (.aload_n 0, 1) := by decide +kernel
theorem dX4_init_1 : decode cX4_init 1 = .ok (.invokespecial 1, 3) := by decide +kernel
theorem dX4_init_4 : decode cX4_init 4 = .ok (.aload_n 0, 1) := by decide +kernel
theorem dX4_init_5 : decode cX4_init 5 = .ok (.new 7, 3) := by decide +kernel
theorem dX4_init_8 : decode cX4_init 8 = .ok (.dup, 1) := by decide +kernel
theorem dX4_init_9 : decode cX4_init 9 = .ok (.invokespecial 9, 3) := by decide +kernel
theorem dX4_init_12 : decode cX4_init 12 = .ok (.putfield 10, 3) := by decide +kernel
theorem dX4_init_15 : decode cX4_init 15 = .ok (.aload_n 0, 1) := by decide +kernel
theorem dX4_init_16 : decode cX4_init 16 = .ok (.new 7, 3) := by decide +kernel
theorem dX4_init_19 : decode cX4_init 19 = .ok (.dup, 1) := by decide +kernel
theorem dX4_init_20 : decode cX4_init 20 = .ok (.invokespecial 9, 3) := by decide +kernel
theorem dX4_init_23 : decode cX4_init 23 = .ok (.putfield 16, 3) := by decide +kernel
theorem dX4_init_26 : decode cX4_init 26 = .ok (.aload_n 0, 1) := by decide +kernel
theorem dX4_init_27 : decode cX4_init 27 = .ok (.new 7, 3) := by decide +kernel
theorem dX4_init_30 : decode cX4_init 30 = .ok (.dup, 1) := by decide +kernel
theorem dX4_init_31 : decode cX4_init 31 = .ok (.invokespecial 9, 3) := by decide +kernel
theorem dX4_init_34 : decode cX4_init 34 = .ok (.putfield 19, 3) := by decide +kernel
theorem dX4_init_37 : decode cX4_init 37 = .ok (.aload_n 0, 1) := by decide +kernel
theorem dX4_init_38 : decode cX4_init 38 = .ok (.new 22, 3) := by decide +kernel
theorem dX4_init_41 : decode cX4_init 41 = .ok (.dup, 1) := by decide +kernel
theorem dX4_init_42 : decode cX4_init 42 = .ok (.invokespecial 24, 3) := by decide +kernel
theorem dX4_init_45 : decode cX4_init 45 = .ok (.putfield 25, 3) := by decide +kernel
theorem dX4_init_48 : decode cX4_init 48 = .ok (.aload_n 0, 1) := by decide +kernel
theorem dX4_init_49 : decode cX4_init 49 = .ok (.new 29, 3) := by decide +kernel
theorem dX4_init_52 : decode cX4_init 52 = .ok (.dup, 1) := by decide +kernel
theorem dX4_init_53 : decode cX4_init 53 = .ok (.invokespecial 31, 3) := by decide +kernel
theorem dX4_init_56 : decode cX4_init 56 = .ok (.putfield 32, 3) := by decide +kernel
theorem dX4_init_59 : decode cX4_init 59 = .ok (.aload_n 0, 1) := by decide +kernel
theorem dX4_init_60 : decode cX4_init 60 = .ok (.new 36, 3) := by decide +kernel
theorem dX4_init_63 : decode cX4_init 63 = .ok (.dup, 1) := by decide +kernel
theorem dX4_init_64 : decode cX4_init 64 = .ok (.invokespecial 38, 3) := by decide +kernel
theorem dX4_init_67 : decode cX4_init 67 = .ok (.putfield 39, 3) := by decide +kernel
theorem dX4_init_70 : decode cX4_init 70 = .ok (.aload_n 0, 1) := by decide +kernel
theorem dX4_init_71 : decode cX4_init 71 = .ok (.bipush 17, 2) := by decide +kernel
theorem dX4_init_73 : decode cX4_init 73 = .ok (.newarray .char, 2) := by decide +kernel
theorem dX4_init_75 : decode cX4_init 75 = .ok (.putfield 43, 3) := by decide +kernel
theorem dX4_init_78 : decode cX4_init 78 = .ok (.aload_n 0, 1) := by decide +kernel
theorem dX4_init_79 : decode cX4_init 79 = .ok (.iconst 0, 1) := by decide +kernel
theorem dX4_init_80 : decode cX4_init 80 = .ok (.putfield 47, 3) := by decide +kernel
theorem dX4_init_83 : decode cX4_init 83 = .ok (.aload_n 0, 1) := by decide +kernel
theorem dX4_init_84 : decode cX4_init 84 = .ok (.iconst 0, 1) := by decide +kernel
theorem dX4_init_85 : decode cX4_init 85 = .ok (.putfield 51, 3) := by decide +kernel
theorem dX4_init_88 : decode cX4_init 88 = .ok (.aload_n 0, 1) := by decide +kernel
theorem dX4_init_89 : decode cX4_init 89 = .ok (.iconst (-1), 1) := by decide +kernel
theorem dX4_init_90 : decode cX4_init 90 = .ok (.putfield 55, 3) := by decide +kernel
theorem dX4_init_93 : decode cX4_init 93 = .ok (.aload_n 0, 1) := by decide +kernel
theorem dX4_init_94 : decode cX4_init 94 = .ok (.iconst 0, 1) := by decide +kernel
theorem dX4_init_95 : decode cX4_init 95 = .ok (.putfield 58, 3) := by decide +kernel
theorem dX4_init_98 : decode cX4_init 98 = .ok (.aload_n 0, 1) := by decide +kernel
theorem dX4_init_99 : decode cX4_init 99 = .ok (.iconst 0, 1) := by decide +kernel
theorem dX4_init_100 : decode cX4_init 100 = .ok (.putfield 61, 3) := by decide +kernel
theorem dX4_init_103 : decode cX4_init 103 = .ok (.return_, 1) := by decide +kernel
theorem dX4_country_0 : decode cX4_country 0 = .ok (.iload_n 1, 1) := by decide +kernel
theorem dX4_country_1 : decode cX4_country 1 = .ok (.iconst 1, 1) := by decide +kernel
theorem dX4_country_2 : decode cX4_country 2 = .ok (.if_icmp .lt 9, 3) := by decide +kernel
theorem dX4_country_5 : decode cX4_country 5 = .ok (.iload_n 1, 1) := by decide +kernel
theorem dX4_country_6 : decode cX4_country 6 = .ok (.bipush 9, 2) := by decide +kernel
theorem dX4_country_8 : decode cX4_country 8 = .ok (.if_icmp .le 13, 3) := by decide +kernel
theorem dX4_country_11 : decode cX4_country 11 = .ok (.new 64, 3) := by decide +kernel
theorem dX4_country_14 : decode cX4_country 14 = .ok (.dup, 1) := by decide +kernel
theorem dX4_country_15 : decode cX4_country 15 = .ok (.ldc 66, 2) := by decide +kernel
theorem dX4_country_17 : decode cX4_country 17 = .ok (.invokespecial 68, 3) := by decide +kernel
theorem dX4_country_20 : decode cX4_country 20 = .ok (.athrow, 1) := by decide +kernel
theorem dX4_country_21 : decode cX4_country 21 = .ok (.aload_n 0, 1) := by decide +kernel
theorem dX4_country_22 : decode cX4_country 22 = .ok (.aload_n 0, 1) := by decide +kernel
theorem dX4_country_23 : decode cX4_country 23 = .ok (.getfield 10, 3) := by decide +kernel
theorem dX4_country_26 : decode cX4_country 26 = .ok (.invokevirtual 71, 3) := by decide +kernel
theorem dX4_country_29 : decode cX4_country 29 = .ok (.iconst 0, 1) := by decide +kernel
theorem dX4_country_30 : decode cX4_country 30 = .ok (.iconst 0, 1) := by decide +kernel
theorem dX4_country_31 : decode cX4_country 31 = .ok (.invokevirtual 75, 3) := by decide +kernel
theorem dX4_country_34 : decode cX4_country 34 = .ok (.aload_n 0, 1) := by decide +kernel
theorem dX4_country_35 : decode cX4_country 35 = .ok (.getfield 25, 3) := by decide +kernel
theorem dX4_country_38 : decode cX4_country 38 = .ok (.aload_n 0, 1) := by decide +kernel
theorem dX4_country_39 : decode cX4_country 39 = .ok (.getfield 10, 3) := by decide +kernel
theorem dX4_country_42 : decode cX4_country 42 = .ok (.invokevirtual 79, 3) := by decide +kernel
theorem dX4_country_45 : decode cX4_country 45 = .ok (.aload_n 0, 1) := by decide +kernel
theorem dX4_country_46 : decode cX4_country 46 = .ok (.getfield 10, 3) := by decide +kernel
theorem dX4_country_49 : decode cX4_country 49 = .ok (.iload_n 1, 1) := by decide +kernel
theorem dX4_country_50 : decode cX4_country 50 = .ok (.invokevirtual 83, 3) := by decide +kernel
theorem dX4_country_53 : decode cX4_country 53 = .ok (.ireturn, 1) := by decide +kernel
theorem dX4_border_0 : decode cX4_border 0 = .ok (.aload_n 0, 1) := by decide +kernel
theorem dX4_border_1 : decode cX4_border 1 = .ok (.iload_n 1, 1) := by decide +kernel
theorem dX4_border_2 : decode cX4_border 2 = .ok (.invokevirtual 87, 3) := by decide +kernel
theorem dX4_border_5 : decode cX4_border 5 = .ok (.aload_n 0, 1) := by decide +kernel
theorem dX4_border_6 : decode cX4_border 6 = .ok (.iload_n 2, 1) := by decide +kernel
theorem dX4_border_7 : decode cX4_border 7 = .ok (.invokevirtual 87, 3) := by decide +kernel
theorem dX4_border_10 : decode cX4_border 10 = .ok (.aload_n 0, 1) := by decide +kernel
theorem dX4_border_11 : decode cX4_border 11 = .ok (.aload_n 0, 1) := by decide +kernel
theorem dX4_border_12 : decode cX4_border 12 = .ok (.getfield 10, 3) := by decide +kernel
theorem dX4_border_15 : decode cX4_border 15 = .ok (.iload_n 1, 1) := by decide +kernel
theorem dX4_border_16 : decode cX4_border 16 = .ok (.iload_n 2, 1) := by decide +kernel
theorem dX4_border_17 : decode cX4_border 17 = .ok (.invokevirtual 91, 3) := by decide +kernel
theorem dX4_border_20 : decode cX4_border 20 = .ok (.iload_n 1, 1) := by decide +kernel
theorem dX4_border_21 : decode cX4_border 21 = .ok (.iload_n 2, 1) := by decide +kernel
theorem dX4_border_22 : decode cX4_border 22 = .ok (.invokevirtual 75, 3) := by decide +kernel
theorem dX4_border_25 : decode cX4_border 25 = .ok (.aload_n 0, 1) := by decide +kernel
theorem dX4_border_26 : decode cX4_border 26 = .ok (.getfield 25, 3) := by decide +kernel
theorem dX4_border_29 : decode cX4_border 29 = .ok (.aload_n 0, 1) := by decide +kernel
theorem dX4_border_30 : decode cX4_border 30 = .ok (.getfield 10, 3) := by decide +kernel
theorem dX4_border_33 : decode cX4_border 33 = .ok (.invokevirtual 79, 3) := by decide +kernel
theorem dX4_border_36 : decode cX4_border 36 = .ok (.aload_n 0, 1) := by decide +kernel
theorem dX4_border_37 : decode cX4_border 37 = .ok (.getfield 10, 3) := by decide +kernel
theorem dX4_border_40 : decode cX4_border 40 = .ok (.iload_n 1, 1) := by decide +kernel
theorem dX4_border_41 : decode cX4_border 41 = .ok (.iload_n 2, 1) := by decide +kernel
theorem dX4_border_42 : decode cX4_border 42 = .ok (.invokevirtual 95, 3) := by decide +kernel
theorem dX4_border_45 : decode cX4_border 45 = .ok (.aload_n 0, 1) := by decide +kernel
theorem dX4_border_46 : decode cX4_border 46 = .ok (.getfield 10, 3) := by decide +kernel
theorem dX4_border_49 : decode cX4_border 49 = .ok (.invokevirtual 99, 3) := by decide +kernel
theorem dX4_border_52 : decode cX4_border 52 = .ok (.ireturn, 1) := by decide +kernel
theorem dX4_erase_0 : decode cX4_erase 0 = .ok (.aload_n 0, 1) := by decide +kernel
theorem dX4_erase_1 : decode cX4_erase 1 = .ok (.iload_n 1, 1) := by decide +kernel
theorem dX4_erase_2 : decode cX4_erase 2 = .ok (.invokevirtual 87, 3) := by decide +kernel
theorem dX4_erase_5 : decode cX4_erase 5 = .ok (.aload_n 0, 1) := by decide +kernel
theorem dX4_erase_6 : decode cX4_erase 6 = .ok (.iload_n 2, 1) := by decide +kernel
theorem dX4_erase_7 : decode cX4_erase 7 = .ok (.invokevirtual 87, 3) := by decide +kernel
theorem dX4_erase_10 : decode cX4_erase 10 = .ok (.aload_n 0, 1) := by decide +kernel
theorem dX4_erase_11 : decode cX4_erase 11 = .ok (.aload_n 0, 1) := by decide +kernel
theorem dX4_erase_12 : decode cX4_erase 12 = .ok (.getfield 10, 3) := by decide +kernel
theorem dX4_erase_15 : decode cX4_erase 15 = .ok (.iload_n 1, 1) := by decide +kernel
theorem dX4_erase_16 : decode cX4_erase 16 = .ok (.iload_n 2, 1) := by decide +kernel
theorem dX4_erase_17 : decode cX4_erase 17 = .ok (.invokevirtual 102, 3) := by decide +kernel
theorem dX4_erase_20 : decode cX4_erase 20 = .ok (.iload_n 1, 1) := by decide +kernel
theorem dX4_erase_21 : decode cX4_erase 21 = .ok (.iload_n 2, 1) := by decide +kernel
theorem dX4_erase_22 : decode cX4_erase 22 = .ok (.invokevirtual 75, 3) := by decide +kernel
theorem dX4_erase_25 : decode cX4_erase 25 = .ok (.aload_n 0, 1) := by decide +kernel
theorem dX4_erase_26 : decode cX4_erase 26 = .ok (.getfield 25, 3) := by decide +kernel
theorem dX4_erase_29 : decode cX4_erase 29 = .ok (.aload_n 0, 1) := by decide +kernel
theorem dX4_erase_30 : decode cX4_erase 30 = .ok (.getfield 10, 3) := by decide +kernel
theorem dX4_erase_33 : decode cX4_erase 33 = .ok (.invokevirtual 79, 3) := by decide +kernel
theorem dX4_erase_36 : decode cX4_erase 36 = .ok (.aload_n 0, 1) := by decide +kernel
theorem dX4_erase_37 : decode cX4_erase 37 = .ok (.getfield 10, 3) := by decide +kernel
theorem dX4_erase_40 : decode cX4_erase 40 = .ok (.iload_n 1, 1) := by decide +kernel
theorem dX4_erase_41 : decode cX4_erase 41 = .ok (.iload_n 2, 1) := by decide +kernel
theorem dX4_erase_42 : decode cX4_erase 42 = .ok (.invokevirtual 105, 3) := by decide +kernel
theorem dX4_erase_45 : decode cX4_erase 45 = .ok (.aload_n 0, 1) := by decide +kernel
theorem dX4_erase_46 : decode cX4_erase 46 = .ok (.getfield 10, 3) := by decide +kernel
theorem dX4_erase_49 : decode cX4_erase 49 = .ok (.invokevirtual 99, 3) := by decide +kernel
theorem dX4_erase_52 : decode cX4_erase 52 = .ok (.ireturn, 1) := by decide +kernel
theorem dX4_hasBorder_0 : decode cX4_hasBorder 0 = .ok (.aload_n 0, 1) := by decide +kernel
theorem dX4_hasBorder_1 : decode cX4_hasBorder 1 = .ok (.iload_n 1, 1) := by decide +kernel
theorem dX4_hasBorder_2 : decode cX4_hasBorder 2 = .ok (.invokevirtual 87, 3) := by decide +kernel
theorem dX4_hasBorder_5 : decode cX4_hasBorder 5 = .ok (.aload_n 0, 1) := by decide +kernel
theorem dX4_hasBorder_6 : decode cX4_hasBorder 6 = .ok (.iload_n 2, 1) := by decide +kernel
theorem dX4_hasBorder_7 : decode cX4_hasBorder 7 = .ok (.invokevirtual 87, 3) := by decide +kernel
theorem dX4_hasBorder_10 : decode cX4_hasBorder 10 = .ok (.aload_n 0, 1) := by decide +kernel
theorem dX4_hasBorder_11 : decode cX4_hasBorder 11 = .ok (.getfield 10, 3) := by decide +kernel
theorem dX4_hasBorder_14 : decode cX4_hasBorder 14 = .ok (.iload_n 1, 1) := by decide +kernel
theorem dX4_hasBorder_15 : decode cX4_hasBorder 15 = .ok (.iload_n 2, 1) := by decide +kernel
theorem dX4_hasBorder_16 : decode cX4_hasBorder 16 = .ok (.invokevirtual 108, 3) := by decide +kernel
theorem dX4_hasBorder_19 : decode cX4_hasBorder 19 = .ok (.ireturn, 1) := by decide +kernel
theorem dX4_countryOf_0 : decode cX4_countryOf 0 = .ok (.aload_n 0, 1) := by decide +kernel
theorem dX4_countryOf_1 : decode cX4_countryOf 1 = .ok (.iload_n 1, 1) := by decide +kernel
theorem dX4_countryOf_2 : decode cX4_countryOf 2 = .ok (.invokevirtual 87, 3) := by decide +kernel
theorem dX4_countryOf_5 : decode cX4_countryOf 5 = .ok (.iload_n 2, 1) := by decide +kernel
theorem dX4_countryOf_6 : decode cX4_countryOf 6 = .ok (.tableswitch 112 0 6 #[42, 52, 62, 71, 83, 93, 103], 42) := by decide +kernel
theorem dX4_countryOf_48 : decode cX4_countryOf 48 = .ok (.aload_n 0, 1) := by decide +kernel
theorem dX4_countryOf_49 : decode cX4_countryOf 49 = .ok (.getfield 10, 3) := by decide +kernel
theorem dX4_countryOf_52 : decode cX4_countryOf 52 = .ok (.getfield 112, 3) := by decide +kernel
theorem dX4_countryOf_55 : decode cX4_countryOf 55 = .ok (.iload_n 1, 1) := by decide +kernel
theorem dX4_countryOf_56 : decode cX4_countryOf 56 = .ok (.iaload, 1) := by decide +kernel
theorem dX4_countryOf_57 : decode cX4_countryOf 57 = .ok (.ireturn, 1) := by decide +kernel
theorem dX4_countryOf_58 : decode cX4_countryOf 58 = .ok (.aload_n 0, 1) := by decide +kernel
theorem dX4_countryOf_59 : decode cX4_countryOf 59 = .ok (.getfield 10, 3) := by decide +kernel
theorem dX4_countryOf_62 : decode cX4_countryOf 62 = .ok (.getfield 116, 3) := by decide +kernel
theorem dX4_countryOf_65 : decode cX4_countryOf 65 = .ok (.iload_n 1, 1) := by decide +kernel
theorem dX4_countryOf_66 : decode cX4_countryOf 66 = .ok (.iaload, 1) := by decide +kernel
theorem dX4_countryOf_67 : decode cX4_countryOf 67 = .ok (.ireturn, 1) := by decide +kernel
theorem dX4_countryOf_68 : decode cX4_countryOf 68 = .ok (.aload_n 0, 1) := by decide +kernel
theorem dX4_countryOf_69 : decode cX4_countryOf 69 = .ok (.getfield 10, 3) := by decide +kernel
theorem dX4_countryOf_72 : decode cX4_countryOf 72 = .ok (.iload_n 1, 1) := by decide +kernel
theorem dX4_countryOf_73 : decode cX4_countryOf 73 = .ok (.invokevirtual 119, 3) := by decide +kernel
theorem dX4_countryOf_76 : decode cX4_countryOf 76 = .ok (.ireturn, 1) := by decide +kernel
theorem dX4_countryOf_77 : decode cX4_countryOf 77 = .ok (.aload_n 0, 1) := by decide +kernel
theorem dX4_countryOf_78 : decode cX4_countryOf 78 = .ok (.getfield 10, 3) := by decide +kernel
theorem dX4_countryOf_81 : decode cX4_countryOf 81 = .ok (.iload_n 1, 1) := by decide +kernel
theorem dX4_countryOf_82 : decode cX4_countryOf 82 = .ok (.invokevirtual 122, 3) := by decide +kernel
theorem dX4_countryOf_85 : decode cX4_countryOf 85 = .ok (.invokestatic 125, 3) := by decide +kernel
theorem dX4_countryOf_88 : decode cX4_countryOf 88 = .ok (.ireturn, 1) := by decide +kernel
theorem dX4_countryOf_89 : decode cX4_countryOf 89 = .ok (.aload_n 0, 1) := by decide +kernel
theorem dX4_countryOf_90 : decode cX4_countryOf 90 = .ok (.getfield 10, 3) := by decide +kernel
theorem dX4_countryOf_93 : decode cX4_countryOf 93 = .ok (.getfield 130, 3) := by decide +kernel
theorem dX4_countryOf_96 : decode cX4_countryOf 96 = .ok (.iload_n 1, 1) := by decide +kernel
theorem dX4_countryOf_97 : decode cX4_countryOf 97 = .ok (.iaload, 1) := by decide +kernel
theorem dX4_countryOf_98 : decode cX4_countryOf 98 = .ok (.ireturn, 1) := by decide +kernel
theorem dX4_countryOf_99 : decode cX4_countryOf 99 = .ok (.aload_n 0, 1) := by decide +kernel
theorem dX4_countryOf_100 : decode cX4_countryOf 100 = .ok (.getfield 10, 3) := by decide +kernel
theorem dX4_countryOf_103 : decode cX4_countryOf 103 = .ok (.getfield 133, 3) := by decide +kernel
theorem dX4_countryOf_106 : decode cX4_countryOf 106 = .ok (.iload_n 1, 1) := by decide +kernel
theorem dX4_countryOf_107 : decode cX4_countryOf 107 = .ok (.iaload, 1) := by decide +kernel
theorem dX4_countryOf_108 : decode cX4_countryOf 108 = .ok (.ireturn, 1) := by decide +kernel
theorem dX4_countryOf_109 : decode cX4_countryOf 109 = .ok (.aload_n 0, 1) := by decide +kernel
theorem dX4_countryOf_110 : decode cX4_countryOf 110 = .ok (.getfield 10, 3) := by decide +kernel
theorem dX4_countryOf_113 : decode cX4_countryOf 113 = .ok (.iload_n 1, 1) := by decide +kernel
theorem dX4_countryOf_114 : decode cX4_countryOf 114 = .ok (.invokevirtual 136, 3) := by decide +kernel
theorem dX4_countryOf_117 : decode cX4_countryOf 117 = .ok (.ireturn, 1) := by decide +kernel
theorem dX4_countryOf_118 : decode cX4_countryOf 118 = .ok (.new 64, 3) := by decide +kernel
theorem dX4_countryOf_121 : decode cX4_countryOf 121 = .ok (.dup, 1) := by decide +kernel
theorem dX4_countryOf_122 : decode cX4_countryOf 122 = .ok (.ldc 139, 2) := by decide +kernel
theorem dX4_countryOf_124 : decode cX4_countryOf 124 = .ok (.invokespecial 68, 3) := by decide +kernel
theorem dX4_countryOf_127 : decode cX4_countryOf 127 = .ok (.athrow, 1) := by decide +kernel
theorem dX4_hues_0 : decode cX4_hues 0 = .ok (.iload_n 1, 1) := by decide +kernel
theorem dX4_hues_1 : decode cX4_hues 1 = .ok (.invokestatic 141, 3) := by decide +kernel
theorem dX4_hues_4 : decode cX4_hues 4 = .ok (.ifCond .ne 13, 3) := by decide +kernel
theorem dX4_hues_7 : decode cX4_hues 7 = .ok (.new 64, 3) := by decide +kernel
theorem dX4_hues_10 : decode cX4_hues 10 = .ok (.dup, 1) := by decide +kernel
theorem dX4_hues_11 : decode cX4_hues 11 = .ok (.ldc 145, 2) := by decide +kernel
theorem dX4_hues_13 : decode cX4_hues 13 = .ok (.invokespecial 68, 3) := by decide +kernel
theorem dX4_hues_16 : decode cX4_hues 16 = .ok (.athrow, 1) := by decide +kernel
theorem dX4_hues_17 : decode cX4_hues 17 = .ok (.aload_n 0, 1) := by decide +kernel
theorem dX4_hues_18 : decode cX4_hues 18 = .ok (.aload_n 0, 1) := by decide +kernel
theorem dX4_hues_19 : decode cX4_hues 19 = .ok (.getfield 10, 3) := by decide +kernel
theorem dX4_hues_22 : decode cX4_hues 22 = .ok (.iload_n 1, 1) := by decide +kernel
theorem dX4_hues_23 : decode cX4_hues 23 = .ok (.invokevirtual 147, 3) := by decide +kernel
theorem dX4_hues_26 : decode cX4_hues 26 = .ok (.iload_n 1, 1) := by decide +kernel
theorem dX4_hues_27 : decode cX4_hues 27 = .ok (.iconst 0, 1) := by decide +kernel
theorem dX4_hues_28 : decode cX4_hues 28 = .ok (.invokevirtual 75, 3) := by decide +kernel
theorem dX4_hues_31 : decode cX4_hues 31 = .ok (.aload_n 0, 1) := by decide +kernel
theorem dX4_hues_32 : decode cX4_hues 32 = .ok (.getfield 25, 3) := by decide +kernel
theorem dX4_hues_35 : decode cX4_hues 35 = .ok (.aload_n 0, 1) := by decide +kernel
theorem dX4_hues_36 : decode cX4_hues 36 = .ok (.getfield 10, 3) := by decide +kernel
theorem dX4_hues_39 : decode cX4_hues 39 = .ok (.invokevirtual 79, 3) := by decide +kernel
theorem dX4_hues_42 : decode cX4_hues 42 = .ok (.aload_n 0, 1) := by decide +kernel
theorem dX4_hues_43 : decode cX4_hues 43 = .ok (.getfield 10, 3) := by decide +kernel
theorem dX4_hues_46 : decode cX4_hues 46 = .ok (.getfield 150, 3) := by decide +kernel
theorem dX4_hues_49 : decode cX4_hues 49 = .ok (.istore_n 2, 1) := by decide +kernel
theorem dX4_hues_50 : decode cX4_hues 50 = .ok (.aload_n 0, 1) := by decide +kernel
theorem dX4_hues_51 : decode cX4_hues 51 = .ok (.getfield 10, 3) := by decide +kernel
theorem dX4_hues_54 : decode cX4_hues 54 = .ok (.iload_n 1, 1) := by decide +kernel
theorem dX4_hues_55 : decode cX4_hues 55 = .ok (.putfield 150, 3) := by decide +kernel
theorem dX4_hues_58 : decode cX4_hues 58 = .ok (.iload_n 2, 1) := by decide +kernel
theorem dX4_hues_59 : decode cX4_hues 59 = .ok (.ireturn, 1) := by decide +kernel
theorem dX4_pots_0 : decode cX4_pots 0 = .ok (.aload_n 0, 1) := by decide +kernel
theorem dX4_pots_1 : decode cX4_pots 1 = .ok (.iload_n 1, 1) := by decide +kernel
theorem dX4_pots_2 : decode cX4_pots 2 = .ok (.invokevirtual 153, 3) := by decide +kernel
theorem dX4_pots_5 : decode cX4_pots 5 = .ok (.iload_n 2, 1) := by decide +kernel
theorem dX4_pots_6 : decode cX4_pots 6 = .ok (.invokestatic 156, 3) := by decide +kernel
theorem dX4_pots_9 : decode cX4_pots 9 = .ok (.ifCond .ne 13, 3) := by decide +kernel
theorem dX4_pots_12 : decode cX4_pots 12 = .ok (.new 64, 3) := by decide +kernel
theorem dX4_pots_15 : decode cX4_pots 15 = .ok (.dup, 1) := by decide +kernel
theorem dX4_pots_16 : decode cX4_pots 16 = .ok (.ldc 159, 2) := by decide +kernel
theorem dX4_pots_18 : decode cX4_pots 18 = .ok (.invokespecial 68, 3) := by decide +kernel
theorem dX4_pots_21 : decode cX4_pots 21 = .ok (.athrow, 1) := by decide +kernel
theorem dX4_pots_22 : decode cX4_pots 22 = .ok (.aload_n 0, 1) := by decide +kernel
theorem dX4_pots_23 : decode cX4_pots 23 = .ok (.getfield 25, 3) := by decide +kernel
theorem dX4_pots_26 : decode cX4_pots 26 = .ok (.aload_n 0, 1) := by decide +kernel
theorem dX4_pots_27 : decode cX4_pots 27 = .ok (.getfield 10, 3) := by decide +kernel
theorem dX4_pots_30 : decode cX4_pots 30 = .ok (.invokevirtual 79, 3) := by decide +kernel
theorem dX4_pots_33 : decode cX4_pots 33 = .ok (.aload_n 0, 1) := by decide +kernel
theorem dX4_pots_34 : decode cX4_pots 34 = .ok (.getfield 10, 3) := by decide +kernel
theorem dX4_pots_37 : decode cX4_pots 37 = .ok (.iload_n 1, 1) := by decide +kernel
theorem dX4_pots_38 : decode cX4_pots 38 = .ok (.iload_n 2, 1) := by decide +kernel
theorem dX4_pots_39 : decode cX4_pots 39 = .ok (.invokevirtual 161, 3) := by decide +kernel
theorem dX4_pots_42 : decode cX4_pots 42 = .ok (.aload_n 0, 1) := by decide +kernel
theorem dX4_pots_43 : decode cX4_pots 43 = .ok (.getfield 10, 3) := by decide +kernel
theorem dX4_pots_46 : decode cX4_pots 46 = .ok (.getfield 164, 3) := by decide +kernel
theorem dX4_pots_49 : decode cX4_pots 49 = .ok (.iload_n 1, 1) := by decide +kernel
theorem dX4_pots_50 : decode cX4_pots 50 = .ok (.iaload, 1) := by decide +kernel
theorem dX4_pots_51 : decode cX4_pots 51 = .ok (.ireturn, 1) := by decide +kernel
theorem dX4_hueOf_0 : decode cX4_hueOf 0 = .ok (.aload_n 0, 1) := by decide +kernel
theorem dX4_hueOf_1 : decode cX4_hueOf 1 = .ok (.iload_n 1, 1) := by decide +kernel
theorem dX4_hueOf_2 : decode cX4_hueOf 2 = .ok (.invokevirtual 153, 3) := by decide +kernel
theorem dX4_hueOf_5 : decode cX4_hueOf 5 = .ok (.iload_n 2, 1) := by decide +kernel
theorem dX4_hueOf_6 : decode cX4_hueOf 6 = .ok (.tableswitch 76 0 3 #[30, 40, 57, 66], 30) := by decide +kernel
theorem dX4_hueOf_36 : decode cX4_hueOf 36 = .ok (.aload_n 0, 1) := by decide +kernel
theorem dX4_hueOf_37 : decode cX4_hueOf 37 = .ok (.getfield 10, 3) := by decide +kernel
theorem dX4_hueOf_40 : decode cX4_hueOf 40 = .ok (.getfield 164, 3) := by decide +kernel
theorem dX4_hueOf_43 : decode cX4_hueOf 43 = .ok (.iload_n 1, 1) := by decide +kernel
theorem dX4_hueOf_44 : decode cX4_hueOf 44 = .ok (.iaload, 1) := by decide +kernel
theorem dX4_hueOf_45 : decode cX4_hueOf 45 = .ok (.ireturn, 1) := by decide +kernel
theorem dX4_hueOf_46 : decode cX4_hueOf 46 = .ok (.iload_n 1, 1) := by decide +kernel
theorem dX4_hueOf_47 : decode cX4_hueOf 47 = .ok (.aload_n 0, 1) := by decide +kernel
theorem dX4_hueOf_48 : decode cX4_hueOf 48 = .ok (.getfield 10, 3) := by decide +kernel
theorem dX4_hueOf_51 : decode cX4_hueOf 51 = .ok (.getfield 150, 3) := by decide +kernel
theorem dX4_hueOf_54 : decode cX4_hueOf 54 = .ok (.if_icmp .ge 7, 3) := by decide +kernel
theorem dX4_hueOf_57 : decode cX4_hueOf 57 = .ok (.iconst 1, 1) := by decide +kernel
theorem dX4_hueOf_58 : decode cX4_hueOf 58 = .ok (.goto 4, 3) := by decide +kernel
theorem dX4_hueOf_61 : decode cX4_hueOf 61 = .ok (.iconst 0, 1) := by decide +kernel
theorem dX4_hueOf_62 : decode cX4_hueOf 62 = .ok (.ireturn, 1) := by decide +kernel
theorem dX4_hueOf_63 : decode cX4_hueOf 63 = .ok (.aload_n 0, 1) := by decide +kernel
theorem dX4_hueOf_64 : decode cX4_hueOf 64 = .ok (.getfield 10, 3) := by decide +kernel
theorem dX4_hueOf_67 : decode cX4_hueOf 67 = .ok (.iload_n 1, 1) := by decide +kernel
theorem dX4_hueOf_68 : decode cX4_hueOf 68 = .ok (.invokevirtual 167, 3) := by decide +kernel
theorem dX4_hueOf_71 : decode cX4_hueOf 71 = .ok (.ireturn, 1) := by decide +kernel
theorem dX4_hueOf_72 : decode cX4_hueOf 72 = .ok (.aload_n 0, 1) := by decide +kernel
theorem dX4_hueOf_73 : decode cX4_hueOf 73 = .ok (.getfield 10, 3) := by decide +kernel
theorem dX4_hueOf_76 : decode cX4_hueOf 76 = .ok (.getfield 170, 3) := by decide +kernel
theorem dX4_hueOf_79 : decode cX4_hueOf 79 = .ok (.iload_n 1, 1) := by decide +kernel
theorem dX4_hueOf_80 : decode cX4_hueOf 80 = .ok (.iaload, 1) := by decide +kernel
theorem dX4_hueOf_81 : decode cX4_hueOf 81 = .ok (.ireturn, 1) := by decide +kernel
theorem dX4_hueOf_82 : decode cX4_hueOf 82 = .ok (.new 64, 3) := by decide +kernel
theorem dX4_hueOf_85 : decode cX4_hueOf 85 = .ok (.dup, 1) := by decide +kernel
theorem dX4_hueOf_86 : decode cX4_hueOf 86 = .ok (.ldc 173, 2) := by decide +kernel
theorem dX4_hueOf_88 : decode cX4_hueOf 88 = .ok (.invokespecial 68, 3) := by decide +kernel
theorem dX4_hueOf_91 : decode cX4_hueOf 91 = .ok (.athrow, 1) := by decide +kernel
theorem dX4_paint_0 : decode cX4_paint 0 = .ok (.aload_n 0, 1) := by decide +kernel
theorem dX4_paint_1 : decode cX4_paint 1 = .ok (.iload_n 1, 1) := by decide +kernel
theorem dX4_paint_2 : decode cX4_paint 2 = .ok (.invokevirtual 87, 3) := by decide +kernel
theorem dX4_paint_5 : decode cX4_paint 5 = .ok (.aload_n 0, 1) := by decide +kernel
theorem dX4_paint_6 : decode cX4_paint 6 = .ok (.iload_n 2, 1) := by decide +kernel
theorem dX4_paint_7 : decode cX4_paint 7 = .ok (.invokevirtual 153, 3) := by decide +kernel
theorem dX4_paint_10 : decode cX4_paint 10 = .ok (.aload_n 0, 1) := by decide +kernel
theorem dX4_paint_11 : decode cX4_paint 11 = .ok (.aload_n 0, 1) := by decide +kernel
theorem dX4_paint_12 : decode cX4_paint 12 = .ok (.getfield 10, 3) := by decide +kernel
theorem dX4_paint_15 : decode cX4_paint 15 = .ok (.iload_n 1, 1) := by decide +kernel
theorem dX4_paint_16 : decode cX4_paint 16 = .ok (.iload_n 2, 1) := by decide +kernel
theorem dX4_paint_17 : decode cX4_paint 17 = .ok (.invokevirtual 175, 3) := by decide +kernel
theorem dX4_paint_20 : decode cX4_paint 20 = .ok (.iload_n 1, 1) := by decide +kernel
theorem dX4_paint_21 : decode cX4_paint 21 = .ok (.iload_n 2, 1) := by decide +kernel
theorem dX4_paint_22 : decode cX4_paint 22 = .ok (.invokevirtual 75, 3) := by decide +kernel
theorem dX4_paint_25 : decode cX4_paint 25 = .ok (.aload_n 0, 1) := by decide +kernel
theorem dX4_paint_26 : decode cX4_paint 26 = .ok (.getfield 25, 3) := by decide +kernel
theorem dX4_paint_29 : decode cX4_paint 29 = .ok (.aload_n 0, 1) := by decide +kernel
theorem dX4_paint_30 : decode cX4_paint 30 = .ok (.getfield 10, 3) := by decide +kernel
theorem dX4_paint_33 : decode cX4_paint 33 = .ok (.invokevirtual 79, 3) := by decide +kernel
theorem dX4_paint_36 : decode cX4_paint 36 = .ok (.aload_n 0, 1) := by decide +kernel
theorem dX4_paint_37 : decode cX4_paint 37 = .ok (.getfield 10, 3) := by decide +kernel
theorem dX4_paint_40 : decode cX4_paint 40 = .ok (.iload_n 1, 1) := by decide +kernel
theorem dX4_paint_41 : decode cX4_paint 41 = .ok (.iload_n 2, 1) := by decide +kernel
theorem dX4_paint_42 : decode cX4_paint 42 = .ok (.invokevirtual 178, 3) := by decide +kernel
theorem dX4_paint_45 : decode cX4_paint 45 = .ok (.aload_n 0, 1) := by decide +kernel
theorem dX4_paint_46 : decode cX4_paint 46 = .ok (.getfield 10, 3) := by decide +kernel
theorem dX4_paint_49 : decode cX4_paint 49 = .ok (.getfield 181, 3) := by decide +kernel
theorem dX4_paint_52 : decode cX4_paint 52 = .ok (.ireturn, 1) := by decide +kernel
theorem dX4_bars_0 : decode cX4_bars 0 = .ok (.aload_n 0, 1) := by decide +kernel
theorem dX4_bars_1 : decode cX4_bars 1 = .ok (.iload_n 1, 1) := by decide +kernel
theorem dX4_bars_2 : decode cX4_bars 2 = .ok (.invokevirtual 87, 3) := by decide +kernel
theorem dX4_bars_5 : decode cX4_bars 5 = .ok (.aload_n 0, 1) := by decide +kernel
theorem dX4_bars_6 : decode cX4_bars 6 = .ok (.iload_n 2, 1) := by decide +kernel
theorem dX4_bars_7 : decode cX4_bars 7 = .ok (.invokevirtual 153, 3) := by decide +kernel
theorem dX4_bars_10 : decode cX4_bars 10 = .ok (.aload_n 0, 1) := by decide +kernel
theorem dX4_bars_11 : decode cX4_bars 11 = .ok (.getfield 10, 3) := by decide +kernel
theorem dX4_bars_14 : decode cX4_bars 14 = .ok (.iload_n 1, 1) := by decide +kernel
theorem dX4_bars_15 : decode cX4_bars 15 = .ok (.iload_n 2, 1) := by decide +kernel
theorem dX4_bars_16 : decode cX4_bars 16 = .ok (.invokevirtual 175, 3) := by decide +kernel
theorem dX4_bars_19 : decode cX4_bars 19 = .ok (.ireturn, 1) := by decide +kernel
theorem dX4_back_0 : decode cX4_back 0 = .ok (.aload_n 0, 1) := by decide +kernel
theorem dX4_back_1 : decode cX4_back 1 = .ok (.aload_n 0, 1) := by decide +kernel
theorem dX4_back_2 : decode cX4_back 2 = .ok (.getfield 10, 3) := by decide +kernel
theorem dX4_back_5 : decode cX4_back 5 = .ok (.invokevirtual 184, 3) := by decide +kernel
theorem dX4_back_8 : decode cX4_back 8 = .ok (.iconst 0, 1) := by decide +kernel
theorem dX4_back_9 : decode cX4_back 9 = .ok (.iconst 0, 1) := by decide +kernel
theorem dX4_back_10 : decode cX4_back 10 = .ok (.invokevirtual 75, 3) := by decide +kernel
theorem dX4_back_13 : decode cX4_back 13 = .ok (.aload_n 0, 1) := by decide +kernel
theorem dX4_back_14 : decode cX4_back 14 = .ok (.getfield 25, 3) := by decide +kernel
theorem dX4_back_17 : decode cX4_back 17 = .ok (.aload_n 0, 1) := by decide +kernel
theorem dX4_back_18 : decode cX4_back 18 = .ok (.getfield 10, 3) := by decide +kernel
theorem dX4_back_21 : decode cX4_back 21 = .ok (.invokevirtual 79, 3) := by decide +kernel
theorem dX4_back_24 : decode cX4_back 24 = .ok (.aload_n 0, 1) := by decide +kernel
theorem dX4_back_25 : decode cX4_back 25 = .ok (.getfield 10, 3) := by decide +kernel
theorem dX4_back_28 : decode cX4_back 28 = .ok (.invokevirtual 187, 3) := by decide +kernel
theorem dX4_back_31 : decode cX4_back 31 = .ok (.ireturn, 1) := by decide +kernel
theorem dX4_fill_0 : decode cX4_fill 0 = .ok (.aload_n 0, 1) := by decide +kernel
theorem dX4_fill_1 : decode cX4_fill 1 = .ok (.getfield 25, 3) := by decide +kernel
theorem dX4_fill_4 : decode cX4_fill 4 = .ok (.aload_n 0, 1) := by decide +kernel
theorem dX4_fill_5 : decode cX4_fill 5 = .ok (.getfield 10, 3) := by decide +kernel
theorem dX4_fill_8 : decode cX4_fill 8 = .ok (.invokevirtual 79, 3) := by decide +kernel
theorem dX4_fill_11 : decode cX4_fill 11 = .ok (.aload_n 0, 1) := by decide +kernel
theorem dX4_fill_12 : decode cX4_fill 12 = .ok (.getfield 10, 3) := by decide +kernel
theorem dX4_fill_15 : decode cX4_fill 15 = .ok (.invokevirtual 190, 3) := by decide +kernel
theorem dX4_fill_18 : decode cX4_fill 18 = .ok (.ireturn, 1) := by decide +kernel
theorem dX4_step_0 : decode cX4_step 0 = .ok (.iload_n 1, 1) := by decide +kernel
theorem dX4_step_1 : decode cX4_step 1 = .ok (.ifCond .lt 14, 3) := by decide +kernel
theorem dX4_step_4 : decode cX4_step 4 = .ok (.iload_n 1, 1) := by decide +kernel
theorem dX4_step_5 : decode cX4_step 5 = .ok (.aload_n 0, 1) := by decide +kernel
theorem dX4_step_6 : decode cX4_step 6 = .ok (.getfield 10, 3) := by decide +kernel
theorem dX4_step_9 : decode cX4_step 9 = .ok (.getfield 181, 3) := by decide +kernel
theorem dX4_step_12 : decode cX4_step 12 = .ok (.if_icmp .lt 13, 3) := by decide +kernel
theorem dX4_step_15 : decode cX4_step 15 = .ok (.new 193, 3) := by decide +kernel
theorem dX4_step_18 : decode cX4_step 18 = .ok (.dup, 1) := by decide +kernel
theorem dX4_step_19 : decode cX4_step 19 = .ok (.ldc 195, 2) := by decide +kernel
theorem dX4_step_21 : decode cX4_step 21 = .ok (.invokespecial 197, 3) := by decide +kernel
theorem dX4_step_24 : decode cX4_step 24 = .ok (.athrow, 1) := by decide +kernel
theorem dX4_step_25 : decode cX4_step 25 = .ok (.aload_n 0, 1) := by decide +kernel
theorem dX4_step_26 : decode cX4_step 26 = .ok (.getfield 10, 3) := by decide +kernel
theorem dX4_step_29 : decode cX4_step 29 = .ok (.getfield 198, 3) := by decide +kernel
theorem dX4_step_32 : decode cX4_step 32 = .ok (.iload_n 1, 1) := by decide +kernel
theorem dX4_step_33 : decode cX4_step 33 = .ok (.iaload, 1) := by decide +kernel
theorem dX4_step_34 : decode cX4_step 34 = .ok (.ireturn, 1) := by decide +kernel
theorem dX4_stuck_0 : decode cX4_stuck 0 = .ok (.aload_n 0, 1) := by decide +kernel
theorem dX4_stuck_1 : decode cX4_stuck 1 = .ok (.getfield 10, 3) := by decide +kernel
theorem dX4_stuck_4 : decode cX4_stuck 4 = .ok (.invokevirtual 201, 3) := by decide +kernel
theorem dX4_stuck_7 : decode cX4_stuck 7 = .ok (.istore_n 1, 1) := by decide +kernel
theorem dX4_stuck_8 : decode cX4_stuck 8 = .ok (.iload_n 1, 1) := by decide +kernel
theorem dX4_stuck_9 : decode cX4_stuck 9 = .ok (.iconst (-1), 1) := by decide +kernel
theorem dX4_stuck_10 : decode cX4_stuck 10 = .ok (.if_icmp .ne 13, 3) := by decide +kernel
theorem dX4_stuck_13 : decode cX4_stuck 13 = .ok (.new 193, 3) := by decide +kernel
theorem dX4_stuck_16 : decode cX4_stuck 16 = .ok (.dup, 1) := by decide +kernel
theorem dX4_stuck_17 : decode cX4_stuck 17 = .ok (.ldc 204, 2) := by decide +kernel
theorem dX4_stuck_19 : decode cX4_stuck 19 = .ok (.invokespecial 197, 3) := by decide +kernel
theorem dX4_stuck_22 : decode cX4_stuck 22 = .ok (.athrow, 1) := by decide +kernel
theorem dX4_stuck_23 : decode cX4_stuck 23 = .ok (.iload_n 1, 1) := by decide +kernel
theorem dX4_stuck_24 : decode cX4_stuck 24 = .ok (.ireturn, 1) := by decide +kernel
theorem dX4_next_0 : decode cX4_next 0 = .ok (.aload_n 0, 1) := by decide +kernel
theorem dX4_next_1 : decode cX4_next 1 = .ok (.getfield 10, 3) := by decide +kernel
theorem dX4_next_4 : decode cX4_next 4 = .ok (.invokevirtual 206, 3) := by decide +kernel
theorem dX4_next_7 : decode cX4_next 7 = .ok (.istore_n 1, 1) := by decide +kernel
theorem dX4_next_8 : decode cX4_next 8 = .ok (.iload_n 1, 1) := by decide +kernel
theorem dX4_next_9 : decode cX4_next 9 = .ok (.iconst (-1), 1) := by decide +kernel
theorem dX4_next_10 : decode cX4_next 10 = .ok (.if_icmp .ne 13, 3) := by decide +kernel
theorem dX4_next_13 : decode cX4_next 13 = .ok (.new 193, 3) := by decide +kernel
theorem dX4_next_16 : decode cX4_next 16 = .ok (.dup, 1) := by decide +kernel
theorem dX4_next_17 : decode cX4_next 17 = .ok (.ldc 209, 2) := by decide +kernel
theorem dX4_next_19 : decode cX4_next 19 = .ok (.invokespecial 197, 3) := by decide +kernel
theorem dX4_next_22 : decode cX4_next 22 = .ok (.athrow, 1) := by decide +kernel
theorem dX4_next_23 : decode cX4_next 23 = .ok (.iload_n 1, 1) := by decide +kernel
theorem dX4_next_24 : decode cX4_next 24 = .ok (.ireturn, 1) := by decide +kernel
theorem dX4_gentle_0 : decode cX4_gentle 0 = .ok (.aload_n 0, 1) := by decide +kernel
theorem dX4_gentle_1 : decode cX4_gentle 1 = .ok (.iload_n 1, 1) := by decide +kernel
theorem dX4_gentle_2 : decode cX4_gentle 2 = .ok (.invokevirtual 87, 3) := by decide +kernel
theorem dX4_gentle_5 : decode cX4_gentle 5 = .ok (.aload_n 0, 1) := by decide +kernel
theorem dX4_gentle_6 : decode cX4_gentle 6 = .ok (.getfield 10, 3) := by decide +kernel
theorem dX4_gentle_9 : decode cX4_gentle 9 = .ok (.iload_n 1, 1) := by decide +kernel
theorem dX4_gentle_10 : decode cX4_gentle 10 = .ok (.invokevirtual 211, 3) := by decide +kernel
theorem dX4_gentle_13 : decode cX4_gentle 13 = .ok (.istore_n 2, 1) := by decide +kernel
theorem dX4_gentle_14 : decode cX4_gentle 14 = .ok (.iload_n 2, 1) := by decide +kernel
theorem dX4_gentle_15 : decode cX4_gentle 15 = .ok (.iconst (-1), 1) := by decide +kernel
theorem dX4_gentle_16 : decode cX4_gentle 16 = .ok (.if_icmp .ne 13, 3) := by decide +kernel
theorem dX4_gentle_19 : decode cX4_gentle 19 = .ok (.new 193, 3) := by decide +kernel
theorem dX4_gentle_22 : decode cX4_gentle 22 = .ok (.dup, 1) := by decide +kernel
theorem dX4_gentle_23 : decode cX4_gentle 23 = .ok (.ldc 214, 2) := by decide +kernel
theorem dX4_gentle_25 : decode cX4_gentle 25 = .ok (.invokespecial 197, 3) := by decide +kernel
theorem dX4_gentle_28 : decode cX4_gentle 28 = .ok (.athrow, 1) := by decide +kernel
theorem dX4_gentle_29 : decode cX4_gentle 29 = .ok (.iload_n 2, 1) := by decide +kernel
theorem dX4_gentle_30 : decode cX4_gentle 30 = .ok (.ireturn, 1) := by decide +kernel
theorem dX4_wish_0 : decode cX4_wish 0 = .ok (.aload_n 0, 1) := by decide +kernel
theorem dX4_wish_1 : decode cX4_wish 1 = .ok (.iload_n 1, 1) := by decide +kernel
theorem dX4_wish_2 : decode cX4_wish 2 = .ok (.invokevirtual 87, 3) := by decide +kernel
theorem dX4_wish_5 : decode cX4_wish 5 = .ok (.aload_n 0, 1) := by decide +kernel
theorem dX4_wish_6 : decode cX4_wish 6 = .ok (.iload_n 2, 1) := by decide +kernel
theorem dX4_wish_7 : decode cX4_wish 7 = .ok (.invokevirtual 153, 3) := by decide +kernel
theorem dX4_wish_10 : decode cX4_wish 10 = .ok (.iload_n 3, 1) := by decide +kernel
theorem dX4_wish_11 : decode cX4_wish 11 = .ok (.invokestatic 216, 3) := by decide +kernel
theorem dX4_wish_14 : decode cX4_wish 14 = .ok (.ifCond .ne 13, 3) := by decide +kernel
theorem dX4_wish_17 : decode cX4_wish 17 = .ok (.new 64, 3) := by decide +kernel
theorem dX4_wish_20 : decode cX4_wish 20 = .ok (.dup, 1) := by decide +kernel
theorem dX4_wish_21 : decode cX4_wish 21 = .ok (.ldc 219, 2) := by decide +kernel
theorem dX4_wish_23 : decode cX4_wish 23 = .ok (.invokespecial 68, 3) := by decide +kernel
theorem dX4_wish_26 : decode cX4_wish 26 = .ok (.athrow, 1) := by decide +kernel
theorem dX4_wish_27 : decode cX4_wish 27 = .ok (.aload_n 0, 1) := by decide +kernel
theorem dX4_wish_28 : decode cX4_wish 28 = .ok (.getfield 25, 3) := by decide +kernel
theorem dX4_wish_31 : decode cX4_wish 31 = .ok (.aload_n 0, 1) := by decide +kernel
theorem dX4_wish_32 : decode cX4_wish 32 = .ok (.getfield 10, 3) := by decide +kernel
theorem dX4_wish_35 : decode cX4_wish 35 = .ok (.invokevirtual 79, 3) := by decide +kernel
theorem dX4_wish_38 : decode cX4_wish 38 = .ok (.aload_n 0, 1) := by decide +kernel
theorem dX4_wish_39 : decode cX4_wish 39 = .ok (.getfield 10, 3) := by decide +kernel
theorem dX4_wish_42 : decode cX4_wish 42 = .ok (.getfield 130, 3) := by decide +kernel
theorem dX4_wish_45 : decode cX4_wish 45 = .ok (.iload_n 1, 1) := by decide +kernel
theorem dX4_wish_46 : decode cX4_wish 46 = .ok (.iaload, 1) := by decide +kernel
theorem dX4_wish_47 : decode cX4_wish 47 = .ok (.istore 4, 2) := by decide +kernel
theorem dX4_wish_49 : decode cX4_wish 49 = .ok (.aload_n 0, 1) := by decide +kernel
theorem dX4_wish_50 : decode cX4_wish 50 = .ok (.getfield 10, 3) := by decide +kernel
theorem dX4_wish_53 : decode cX4_wish 53 = .ok (.iload_n 1, 1) := by decide +kernel
theorem dX4_wish_54 : decode cX4_wish 54 = .ok (.iload_n 2, 1) := by decide +kernel
theorem dX4_wish_55 : decode cX4_wish 55 = .ok (.iload_n 3, 1) := by decide +kernel
theorem dX4_wish_56 : decode cX4_wish 56 = .ok (.invokevirtual 221, 3) := by decide +kernel
theorem dX4_wish_59 : decode cX4_wish 59 = .ok (.iload 4, 2) := by decide +kernel
theorem dX4_wish_61 : decode cX4_wish 61 = .ok (.ireturn, 1) := by decide +kernel
theorem dX4_fulfilled_0 : decode cX4_fulfilled 0 = .ok (.aload_n 0, 1) := by decide +kernel
theorem dX4_fulfilled_1 : decode cX4_fulfilled 1 = .ok (.getfield 10, 3) := by decide +kernel
theorem dX4_fulfilled_4 : decode cX4_fulfilled 4 = .ok (.invokevirtual 224, 3) := by decide +kernel
theorem dX4_fulfilled_7 : decode cX4_fulfilled 7 = .ok (.ireturn, 1) := by decide +kernel
theorem dX4_ways_0 : decode cX4_ways 0 = .ok (.aload_n 0, 1) := by decide +kernel
theorem dX4_ways_1 : decode cX4_ways 1 = .ok (.getfield 32, 3) := by decide +kernel
theorem dX4_ways_4 : decode cX4_ways 4 = .ok (.aload_n 0, 1) := by decide +kernel
theorem dX4_ways_5 : decode cX4_ways 5 = .ok (.getfield 10, 3) := by decide +kernel
theorem dX4_ways_8 : decode cX4_ways 8 = .ok (.aload_n 0, 1) := by decide +kernel
theorem dX4_ways_9 : decode cX4_ways 9 = .ok (.getfield 10, 3) := by decide +kernel
theorem dX4_ways_12 : decode cX4_ways 12 = .ok (.getfield 150, 3) := by decide +kernel
theorem dX4_ways_15 : decode cX4_ways 15 = .ok (.invokevirtual 227, 3) := by decide +kernel
theorem dX4_ways_18 : decode cX4_ways 18 = .ok (.ireturn, 1) := by decide +kernel
theorem dX4_waysAgain_0 : decode cX4_waysAgain 0 = .ok (.aload_n 0, 1) := by decide +kernel
theorem dX4_waysAgain_1 : decode cX4_waysAgain 1 = .ok (.getfield 10, 3) := by decide +kernel
theorem dX4_waysAgain_4 : decode cX4_waysAgain 4 = .ok (.invokevirtual 231, 3) := by decide +kernel
theorem dX4_waysAgain_7 : decode cX4_waysAgain 7 = .ok (.invokestatic 125, 3) := by decide +kernel
theorem dX4_waysAgain_10 : decode cX4_waysAgain 10 = .ok (.iconst 4, 1) := by decide +kernel
theorem dX4_waysAgain_11 : decode cX4_waysAgain 11 = .ok (.if_icmp .le 22, 3) := by decide +kernel
theorem dX4_waysAgain_14 : decode cX4_waysAgain 14 = .ok (.aload_n 0, 1) := by decide +kernel
theorem dX4_waysAgain_15 : decode cX4_waysAgain 15 = .ok (.getfield 32, 3) := by decide +kernel
theorem dX4_waysAgain_18 : decode cX4_waysAgain 18 = .ok (.aload_n 0, 1) := by decide +kernel
theorem dX4_waysAgain_19 : decode cX4_waysAgain 19 = .ok (.getfield 10, 3) := by decide +kernel
theorem dX4_waysAgain_22 : decode cX4_waysAgain 22 = .ok (.aload_n 0, 1) := by decide +kernel
theorem dX4_waysAgain_23 : decode cX4_waysAgain 23 = .ok (.getfield 10, 3) := by decide +kernel
theorem dX4_waysAgain_26 : decode cX4_waysAgain 26 = .ok (.getfield 150, 3) := by decide +kernel
theorem dX4_waysAgain_29 : decode cX4_waysAgain 29 = .ok (.invokevirtual 227, 3) := by decide +kernel
theorem dX4_waysAgain_32 : decode cX4_waysAgain 32 = .ok (.ireturn, 1) := by decide +kernel
theorem dX4_waysAgain_33 : decode cX4_waysAgain 33 = .ok (.aload_n 0, 1) := by decide +kernel
theorem dX4_waysAgain_34 : decode cX4_waysAgain 34 = .ok (.getfield 32, 3) := by decide +kernel
theorem dX4_waysAgain_37 : decode cX4_waysAgain 37 = .ok (.aload_n 0, 1) := by decide +kernel
theorem dX4_waysAgain_38 : decode cX4_waysAgain 38 = .ok (.getfield 10, 3) := by decide +kernel
theorem dX4_waysAgain_41 : decode cX4_waysAgain 41 = .ok (.invokevirtual 234, 3) := by decide +kernel
theorem dX4_waysAgain_44 : decode cX4_waysAgain 44 = .ok (.ireturn, 1) := by decide +kernel
theorem dX4_waysFor_0 : decode cX4_waysFor 0 = .ok (.aload_n 0, 1) := by decide +kernel
theorem dX4_waysFor_1 : decode cX4_waysFor 1 = .ok (.iload_n 1, 1) := by decide +kernel
theorem dX4_waysFor_2 : decode cX4_waysFor 2 = .ok (.invokevirtual 87, 3) := by decide +kernel
theorem dX4_waysFor_5 : decode cX4_waysFor 5 = .ok (.aload_n 0, 1) := by decide +kernel
theorem dX4_waysFor_6 : decode cX4_waysFor 6 = .ok (.getfield 10, 3) := by decide +kernel
theorem dX4_waysFor_9 : decode cX4_waysFor 9 = .ok (.getfield 130, 3) := by decide +kernel
theorem dX4_waysFor_12 : decode cX4_waysFor 12 = .ok (.iload_n 1, 1) := by decide +kernel
theorem dX4_waysFor_13 : decode cX4_waysFor 13 = .ok (.iaload, 1) := by decide +kernel
theorem dX4_waysFor_14 : decode cX4_waysFor 14 = .ok (.iconst (-1), 1) := by decide +kernel
theorem dX4_waysFor_15 : decode cX4_waysFor 15 = .ok (.if_icmp .ne 13, 3) := by decide +kernel
theorem dX4_waysFor_18 : decode cX4_waysFor 18 = .ok (.new 193, 3) := by decide +kernel
theorem dX4_waysFor_21 : decode cX4_waysFor 21 = .ok (.dup, 1) := by decide +kernel
theorem dX4_waysFor_22 : decode cX4_waysFor 22 = .ok (.ldc 238, 2) := by decide +kernel
theorem dX4_waysFor_24 : decode cX4_waysFor 24 = .ok (.invokespecial 197, 3) := by decide +kernel
theorem dX4_waysFor_27 : decode cX4_waysFor 27 = .ok (.athrow, 1) := by decide +kernel
theorem dX4_waysFor_28 : decode cX4_waysFor 28 = .ok (.aload_n 0, 1) := by decide +kernel
theorem dX4_waysFor_29 : decode cX4_waysFor 29 = .ok (.getfield 32, 3) := by decide +kernel
theorem dX4_waysFor_32 : decode cX4_waysFor 32 = .ok (.aload_n 0, 1) := by decide +kernel
theorem dX4_waysFor_33 : decode cX4_waysFor 33 = .ok (.getfield 10, 3) := by decide +kernel
theorem dX4_waysFor_36 : decode cX4_waysFor 36 = .ok (.iload_n 1, 1) := by decide +kernel
theorem dX4_waysFor_37 : decode cX4_waysFor 37 = .ok (.invokevirtual 240, 3) := by decide +kernel
theorem dX4_waysFor_40 : decode cX4_waysFor 40 = .ok (.ireturn, 1) := by decide +kernel
theorem dX4_fewest_0 : decode cX4_fewest 0 = .ok (.aload_n 0, 1) := by decide +kernel
theorem dX4_fewest_1 : decode cX4_fewest 1 = .ok (.getfield 10, 3) := by decide +kernel
theorem dX4_fewest_4 : decode cX4_fewest 4 = .ok (.invokevirtual 243, 3) := by decide +kernel
theorem dX4_fewest_7 : decode cX4_fewest 7 = .ok (.istore_n 1, 1) := by decide +kernel
theorem dX4_fewest_8 : decode cX4_fewest 8 = .ok (.iload_n 1, 1) := by decide +kernel
theorem dX4_fewest_9 : decode cX4_fewest 9 = .ok (.iconst 5, 1) := by decide +kernel
theorem dX4_fewest_10 : decode cX4_fewest 10 = .ok (.if_icmp .gt 26, 3) := by decide +kernel
theorem dX4_fewest_13 : decode cX4_fewest 13 = .ok (.aload_n 0, 1) := by decide +kernel
theorem dX4_fewest_14 : decode cX4_fewest 14 = .ok (.getfield 32, 3) := by decide +kernel
theorem dX4_fewest_17 : decode cX4_fewest 17 = .ok (.aload_n 0, 1) := by decide +kernel
theorem dX4_fewest_18 : decode cX4_fewest 18 = .ok (.getfield 10, 3) := by decide +kernel
theorem dX4_fewest_21 : decode cX4_fewest 21 = .ok (.iload_n 1, 1) := by decide +kernel
theorem dX4_fewest_22 : decode cX4_fewest 22 = .ok (.invokevirtual 227, 3) := by decide +kernel
theorem dX4_fewest_25 : decode cX4_fewest 25 = .ok (.ifCond .le 5, 3) := by decide +kernel
theorem dX4_fewest_28 : decode cX4_fewest 28 = .ok (.iload_n 1, 1) := by decide +kernel
theorem dX4_fewest_29 : decode cX4_fewest 29 = .ok (.ireturn, 1) := by decide +kernel
theorem dX4_fewest_30 : decode cX4_fewest 30 = .ok (.iinc 1 1, 3) := by decide +kernel
theorem dX4_fewest_33 : decode cX4_fewest 33 = .ok (.goto (-25), 3) := by decide +kernel
theorem dX4_fewest_36 : decode cX4_fewest 36 = .ok (.new 193, 3) := by decide +kernel
theorem dX4_fewest_39 : decode cX4_fewest 39 = .ok (.dup, 1) := by decide +kernel
theorem dX4_fewest_40 : decode cX4_fewest 40 = .ok (.ldc 246, 2) := by decide +kernel
theorem dX4_fewest_42 : decode cX4_fewest 42 = .ok (.invokespecial 197, 3) := by decide +kernel
theorem dX4_fewest_45 : decode cX4_fewest 45 = .ok (.athrow, 1) := by decide +kernel
theorem dX4_clique_0 : decode cX4_clique 0 = .ok (.iconst 0, 1) := by decide +kernel
theorem dX4_clique_1 : decode cX4_clique 1 = .ok (.istore_n 1, 1) := by decide +kernel
theorem dX4_clique_2 : decode cX4_clique 2 = .ok (.iconst 0, 1) := by decide +kernel
theorem dX4_clique_3 : decode cX4_clique 3 = .ok (.istore_n 2, 1) := by decide +kernel
theorem dX4_clique_4 : decode cX4_clique 4 = .ok (.iload_n 2, 1) := by decide +kernel
theorem dX4_clique_5 : decode cX4_clique 5 = .ok (.sipush 128, 3) := by decide +kernel
theorem dX4_clique_8 : decode cX4_clique 8 = .ok (.if_icmp .ge 29, 3) := by decide +kernel
theorem dX4_clique_11 : decode cX4_clique 11 = .ok (.aload_n 0, 1) := by decide +kernel
theorem dX4_clique_12 : decode cX4_clique 12 = .ok (.getfield 10, 3) := by decide +kernel
theorem dX4_clique_15 : decode cX4_clique 15 = .ok (.iload_n 2, 1) := by decide +kernel
theorem dX4_clique_16 : decode cX4_clique 16 = .ok (.invokevirtual 248, 3) := by decide +kernel
theorem dX4_clique_19 : decode cX4_clique 19 = .ok (.ifCond .eq 12, 3) := by decide +kernel
theorem dX4_clique_22 : decode cX4_clique 22 = .ok (.iload_n 1, 1) := by decide +kernel
theorem dX4_clique_23 : decode cX4_clique 23 = .ok (.iload_n 2, 1) := by decide +kernel
theorem dX4_clique_24 : decode cX4_clique 24 = .ok (.invokestatic 125, 3) := by decide +kernel
theorem dX4_clique_27 : decode cX4_clique 27 = .ok (.invokestatic 251, 3) := by decide +kernel
theorem dX4_clique_30 : decode cX4_clique 30 = .ok (.istore_n 1, 1) := by decide +kernel
theorem dX4_clique_31 : decode cX4_clique 31 = .ok (.iinc 2 1, 3) := by decide +kernel
theorem dX4_clique_34 : decode cX4_clique 34 = .ok (.goto (-30), 3) := by decide +kernel
theorem dX4_clique_37 : decode cX4_clique 37 = .ok (.iload_n 1, 1) := by decide +kernel
theorem dX4_clique_38 : decode cX4_clique 38 = .ok (.ireturn, 1) := by decide +kernel
theorem dX4_line_0 : decode cX4_line 0 = .ok (.aload_n 0, 1) := by decide +kernel
theorem dX4_line_1 : decode cX4_line 1 = .ok (.iload_n 1, 1) := by decide +kernel
theorem dX4_line_2 : decode cX4_line 2 = .ok (.invokevirtual 87, 3) := by decide +kernel
theorem dX4_line_5 : decode cX4_line 5 = .ok (.aload_n 0, 1) := by decide +kernel
theorem dX4_line_6 : decode cX4_line 6 = .ok (.iconst 0, 1) := by decide +kernel
theorem dX4_line_7 : decode cX4_line 7 = .ok (.putfield 47, 3) := by decide +kernel
theorem dX4_line_10 : decode cX4_line 10 = .ok (.aload_n 0, 1) := by decide +kernel
theorem dX4_line_11 : decode cX4_line 11 = .ok (.iload_n 1, 1) := by decide +kernel
theorem dX4_line_12 : decode cX4_line 12 = .ok (.invokevirtual 256, 3) := by decide +kernel
theorem dX4_line_15 : decode cX4_line 15 = .ok (.aload_n 0, 1) := by decide +kernel
theorem dX4_line_16 : decode cX4_line 16 = .ok (.bipush 58, 2) := by decide +kernel
theorem dX4_line_18 : decode cX4_line 18 = .ok (.invokevirtual 259, 3) := by decide +kernel
theorem dX4_line_21 : decode cX4_line 21 = .ok (.aload_n 0, 1) := by decide +kernel
theorem dX4_line_22 : decode cX4_line 22 = .ok (.getfield 10, 3) := by decide +kernel
theorem dX4_line_25 : decode cX4_line 25 = .ok (.iload_n 1, 1) := by decide +kernel
theorem dX4_line_26 : decode cX4_line 26 = .ok (.invokevirtual 263, 3) := by decide +kernel
theorem dX4_line_29 : decode cX4_line 29 = .ok (.ifCond .eq 19, 3) := by decide +kernel
theorem dX4_line_32 : decode cX4_line 32 = .ok (.aload_n 0, 1) := by decide +kernel
theorem dX4_line_33 : decode cX4_line 33 = .ok (.aload_n 0, 1) := by decide +kernel
theorem dX4_line_34 : decode cX4_line 34 = .ok (.getfield 10, 3) := by decide +kernel
theorem dX4_line_37 : decode cX4_line 37 = .ok (.getfield 116, 3) := by decide +kernel
theorem dX4_line_40 : decode cX4_line 40 = .ok (.iload_n 1, 1) := by decide +kernel
theorem dX4_line_41 : decode cX4_line 41 = .ok (.iaload, 1) := by decide +kernel
theorem dX4_line_42 : decode cX4_line 42 = .ok (.invokevirtual 256, 3) := by decide +kernel
theorem dX4_line_45 : decode cX4_line 45 = .ok (.goto 9, 3) := by decide +kernel
theorem dX4_line_48 : decode cX4_line 48 = .ok (.aload_n 0, 1) := by decide +kernel
theorem dX4_line_49 : decode cX4_line 49 = .ok (.bipush 45, 2) := by decide +kernel
theorem dX4_line_51 : decode cX4_line 51 = .ok (.invokevirtual 259, 3) := by decide +kernel
theorem dX4_line_54 : decode cX4_line 54 = .ok (.aload_n 0, 1) := by decide +kernel
theorem dX4_line_55 : decode cX4_line 55 = .ok (.bipush 40, 2) := by decide +kernel
theorem dX4_line_57 : decode cX4_line 57 = .ok (.invokevirtual 259, 3) := by decide +kernel
theorem dX4_line_60 : decode cX4_line 60 = .ok (.aload_n 0, 1) := by decide +kernel
theorem dX4_line_61 : decode cX4_line 61 = .ok (.iload_n 1, 1) := by decide +kernel
theorem dX4_line_62 : decode cX4_line 62 = .ok (.invokevirtual 266, 3) := by decide +kernel
theorem dX4_line_65 : decode cX4_line 65 = .ok (.aload_n 0, 1) := by decide +kernel
theorem dX4_line_66 : decode cX4_line 66 = .ok (.bipush 41, 2) := by decide +kernel
theorem dX4_line_68 : decode cX4_line 68 = .ok (.invokevirtual 259, 3) := by decide +kernel
theorem dX4_line_71 : decode cX4_line 71 = .ok (.aload_n 0, 1) := by decide +kernel
theorem dX4_line_72 : decode cX4_line 72 = .ok (.getfield 10, 3) := by decide +kernel
theorem dX4_line_75 : decode cX4_line 75 = .ok (.iload_n 1, 1) := by decide +kernel
theorem dX4_line_76 : decode cX4_line 76 = .ok (.invokevirtual 269, 3) := by decide +kernel
theorem dX4_line_79 : decode cX4_line 79 = .ok (.ifCond .eq 9, 3) := by decide +kernel
theorem dX4_line_82 : decode cX4_line 82 = .ok (.aload_n 0, 1) := by decide +kernel
theorem dX4_line_83 : decode cX4_line 83 = .ok (.bipush 33, 2) := by decide +kernel
theorem dX4_line_85 : decode cX4_line 85 = .ok (.invokevirtual 259, 3) := by decide +kernel
theorem dX4_line_88 : decode cX4_line 88 = .ok (.aload_n 0, 1) := by decide +kernel
theorem dX4_line_89 : decode cX4_line 89 = .ok (.getfield 47, 3) := by decide +kernel
theorem dX4_line_92 : decode cX4_line 92 = .ok (.ireturn, 1) := by decide +kernel
theorem dX4_character_0 : decode cX4_character 0 = .ok (.iload_n 1, 1) := by decide +kernel
theorem dX4_character_1 : decode cX4_character 1 = .ok (.ifCond .lt 11, 3) := by decide +kernel
theorem dX4_character_4 : decode cX4_character 4 = .ok (.iload_n 1, 1) := by decide +kernel
theorem dX4_character_5 : decode cX4_character 5 = .ok (.aload_n 0, 1) := by decide +kernel
theorem dX4_character_6 : decode cX4_character 6 = .ok (.getfield 47, 3) := by decide +kernel
theorem dX4_character_9 : decode cX4_character 9 = .ok (.if_icmp .lt 14, 3) := by decide +kernel
theorem dX4_character_12 : decode cX4_character 12 = .ok (.new 272, 3) := by decide +kernel
theorem dX4_character_15 : decode cX4_character 15 = .ok (.dup, 1) := by decide +kernel
theorem dX4_character_16 : decode cX4_character 16 = .ok (.ldc_w 274, 3) := by decide +kernel
theorem dX4_character_19 : decode cX4_character 19 = .ok (.invokespecial 276, 3) := by decide +kernel
theorem dX4_character_22 : decode cX4_character 22 = .ok (.athrow, 1) := by decide +kernel
theorem dX4_character_23 : decode cX4_character 23 = .ok (.aload_n 0, 1) := by decide +kernel
theorem dX4_character_24 : decode cX4_character 24 = .ok (.getfield 43, 3) := by decide +kernel
theorem dX4_character_27 : decode cX4_character 27 = .ok (.iload_n 1, 1) := by decide +kernel
theorem dX4_character_28 : decode cX4_character 28 = .ok (.caload, 1) := by decide +kernel
theorem dX4_character_29 : decode cX4_character 29 = .ok (.ireturn, 1) := by decide +kernel
theorem dX4_append_0 : decode cX4_append 0 = .ok (.aload_n 0, 1) := by decide +kernel
theorem dX4_append_1 : decode cX4_append 1 = .ok (.getfield 39, 3) := by decide +kernel
theorem dX4_append_4 : decode cX4_append 4 = .ok (.getfield 277, 3) := by decide +kernel
theorem dX4_append_7 : decode cX4_append 7 = .ok (.bipush 60, 2) := by decide +kernel
theorem dX4_append_9 : decode cX4_append 9 = .ok (.if_icmp .lt 14, 3) := by decide +kernel
theorem dX4_append_12 : decode cX4_append 12 = .ok (.new 280, 3) := by decide +kernel
theorem dX4_append_15 : decode cX4_append 15 = .ok (.dup, 1) := by decide +kernel
theorem dX4_append_16 : decode cX4_append 16 = .ok (.ldc_w 282, 3) := by decide +kernel
theorem dX4_append_19 : decode cX4_append 19 = .ok (.invokespecial 284, 3) := by decide +kernel
theorem dX4_append_22 : decode cX4_append 22 = .ok (.athrow, 1) := by decide +kernel
theorem dX4_append_23 : decode cX4_append 23 = .ok (.aload_n 0, 1) := by decide +kernel
theorem dX4_append_24 : decode cX4_append 24 = .ok (.getfield 39, 3) := by decide +kernel
theorem dX4_append_27 : decode cX4_append 27 = .ok (.iload_n 1, 1) := by decide +kernel
theorem dX4_append_28 : decode cX4_append 28 = .ok (.invokevirtual 285, 3) := by decide +kernel
theorem dX4_append_31 : decode cX4_append 31 = .ok (.aload_n 0, 1) := by decide +kernel
theorem dX4_append_32 : decode cX4_append 32 = .ok (.getfield 39, 3) := by decide +kernel
theorem dX4_append_35 : decode cX4_append 35 = .ok (.getfield 277, 3) := by decide +kernel
theorem dX4_append_38 : decode cX4_append 38 = .ok (.ireturn, 1) := by decide +kernel
theorem dX4_read_0 : decode cX4_read 0 = .ok (.aload_n 0, 1) := by decide +kernel
theorem dX4_read_1 : decode cX4_read 1 = .ok (.aload_n 0, 1) := by decide +kernel
theorem dX4_read_2 : decode cX4_read 2 = .ok (.getfield 39, 3) := by decide +kernel
theorem dX4_read_5 : decode cX4_read 5 = .ok (.invokevirtual 288, 3) := by decide +kernel
theorem dX4_read_8 : decode cX4_read 8 = .ok (.putfield 55, 3) := by decide +kernel
theorem dX4_read_11 : decode cX4_read 11 = .ok (.aload_n 0, 1) := by decide +kernel
theorem dX4_read_12 : decode cX4_read 12 = .ok (.getfield 55, 3) := by decide +kernel
theorem dX4_read_15 : decode cX4_read 15 = .ok (.iconst (-1), 1) := by decide +kernel
theorem dX4_read_16 : decode cX4_read 16 = .ok (.if_icmp .ne 10, 3) := by decide +kernel
theorem dX4_read_19 : decode cX4_read 19 = .ok (.aload_n 0, 1) := by decide +kernel
theorem dX4_read_20 : decode cX4_read 20 = .ok (.invokevirtual 291, 3) := by decide +kernel
theorem dX4_read_23 : decode cX4_read 23 = .ok (.goto 5, 3) := by decide +kernel
theorem dX4_read_26 : decode cX4_read 26 = .ok (.bipush (-2), 2) := by decide +kernel
theorem dX4_read_28 : decode cX4_read 28 = .ok (.istore_n 1, 1) := by decide +kernel
theorem dX4_read_29 : decode cX4_read 29 = .ok (.aload_n 0, 1) := by decide +kernel
theorem dX4_read_30 : decode cX4_read 30 = .ok (.getfield 39, 3) := by decide +kernel
theorem dX4_read_33 : decode cX4_read 33 = .ok (.iconst 0, 1) := by decide +kernel
theorem dX4_read_34 : decode cX4_read 34 = .ok (.putfield 277, 3) := by decide +kernel
theorem dX4_read_37 : decode cX4_read 37 = .ok (.iload_n 1, 1) := by decide +kernel
theorem dX4_read_38 : decode cX4_read 38 = .ok (.bipush (-2), 2) := by decide +kernel
theorem dX4_read_40 : decode cX4_read 40 = .ok (.if_icmp .ne 14, 3) := by decide +kernel
theorem dX4_read_43 : decode cX4_read 43 = .ok (.new 64, 3) := by decide +kernel
theorem dX4_read_46 : decode cX4_read 46 = .ok (.dup, 1) := by decide +kernel
theorem dX4_read_47 : decode cX4_read 47 = .ok (.ldc_w 294, 3) := by decide +kernel
theorem dX4_read_50 : decode cX4_read 50 = .ok (.invokespecial 68, 3) := by decide +kernel
theorem dX4_read_53 : decode cX4_read 53 = .ok (.athrow, 1) := by decide +kernel
theorem dX4_read_54 : decode cX4_read 54 = .ok (.iload_n 1, 1) := by decide +kernel
theorem dX4_read_55 : decode cX4_read 55 = .ok (.iconst (-1), 1) := by decide +kernel
theorem dX4_read_56 : decode cX4_read 56 = .ok (.if_icmp .ne 14, 3) := by decide +kernel
theorem dX4_read_59 : decode cX4_read 59 = .ok (.new 296, 3) := by decide +kernel
theorem dX4_read_62 : decode cX4_read 62 = .ok (.dup, 1) := by decide +kernel
theorem dX4_read_63 : decode cX4_read 63 = .ok (.ldc_w 298, 3) := by decide +kernel
theorem dX4_read_66 : decode cX4_read 66 = .ok (.invokespecial 300, 3) := by decide +kernel
theorem dX4_read_69 : decode cX4_read 69 = .ok (.athrow, 1) := by decide +kernel
theorem dX4_read_70 : decode cX4_read 70 = .ok (.iload_n 1, 1) := by decide +kernel
theorem dX4_read_71 : decode cX4_read 71 = .ok (.ireturn, 1) := by decide +kernel
theorem dX4_errorPosition_0 : decode cX4_errorPosition 0 = .ok (.aload_n 0, 1) := by decide +kernel
theorem dX4_errorPosition_1 : decode cX4_errorPosition 1 = .ok (.getfield 55, 3) := by decide +kernel
theorem dX4_errorPosition_4 : decode cX4_errorPosition 4 = .ok (.ireturn, 1) := by decide +kernel
theorem dX4_refusal_0 : decode cX4_refusal 0 = .ok (.aload_n 0, 1) := by decide +kernel
theorem dX4_refusal_1 : decode cX4_refusal 1 = .ok (.getfield 58, 3) := by decide +kernel
theorem dX4_refusal_4 : decode cX4_refusal 4 = .ok (.ifCond .ne 14, 3) := by decide +kernel
theorem dX4_refusal_7 : decode cX4_refusal 7 = .ok (.new 193, 3) := by decide +kernel
theorem dX4_refusal_10 : decode cX4_refusal 10 = .ok (.dup, 1) := by decide +kernel
theorem dX4_refusal_11 : decode cX4_refusal 11 = .ok (.ldc_w 301, 3) := by decide +kernel
theorem dX4_refusal_14 : decode cX4_refusal 14 = .ok (.invokespecial 197, 3) := by decide +kernel
theorem dX4_refusal_17 : decode cX4_refusal 17 = .ok (.athrow, 1) := by decide +kernel
theorem dX4_refusal_18 : decode cX4_refusal 18 = .ok (.iload_n 1, 1) := by decide +kernel
theorem dX4_refusal_19 : decode cX4_refusal 19 = .ok (.ifCond .eq 10, 3) := by decide +kernel
theorem dX4_refusal_22 : decode cX4_refusal 22 = .ok (.aload_n 0, 1) := by decide +kernel
theorem dX4_refusal_23 : decode cX4_refusal 23 = .ok (.getfield 61, 3) := by decide +kernel
theorem dX4_refusal_26 : decode cX4_refusal 26 = .ok (.goto 7, 3) := by decide +kernel
theorem dX4_refusal_29 : decode cX4_refusal 29 = .ok (.aload_n 0, 1) := by decide +kernel
theorem dX4_refusal_30 : decode cX4_refusal 30 = .ok (.getfield 58, 3) := by decide +kernel
theorem dX4_refusal_33 : decode cX4_refusal 33 = .ok (.ireturn, 1) := by decide +kernel
theorem dX4_account_0 : decode cX4_account 0 = .ok (.iload_n 1, 1) := by decide +kernel
theorem dX4_account_1 : decode cX4_account 1 = .ok (.tableswitch 177 0 12 #[67, 75, 83, 91, 99, 107, 115, 126, 137, 145, 153, 161, 169], 67) := by decide +kernel
theorem dX4_account_68 : decode cX4_account 68 = .ok (.aload_n 0, 1) := by decide +kernel
theorem dX4_account_69 : decode cX4_account 69 = .ok (.getfield 10, 3) := by decide +kernel
theorem dX4_account_72 : decode cX4_account 72 = .ok (.getfield 303, 3) := by decide +kernel
theorem dX4_account_75 : decode cX4_account 75 = .ok (.ireturn, 1) := by decide +kernel
theorem dX4_account_76 : decode cX4_account 76 = .ok (.aload_n 0, 1) := by decide +kernel
theorem dX4_account_77 : decode cX4_account 77 = .ok (.getfield 10, 3) := by decide +kernel
theorem dX4_account_80 : decode cX4_account 80 = .ok (.invokevirtual 99, 3) := by decide +kernel
theorem dX4_account_83 : decode cX4_account 83 = .ok (.ireturn, 1) := by decide +kernel
theorem dX4_account_84 : decode cX4_account 84 = .ok (.aload_n 0, 1) := by decide +kernel
theorem dX4_account_85 : decode cX4_account 85 = .ok (.getfield 10, 3) := by decide +kernel
theorem dX4_account_88 : decode cX4_account 88 = .ok (.getfield 150, 3) := by decide +kernel
theorem dX4_account_91 : decode cX4_account 91 = .ok (.ireturn, 1) := by decide +kernel
theorem dX4_account_92 : decode cX4_account 92 = .ok (.aload_n 0, 1) := by decide +kernel
theorem dX4_account_93 : decode cX4_account 93 = .ok (.getfield 10, 3) := by decide +kernel
theorem dX4_account_96 : decode cX4_account 96 = .ok (.invokevirtual 306, 3) := by decide +kernel
theorem dX4_account_99 : decode cX4_account 99 = .ok (.ireturn, 1) := by decide +kernel
theorem dX4_account_100 : decode cX4_account 100 = .ok (.aload_n 0, 1) := by decide +kernel
theorem dX4_account_101 : decode cX4_account 101 = .ok (.getfield 10, 3) := by decide +kernel
theorem dX4_account_104 : decode cX4_account 104 = .ok (.invokevirtual 309, 3) := by decide +kernel
theorem dX4_account_107 : decode cX4_account 107 = .ok (.ireturn, 1) := by decide +kernel
theorem dX4_account_108 : decode cX4_account 108 = .ok (.aload_n 0, 1) := by decide +kernel
theorem dX4_account_109 : decode cX4_account 109 = .ok (.getfield 10, 3) := by decide +kernel
theorem dX4_account_112 : decode cX4_account 112 = .ok (.getfield 181, 3) := by decide +kernel
theorem dX4_account_115 : decode cX4_account 115 = .ok (.ireturn, 1) := by decide +kernel
theorem dX4_account_116 : decode cX4_account 116 = .ok (.aload_n 0, 1) := by decide +kernel
theorem dX4_account_117 : decode cX4_account 117 = .ok (.getfield 10, 3) := by decide +kernel
theorem dX4_account_120 : decode cX4_account 120 = .ok (.getfield 164, 3) := by decide +kernel
theorem dX4_account_123 : decode cX4_account 123 = .ok (.invokestatic 312, 3) := by decide +kernel
theorem dX4_account_126 : decode cX4_account 126 = .ok (.ireturn, 1) := by decide +kernel
theorem dX4_account_127 : decode cX4_account 127 = .ok (.aload_n 0, 1) := by decide +kernel
theorem dX4_account_128 : decode cX4_account 128 = .ok (.getfield 10, 3) := by decide +kernel
theorem dX4_account_131 : decode cX4_account 131 = .ok (.getfield 170, 3) := by decide +kernel
theorem dX4_account_134 : decode cX4_account 134 = .ok (.invokestatic 312, 3) := by decide +kernel
theorem dX4_account_137 : decode cX4_account 137 = .ok (.ireturn, 1) := by decide +kernel
theorem dX4_account_138 : decode cX4_account 138 = .ok (.aload_n 0, 1) := by decide +kernel
theorem dX4_account_139 : decode cX4_account 139 = .ok (.getfield 10, 3) := by decide +kernel
theorem dX4_account_142 : decode cX4_account 142 = .ok (.getfield 316, 3) := by decide +kernel
theorem dX4_account_145 : decode cX4_account 145 = .ok (.ireturn, 1) := by decide +kernel
theorem dX4_account_146 : decode cX4_account 146 = .ok (.aload_n 0, 1) := by decide +kernel
theorem dX4_account_147 : decode cX4_account 147 = .ok (.getfield 10, 3) := by decide +kernel
theorem dX4_account_150 : decode cX4_account 150 = .ok (.invokevirtual 319, 3) := by decide +kernel
theorem dX4_account_153 : decode cX4_account 153 = .ok (.ireturn, 1) := by decide +kernel
theorem dX4_account_154 : decode cX4_account 154 = .ok (.aload_n 0, 1) := by decide +kernel
theorem dX4_account_155 : decode cX4_account 155 = .ok (.getfield 10, 3) := by decide +kernel
theorem dX4_account_158 : decode cX4_account 158 = .ok (.invokevirtual 322, 3) := by decide +kernel
theorem dX4_account_161 : decode cX4_account 161 = .ok (.ireturn, 1) := by decide +kernel
theorem dX4_account_162 : decode cX4_account 162 = .ok (.aload_n 0, 1) := by decide +kernel
theorem dX4_account_163 : decode cX4_account 163 = .ok (.getfield 39, 3) := by decide +kernel
theorem dX4_account_166 : decode cX4_account 166 = .ok (.getfield 277, 3) := by decide +kernel
theorem dX4_account_169 : decode cX4_account 169 = .ok (.ireturn, 1) := by decide +kernel
theorem dX4_account_170 : decode cX4_account 170 = .ok (.aload_n 0, 1) := by decide +kernel
theorem dX4_account_171 : decode cX4_account 171 = .ok (.getfield 25, 3) := by decide +kernel
theorem dX4_account_174 : decode cX4_account 174 = .ok (.getfield 325, 3) := by decide +kernel
theorem dX4_account_177 : decode cX4_account 177 = .ok (.ireturn, 1) := by decide +kernel
theorem dX4_account_178 : decode cX4_account 178 = .ok (.new 64, 3) := by decide +kernel
theorem dX4_account_181 : decode cX4_account 181 = .ok (.dup, 1) := by decide +kernel
theorem dX4_account_182 : decode cX4_account 182 = .ok (.ldc_w 328, 3) := by decide +kernel
theorem dX4_account_185 : decode cX4_account 185 = .ok (.invokespecial 68, 3) := by decide +kernel
theorem dX4_account_188 : decode cX4_account 188 = .ok (.athrow, 1) := by decide +kernel
theorem dX4_isWell_0 : decode cX4_isWell 0 = .ok (.aload_n 0, 1) := by decide +kernel
theorem dX4_isWell_1 : decode cX4_isWell 1 = .ok (.getfield 10, 3) := by decide +kernel
theorem dX4_isWell_4 : decode cX4_isWell 4 = .ok (.invokevirtual 330, 3) := by decide +kernel
theorem dX4_isWell_7 : decode cX4_isWell 7 = .ok (.ifCond .eq 17, 3) := by decide +kernel
theorem dX4_isWell_10 : decode cX4_isWell 10 = .ok (.aload_n 0, 1) := by decide +kernel
theorem dX4_isWell_11 : decode cX4_isWell 11 = .ok (.getfield 10, 3) := by decide +kernel
theorem dX4_isWell_14 : decode cX4_isWell 14 = .ok (.invokevirtual 334, 3) := by decide +kernel
theorem dX4_isWell_17 : decode cX4_isWell 17 = .ok (.ifCond .eq 7, 3) := by decide +kernel
theorem dX4_isWell_20 : decode cX4_isWell 20 = .ok (.iconst 1, 1) := by decide +kernel
theorem dX4_isWell_21 : decode cX4_isWell 21 = .ok (.goto 4, 3) := by decide +kernel
theorem dX4_isWell_24 : decode cX4_isWell 24 = .ok (.iconst 0, 1) := by decide +kernel
theorem dX4_isWell_25 : decode cX4_isWell 25 = .ok (.ireturn, 1) := by decide +kernel
theorem dX4_meanSize_0 : decode cX4_meanSize 0 = .ok (.aload_n 0, 1) := by decide +kernel
theorem dX4_meanSize_1 : decode cX4_meanSize 1 = .ok (.getfield 10, 3) := by decide +kernel
theorem dX4_meanSize_4 : decode cX4_meanSize 4 = .ok (.invokevirtual 306, 3) := by decide +kernel
theorem dX4_meanSize_7 : decode cX4_meanSize 7 = .ok (.istore_n 1, 1) := by decide +kernel
theorem dX4_meanSize_8 : decode cX4_meanSize 8 = .ok (.iload_n 1, 1) := by decide +kernel
theorem dX4_meanSize_9 : decode cX4_meanSize 9 = .ok (.ifCond .ne 14, 3) := by decide +kernel
theorem dX4_meanSize_12 : decode cX4_meanSize 12 = .ok (.new 337, 3) := by decide +kernel
theorem dX4_meanSize_15 : decode cX4_meanSize 15 = .ok (.dup, 1) := by decide +kernel
theorem dX4_meanSize_16 : decode cX4_meanSize 16 = .ok (.ldc_w 339, 3) := by decide +kernel
theorem dX4_meanSize_19 : decode cX4_meanSize 19 = .ok (.invokespecial 341, 3) := by decide +kernel
theorem dX4_meanSize_22 : decode cX4_meanSize 22 = .ok (.athrow, 1) := by decide +kernel
theorem dX4_meanSize_23 : decode cX4_meanSize 23 = .ok (.aload_n 0, 1) := by decide +kernel
theorem dX4_meanSize_24 : decode cX4_meanSize 24 = .ok (.getfield 10, 3) := by decide +kernel
theorem dX4_meanSize_27 : decode cX4_meanSize 27 = .ok (.invokevirtual 342, 3) := by decide +kernel
theorem dX4_meanSize_30 : decode cX4_meanSize 30 = .ok (.i2d, 1) := by decide +kernel
theorem dX4_meanSize_31 : decode cX4_meanSize 31 = .ok (.iload_n 1, 1) := by decide +kernel
theorem dX4_meanSize_32 : decode cX4_meanSize 32 = .ok (.i2d, 1) := by decide +kernel
theorem dX4_meanSize_33 : decode cX4_meanSize 33 = .ok (.ddiv, 1) := by decide +kernel
theorem dX4_meanSize_34 : decode cX4_meanSize 34 = .ok (.dreturn, 1) := by decide +kernel
theorem dX4_painted_0 : decode cX4_painted 0 = .ok (.aload_n 0, 1) := by decide +kernel
theorem dX4_painted_1 : decode cX4_painted 1 = .ok (.getfield 10, 3) := by decide +kernel
theorem dX4_painted_4 : decode cX4_painted 4 = .ok (.getfield 303, 3) := by decide +kernel
theorem dX4_painted_7 : decode cX4_painted 7 = .ok (.ifCond .ne 14, 3) := by decide +kernel
theorem dX4_painted_10 : decode cX4_painted 10 = .ok (.new 337, 3) := by decide +kernel
theorem dX4_painted_13 : decode cX4_painted 13 = .ok (.dup, 1) := by decide +kernel
theorem dX4_painted_14 : decode cX4_painted 14 = .ok (.ldc_w 345, 3) := by decide +kernel
theorem dX4_painted_17 : decode cX4_painted 17 = .ok (.invokespecial 341, 3) := by decide +kernel
theorem dX4_painted_20 : decode cX4_painted 20 = .ok (.athrow, 1) := by decide +kernel
theorem dX4_painted_21 : decode cX4_painted 21 = .ok (.aload_n 0, 1) := by decide +kernel
theorem dX4_painted_22 : decode cX4_painted 22 = .ok (.getfield 10, 3) := by decide +kernel
theorem dX4_painted_25 : decode cX4_painted 25 = .ok (.invokevirtual 306, 3) := by decide +kernel
theorem dX4_painted_28 : decode cX4_painted 28 = .ok (.i2f, 1) := by decide +kernel
theorem dX4_painted_29 : decode cX4_painted 29 = .ok (.aload_n 0, 1) := by decide +kernel
theorem dX4_painted_30 : decode cX4_painted 30 = .ok (.getfield 10, 3) := by decide +kernel
theorem dX4_painted_33 : decode cX4_painted 33 = .ok (.getfield 303, 3) := by decide +kernel
theorem dX4_painted_36 : decode cX4_painted 36 = .ok (.i2f, 1) := by decide +kernel
theorem dX4_painted_37 : decode cX4_painted 37 = .ok (.fdiv, 1) := by decide +kernel
theorem dX4_painted_38 : decode cX4_painted 38 = .ok (.freturn, 1) := by decide +kernel
theorem dX4_undo_0 : decode cX4_undo 0 = .ok (.aload_n 0, 1) := by decide +kernel
theorem dX4_undo_1 : decode cX4_undo 1 = .ok (.getfield 25, 3) := by decide +kernel
theorem dX4_undo_4 : decode cX4_undo 4 = .ok (.getfield 325, 3) := by decide +kernel
theorem dX4_undo_7 : decode cX4_undo 7 = .ok (.ifCond .ne 14, 3) := by decide +kernel
theorem dX4_undo_10 : decode cX4_undo 10 = .ok (.new 280, 3) := by decide +kernel
theorem dX4_undo_13 : decode cX4_undo 13 = .ok (.dup, 1) := by decide +kernel
theorem dX4_undo_14 : decode cX4_undo 14 = .ok (.ldc_w 347, 3) := by decide +kernel
theorem dX4_undo_17 : decode cX4_undo 17 = .ok (.invokespecial 284, 3) := by decide +kernel
theorem dX4_undo_20 : decode cX4_undo 20 = .ok (.athrow, 1) := by decide +kernel
theorem dX4_undo_21 : decode cX4_undo 21 = .ok (.aload_n 0, 1) := by decide +kernel
theorem dX4_undo_22 : decode cX4_undo 22 = .ok (.getfield 25, 3) := by decide +kernel
theorem dX4_undo_25 : decode cX4_undo 25 = .ok (.aload_n 0, 1) := by decide +kernel
theorem dX4_undo_26 : decode cX4_undo 26 = .ok (.getfield 10, 3) := by decide +kernel
theorem dX4_undo_29 : decode cX4_undo 29 = .ok (.invokevirtual 349, 3) := by decide +kernel
theorem dX4_undo_32 : decode cX4_undo 32 = .ok (.aload_n 0, 1) := by decide +kernel
theorem dX4_undo_33 : decode cX4_undo 33 = .ok (.getfield 25, 3) := by decide +kernel
theorem dX4_undo_36 : decode cX4_undo 36 = .ok (.getfield 325, 3) := by decide +kernel
theorem dX4_undo_39 : decode cX4_undo 39 = .ok (.ireturn, 1) := by decide +kernel
theorem dX4_save_0 : decode cX4_save 0 = .ok (.aload_n 0, 1) := by decide +kernel
theorem dX4_save_1 : decode cX4_save 1 = .ok (.getfield 19, 3) := by decide +kernel
theorem dX4_save_4 : decode cX4_save 4 = .ok (.aload_n 0, 1) := by decide +kernel
theorem dX4_save_5 : decode cX4_save 5 = .ok (.getfield 10, 3) := by decide +kernel
theorem dX4_save_8 : decode cX4_save 8 = .ok (.invokevirtual 352, 3) := by decide +kernel
theorem dX4_save_11 : decode cX4_save 11 = .ok (.aload_n 0, 1) := by decide +kernel
theorem dX4_save_12 : decode cX4_save 12 = .ok (.iconst 1, 1) := by decide +kernel
theorem dX4_save_13 : decode cX4_save 13 = .ok (.putfield 51, 3) := by decide +kernel
theorem dX4_save_16 : decode cX4_save 16 = .ok (.aload_n 0, 1) := by decide +kernel
theorem dX4_save_17 : decode cX4_save 17 = .ok (.getfield 10, 3) := by decide +kernel
theorem dX4_save_20 : decode cX4_save 20 = .ok (.getfield 303, 3) := by decide +kernel
theorem dX4_save_23 : decode cX4_save 23 = .ok (.ireturn, 1) := by decide +kernel
theorem dX4_restore_0 : decode cX4_restore 0 = .ok (.aload_n 0, 1) := by decide +kernel
theorem dX4_restore_1 : decode cX4_restore 1 = .ok (.getfield 51, 3) := by decide +kernel
theorem dX4_restore_4 : decode cX4_restore 4 = .ok (.ifCond .ne 14, 3) := by decide +kernel
theorem dX4_restore_7 : decode cX4_restore 7 = .ok (.new 280, 3) := by decide +kernel
theorem dX4_restore_10 : decode cX4_restore 10 = .ok (.dup, 1) := by decide +kernel
theorem dX4_restore_11 : decode cX4_restore 11 = .ok (.ldc_w 355, 3) := by decide +kernel
theorem dX4_restore_14 : decode cX4_restore 14 = .ok (.invokespecial 284, 3) := by decide +kernel
theorem dX4_restore_17 : decode cX4_restore 17 = .ok (.athrow, 1) := by decide +kernel
theorem dX4_restore_18 : decode cX4_restore 18 = .ok (.aload_n 0, 1) := by decide +kernel
theorem dX4_restore_19 : decode cX4_restore 19 = .ok (.getfield 10, 3) := by decide +kernel
theorem dX4_restore_22 : decode cX4_restore 22 = .ok (.aload_n 0, 1) := by decide +kernel
theorem dX4_restore_23 : decode cX4_restore 23 = .ok (.getfield 19, 3) := by decide +kernel
theorem dX4_restore_26 : decode cX4_restore 26 = .ok (.invokevirtual 352, 3) := by decide +kernel
theorem dX4_restore_29 : decode cX4_restore 29 = .ok (.aload_n 0, 1) := by decide +kernel
theorem dX4_restore_30 : decode cX4_restore 30 = .ok (.getfield 25, 3) := by decide +kernel
theorem dX4_restore_33 : decode cX4_restore 33 = .ok (.iconst 0, 1) := by decide +kernel
theorem dX4_restore_34 : decode cX4_restore 34 = .ok (.putfield 325, 3) := by decide +kernel
theorem dX4_restore_37 : decode cX4_restore 37 = .ok (.aload_n 0, 1) := by decide +kernel
theorem dX4_restore_38 : decode cX4_restore 38 = .ok (.getfield 10, 3) := by decide +kernel
theorem dX4_restore_41 : decode cX4_restore 41 = .ok (.getfield 303, 3) := by decide +kernel
theorem dX4_restore_44 : decode cX4_restore 44 = .ok (.ireturn, 1) := by decide +kernel
theorem dX4_isHue_0 : decode cX4_isHue 0 = .ok (.iload_n 0, 1) := by decide +kernel
theorem dX4_isHue_1 : decode cX4_isHue 1 = .ok (.ifCond .lt 12, 3) := by decide +kernel
theorem dX4_isHue_4 : decode cX4_isHue 4 = .ok (.iload_n 0, 1) := by decide +kernel
theorem dX4_isHue_5 : decode cX4_isHue 5 = .ok (.iconst 5, 1) := by decide +kernel
theorem dX4_isHue_6 : decode cX4_isHue 6 = .ok (.if_icmp .ge 7, 3) := by decide +kernel
theorem dX4_isHue_9 : decode cX4_isHue 9 = .ok (.iconst 1, 1) := by decide +kernel
theorem dX4_isHue_10 : decode cX4_isHue 10 = .ok (.goto 4, 3) := by decide +kernel
theorem dX4_isHue_13 : decode cX4_isHue 13 = .ok (.iconst 0, 1) := by decide +kernel
theorem dX4_isHue_14 : decode cX4_isHue 14 = .ok (.ireturn, 1) := by decide +kernel
theorem dX4_isManyHues_0 : decode cX4_isManyHues 0 = .ok (.iload_n 0, 1) := by decide +kernel
theorem dX4_isManyHues_1 : decode cX4_isManyHues 1 = .ok (.iconst 1, 1) := by decide +kernel
theorem dX4_isManyHues_2 : decode cX4_isManyHues 2 = .ok (.if_icmp .lt 12, 3) := by decide +kernel
theorem dX4_isManyHues_5 : decode cX4_isManyHues 5 = .ok (.iload_n 0, 1) := by decide +kernel
theorem dX4_isManyHues_6 : decode cX4_isManyHues 6 = .ok (.iconst 5, 1) := by decide +kernel
theorem dX4_isManyHues_7 : decode cX4_isManyHues 7 = .ok (.if_icmp .gt 7, 3) := by decide +kernel
theorem dX4_isManyHues_10 : decode cX4_isManyHues 10 = .ok (.iconst 1, 1) := by decide +kernel
theorem dX4_isManyHues_11 : decode cX4_isManyHues 11 = .ok (.goto 4, 3) := by decide +kernel
theorem dX4_isManyHues_14 : decode cX4_isManyHues 14 = .ok (.iconst 0, 1) := by decide +kernel
theorem dX4_isManyHues_15 : decode cX4_isManyHues 15 = .ok (.ireturn, 1) := by decide +kernel
theorem dX4_isManyPots_0 : decode cX4_isManyPots 0 = .ok (.iload_n 0, 1) := by decide +kernel
theorem dX4_isManyPots_1 : decode cX4_isManyPots 1 = .ok (.iconst 1, 1) := by decide +kernel
theorem dX4_isManyPots_2 : decode cX4_isManyPots 2 = .ok (.if_icmp .lt 13, 3) := by decide +kernel
theorem dX4_isManyPots_5 : decode cX4_isManyPots 5 = .ok (.iload_n 0, 1) := by decide +kernel
theorem dX4_isManyPots_6 : decode cX4_isManyPots 6 = .ok (.bipush 50, 2) := by decide +kernel
theorem dX4_isManyPots_8 : decode cX4_isManyPots 8 = .ok (.if_icmp .gt 7, 3) := by decide +kernel
theorem dX4_isManyPots_11 : decode cX4_isManyPots 11 = .ok (.iconst 1, 1) := by decide +kernel
theorem dX4_isManyPots_12 : decode cX4_isManyPots 12 = .ok (.goto 4, 3) := by decide +kernel
theorem dX4_isManyPots_15 : decode cX4_isManyPots 15 = .ok (.iconst 0, 1) := by decide +kernel
theorem dX4_isManyPots_16 : decode cX4_isManyPots 16 = .ok (.ireturn, 1) := by decide +kernel
theorem dX4_isCrown_0 : decode cX4_isCrown 0 = .ok (.iload_n 0, 1) := by decide +kernel
theorem dX4_isCrown_1 : decode cX4_isCrown 1 = .ok (.ifCond .lt 13, 3) := by decide +kernel
theorem dX4_isCrown_4 : decode cX4_isCrown 4 = .ok (.iload_n 0, 1) := by decide +kernel
theorem dX4_isCrown_5 : decode cX4_isCrown 5 = .ok (.bipush 9, 2) := by decide +kernel
theorem dX4_isCrown_7 : decode cX4_isCrown 7 = .ok (.if_icmp .gt 7, 3) := by decide +kernel
theorem dX4_isCrown_10 : decode cX4_isCrown 10 = .ok (.iconst 1, 1) := by decide +kernel
theorem dX4_isCrown_11 : decode cX4_isCrown 11 = .ok (.goto 4, 3) := by decide +kernel
theorem dX4_isCrown_14 : decode cX4_isCrown 14 = .ok (.iconst 0, 1) := by decide +kernel
theorem dX4_isCrown_15 : decode cX4_isCrown 15 = .ok (.ireturn, 1) := by decide +kernel
theorem dX4_sum_0 : decode cX4_sum 0 = .ok (.iconst 0, 1) := by decide +kernel
theorem dX4_sum_1 : decode cX4_sum 1 = .ok (.istore_n 1, 1) := by decide +kernel
theorem dX4_sum_2 : decode cX4_sum 2 = .ok (.aload_n 0, 1) := by decide +kernel
theorem dX4_sum_3 : decode cX4_sum 3 = .ok (.astore_n 2, 1) := by decide +kernel
theorem dX4_sum_4 : decode cX4_sum 4 = .ok (.aload_n 2, 1) := by decide +kernel
theorem dX4_sum_5 : decode cX4_sum 5 = .ok (.arraylength, 1) := by decide +kernel
theorem dX4_sum_6 : decode cX4_sum 6 = .ok (.istore_n 3, 1) := by decide +kernel
theorem dX4_sum_7 : decode cX4_sum 7 = .ok (.iconst 0, 1) := by decide +kernel
theorem dX4_sum_8 : decode cX4_sum 8 = .ok (.istore 4, 2) := by decide +kernel
theorem dX4_sum_10 : decode cX4_sum 10 = .ok (.iload 4, 2) := by decide +kernel
theorem dX4_sum_12 : decode cX4_sum 12 = .ok (.iload_n 3, 1) := by decide +kernel
theorem dX4_sum_13 : decode cX4_sum 13 = .ok (.if_icmp .ge 20, 3) := by decide +kernel
theorem dX4_sum_16 : decode cX4_sum 16 = .ok (.aload_n 2, 1) := by decide +kernel
theorem dX4_sum_17 : decode cX4_sum 17 = .ok (.iload 4, 2) := by decide +kernel
theorem dX4_sum_19 : decode cX4_sum 19 = .ok (.iaload, 1) := by decide +kernel
theorem dX4_sum_20 : decode cX4_sum 20 = .ok (.istore 5, 2) := by decide +kernel
theorem dX4_sum_22 : decode cX4_sum 22 = .ok (.iload_n 1, 1) := by decide +kernel
theorem dX4_sum_23 : decode cX4_sum 23 = .ok (.iload 5, 2) := by decide +kernel
theorem dX4_sum_25 : decode cX4_sum 25 = .ok (.iadd, 1) := by decide +kernel
theorem dX4_sum_26 : decode cX4_sum 26 = .ok (.istore_n 1, 1) := by decide +kernel
theorem dX4_sum_27 : decode cX4_sum 27 = .ok (.iinc 4 1, 3) := by decide +kernel
theorem dX4_sum_30 : decode cX4_sum 30 = .ok (.goto (-20), 3) := by decide +kernel
theorem dX4_sum_33 : decode cX4_sum 33 = .ok (.iload_n 1, 1) := by decide +kernel
theorem dX4_sum_34 : decode cX4_sum 34 = .ok (.ireturn, 1) := by decide +kernel
theorem dX4_stopIfNoCountry_0 : decode cX4_stopIfNoCountry 0 = .ok (.aload_n 0, 1) := by decide +kernel
theorem dX4_stopIfNoCountry_1 : decode cX4_stopIfNoCountry 1 = .ok (.getfield 10, 3) := by decide +kernel
theorem dX4_stopIfNoCountry_4 : decode cX4_stopIfNoCountry 4 = .ok (.iload_n 1, 1) := by decide +kernel
theorem dX4_stopIfNoCountry_5 : decode cX4_stopIfNoCountry 5 = .ok (.invokevirtual 357, 3) := by decide +kernel
theorem dX4_stopIfNoCountry_8 : decode cX4_stopIfNoCountry 8 = .ok (.ifCond .ne 14, 3) := by decide +kernel
theorem dX4_stopIfNoCountry_11 : decode cX4_stopIfNoCountry 11 = .ok (.new 272, 3) := by decide +kernel
theorem dX4_stopIfNoCountry_14 : decode cX4_stopIfNoCountry 14 = .ok (.dup, 1) := by decide +kernel
theorem dX4_stopIfNoCountry_15 : decode cX4_stopIfNoCountry 15 = .ok (.ldc_w 360, 3) := by decide +kernel
theorem dX4_stopIfNoCountry_18 : decode cX4_stopIfNoCountry 18 = .ok (.invokespecial 276, 3) := by decide +kernel
theorem dX4_stopIfNoCountry_21 : decode cX4_stopIfNoCountry 21 = .ok (.athrow, 1) := by decide +kernel
theorem dX4_stopIfNoCountry_22 : decode cX4_stopIfNoCountry 22 = .ok (.return_, 1) := by decide +kernel
theorem dX4_stopIfNoHue_0 : decode cX4_stopIfNoHue 0 = .ok (.iload_n 1, 1) := by decide +kernel
theorem dX4_stopIfNoHue_1 : decode cX4_stopIfNoHue 1 = .ok (.invokestatic 362, 3) := by decide +kernel
theorem dX4_stopIfNoHue_4 : decode cX4_stopIfNoHue 4 = .ok (.ifCond .ne 14, 3) := by decide +kernel
theorem dX4_stopIfNoHue_7 : decode cX4_stopIfNoHue 7 = .ok (.new 272, 3) := by decide +kernel
theorem dX4_stopIfNoHue_10 : decode cX4_stopIfNoHue 10 = .ok (.dup, 1) := by decide +kernel
theorem dX4_stopIfNoHue_11 : decode cX4_stopIfNoHue 11 = .ok (.ldc_w 365, 3) := by decide +kernel
theorem dX4_stopIfNoHue_14 : decode cX4_stopIfNoHue 14 = .ok (.invokespecial 276, 3) := by decide +kernel
theorem dX4_stopIfNoHue_17 : decode cX4_stopIfNoHue 17 = .ok (.athrow, 1) := by decide +kernel
theorem dX4_stopIfNoHue_18 : decode cX4_stopIfNoHue 18 = .ok (.return_, 1) := by decide +kernel
theorem dX4_stopIfRefused_0 : decode cX4_stopIfRefused 0 = .ok (.iload_n 1, 1) := by decide +kernel
theorem dX4_stopIfRefused_1 : decode cX4_stopIfRefused 1 = .ok (.ifCond .eq 21, 3) := by decide +kernel
theorem dX4_stopIfRefused_4 : decode cX4_stopIfRefused 4 = .ok (.aload_n 0, 1) := by decide +kernel
theorem dX4_stopIfRefused_5 : decode cX4_stopIfRefused 5 = .ok (.iload_n 1, 1) := by decide +kernel
theorem dX4_stopIfRefused_6 : decode cX4_stopIfRefused 6 = .ok (.iload_n 2, 1) := by decide +kernel
theorem dX4_stopIfRefused_7 : decode cX4_stopIfRefused 7 = .ok (.iload_n 3, 1) := by decide +kernel
theorem dX4_stopIfRefused_8 : decode cX4_stopIfRefused 8 = .ok (.invokevirtual 367, 3) := by decide +kernel
theorem dX4_stopIfRefused_11 : decode cX4_stopIfRefused 11 = .ok (.new 296, 3) := by decide +kernel
theorem dX4_stopIfRefused_14 : decode cX4_stopIfRefused 14 = .ok (.dup, 1) := by decide +kernel
theorem dX4_stopIfRefused_15 : decode cX4_stopIfRefused 15 = .ok (.ldc_w 370, 3) := by decide +kernel
theorem dX4_stopIfRefused_18 : decode cX4_stopIfRefused 18 = .ok (.invokespecial 300, 3) := by decide +kernel
theorem dX4_stopIfRefused_21 : decode cX4_stopIfRefused 21 = .ok (.athrow, 1) := by decide +kernel
theorem dX4_stopIfRefused_22 : decode cX4_stopIfRefused 22 = .ok (.return_, 1) := by decide +kernel
theorem dX4_keepReason_0 : decode cX4_keepReason 0 = .ok (.aload_n 0, 1) := by decide +kernel
theorem dX4_keepReason_1 : decode cX4_keepReason 1 = .ok (.iload_n 1, 1) := by decide +kernel
theorem dX4_keepReason_2 : decode cX4_keepReason 2 = .ok (.putfield 58, 3) := by decide +kernel
theorem dX4_keepReason_5 : decode cX4_keepReason 5 = .ok (.aload_n 0, 1) := by decide +kernel
theorem dX4_keepReason_6 : decode cX4_keepReason 6 = .ok (.aload_n 0, 1) := by decide +kernel
theorem dX4_keepReason_7 : decode cX4_keepReason 7 = .ok (.getfield 10, 3) := by decide +kernel
theorem dX4_keepReason_10 : decode cX4_keepReason 10 = .ok (.iload_n 1, 1) := by decide +kernel
theorem dX4_keepReason_11 : decode cX4_keepReason 11 = .ok (.iload_n 2, 1) := by decide +kernel
theorem dX4_keepReason_12 : decode cX4_keepReason 12 = .ok (.iload_n 3, 1) := by decide +kernel
theorem dX4_keepReason_13 : decode cX4_keepReason 13 = .ok (.invokevirtual 372, 3) := by decide +kernel
theorem dX4_keepReason_16 : decode cX4_keepReason 16 = .ok (.putfield 61, 3) := by decide +kernel
theorem dX4_keepReason_19 : decode cX4_keepReason 19 = .ok (.return_, 1) := by decide +kernel
theorem dX4_put_0 : decode cX4_put 0 = .ok (.aload_n 0, 1) := by decide +kernel
theorem dX4_put_1 : decode cX4_put 1 = .ok (.getfield 47, 3) := by decide +kernel
theorem dX4_put_4 : decode cX4_put 4 = .ok (.bipush 17, 2) := by decide +kernel
theorem dX4_put_6 : decode cX4_put 6 = .ok (.if_icmp .ge 23, 3) := by decide +kernel
theorem dX4_put_9 : decode cX4_put 9 = .ok (.aload_n 0, 1) := by decide +kernel
theorem dX4_put_10 : decode cX4_put 10 = .ok (.getfield 43, 3) := by decide +kernel
theorem dX4_put_13 : decode cX4_put 13 = .ok (.aload_n 0, 1) := by decide +kernel
theorem dX4_put_14 : decode cX4_put 14 = .ok (.getfield 47, 3) := by decide +kernel
theorem dX4_put_17 : decode cX4_put 17 = .ok (.iload_n 1, 1) := by decide +kernel
theorem dX4_put_18 : decode cX4_put 18 = .ok (.castore, 1) := by decide +kernel
theorem dX4_put_19 : decode cX4_put 19 = .ok (.aload_n 0, 1) := by decide +kernel
theorem dX4_put_20 : decode cX4_put 20 = .ok (.dup, 1) := by decide +kernel
theorem dX4_put_21 : decode cX4_put 21 = .ok (.getfield 47, 3) := by decide +kernel
theorem dX4_put_24 : decode cX4_put 24 = .ok (.iconst 1, 1) := by decide +kernel
theorem dX4_put_25 : decode cX4_put 25 = .ok (.iadd, 1) := by decide +kernel
theorem dX4_put_26 : decode cX4_put 26 = .ok (.putfield 47, 3) := by decide +kernel
theorem dX4_put_29 : decode cX4_put 29 = .ok (.return_, 1) := by decide +kernel
theorem dX4_putDigit_0 : decode cX4_putDigit 0 = .ok (.aload_n 0, 1) := by decide +kernel
theorem dX4_putDigit_1 : decode cX4_putDigit 1 = .ok (.bipush 48, 2) := by decide +kernel
theorem dX4_putDigit_3 : decode cX4_putDigit 3 = .ok (.iload_n 1, 1) := by decide +kernel
theorem dX4_putDigit_4 : decode cX4_putDigit 4 = .ok (.iadd, 1) := by decide +kernel
theorem dX4_putDigit_5 : decode cX4_putDigit 5 = .ok (.i2c, 1) := by decide +kernel
theorem dX4_putDigit_6 : decode cX4_putDigit 6 = .ok (.invokevirtual 259, 3) := by decide +kernel
theorem dX4_putDigit_9 : decode cX4_putDigit 9 = .ok (.return_, 1) := by decide +kernel
theorem dX4_putNeighbours_0 : decode cX4_putNeighbours 0 = .ok (.iconst 1, 1) := by decide +kernel
theorem dX4_putNeighbours_1 : decode cX4_putNeighbours 1 = .ok (.istore_n 2, 1) := by decide +kernel
theorem dX4_putNeighbours_2 : decode cX4_putNeighbours 2 = .ok (.iconst 0, 1) := by decide +kernel
theorem dX4_putNeighbours_3 : decode cX4_putNeighbours 3 = .ok (.istore_n 3, 1) := by decide +kernel
theorem dX4_putNeighbours_4 : decode cX4_putNeighbours 4 = .ok (.iload_n 3, 1) := by decide +kernel
theorem dX4_putNeighbours_5 : decode cX4_putNeighbours 5 = .ok (.aload_n 0, 1) := by decide +kernel
theorem dX4_putNeighbours_6 : decode cX4_putNeighbours 6 = .ok (.getfield 10, 3) := by decide +kernel
theorem dX4_putNeighbours_9 : decode cX4_putNeighbours 9 = .ok (.getfield 303, 3) := by decide +kernel
theorem dX4_putNeighbours_12 : decode cX4_putNeighbours 12 = .ok (.if_icmp .ge 38, 3) := by decide +kernel
theorem dX4_putNeighbours_15 : decode cX4_putNeighbours 15 = .ok (.aload_n 0, 1) := by decide +kernel
theorem dX4_putNeighbours_16 : decode cX4_putNeighbours 16 = .ok (.getfield 10, 3) := by decide +kernel
theorem dX4_putNeighbours_19 : decode cX4_putNeighbours 19 = .ok (.iload_n 1, 1) := by decide +kernel
theorem dX4_putNeighbours_20 : decode cX4_putNeighbours 20 = .ok (.iload_n 3, 1) := by decide +kernel
theorem dX4_putNeighbours_21 : decode cX4_putNeighbours 21 = .ok (.invokevirtual 108, 3) := by decide +kernel
theorem dX4_putNeighbours_24 : decode cX4_putNeighbours 24 = .ok (.ifCond .eq 20, 3) := by decide +kernel
theorem dX4_putNeighbours_27 : decode cX4_putNeighbours 27 = .ok (.iload_n 2, 1) := by decide +kernel
theorem dX4_putNeighbours_28 : decode cX4_putNeighbours 28 = .ok (.ifCond .ne 9, 3) := by decide +kernel
theorem dX4_putNeighbours_31 : decode cX4_putNeighbours 31 = .ok (.aload_n 0, 1) := by decide +kernel
theorem dX4_putNeighbours_32 : decode cX4_putNeighbours 32 = .ok (.bipush 44, 2) := by decide +kernel
theorem dX4_putNeighbours_34 : decode cX4_putNeighbours 34 = .ok (.invokevirtual 259, 3) := by decide +kernel
theorem dX4_putNeighbours_37 : decode cX4_putNeighbours 37 = .ok (.aload_n 0, 1) := by decide +kernel
theorem dX4_putNeighbours_38 : decode cX4_putNeighbours 38 = .ok (.iload_n 3, 1) := by decide +kernel
theorem dX4_putNeighbours_39 : decode cX4_putNeighbours 39 = .ok (.invokevirtual 256, 3) := by decide +kernel
theorem dX4_putNeighbours_42 : decode cX4_putNeighbours 42 = .ok (.iconst 0, 1) := by decide +kernel
theorem dX4_putNeighbours_43 : decode cX4_putNeighbours 43 = .ok (.istore_n 2, 1) := by decide +kernel
theorem dX4_putNeighbours_44 : decode cX4_putNeighbours 44 = .ok (.iinc 3 1, 3) := by decide +kernel
theorem dX4_putNeighbours_47 : decode cX4_putNeighbours 47 = .ok (.goto (-43), 3) := by decide +kernel
theorem dX4_putNeighbours_50 : decode cX4_putNeighbours 50 = .ok (.return_, 1) := by decide +kernel
theorem dX4_carryOutAll_0 : decode cX4_carryOutAll 0 = .ok (.aload_n 0, 1) := by decide +kernel
theorem dX4_carryOutAll_1 : decode cX4_carryOutAll 1 = .ok (.getfield 16, 3) := by decide +kernel
theorem dX4_carryOutAll_4 : decode cX4_carryOutAll 4 = .ok (.aload_n 0, 1) := by decide +kernel
theorem dX4_carryOutAll_5 : decode cX4_carryOutAll 5 = .ok (.getfield 10, 3) := by decide +kernel
theorem dX4_carryOutAll_8 : decode cX4_carryOutAll 8 = .ok (.invokevirtual 352, 3) := by decide +kernel
theorem dX4_carryOutAll_11 : decode cX4_carryOutAll 11 = .ok (.iconst 0, 1) := by decide +kernel
theorem dX4_carryOutAll_12 : decode cX4_carryOutAll 12 = .ok (.istore_n 1, 1) := by decide +kernel
theorem dX4_carryOutAll_13 : decode cX4_carryOutAll 13 = .ok (.aload_n 0, 1) := by decide +kernel
theorem dX4_carryOutAll_14 : decode cX4_carryOutAll 14 = .ok (.getfield 39, 3) := by decide +kernel
theorem dX4_carryOutAll_17 : decode cX4_carryOutAll 17 = .ok (.iconst 0, 1) := by decide +kernel
theorem dX4_carryOutAll_18 : decode cX4_carryOutAll 18 = .ok (.putfield 376, 3) := by decide +kernel
theorem dX4_carryOutAll_21 : decode cX4_carryOutAll 21 = .ok (.iload_n 1, 1) := by decide +kernel
theorem dX4_carryOutAll_22 : decode cX4_carryOutAll 22 = .ok (.bipush 60, 2) := by decide +kernel
theorem dX4_carryOutAll_24 : decode cX4_carryOutAll 24 = .ok (.if_icmp .ge 101, 3) := by decide +kernel
theorem dX4_carryOutAll_27 : decode cX4_carryOutAll 27 = .ok (.aload_n 0, 1) := by decide +kernel
theorem dX4_carryOutAll_28 : decode cX4_carryOutAll 28 = .ok (.getfield 39, 3) := by decide +kernel
theorem dX4_carryOutAll_31 : decode cX4_carryOutAll 31 = .ok (.invokevirtual 379, 3) := by decide +kernel
theorem dX4_carryOutAll_34 : decode cX4_carryOutAll 34 = .ok (.ifCond .eq 91, 3) := by decide +kernel
theorem dX4_carryOutAll_37 : decode cX4_carryOutAll 37 = .ok (.aload_n 0, 1) := by decide +kernel
theorem dX4_carryOutAll_38 : decode cX4_carryOutAll 38 = .ok (.getfield 39, 3) := by decide +kernel
theorem dX4_carryOutAll_41 : decode cX4_carryOutAll 41 = .ok (.getfield 382, 3) := by decide +kernel
theorem dX4_carryOutAll_44 : decode cX4_carryOutAll 44 = .ok (.iconst 0, 1) := by decide +kernel
theorem dX4_carryOutAll_45 : decode cX4_carryOutAll 45 = .ok (.iaload, 1) := by decide +kernel
theorem dX4_carryOutAll_46 : decode cX4_carryOutAll 46 = .ok (.istore_n 2, 1) := by decide +kernel
theorem dX4_carryOutAll_47 : decode cX4_carryOutAll 47 = .ok (.aload_n 0, 1) := by decide +kernel
theorem dX4_carryOutAll_48 : decode cX4_carryOutAll 48 = .ok (.getfield 39, 3) := by decide +kernel
theorem dX4_carryOutAll_51 : decode cX4_carryOutAll 51 = .ok (.getfield 382, 3) := by decide +kernel
theorem dX4_carryOutAll_54 : decode cX4_carryOutAll 54 = .ok (.iconst 1, 1) := by decide +kernel
theorem dX4_carryOutAll_55 : decode cX4_carryOutAll 55 = .ok (.iaload, 1) := by decide +kernel
theorem dX4_carryOutAll_56 : decode cX4_carryOutAll 56 = .ok (.istore_n 3, 1) := by decide +kernel
theorem dX4_carryOutAll_57 : decode cX4_carryOutAll 57 = .ok (.aload_n 0, 1) := by decide +kernel
theorem dX4_carryOutAll_58 : decode cX4_carryOutAll 58 = .ok (.getfield 39, 3) := by decide +kernel
theorem dX4_carryOutAll_61 : decode cX4_carryOutAll 61 = .ok (.getfield 382, 3) := by decide +kernel
theorem dX4_carryOutAll_64 : decode cX4_carryOutAll 64 = .ok (.iconst 2, 1) := by decide +kernel
theorem dX4_carryOutAll_65 : decode cX4_carryOutAll 65 = .ok (.iaload, 1) := by decide +kernel
theorem dX4_carryOutAll_66 : decode cX4_carryOutAll 66 = .ok (.istore 4, 2) := by decide +kernel
theorem dX4_carryOutAll_68 : decode cX4_carryOutAll 68 = .ok (.aload_n 0, 1) := by decide +kernel
theorem dX4_carryOutAll_69 : decode cX4_carryOutAll 69 = .ok (.aload_n 0, 1) := by decide +kernel
theorem dX4_carryOutAll_70 : decode cX4_carryOutAll 70 = .ok (.getfield 39, 3) := by decide +kernel
theorem dX4_carryOutAll_73 : decode cX4_carryOutAll 73 = .ok (.getfield 385, 3) := by decide +kernel
theorem dX4_carryOutAll_76 : decode cX4_carryOutAll 76 = .ok (.iload_n 2, 1) := by decide +kernel
theorem dX4_carryOutAll_77 : decode cX4_carryOutAll 77 = .ok (.iload_n 3, 1) := by decide +kernel
theorem dX4_carryOutAll_78 : decode cX4_carryOutAll 78 = .ok (.iload 4, 2) := by decide +kernel
theorem dX4_carryOutAll_80 : decode cX4_carryOutAll 80 = .ok (.invokevirtual 388, 3) := by decide +kernel
theorem dX4_carryOutAll_83 : decode cX4_carryOutAll 83 = .ok (.istore 5, 2) := by decide +kernel
theorem dX4_carryOutAll_85 : decode cX4_carryOutAll 85 = .ok (.iload 5, 2) := by decide +kernel
theorem dX4_carryOutAll_87 : decode cX4_carryOutAll 87 = .ok (.ifCond .eq 17, 3) := by decide +kernel
theorem dX4_carryOutAll_90 : decode cX4_carryOutAll 90 = .ok (.aload_n 0, 1) := by decide +kernel
theorem dX4_carryOutAll_91 : decode cX4_carryOutAll 91 = .ok (.getfield 10, 3) := by decide +kernel
theorem dX4_carryOutAll_94 : decode cX4_carryOutAll 94 = .ok (.aload_n 0, 1) := by decide +kernel
theorem dX4_carryOutAll_95 : decode cX4_carryOutAll 95 = .ok (.getfield 16, 3) := by decide +kernel
theorem dX4_carryOutAll_98 : decode cX4_carryOutAll 98 = .ok (.invokevirtual 352, 3) := by decide +kernel
theorem dX4_carryOutAll_101 : decode cX4_carryOutAll 101 = .ok (.iload 5, 2) := by decide +kernel
theorem dX4_carryOutAll_103 : decode cX4_carryOutAll 103 = .ok (.ireturn, 1) := by decide +kernel
theorem dX4_carryOutAll_104 : decode cX4_carryOutAll 104 = .ok (.aload_n 0, 1) := by decide +kernel
theorem dX4_carryOutAll_105 : decode cX4_carryOutAll 105 = .ok (.aload_n 0, 1) := by decide +kernel
theorem dX4_carryOutAll_106 : decode cX4_carryOutAll 106 = .ok (.getfield 39, 3) := by decide +kernel
theorem dX4_carryOutAll_109 : decode cX4_carryOutAll 109 = .ok (.getfield 385, 3) := by decide +kernel
theorem dX4_carryOutAll_112 : decode cX4_carryOutAll 112 = .ok (.iload_n 2, 1) := by decide +kernel
theorem dX4_carryOutAll_113 : decode cX4_carryOutAll 113 = .ok (.iload_n 3, 1) := by decide +kernel
theorem dX4_carryOutAll_114 : decode cX4_carryOutAll 114 = .ok (.iload 4, 2) := by decide +kernel
theorem dX4_carryOutAll_116 : decode cX4_carryOutAll 116 = .ok (.invokevirtual 392, 3) := by decide +kernel
theorem dX4_carryOutAll_119 : decode cX4_carryOutAll 119 = .ok (.iinc 1 1, 3) := by decide +kernel
theorem dX4_carryOutAll_122 : decode cX4_carryOutAll 122 = .ok (.goto (-101), 3) := by decide +kernel
theorem dX4_carryOutAll_125 : decode cX4_carryOutAll 125 = .ok (.aload_n 0, 1) := by decide +kernel
theorem dX4_carryOutAll_126 : decode cX4_carryOutAll 126 = .ok (.getfield 25, 3) := by decide +kernel
theorem dX4_carryOutAll_129 : decode cX4_carryOutAll 129 = .ok (.aload_n 0, 1) := by decide +kernel
theorem dX4_carryOutAll_130 : decode cX4_carryOutAll 130 = .ok (.getfield 16, 3) := by decide +kernel
theorem dX4_carryOutAll_133 : decode cX4_carryOutAll 133 = .ok (.invokevirtual 79, 3) := by decide +kernel
theorem dX4_carryOutAll_136 : decode cX4_carryOutAll 136 = .ok (.iload_n 1, 1) := by decide +kernel
theorem dX4_carryOutAll_137 : decode cX4_carryOutAll 137 = .ok (.ireturn, 1) := by decide +kernel
theorem dX4_judge_0 : decode cX4_judge 0 = .ok (.aload_n 0, 1) := by decide +kernel
theorem dX4_judge_1 : decode cX4_judge 1 = .ok (.iload_n 1, 1) := by decide +kernel
theorem dX4_judge_2 : decode cX4_judge 2 = .ok (.iload_n 2, 1) := by decide +kernel
theorem dX4_judge_3 : decode cX4_judge 3 = .ok (.iload_n 3, 1) := by decide +kernel
theorem dX4_judge_4 : decode cX4_judge 4 = .ok (.iload 4, 2) := by decide +kernel
theorem dX4_judge_6 : decode cX4_judge 6 = .ok (.invokevirtual 396, 3) := by decide +kernel
theorem dX4_judge_9 : decode cX4_judge 9 = .ok (.ifCond .ne 6, 3) := by decide +kernel
theorem dX4_judge_12 : decode cX4_judge 12 = .ok (.bipush (-2), 2) := by decide +kernel
theorem dX4_judge_14 : decode cX4_judge 14 = .ok (.ireturn, 1) := by decide +kernel
theorem dX4_judge_15 : decode cX4_judge 15 = .ok (.aload_n 0, 1) := by decide +kernel
theorem dX4_judge_16 : decode cX4_judge 16 = .ok (.iload_n 1, 1) := by decide +kernel
theorem dX4_judge_17 : decode cX4_judge 17 = .ok (.iload_n 2, 1) := by decide +kernel
theorem dX4_judge_18 : decode cX4_judge 18 = .ok (.iload_n 3, 1) := by decide +kernel
theorem dX4_judge_19 : decode cX4_judge 19 = .ok (.invokevirtual 400, 3) := by decide +kernel
theorem dX4_judge_22 : decode cX4_judge 22 = .ok (.istore 5, 2) := by decide +kernel
theorem dX4_judge_24 : decode cX4_judge 24 = .ok (.iload 5, 2) := by decide +kernel
theorem dX4_judge_26 : decode cX4_judge 26 = .ok (.ifCond .ne 5, 3) := by decide +kernel
theorem dX4_judge_29 : decode cX4_judge 29 = .ok (.iconst 0, 1) := by decide +kernel
theorem dX4_judge_30 : decode cX4_judge 30 = .ok (.ireturn, 1) := by decide +kernel
theorem dX4_judge_31 : decode cX4_judge 31 = .ok (.aload_n 0, 1) := by decide +kernel
theorem dX4_judge_32 : decode cX4_judge 32 = .ok (.iload 5, 2) := by decide +kernel
theorem dX4_judge_34 : decode cX4_judge 34 = .ok (.iload_n 2, 1) := by decide +kernel
theorem dX4_judge_35 : decode cX4_judge 35 = .ok (.iload_n 3, 1) := by decide +kernel
theorem dX4_judge_36 : decode cX4_judge 36 = .ok (.invokevirtual 367, 3) := by decide +kernel
theorem dX4_judge_39 : decode cX4_judge 39 = .ok (.iconst (-1), 1) := by decide +kernel
theorem dX4_judge_40 : decode cX4_judge 40 = .ok (.ireturn, 1) := by decide +kernel
theorem dX4_isInRange_0 : decode cX4_isInRange 0 = .ok (.iload_n 1, 1) := by decide +kernel
theorem dX4_isInRange_1 : decode cX4_isInRange 1 = .ok (.lookupswitch 160 #[(98, 75), (104, 135), (106, 140), (112, 51), (119, 103)], 51) := by decide +kernel
theorem dX4_isInRange_52 : decode cX4_isInRange 52 = .ok (.aload_n 0, 1) := by decide +kernel
theorem dX4_isInRange_53 : decode cX4_isInRange 53 = .ok (.getfield 10, 3) := by decide +kernel
theorem dX4_isInRange_56 : decode cX4_isInRange 56 = .ok (.iload_n 2, 1) := by decide +kernel
theorem dX4_isInRange_57 : decode cX4_isInRange 57 = .ok (.invokevirtual 357, 3) := by decide +kernel
theorem dX4_isInRange_60 : decode cX4_isInRange 60 = .ok (.ifCond .eq 14, 3) := by decide +kernel
theorem dX4_isInRange_63 : decode cX4_isInRange 63 = .ok (.iload_n 3, 1) := by decide +kernel
theorem dX4_isInRange_64 : decode cX4_isInRange 64 = .ok (.invokestatic 362, 3) := by decide +kernel
theorem dX4_isInRange_67 : decode cX4_isInRange 67 = .ok (.ifCond .eq 7, 3) := by decide +kernel
theorem dX4_isInRange_70 : decode cX4_isInRange 70 = .ok (.iconst 1, 1) := by decide +kernel
theorem dX4_isInRange_71 : decode cX4_isInRange 71 = .ok (.goto 4, 3) := by decide +kernel
theorem dX4_isInRange_74 : decode cX4_isInRange 74 = .ok (.iconst 0, 1) := by decide +kernel
theorem dX4_isInRange_75 : decode cX4_isInRange 75 = .ok (.ireturn, 1) := by decide +kernel
theorem dX4_isInRange_76 : decode cX4_isInRange 76 = .ok (.aload_n 0, 1) := by decide +kernel
theorem dX4_isInRange_77 : decode cX4_isInRange 77 = .ok (.getfield 10, 3) := by decide +kernel
theorem dX4_isInRange_80 : decode cX4_isInRange 80 = .ok (.iload_n 2, 1) := by decide +kernel
theorem dX4_isInRange_81 : decode cX4_isInRange 81 = .ok (.invokevirtual 357, 3) := by decide +kernel
theorem dX4_isInRange_84 : decode cX4_isInRange 84 = .ok (.ifCond .eq 18, 3) := by decide +kernel
theorem dX4_isInRange_87 : decode cX4_isInRange 87 = .ok (.aload_n 0, 1) := by decide +kernel
theorem dX4_isInRange_88 : decode cX4_isInRange 88 = .ok (.getfield 10, 3) := by decide +kernel
theorem dX4_isInRange_91 : decode cX4_isInRange 91 = .ok (.iload_n 3, 1) := by decide +kernel
theorem dX4_isInRange_92 : decode cX4_isInRange 92 = .ok (.invokevirtual 357, 3) := by decide +kernel
theorem dX4_isInRange_95 : decode cX4_isInRange 95 = .ok (.ifCond .eq 7, 3) := by decide +kernel
theorem dX4_isInRange_98 : decode cX4_isInRange 98 = .ok (.iconst 1, 1) := by decide +kernel
theorem dX4_isInRange_99 : decode cX4_isInRange 99 = .ok (.goto 4, 3) := by decide +kernel
theorem dX4_isInRange_102 : decode cX4_isInRange 102 = .ok (.iconst 0, 1) := by decide +kernel
theorem dX4_isInRange_103 : decode cX4_isInRange 103 = .ok (.ireturn, 1) := by decide +kernel
theorem dX4_isInRange_104 : decode cX4_isInRange 104 = .ok (.aload_n 0, 1) := by decide +kernel
theorem dX4_isInRange_105 : decode cX4_isInRange 105 = .ok (.getfield 10, 3) := by decide +kernel
theorem dX4_isInRange_108 : decode cX4_isInRange 108 = .ok (.iload_n 2, 1) := by decide +kernel
theorem dX4_isInRange_109 : decode cX4_isInRange 109 = .ok (.invokevirtual 357, 3) := by decide +kernel
theorem dX4_isInRange_112 : decode cX4_isInRange 112 = .ok (.ifCond .eq 22, 3) := by decide +kernel
theorem dX4_isInRange_115 : decode cX4_isInRange 115 = .ok (.iload_n 3, 1) := by decide +kernel
theorem dX4_isInRange_116 : decode cX4_isInRange 116 = .ok (.invokestatic 362, 3) := by decide +kernel
theorem dX4_isInRange_119 : decode cX4_isInRange 119 = .ok (.ifCond .eq 15, 3) := by decide +kernel
theorem dX4_isInRange_122 : decode cX4_isInRange 122 = .ok (.iload 4, 2) := by decide +kernel
theorem dX4_isInRange_124 : decode cX4_isInRange 124 = .ok (.invokestatic 216, 3) := by decide +kernel
theorem dX4_isInRange_127 : decode cX4_isInRange 127 = .ok (.ifCond .eq 7, 3) := by decide +kernel
theorem dX4_isInRange_130 : decode cX4_isInRange 130 = .ok (.iconst 1, 1) := by decide +kernel
theorem dX4_isInRange_131 : decode cX4_isInRange 131 = .ok (.goto 4, 3) := by decide +kernel
theorem dX4_isInRange_134 : decode cX4_isInRange 134 = .ok (.iconst 0, 1) := by decide +kernel
theorem dX4_isInRange_135 : decode cX4_isInRange 135 = .ok (.ireturn, 1) := by decide +kernel
theorem dX4_isInRange_136 : decode cX4_isInRange 136 = .ok (.iload_n 2, 1) := by decide +kernel
theorem dX4_isInRange_137 : decode cX4_isInRange 137 = .ok (.invokestatic 141, 3) := by decide +kernel
theorem dX4_isInRange_140 : decode cX4_isInRange 140 = .ok (.ireturn, 1) := by decide +kernel
theorem dX4_isInRange_141 : decode cX4_isInRange 141 = .ok (.iload_n 2, 1) := by decide +kernel
theorem dX4_isInRange_142 : decode cX4_isInRange 142 = .ok (.invokestatic 362, 3) := by decide +kernel
theorem dX4_isInRange_145 : decode cX4_isInRange 145 = .ok (.ifCond .eq 14, 3) := by decide +kernel
theorem dX4_isInRange_148 : decode cX4_isInRange 148 = .ok (.iload_n 3, 1) := by decide +kernel
theorem dX4_isInRange_149 : decode cX4_isInRange 149 = .ok (.invokestatic 156, 3) := by decide +kernel
theorem dX4_isInRange_152 : decode cX4_isInRange 152 = .ok (.ifCond .eq 7, 3) := by decide +kernel
theorem dX4_isInRange_155 : decode cX4_isInRange 155 = .ok (.iconst 1, 1) := by decide +kernel
theorem dX4_isInRange_156 : decode cX4_isInRange 156 = .ok (.goto 4, 3) := by decide +kernel
theorem dX4_isInRange_159 : decode cX4_isInRange 159 = .ok (.iconst 0, 1) := by decide +kernel
theorem dX4_isInRange_160 : decode cX4_isInRange 160 = .ok (.ireturn, 1) := by decide +kernel
theorem dX4_isInRange_161 : decode cX4_isInRange 161 = .ok (.iconst 1, 1) := by decide +kernel
theorem dX4_isInRange_162 : decode cX4_isInRange 162 = .ok (.ireturn, 1) := by decide +kernel
theorem dX4_reasonAgainstOrder_0 : decode cX4_reasonAgainstOrder 0 = .ok (.iload_n 1, 1) := by decide +kernel
theorem dX4_reasonAgainstOrder_1 : decode cX4_reasonAgainstOrder 1 = .ok (.lookupswitch 80 #[(98, 53), (104, 71), (112, 43), (120, 63)], 43) := by decide +kernel
theorem dX4_reasonAgainstOrder_44 : decode cX4_reasonAgainstOrder 44 = .ok (.aload_n 0, 1) := by decide +kernel
theorem dX4_reasonAgainstOrder_45 : decode cX4_reasonAgainstOrder 45 = .ok (.getfield 10, 3) := by decide +kernel
theorem dX4_reasonAgainstOrder_48 : decode cX4_reasonAgainstOrder 48 = .ok (.iload_n 2, 1) := by decide +kernel
theorem dX4_reasonAgainstOrder_49 : decode cX4_reasonAgainstOrder 49 = .ok (.iload_n 3, 1) := by decide +kernel
theorem dX4_reasonAgainstOrder_50 : decode cX4_reasonAgainstOrder 50 = .ok (.invokevirtual 175, 3) := by decide +kernel
theorem dX4_reasonAgainstOrder_53 : decode cX4_reasonAgainstOrder 53 = .ok (.ireturn, 1) := by decide +kernel
theorem dX4_reasonAgainstOrder_54 : decode cX4_reasonAgainstOrder 54 = .ok (.aload_n 0, 1) := by decide +kernel
theorem dX4_reasonAgainstOrder_55 : decode cX4_reasonAgainstOrder 55 = .ok (.getfield 10, 3) := by decide +kernel
theorem dX4_reasonAgainstOrder_58 : decode cX4_reasonAgainstOrder 58 = .ok (.iload_n 2, 1) := by decide +kernel
theorem dX4_reasonAgainstOrder_59 : decode cX4_reasonAgainstOrder 59 = .ok (.iload_n 3, 1) := by decide +kernel
theorem dX4_reasonAgainstOrder_60 : decode cX4_reasonAgainstOrder 60 = .ok (.invokevirtual 91, 3) := by decide +kernel
theorem dX4_reasonAgainstOrder_63 : decode cX4_reasonAgainstOrder 63 = .ok (.ireturn, 1) := by decide +kernel
theorem dX4_reasonAgainstOrder_64 : decode cX4_reasonAgainstOrder 64 = .ok (.aload_n 0, 1) := by decide +kernel
theorem dX4_reasonAgainstOrder_65 : decode cX4_reasonAgainstOrder 65 = .ok (.getfield 10, 3) := by decide +kernel
theorem dX4_reasonAgainstOrder_68 : decode cX4_reasonAgainstOrder 68 = .ok (.invokevirtual 184, 3) := by decide +kernel
theorem dX4_reasonAgainstOrder_71 : decode cX4_reasonAgainstOrder 71 = .ok (.ireturn, 1) := by decide +kernel
theorem dX4_reasonAgainstOrder_72 : decode cX4_reasonAgainstOrder 72 = .ok (.aload_n 0, 1) := by decide +kernel
theorem dX4_reasonAgainstOrder_73 : decode cX4_reasonAgainstOrder 73 = .ok (.getfield 10, 3) := by decide +kernel
theorem dX4_reasonAgainstOrder_76 : decode cX4_reasonAgainstOrder 76 = .ok (.iload_n 2, 1) := by decide +kernel
theorem dX4_reasonAgainstOrder_77 : decode cX4_reasonAgainstOrder 77 = .ok (.invokevirtual 147, 3) := by decide +kernel
theorem dX4_reasonAgainstOrder_80 : decode cX4_reasonAgainstOrder 80 = .ok (.ireturn, 1) := by decide +kernel
theorem dX4_reasonAgainstOrder_81 : decode cX4_reasonAgainstOrder 81 = .ok (.iconst 0, 1) := by decide +kernel
theorem dX4_reasonAgainstOrder_82 : decode cX4_reasonAgainstOrder 82 = .ok (.ireturn, 1) := by decide +kernel
theorem dX4_perform_0 : decode cX4_perform 0 = .ok (.iload_n 1, 1) := by decide +kernel
theorem dX4_perform_1 : decode cX4_perform 1 = .ok (.tableswitch 190 98 120 #[119, 190, 190, 190, 142, 190, 167, 190, 178, 190, 190, 190, 190, 190, 107, 190, 190, 190, 190, 190, 190, 153, 131], 107) := by decide +kernel
theorem dX4_perform_108 : decode cX4_perform 108 = .ok (.aload_n 0, 1) := by decide +kernel
theorem dX4_perform_109 : decode cX4_perform 109 = .ok (.getfield 10, 3) := by decide +kernel
theorem dX4_perform_112 : decode cX4_perform 112 = .ok (.iload_n 2, 1) := by decide +kernel
theorem dX4_perform_113 : decode cX4_perform 113 = .ok (.iload_n 3, 1) := by decide +kernel
theorem dX4_perform_114 : decode cX4_perform 114 = .ok (.invokevirtual 178, 3) := by decide +kernel
theorem dX4_perform_117 : decode cX4_perform 117 = .ok (.goto 74, 3) := by decide +kernel
theorem dX4_perform_120 : decode cX4_perform 120 = .ok (.aload_n 0, 1) := by decide +kernel
theorem dX4_perform_121 : decode cX4_perform 121 = .ok (.getfield 10, 3) := by decide +kernel
theorem dX4_perform_124 : decode cX4_perform 124 = .ok (.iload_n 2, 1) := by decide +kernel
theorem dX4_perform_125 : decode cX4_perform 125 = .ok (.iload_n 3, 1) := by decide +kernel
theorem dX4_perform_126 : decode cX4_perform 126 = .ok (.invokevirtual 95, 3) := by decide +kernel
theorem dX4_perform_129 : decode cX4_perform 129 = .ok (.goto 62, 3) := by decide +kernel
theorem dX4_perform_132 : decode cX4_perform 132 = .ok (.aload_n 0, 1) := by decide +kernel
theorem dX4_perform_133 : decode cX4_perform 133 = .ok (.getfield 10, 3) := by decide +kernel
theorem dX4_perform_136 : decode cX4_perform 136 = .ok (.invokevirtual 187, 3) := by decide +kernel
theorem dX4_perform_139 : decode cX4_perform 139 = .ok (.pop, 1) := by decide +kernel
theorem dX4_perform_140 : decode cX4_perform 140 = .ok (.goto 51, 3) := by decide +kernel
theorem dX4_perform_143 : decode cX4_perform 143 = .ok (.aload_n 0, 1) := by decide +kernel
theorem dX4_perform_144 : decode cX4_perform 144 = .ok (.getfield 10, 3) := by decide +kernel
theorem dX4_perform_147 : decode cX4_perform 147 = .ok (.invokevirtual 190, 3) := by decide +kernel
theorem dX4_perform_150 : decode cX4_perform 150 = .ok (.pop, 1) := by decide +kernel
theorem dX4_perform_151 : decode cX4_perform 151 = .ok (.goto 40, 3) := by decide +kernel
theorem dX4_perform_154 : decode cX4_perform 154 = .ok (.aload_n 0, 1) := by decide +kernel
theorem dX4_perform_155 : decode cX4_perform 155 = .ok (.getfield 10, 3) := by decide +kernel
theorem dX4_perform_158 : decode cX4_perform 158 = .ok (.iload_n 2, 1) := by decide +kernel
theorem dX4_perform_159 : decode cX4_perform 159 = .ok (.iload_n 3, 1) := by decide +kernel
theorem dX4_perform_160 : decode cX4_perform 160 = .ok (.iload 4, 2) := by decide +kernel
theorem dX4_perform_162 : decode cX4_perform 162 = .ok (.invokevirtual 221, 3) := by decide +kernel
theorem dX4_perform_165 : decode cX4_perform 165 = .ok (.goto 26, 3) := by decide +kernel
theorem dX4_perform_168 : decode cX4_perform 168 = .ok (.aload_n 0, 1) := by decide +kernel
theorem dX4_perform_169 : decode cX4_perform 169 = .ok (.getfield 10, 3) := by decide +kernel
theorem dX4_perform_172 : decode cX4_perform 172 = .ok (.iload_n 2, 1) := by decide +kernel
theorem dX4_perform_173 : decode cX4_perform 173 = .ok (.putfield 150, 3) := by decide +kernel
theorem dX4_perform_176 : decode cX4_perform 176 = .ok (.goto 15, 3) := by decide +kernel
theorem dX4_perform_179 : decode cX4_perform 179 = .ok (.aload_n 0, 1) := by decide +kernel
theorem dX4_perform_180 : decode cX4_perform 180 = .ok (.getfield 10, 3) := by decide +kernel
theorem dX4_perform_183 : decode cX4_perform 183 = .ok (.iload_n 2, 1) := by decide +kernel
theorem dX4_perform_184 : decode cX4_perform 184 = .ok (.iload_n 3, 1) := by decide +kernel
theorem dX4_perform_185 : decode cX4_perform 185 = .ok (.invokevirtual 161, 3) := by decide +kernel
theorem dX4_perform_188 : decode cX4_perform 188 = .ok (.goto 3, 3) := by decide +kernel
theorem dX4_perform_191 : decode cX4_perform 191 = .ok (.return_, 1) := by decide +kernel
theorem dJx00060_init_a7421_0 : decode cJx00060_init_a7421 0 = .ok (.aload_n 0, 1) := by decide +kernel
theorem dJx00060_init_a7421_1 : decode cJx00060_init_a7421 1 = .ok (.aload_n 1, 1) := by decide +kernel
theorem dJx00060_init_a7421_2 : decode cJx00060_init_a7421 2 = .ok (.invokespecial 7, 3) := by decide +kernel
theorem dJx00060_init_a7421_5 : decode cJx00060_init_a7421 5 = .ok (.return_, 1) := by decide +kernel
theorem dJ6_bitCount_0f7a4_0 : decode cJ6_bitCount_0f7a4 0 = .ok (.iload_n 0, 1) := by decide +kernel
theorem dJ6_bitCount_0f7a4_1 : decode cJ6_bitCount_0f7a4 1 = .ok (.iload_n 0, 1) := by decide +kernel
theorem dJ6_bitCount_0f7a4_2 : decode cJ6_bitCount_0f7a4 2 = .ok (.iconst 1, 1) := by decide +kernel
theorem dJ6_bitCount_0f7a4_3 : decode cJ6_bitCount_0f7a4 3 = .ok (.iushr, 1) := by decide +kernel
theorem dJ6_bitCount_0f7a4_4 : decode cJ6_bitCount_0f7a4 4 = .ok (.ldc_w 265, 3) := by decide +kernel
theorem dJ6_bitCount_0f7a4_7 : decode cJ6_bitCount_0f7a4 7 = .ok (.iand, 1) := by decide +kernel
theorem dJ6_bitCount_0f7a4_8 : decode cJ6_bitCount_0f7a4 8 = .ok (.isub, 1) := by decide +kernel
theorem dJ6_bitCount_0f7a4_9 : decode cJ6_bitCount_0f7a4 9 = .ok (.istore_n 0, 1) := by decide +kernel
theorem dJ6_bitCount_0f7a4_10 : decode cJ6_bitCount_0f7a4 10 = .ok (.iload_n 0, 1) := by decide +kernel
theorem dJ6_bitCount_0f7a4_11 : decode cJ6_bitCount_0f7a4 11 = .ok (.ldc_w 266, 3) := by decide +kernel
theorem dJ6_bitCount_0f7a4_14 : decode cJ6_bitCount_0f7a4 14 = .ok (.iand, 1) := by decide +kernel
theorem dJ6_bitCount_0f7a4_15 : decode cJ6_bitCount_0f7a4 15 = .ok (.iload_n 0, 1) := by decide +kernel
theorem dJ6_bitCount_0f7a4_16 : decode cJ6_bitCount_0f7a4 16 = .ok (.iconst 2, 1) := by decide +kernel
theorem dJ6_bitCount_0f7a4_17 : decode cJ6_bitCount_0f7a4 17 = .ok (.iushr, 1) := by decide +kernel
theorem dJ6_bitCount_0f7a4_18 : decode cJ6_bitCount_0f7a4 18 = .ok (.ldc_w 266, 3) := by decide +kernel
theorem dJ6_bitCount_0f7a4_21 : decode cJ6_bitCount_0f7a4 21 = .ok (.iand, 1) := by decide +kernel
theorem dJ6_bitCount_0f7a4_22 : decode cJ6_bitCount_0f7a4 22 = .ok (.iadd, 1) := by decide +kernel
theorem dJ6_bitCount_0f7a4_23 : decode cJ6_bitCount_0f7a4 23 = .ok (.istore_n 0, 1) := by decide +kernel
theorem dJ6_bitCount_0f7a4_24 : decode cJ6_bitCount_0f7a4 24 = .ok (.iload_n 0, 1) := by decide +kernel
theorem dJ6_bitCount_0f7a4_25 : decode cJ6_bitCount_0f7a4 25 = .ok (.iload_n 0, 1) := by decide +kernel
theorem dJ6_bitCount_0f7a4_26 : decode cJ6_bitCount_0f7a4 26 = .ok (.iconst 4, 1) := by decide +kernel
theorem dJ6_bitCount_0f7a4_27 : decode cJ6_bitCount_0f7a4 27 = .ok (.iushr, 1) := by decide +kernel
theorem dJ6_bitCount_0f7a4_28 : decode cJ6_bitCount_0f7a4 28 = .ok (.iadd, 1) := by decide +kernel
theorem dJ6_bitCount_0f7a4_29 : decode cJ6_bitCount_0f7a4 29 = .ok (.ldc_w 267, 3) := by decide +kernel
theorem dJ6_bitCount_0f7a4_32 : decode cJ6_bitCount_0f7a4 32 = .ok (.iand, 1) := by decide +kernel
theorem dJ6_bitCount_0f7a4_33 : decode cJ6_bitCount_0f7a4 33 = .ok (.istore_n 0, 1) := by decide +kernel
theorem dJ6_bitCount_0f7a4_34 : decode cJ6_bitCount_0f7a4 34 = .ok (.iload_n 0, 1) := by decide +kernel
theorem dJ6_bitCount_0f7a4_35 : decode cJ6_bitCount_0f7a4 35 = .ok (.iload_n 0, 1) := by decide +kernel
theorem dJ6_bitCount_0f7a4_36 : decode cJ6_bitCount_0f7a4 36 = .ok (.bipush 8, 2) := by decide +kernel
theorem dJ6_bitCount_0f7a4_38 : decode cJ6_bitCount_0f7a4 38 = .ok (.iushr, 1) := by decide +kernel
theorem dJ6_bitCount_0f7a4_39 : decode cJ6_bitCount_0f7a4 39 = .ok (.iadd, 1) := by decide +kernel
theorem dJ6_bitCount_0f7a4_40 : decode cJ6_bitCount_0f7a4 40 = .ok (.istore_n 0, 1) := by decide +kernel
theorem dJ6_bitCount_0f7a4_41 : decode cJ6_bitCount_0f7a4 41 = .ok (.iload_n 0, 1) := by decide +kernel
theorem dJ6_bitCount_0f7a4_42 : decode cJ6_bitCount_0f7a4 42 = .ok (.iload_n 0, 1) := by decide +kernel
theorem dJ6_bitCount_0f7a4_43 : decode cJ6_bitCount_0f7a4 43 = .ok (.bipush 16, 2) := by decide +kernel
theorem dJ6_bitCount_0f7a4_45 : decode cJ6_bitCount_0f7a4 45 = .ok (.iushr, 1) := by decide +kernel
theorem dJ6_bitCount_0f7a4_46 : decode cJ6_bitCount_0f7a4 46 = .ok (.iadd, 1) := by decide +kernel
theorem dJ6_bitCount_0f7a4_47 : decode cJ6_bitCount_0f7a4 47 = .ok (.istore_n 0, 1) := by decide +kernel
theorem dJ6_bitCount_0f7a4_48 : decode cJ6_bitCount_0f7a4 48 = .ok (.iload_n 0, 1) := by decide +kernel
theorem dJ6_bitCount_0f7a4_49 : decode cJ6_bitCount_0f7a4 49 = .ok (.bipush 63, 2) := by decide +kernel
theorem dJ6_bitCount_0f7a4_51 : decode cJ6_bitCount_0f7a4 51 = .ok (.iand, 1) := by decide +kernel
theorem dJ6_bitCount_0f7a4_52 : decode cJ6_bitCount_0f7a4 52 = .ok (.ireturn, 1) := by decide +kernel
theorem dJ9_floorMod_7cf53_0 : decode cJ9_floorMod_7cf53 0 = .ok (.iload_n 0, 1) := by decide +kernel
theorem dJ9_floorMod_7cf53_1 : decode cJ9_floorMod_7cf53 1 = .ok (.iload_n 1, 1) := by decide +kernel
theorem dJ9_floorMod_7cf53_2 : decode cJ9_floorMod_7cf53 2 = .ok (.irem, 1) := by decide +kernel
theorem dJ9_floorMod_7cf53_3 : decode cJ9_floorMod_7cf53 3 = .ok (.istore_n 2, 1) := by decide +kernel
theorem dJ9_floorMod_7cf53_4 : decode cJ9_floorMod_7cf53 4 = .ok (.iload_n 0, 1) := by decide +kernel
theorem dJ9_floorMod_7cf53_5 : decode cJ9_floorMod_7cf53 5 = .ok (.iload_n 1, 1) := by decide +kernel
theorem dJ9_floorMod_7cf53_6 : decode cJ9_floorMod_7cf53 6 = .ok (.ixor, 1) := by decide +kernel
theorem dJ9_floorMod_7cf53_7 : decode cJ9_floorMod_7cf53 7 = .ok (.ifCond .ge 11, 3) := by decide +kernel
theorem dJ9_floorMod_7cf53_10 : decode cJ9_floorMod_7cf53 10 = .ok (.iload_n 2, 1) := by decide +kernel
theorem dJ9_floorMod_7cf53_11 : decode cJ9_floorMod_7cf53 11 = .ok (.ifCond .eq 7, 3) := by decide +kernel
theorem dJ9_floorMod_7cf53_14 : decode cJ9_floorMod_7cf53 14 = .ok (.iload_n 2, 1) := by decide +kernel
theorem dJ9_floorMod_7cf53_15 : decode cJ9_floorMod_7cf53 15 = .ok (.iload_n 1, 1) := by decide +kernel
theorem dJ9_floorMod_7cf53_16 : decode cJ9_floorMod_7cf53 16 = .ok (.iadd, 1) := by decide +kernel
theorem dJ9_floorMod_7cf53_17 : decode cJ9_floorMod_7cf53 17 = .ok (.ireturn, 1) := by decide +kernel
theorem dJ9_floorMod_7cf53_18 : decode cJ9_floorMod_7cf53 18 = .ok (.iload_n 2, 1) := by decide +kernel
theorem dJ9_floorMod_7cf53_19 : decode cJ9_floorMod_7cf53 19 = .ok (.ireturn, 1) := by decide +kernel
theorem dJ9_max_7cf53_0 : decode cJ9_max_7cf53 0 = .ok (.iload_n 0, 1) := by decide +kernel
theorem dJ9_max_7cf53_1 : decode cJ9_max_7cf53 1 = .ok (.iload_n 1, 1) := by decide +kernel
theorem dJ9_max_7cf53_2 : decode cJ9_max_7cf53 2 = .ok (.if_icmp .lt 7, 3) := by decide +kernel
theorem dJ9_max_7cf53_5 : decode cJ9_max_7cf53 5 = .ok (.iload_n 0, 1) := by decide +kernel
theorem dJ9_max_7cf53_6 : decode cJ9_max_7cf53 6 = .ok (.goto 4, 3) := by decide +kernel
theorem dJ9_max_7cf53_9 : decode cJ9_max_7cf53 9 = .ok (.iload_n 1, 1) := by decide +kernel
theorem dJ9_max_7cf53_10 : decode cJ9_max_7cf53 10 = .ok (.ireturn, 1) := by decide +kernel
theorem dJ9_min_7cf53_0 : decode cJ9_min_7cf53 0 = .ok (.iload_n 0, 1) := by decide +kernel
theorem dJ9_min_7cf53_1 : decode cJ9_min_7cf53 1 = .ok (.iload_n 1, 1) := by decide +kernel
theorem dJ9_min_7cf53_2 : decode cJ9_min_7cf53 2 = .ok (.if_icmp .gt 7, 3) := by decide +kernel
theorem dJ9_min_7cf53_5 : decode cJ9_min_7cf53 5 = .ok (.iload_n 0, 1) := by decide +kernel
theorem dJ9_min_7cf53_6 : decode cJ9_min_7cf53 6 = .ok (.goto 4, 3) := by decide +kernel
theorem dJ9_min_7cf53_9 : decode cJ9_min_7cf53 9 = .ok (.iload_n 1, 1) := by decide +kernel
theorem dJ9_min_7cf53_10 : decode cJ9_min_7cf53 10 = .ok (.ireturn, 1) := by decide +kernel
theorem dJ0_length_8abf5_0 : decode cJ0_length_8abf5 0 = .ok (.aload_n 0, 1) := by decide +kernel
theorem dJ0_length_8abf5_1 : decode cJ0_length_8abf5 1 = .ok (.getfield 9, 3) := by decide +kernel
theorem dJ0_length_8abf5_4 : decode cJ0_length_8abf5 4 = .ok (.arraylength, 1) := by decide +kernel
theorem dJ0_length_8abf5_5 : decode cJ0_length_8abf5 5 = .ok (.aload_n 0, 1) := by decide +kernel
theorem dJ0_length_8abf5_6 : decode cJ0_length_8abf5 6 = .ok (.invokevirtual 335, 3) := by decide +kernel
theorem dJ0_length_8abf5_9 : decode cJ0_length_8abf5 9 = .ok (.ishr, 1) := by decide +kernel
theorem dJ0_length_8abf5_10 : decode cJ0_length_8abf5 10 = .ok (.ireturn, 1) := by decide +kernel
theorem dJ0_charAt_5068e_0 : decode cJ0_charAt_5068e 0 = .ok (.aload_n 0, 1) := by decide +kernel
theorem dJ0_charAt_5068e_1 : decode cJ0_charAt_5068e 1 = .ok (.invokevirtual 492, 3) := by decide +kernel
theorem dJ0_charAt_5068e_4 : decode cJ0_charAt_5068e 4 = .ok (.ifCond .eq 12, 3) := by decide +kernel
theorem dJ0_charAt_5068e_7 : decode cJ0_charAt_5068e 7 = .ok (.aload_n 0, 1) := by decide +kernel
theorem dJ0_charAt_5068e_8 : decode cJ0_charAt_5068e 8 = .ok (.getfield 9, 3) := by decide +kernel
theorem dJ0_charAt_5068e_11 : decode cJ0_charAt_5068e 11 = .ok (.iload_n 1, 1) := by decide +kernel
theorem dJ0_charAt_5068e_12 : decode cJ0_charAt_5068e 12 = .ok (.invokestatic 495, 3) := by decide +kernel
theorem dJ0_charAt_5068e_15 : decode cJ0_charAt_5068e 15 = .ok (.ireturn, 1) := by decide +kernel
theorem dJ0_charAt_5068e_16 : decode cJ0_charAt_5068e 16 = .ok (.aload_n 0, 1) := by decide +kernel
theorem dJ0_charAt_5068e_17 : decode cJ0_charAt_5068e 17 = .ok (.getfield 9, 3) := by decide +kernel
theorem dJ0_charAt_5068e_20 : decode cJ0_charAt_5068e 20 = .ok (.iload_n 1, 1) := by decide +kernel
theorem dJ0_charAt_5068e_21 : decode cJ0_charAt_5068e 21 = .ok (.invokestatic 498, 3) := by decide +kernel
theorem dJ0_charAt_5068e_24 : decode cJ0_charAt_5068e 24 = .ok (.ireturn, 1) := by decide +kernel
theorem dJ0_coder_7d493_0 : decode cJ0_coder_7d493 0 = .ok (.getstatic 38, 3) := by decide +kernel
theorem dJ0_coder_7d493_3 : decode cJ0_coder_7d493 3 = .ok (.ifCond .eq 10, 3) := by decide +kernel
theorem dJ0_coder_7d493_6 : decode cJ0_coder_7d493 6 = .ok (.aload_n 0, 1) := by decide +kernel
theorem dJ0_coder_7d493_7 : decode cJ0_coder_7d493 7 = .ok (.getfield 15, 3) := by decide +kernel
theorem dJ0_coder_7d493_10 : decode cJ0_coder_7d493 10 = .ok (.goto 4, 3) := by decide +kernel
theorem dJ0_coder_7d493_13 : decode cJ0_coder_7d493 13 = .ok (.iconst 1, 1) := by decide +kernel
theorem dJ0_coder_7d493_14 : decode cJ0_coder_7d493 14 = .ok (.ireturn, 1) := by decide +kernel
theorem dJ0_isLatin1_aae02_0 : decode cJ0_isLatin1_aae02 0 = .ok (.getstatic 38, 3) := by decide +kernel
theorem dJ0_isLatin1_aae02_3 : decode cJ0_isLatin1_aae02 3 = .ok (.ifCond .eq 14, 3) := by decide +kernel
theorem dJ0_isLatin1_aae02_6 : decode cJ0_isLatin1_aae02 6 = .ok (.aload_n 0, 1) := by decide +kernel
theorem dJ0_isLatin1_aae02_7 : decode cJ0_isLatin1_aae02 7 = .ok (.getfield 15, 3) := by decide +kernel
theorem dJ0_isLatin1_aae02_10 : decode cJ0_isLatin1_aae02 10 = .ok (.ifCond .ne 7, 3) := by decide +kernel
theorem dJ0_isLatin1_aae02_13 : decode cJ0_isLatin1_aae02 13 = .ok (.iconst 1, 1) := by decide +kernel
theorem dJ0_isLatin1_aae02_14 : decode cJ0_isLatin1_aae02 14 = .ok (.goto 4, 3) := by decide +kernel
theorem dJ0_isLatin1_aae02_17 : decode cJ0_isLatin1_aae02 17 = .ok (.iconst 0, 1) := by decide +kernel
theorem dJ0_isLatin1_aae02_18 : decode cJ0_isLatin1_aae02 18 = .ok (.ireturn, 1) := by decide +kernel
theorem dJ0_checkIndex_df160_0 : decode cJ0_checkIndex_df160 0 = .ok (.iload_n 0, 1) := by decide +kernel
theorem dJ0_checkIndex_df160_1 : decode cJ0_checkIndex_df160 1 = .ok (.iload_n 1, 1) := by decide +kernel
theorem dJ0_checkIndex_df160_2 : decode cJ0_checkIndex_df160 2 = .ok (.getstatic 1053, 3) := by decide +kernel
theorem dJ0_checkIndex_df160_5 : decode cJ0_checkIndex_df160 5 = .ok (.invokestatic 1059, 3) := by decide +kernel
theorem dJ0_checkIndex_df160_8 : decode cJ0_checkIndex_df160 8 = .ok (.pop, 1) := by decide +kernel
theorem dJ0_checkIndex_df160_9 : decode cJ0_checkIndex_df160 9 = .ok (.return_, 1) := by decide +kernel
theorem dJ1_charAt_3b067_0 : decode cJ1_charAt_3b067 0 = .ok (.iload_n 1, 1) := by decide +kernel
theorem dJ1_charAt_3b067_1 : decode cJ1_charAt_3b067 1 = .ok (.aload_n 0, 1) := by decide +kernel
theorem dJ1_charAt_3b067_2 : decode cJ1_charAt_3b067 2 = .ok (.arraylength, 1) := by decide +kernel
theorem dJ1_charAt_3b067_3 : decode cJ1_charAt_3b067 3 = .ok (.invokestatic 9, 3) := by decide +kernel
theorem dJ1_charAt_3b067_6 : decode cJ1_charAt_3b067 6 = .ok (.aload_n 0, 1) := by decide +kernel
theorem dJ1_charAt_3b067_7 : decode cJ1_charAt_3b067 7 = .ok (.iload_n 1, 1) := by decide +kernel
theorem dJ1_charAt_3b067_8 : decode cJ1_charAt_3b067 8 = .ok (.baload, 1) := by decide +kernel
theorem dJ1_charAt_3b067_9 : decode cJ1_charAt_3b067 9 = .ok (.sipush 255, 3) := by decide +kernel
theorem dJ1_charAt_3b067_12 : decode cJ1_charAt_3b067 12 = .ok (.iand, 1) := by decide +kernel
theorem dJ1_charAt_3b067_13 : decode cJ1_charAt_3b067 13 = .ok (.i2c, 1) := by decide +kernel
theorem dJ1_charAt_3b067_14 : decode cJ1_charAt_3b067 14 = .ok (.ireturn, 1) := by decide +kernel
theorem dJ2_getChar_3b067_0 : decode cJ2_getChar_3b067 0 = .ok (.getstatic 44, 3) := by decide +kernel
theorem dJ2_getChar_3b067_3 : decode cJ2_getChar_3b067 3 = .ok (.ifCond .ne 25, 3) := by decide +kernel
theorem dJ2_getChar_3b067_6 : decode cJ2_getChar_3b067 6 = .ok (.iload_n 1, 1) := by decide +kernel
theorem dJ2_getChar_3b067_7 : decode cJ2_getChar_3b067 7 = .ok (.ifCond .lt 11, 3) := by decide +kernel
theorem dJ2_getChar_3b067_10 : decode cJ2_getChar_3b067 10 = .ok (.iload_n 1, 1) := by decide +kernel
theorem dJ2_getChar_3b067_11 : decode cJ2_getChar_3b067 11 = .ok (.aload_n 0, 1) := by decide +kernel
theorem dJ2_getChar_3b067_12 : decode cJ2_getChar_3b067 12 = .ok (.invokestatic 48, 3) := by decide +kernel
theorem dJ2_getChar_3b067_15 : decode cJ2_getChar_3b067 15 = .ok (.if_icmp .lt 13, 3) := by decide +kernel
theorem dJ2_getChar_3b067_18 : decode cJ2_getChar_3b067 18 = .ok (.new 52, 3) := by decide +kernel
theorem dJ2_getChar_3b067_21 : decode cJ2_getChar_3b067 21 = .ok (.dup, 1) := by decide +kernel
theorem dJ2_getChar_3b067_22 : decode cJ2_getChar_3b067 22 = .ok (.ldc 54, 2) := by decide +kernel
theorem dJ2_getChar_3b067_24 : decode cJ2_getChar_3b067 24 = .ok (.invokespecial 56, 3) := by decide +kernel
theorem dJ2_getChar_3b067_27 : decode cJ2_getChar_3b067 27 = .ok (.athrow, 1) := by decide +kernel
theorem dJ2_getChar_3b067_28 : decode cJ2_getChar_3b067 28 = .ok (.iload_n 1, 1) := by decide +kernel
theorem dJ2_getChar_3b067_29 : decode cJ2_getChar_3b067 29 = .ok (.iconst 1, 1) := by decide +kernel
theorem dJ2_getChar_3b067_30 : decode cJ2_getChar_3b067 30 = .ok (.ishl, 1) := by decide +kernel
theorem dJ2_getChar_3b067_31 : decode cJ2_getChar_3b067 31 = .ok (.istore_n 1, 1) := by decide +kernel
theorem dJ2_getChar_3b067_32 : decode cJ2_getChar_3b067 32 = .ok (.aload_n 0, 1) := by decide +kernel
theorem dJ2_getChar_3b067_33 : decode cJ2_getChar_3b067 33 = .ok (.iload_n 1, 1) := by decide +kernel
theorem dJ2_getChar_3b067_34 : decode cJ2_getChar_3b067 34 = .ok (.iinc 1 1, 3) := by decide +kernel
theorem dJ2_getChar_3b067_37 : decode cJ2_getChar_3b067 37 = .ok (.baload, 1) := by decide +kernel
theorem dJ2_getChar_3b067_38 : decode cJ2_getChar_3b067 38 = .ok (.sipush 255, 3) := by decide +kernel
theorem dJ2_getChar_3b067_41 : decode cJ2_getChar_3b067 41 = .ok (.iand, 1) := by decide +kernel
theorem dJ2_getChar_3b067_42 : decode cJ2_getChar_3b067 42 = .ok (.getstatic 59, 3) := by decide +kernel
theorem dJ2_getChar_3b067_45 : decode cJ2_getChar_3b067 45 = .ok (.ishl, 1) := by decide +kernel
theorem dJ2_getChar_3b067_46 : decode cJ2_getChar_3b067 46 = .ok (.aload_n 0, 1) := by decide +kernel
theorem dJ2_getChar_3b067_47 : decode cJ2_getChar_3b067 47 = .ok (.iload_n 1, 1) := by decide +kernel
theorem dJ2_getChar_3b067_48 : decode cJ2_getChar_3b067 48 = .ok (.baload, 1) := by decide +kernel
theorem dJ2_getChar_3b067_49 : decode cJ2_getChar_3b067 49 = .ok (.sipush 255, 3) := by decide +kernel
theorem dJ2_getChar_3b067_52 : decode cJ2_getChar_3b067 52 = .ok (.iand, 1) := by decide +kernel
theorem dJ2_getChar_3b067_53 : decode cJ2_getChar_3b067 53 = .ok (.getstatic 63, 3) := by decide +kernel
theorem dJ2_getChar_3b067_56 : decode cJ2_getChar_3b067 56 = .ok (.ishl, 1) := by decide +kernel
theorem dJ2_getChar_3b067_57 : decode cJ2_getChar_3b067 57 = .ok (.ior, 1) := by decide +kernel
theorem dJ2_getChar_3b067_58 : decode cJ2_getChar_3b067 58 = .ok (.i2c, 1) := by decide +kernel
theorem dJ2_getChar_3b067_59 : decode cJ2_getChar_3b067 59 = .ok (.ireturn, 1) := by decide +kernel
theorem dJ2_length_9d52b_0 : decode cJ2_length_9d52b 0 = .ok (.aload_n 0, 1) := by decide +kernel
theorem dJ2_length_9d52b_1 : decode cJ2_length_9d52b 1 = .ok (.arraylength, 1) := by decide +kernel
theorem dJ2_length_9d52b_2 : decode cJ2_length_9d52b 2 = .ok (.iconst 1, 1) := by decide +kernel
theorem dJ2_length_9d52b_3 : decode cJ2_length_9d52b 3 = .ok (.ishr, 1) := by decide +kernel
theorem dJ2_length_9d52b_4 : decode cJ2_length_9d52b 4 = .ok (.ireturn, 1) := by decide +kernel
theorem dJ2_charAt_3b067_0 : decode cJ2_charAt_3b067 0 = .ok (.iload_n 1, 1) := by decide +kernel
theorem dJ2_charAt_3b067_1 : decode cJ2_charAt_3b067 1 = .ok (.aload_n 0, 1) := by decide +kernel
theorem dJ2_charAt_3b067_2 : decode cJ2_charAt_3b067 2 = .ok (.invokestatic 67, 3) := by decide +kernel
theorem dJ2_charAt_3b067_5 : decode cJ2_charAt_3b067 5 = .ok (.aload_n 0, 1) := by decide +kernel
theorem dJ2_charAt_3b067_6 : decode cJ2_charAt_3b067 6 = .ok (.iload_n 1, 1) := by decide +kernel
theorem dJ2_charAt_3b067_7 : decode cJ2_charAt_3b067 7 = .ok (.invokestatic 71, 3) := by decide +kernel
theorem dJ2_charAt_3b067_10 : decode cJ2_charAt_3b067 10 = .ok (.ireturn, 1) := by decide +kernel
theorem dJ2_checkIndex_2214a_0 : decode cJ2_checkIndex_2214a 0 = .ok (.iload_n 0, 1) := by decide +kernel
theorem dJ2_checkIndex_2214a_1 : decode cJ2_checkIndex_2214a 1 = .ok (.aload_n 1, 1) := by decide +kernel
theorem dJ2_checkIndex_2214a_2 : decode cJ2_checkIndex_2214a 2 = .ok (.invokestatic 48, 3) := by decide +kernel
theorem dJ2_checkIndex_2214a_5 : decode cJ2_checkIndex_2214a 5 = .ok (.invokestatic 414, 3) := by decide +kernel
theorem dJ2_checkIndex_2214a_8 : decode cJ2_checkIndex_2214a 8 = .ok (.return_, 1) := by decide +kernel
theorem dJ3_checkIndex_8e157_0 : decode cJ3_checkIndex_8e157 0 = .ok (.iload_n 0, 1) := by decide +kernel
theorem dJ3_checkIndex_8e157_1 : decode cJ3_checkIndex_8e157 1 = .ok (.ifCond .lt 8, 3) := by decide +kernel
theorem dJ3_checkIndex_8e157_4 : decode cJ3_checkIndex_8e157 4 = .ok (.iload_n 0, 1) := by decide +kernel
theorem dJ3_checkIndex_8e157_5 : decode cJ3_checkIndex_8e157 5 = .ok (.iload_n 1, 1) := by decide +kernel
theorem dJ3_checkIndex_8e157_6 : decode cJ3_checkIndex_8e157 6 = .ok (.if_icmp .lt 10, 3) := by decide +kernel
theorem dJ3_checkIndex_8e157_9 : decode cJ3_checkIndex_8e157 9 = .ok (.aload_n 2, 1) := by decide +kernel
theorem dJ3_checkIndex_8e157_10 : decode cJ3_checkIndex_8e157 10 = .ok (.iload_n 0, 1) := by decide +kernel
theorem dJ3_checkIndex_8e157_11 : decode cJ3_checkIndex_8e157 11 = .ok (.iload_n 1, 1) := by decide +kernel
theorem dJ3_checkIndex_8e157_12 : decode cJ3_checkIndex_8e157 12 = .ok (.invokestatic 95, 3) := by decide +kernel
theorem dJ3_checkIndex_8e157_15 : decode cJ3_checkIndex_8e157 15 = .ok (.athrow, 1) := by decide +kernel
theorem dJ3_checkIndex_8e157_16 : decode cJ3_checkIndex_8e157 16 = .ok (.iload_n 0, 1) := by decide +kernel
theorem dJ3_checkIndex_8e157_17 : decode cJ3_checkIndex_8e157 17 = .ok (.ireturn, 1) := by decide +kernel
end
section
/-! each instruction, decoded -/
theorem dX5_init_0 : decode cX5_init 0 = .ok (.aload_n 0, 1) := by decide +kernel
theorem dX5_init_1 : decode cX5_init 1 = .ok (.invokespecial 1, 3) := by decide +kernel
theorem dX5_init_4 : decode cX5_init 4 = .ok (.aload_n 0, 1) := by decide +kernel
theorem dX5_init_5 : decode cX5_init 5 = .ok (.bipush 56, 2) := by decide +kernel
theorem dX5_init_7 : decode cX5_init 7 = .ok (.newarray .int, 2) := by decide +kernel
theorem dX5_init_9 : decode cX5_init 9 = .ok (.putfield 7, 3) := by decide +kernel
theorem dX5_init_12 : decode cX5_init 12 = .ok (.aload_n 0, 1) := by decide +kernel
theorem dX5_init_13 : decode cX5_init 13 = .ok (.sipush 448, 3) := by decide +kernel
theorem dX5_init_16 : decode cX5_init 16 = .ok (.newarray .int, 2) := by decide +kernel
theorem dX5_init_18 : decode cX5_init 18 = .ok (.putfield 13, 3) := by decide +kernel
theorem dX5_init_21 : decode cX5_init 21 = .ok (.aload_n 0, 1) := by decide +kernel
theorem dX5_init_22 : decode cX5_init 22 = .ok (.bipush 56, 2) := by decide +kernel
theorem dX5_init_24 : decode cX5_init 24 = .ok (.newarray .int, 2) := by decide +kernel
theorem dX5_init_26 : decode cX5_init 26 = .ok (.putfield 16, 3) := by decide +kernel
theorem dX5_init_29 : decode cX5_init 29 = .ok (.aload_n 0, 1) := by decide +kernel
theorem dX5_init_30 : decode cX5_init 30 = .ok (.bipush 56, 2) := by decide +kernel
theorem dX5_init_32 : decode cX5_init 32 = .ok (.newarray .int, 2) := by decide +kernel
theorem dX5_init_34 : decode cX5_init 34 = .ok (.putfield 19, 3) := by decide +kernel
theorem dX5_init_37 : decode cX5_init 37 = .ok (.aload_n 0, 1) := by decide +kernel
theorem dX5_init_38 : decode cX5_init 38 = .ok (.bipush 60, 2) := by decide +kernel
theorem dX5_init_40 : decode cX5_init 40 = .ok (.newarray .int, 2) := by decide +kernel
theorem dX5_init_42 : decode cX5_init 42 = .ok (.putfield 22, 3) := by decide +kernel
theorem dX5_init_45 : decode cX5_init 45 = .ok (.aload_n 0, 1) := by decide +kernel
theorem dX5_init_46 : decode cX5_init 46 = .ok (.iconst (-1), 1) := by decide +kernel
theorem dX5_init_47 : decode cX5_init 47 = .ok (.putfield 25, 3) := by decide +kernel
theorem dX5_init_50 : decode cX5_init 50 = .ok (.aload_n 0, 1) := by decide +kernel
theorem dX5_init_51 : decode cX5_init 51 = .ok (.bipush 40, 2) := by decide +kernel
theorem dX5_init_53 : decode cX5_init 53 = .ok (.newarray .char, 2) := by decide +kernel
theorem dX5_init_55 : decode cX5_init 55 = .ok (.putfield 29, 3) := by decide +kernel
theorem dX5_init_58 : decode cX5_init 58 = .ok (.aload_n 0, 1) := by decide +kernel
theorem dX5_init_59 : decode cX5_init 59 = .ok (.bipush 7, 2) := by decide +kernel
theorem dX5_init_61 : decode cX5_init 61 = .ok (.newarray .int, 2) := by decide +kernel
theorem dX5_init_63 : decode cX5_init 63 = .ok (.putfield 33, 3) := by decide +kernel
theorem dX5_init_66 : decode cX5_init 66 = .ok (.aload_n 0, 1) := by decide +kernel
theorem dX5_init_67 : decode cX5_init 67 = .ok (.sipush 128, 3) := by decide +kernel
theorem dX5_init_70 : decode cX5_init 70 = .ok (.newarray .int, 2) := by decide +kernel
theorem dX5_init_72 : decode cX5_init 72 = .ok (.putfield 36, 3) := by decide +kernel
theorem dX5_init_75 : decode cX5_init 75 = .ok (.aload_n 0, 1) := by decide +kernel
theorem dX5_init_76 : decode cX5_init 76 = .ok (.getfield 7, 3) := by decide +kernel
theorem dX5_init_79 : decode cX5_init 79 = .ok (.bipush 36, 2) := by decide +kernel
theorem dX5_init_81 : decode cX5_init 81 = .ok (.iconst 3, 1) := by decide +kernel
theorem dX5_init_82 : decode cX5_init 82 = .ok (.iastore, 1) := by decide +kernel
theorem dX5_init_83 : decode cX5_init 83 = .ok (.iconst 0, 1) := by decide +kernel
theorem dX5_init_84 : decode cX5_init 84 = .ok (.istore_n 1, 1) := by decide +kernel
theorem dX5_init_85 : decode cX5_init 85 = .ok (.iload_n 1, 1) := by decide +kernel
theorem dX5_init_86 : decode cX5_init 86 = .ok (.iconst 5, 1) := by decide +kernel
theorem dX5_init_87 : decode cX5_init 87 = .ok (.if_icmp .ge 20, 3) := by decide +kernel
theorem dX5_init_90 : decode cX5_init 90 = .ok (.aload_n 0, 1) := by decide +kernel
theorem dX5_init_91 : decode cX5_init 91 = .ok (.getfield 7, 3) := by decide +kernel
theorem dX5_init_94 : decode cX5_init 94 = .ok (.bipush 37, 2) := by decide +kernel
theorem dX5_init_96 : decode cX5_init 96 = .ok (.iload_n 1, 1) := by decide +kernel
theorem dX5_init_97 : decode cX5_init 97 = .ok (.iadd, 1) := by decide +kernel
theorem dX5_init_98 : decode cX5_init 98 = .ok (.bipush 9, 2) := by decide +kernel
theorem dX5_init_100 : decode cX5_init 100 = .ok (.iastore, 1) := by decide +kernel
theorem dX5_init_101 : decode cX5_init 101 = .ok (.iinc 1 1, 3) := by decide +kernel
theorem dX5_init_104 : decode cX5_init 104 = .ok (.goto (-19), 3) := by decide +kernel
theorem dX5_init_107 : decode cX5_init 107 = .ok (.return_, 1) := by decide +kernel
theorem dX5_thrown_0 : decode cX5_thrown 0 = .ok (.aload_n 0, 1) := by decide +kernel
theorem dX5_thrown_1 : decode cX5_thrown 1 = .ok (.getfield 39, 3) := by decide +kernel
theorem dX5_thrown_4 : decode cX5_thrown 4 = .ok (.ireturn, 1) := by decide +kernel
theorem dX5_fails_0 : decode cX5_fails 0 = .ok (.aload_n 0, 1) := by decide +kernel
theorem dX5_fails_1 : decode cX5_fails 1 = .ok (.iload_n 1, 1) := by decide +kernel
theorem dX5_fails_2 : decode cX5_fails 2 = .ok (.putfield 39, 3) := by decide +kernel
theorem dX5_fails_5 : decode cX5_fails 5 = .ok (.iload_n 1, 1) := by decide +kernel
theorem dX5_fails_6 : decode cX5_fails 6 = .ok (.ifCond .le 7, 3) := by decide +kernel
theorem dX5_fails_9 : decode cX5_fails 9 = .ok (.iconst 1, 1) := by decide +kernel
theorem dX5_fails_10 : decode cX5_fails 10 = .ok (.goto 4, 3) := by decide +kernel
theorem dX5_fails_13 : decode cX5_fails 13 = .ok (.iconst 0, 1) := by decide +kernel
theorem dX5_fails_14 : decode cX5_fails 14 = .ok (.ireturn, 1) := by decide +kernel
theorem dX5_refuses_0 : decode cX5_refuses 0 = .ok (.aload_n 0, 1) := by decide +kernel
theorem dX5_refuses_1 : decode cX5_refuses 1 = .ok (.iload_n 1, 1) := by decide +kernel
theorem dX5_refuses_2 : decode cX5_refuses 2 = .ok (.putfield 39, 3) := by decide +kernel
theorem dX5_refuses_5 : decode cX5_refuses 5 = .ok (.aload_n 0, 1) := by decide +kernel
theorem dX5_refuses_6 : decode cX5_refuses 6 = .ok (.iload_n 2, 1) := by decide +kernel
theorem dX5_refuses_7 : decode cX5_refuses 7 = .ok (.putfield 42, 3) := by decide +kernel
theorem dX5_refuses_10 : decode cX5_refuses 10 = .ok (.aload_n 0, 1) := by decide +kernel
theorem dX5_refuses_11 : decode cX5_refuses 11 = .ok (.iload_n 3, 1) := by decide +kernel
theorem dX5_refuses_12 : decode cX5_refuses 12 = .ok (.putfield 45, 3) := by decide +kernel
theorem dX5_refuses_15 : decode cX5_refuses 15 = .ok (.iconst 0, 1) := by decide +kernel
theorem dX5_refuses_16 : decode cX5_refuses 16 = .ok (.ireturn, 1) := by decide +kernel
theorem dX5_in_0 : decode cX5_in 0 = .ok (.iload_n 0, 1) := by decide +kernel
theorem dX5_in_1 : decode cX5_in 1 = .ok (.iload_n 1, 1) := by decide +kernel
theorem dX5_in_2 : decode cX5_in 2 = .ok (.if_icmp .lt 12, 3) := by decide +kernel
theorem dX5_in_5 : decode cX5_in 5 = .ok (.iload_n 0, 1) := by decide +kernel
theorem dX5_in_6 : decode cX5_in 6 = .ok (.iload_n 2, 1) := by decide +kernel
theorem dX5_in_7 : decode cX5_in 7 = .ok (.if_icmp .gt 7, 3) := by decide +kernel
theorem dX5_in_10 : decode cX5_in 10 = .ok (.iconst 1, 1) := by decide +kernel
theorem dX5_in_11 : decode cX5_in 11 = .ok (.goto 4, 3) := by decide +kernel
theorem dX5_in_14 : decode cX5_in 14 = .ok (.iconst 0, 1) := by decide +kernel
theorem dX5_in_15 : decode cX5_in 15 = .ok (.ireturn, 1) := by decide +kernel
theorem dX5_less_0 : decode cX5_less 0 = .ok (.iload_n 0, 1) := by decide +kernel
theorem dX5_less_1 : decode cX5_less 1 = .ok (.iload_n 1, 1) := by decide +kernel
theorem dX5_less_2 : decode cX5_less 2 = .ok (.if_icmp .ge 7, 3) := by decide +kernel
theorem dX5_less_5 : decode cX5_less 5 = .ok (.iload_n 0, 1) := by decide +kernel
theorem dX5_less_6 : decode cX5_less 6 = .ok (.goto 4, 3) := by decide +kernel
theorem dX5_less_9 : decode cX5_less 9 = .ok (.iload_n 1, 1) := by decide +kernel
theorem dX5_less_10 : decode cX5_less 10 = .ok (.ireturn, 1) := by decide +kernel
theorem dX5_more_0 : decode cX5_more 0 = .ok (.iload_n 0, 1) := by decide +kernel
theorem dX5_more_1 : decode cX5_more 1 = .ok (.iload_n 1, 1) := by decide +kernel
theorem dX5_more_2 : decode cX5_more 2 = .ok (.if_icmp .le 7, 3) := by decide +kernel
theorem dX5_more_5 : decode cX5_more 5 = .ok (.iload_n 0, 1) := by decide +kernel
theorem dX5_more_6 : decode cX5_more 6 = .ok (.goto 4, 3) := by decide +kernel
theorem dX5_more_9 : decode cX5_more 9 = .ok (.iload_n 1, 1) := by decide +kernel
theorem dX5_more_10 : decode cX5_more 10 = .ok (.ireturn, 1) := by decide +kernel
theorem dX5_copies_0 : decode cX5_copies 0 = .ok (.iconst 0, 1) := by decide +kernel
theorem dX5_copies_1 : decode cX5_copies 1 = .ok (.istore 4, 2) := by decide +kernel
theorem dX5_copies_3 : decode cX5_copies 3 = .ok (.iload 4, 2) := by decide +kernel
theorem dX5_copies_5 : decode cX5_copies 5 = .ok (.bipush 56, 2) := by decide +kernel
theorem dX5_copies_7 : decode cX5_copies 7 = .ok (.if_icmp .ge 21, 3) := by decide +kernel
theorem dX5_copies_10 : decode cX5_copies 10 = .ok (.aload_n 2, 1) := by decide +kernel
theorem dX5_copies_11 : decode cX5_copies 11 = .ok (.iload_n 3, 1) := by decide +kernel
theorem dX5_copies_12 : decode cX5_copies 12 = .ok (.iload 4, 2) := by decide +kernel
theorem dX5_copies_14 : decode cX5_copies 14 = .ok (.iadd, 1) := by decide +kernel
theorem dX5_copies_15 : decode cX5_copies 15 = .ok (.aload_n 0, 1) := by decide +kernel
theorem dX5_copies_16 : decode cX5_copies 16 = .ok (.iload_n 1, 1) := by decide +kernel
theorem dX5_copies_17 : decode cX5_copies 17 = .ok (.iload 4, 2) := by decide +kernel
theorem dX5_copies_19 : decode cX5_copies 19 = .ok (.iadd, 1) := by decide +kernel
theorem dX5_copies_20 : decode cX5_copies 20 = .ok (.iaload, 1) := by decide +kernel
theorem dX5_copies_21 : decode cX5_copies 21 = .ok (.iastore, 1) := by decide +kernel
theorem dX5_copies_22 : decode cX5_copies 22 = .ok (.iinc 4 1, 3) := by decide +kernel
theorem dX5_copies_25 : decode cX5_copies 25 = .ok (.goto (-22), 3) := by decide +kernel
theorem dX5_copies_28 : decode cX5_copies 28 = .ok (.return_, 1) := by decide +kernel
theorem dX5_keeps_0 : decode cX5_keeps 0 = .ok (.aload_n 0, 1) := by decide +kernel
theorem dX5_keeps_1 : decode cX5_keeps 1 = .ok (.getfield 48, 3) := by decide +kernel
theorem dX5_keeps_4 : decode cX5_keeps 4 = .ok (.ifCond .eq 4, 3) := by decide +kernel
theorem dX5_keeps_7 : decode cX5_keeps 7 = .ok (.return_, 1) := by decide +kernel
theorem dX5_keeps_8 : decode cX5_keeps 8 = .ok (.aload_n 0, 1) := by decide +kernel
theorem dX5_keeps_9 : decode cX5_keeps 9 = .ok (.getfield 52, 3) := by decide +kernel
theorem dX5_keeps_12 : decode cX5_keeps 12 = .ok (.bipush 8, 2) := by decide +kernel
theorem dX5_keeps_14 : decode cX5_keeps 14 = .ok (.if_icmp .ne 43, 3) := by decide +kernel
theorem dX5_keeps_17 : decode cX5_keeps 17 = .ok (.iconst 0, 1) := by decide +kernel
theorem dX5_keeps_18 : decode cX5_keeps 18 = .ok (.istore_n 2, 1) := by decide +kernel
theorem dX5_keeps_19 : decode cX5_keeps 19 = .ok (.iload_n 2, 1) := by decide +kernel
theorem dX5_keeps_20 : decode cX5_keeps 20 = .ok (.sipush 392, 3) := by decide +kernel
theorem dX5_keeps_23 : decode cX5_keeps 23 = .ok (.if_icmp .ge 24, 3) := by decide +kernel
theorem dX5_keeps_26 : decode cX5_keeps 26 = .ok (.aload_n 0, 1) := by decide +kernel
theorem dX5_keeps_27 : decode cX5_keeps 27 = .ok (.getfield 13, 3) := by decide +kernel
theorem dX5_keeps_30 : decode cX5_keeps 30 = .ok (.iload_n 2, 1) := by decide +kernel
theorem dX5_keeps_31 : decode cX5_keeps 31 = .ok (.aload_n 0, 1) := by decide +kernel
theorem dX5_keeps_32 : decode cX5_keeps 32 = .ok (.getfield 13, 3) := by decide +kernel
theorem dX5_keeps_35 : decode cX5_keeps 35 = .ok (.iload_n 2, 1) := by decide +kernel
theorem dX5_keeps_36 : decode cX5_keeps 36 = .ok (.bipush 56, 2) := by decide +kernel
theorem dX5_keeps_38 : decode cX5_keeps 38 = .ok (.iadd, 1) := by decide +kernel
theorem dX5_keeps_39 : decode cX5_keeps 39 = .ok (.iaload, 1) := by decide +kernel
theorem dX5_keeps_40 : decode cX5_keeps 40 = .ok (.iastore, 1) := by decide +kernel
theorem dX5_keeps_41 : decode cX5_keeps 41 = .ok (.iinc 2 1, 3) := by decide +kernel
theorem dX5_keeps_44 : decode cX5_keeps 44 = .ok (.goto (-25), 3) := by decide +kernel
theorem dX5_keeps_47 : decode cX5_keeps 47 = .ok (.aload_n 0, 1) := by decide +kernel
theorem dX5_keeps_48 : decode cX5_keeps 48 = .ok (.dup, 1) := by decide +kernel
theorem dX5_keeps_49 : decode cX5_keeps 49 = .ok (.getfield 52, 3) := by decide +kernel
theorem dX5_keeps_52 : decode cX5_keeps 52 = .ok (.iconst 1, 1) := by decide +kernel
theorem dX5_keeps_53 : decode cX5_keeps 53 = .ok (.isub, 1) := by decide +kernel
theorem dX5_keeps_54 : decode cX5_keeps 54 = .ok (.putfield 52, 3) := by decide +kernel
theorem dX5_keeps_57 : decode cX5_keeps 57 = .ok (.aload_n 1, 1) := by decide +kernel
theorem dX5_keeps_58 : decode cX5_keeps 58 = .ok (.iconst 0, 1) := by decide +kernel
theorem dX5_keeps_59 : decode cX5_keeps 59 = .ok (.aload_n 0, 1) := by decide +kernel
theorem dX5_keeps_60 : decode cX5_keeps 60 = .ok (.getfield 13, 3) := by decide +kernel
theorem dX5_keeps_63 : decode cX5_keeps 63 = .ok (.bipush 56, 2) := by decide +kernel
theorem dX5_keeps_65 : decode cX5_keeps 65 = .ok (.aload_n 0, 1) := by decide +kernel
theorem dX5_keeps_66 : decode cX5_keeps 66 = .ok (.getfield 52, 3) := by decide +kernel
theorem dX5_keeps_69 : decode cX5_keeps 69 = .ok (.imul, 1) := by decide +kernel
theorem dX5_keeps_70 : decode cX5_keeps 70 = .ok (.invokestatic 55, 3) := by decide +kernel
theorem dX5_keeps_73 : decode cX5_keeps 73 = .ok (.aload_n 0, 1) := by decide +kernel
theorem dX5_keeps_74 : decode cX5_keeps 74 = .ok (.dup, 1) := by decide +kernel
theorem dX5_keeps_75 : decode cX5_keeps 75 = .ok (.getfield 52, 3) := by decide +kernel
theorem dX5_keeps_78 : decode cX5_keeps 78 = .ok (.iconst 1, 1) := by decide +kernel
theorem dX5_keeps_79 : decode cX5_keeps 79 = .ok (.iadd, 1) := by decide +kernel
theorem dX5_keeps_80 : decode cX5_keeps 80 = .ok (.putfield 52, 3) := by decide +kernel
theorem dX5_keeps_83 : decode cX5_keeps 83 = .ok (.return_, 1) := by decide +kernel
theorem dX5_isCountry_0 : decode cX5_isCountry 0 = .ok (.iload_n 1, 1) := by decide +kernel
theorem dX5_isCountry_1 : decode cX5_isCountry 1 = .ok (.iconst 0, 1) := by decide +kernel
theorem dX5_isCountry_2 : decode cX5_isCountry 2 = .ok (.aload_n 0, 1) := by decide +kernel
theorem dX5_isCountry_3 : decode cX5_isCountry 3 = .ok (.getfield 7, 3) := by decide +kernel
theorem dX5_isCountry_6 : decode cX5_isCountry 6 = .ok (.iconst 0, 1) := by decide +kernel
theorem dX5_isCountry_7 : decode cX5_isCountry 7 = .ok (.iaload, 1) := by decide +kernel
theorem dX5_isCountry_8 : decode cX5_isCountry 8 = .ok (.iconst 1, 1) := by decide +kernel
theorem dX5_isCountry_9 : decode cX5_isCountry 9 = .ok (.isub, 1) := by decide +kernel
theorem dX5_isCountry_10 : decode cX5_isCountry 10 = .ok (.invokestatic 59, 3) := by decide +kernel
theorem dX5_isCountry_13 : decode cX5_isCountry 13 = .ok (.ireturn, 1) := by decide +kernel
theorem dX5_isHue_0 : decode cX5_isHue 0 = .ok (.iload_n 0, 1) := by decide +kernel
theorem dX5_isHue_1 : decode cX5_isHue 1 = .ok (.iconst 0, 1) := by decide +kernel
theorem dX5_isHue_2 : decode cX5_isHue 2 = .ok (.iconst 4, 1) := by decide +kernel
theorem dX5_isHue_3 : decode cX5_isHue 3 = .ok (.invokestatic 59, 3) := by decide +kernel
theorem dX5_isHue_6 : decode cX5_isHue 6 = .ok (.ireturn, 1) := by decide +kernel
theorem dX5_of_0 : decode cX5_of 0 = .ok (.aload_n 0, 1) := by decide +kernel
theorem dX5_of_1 : decode cX5_of 1 = .ok (.getfield 7, 3) := by decide +kernel
theorem dX5_of_4 : decode cX5_of 4 = .ok (.iconst 1, 1) := by decide +kernel
theorem dX5_of_5 : decode cX5_of 5 = .ok (.iconst 4, 1) := by decide +kernel
theorem dX5_of_6 : decode cX5_of 6 = .ok (.iload_n 1, 1) := by decide +kernel
theorem dX5_of_7 : decode cX5_of 7 = .ok (.imul, 1) := by decide +kernel
theorem dX5_of_8 : decode cX5_of 8 = .ok (.iadd, 1) := by decide +kernel
theorem dX5_of_9 : decode cX5_of 9 = .ok (.iload_n 2, 1) := by decide +kernel
theorem dX5_of_10 : decode cX5_of 10 = .ok (.iadd, 1) := by decide +kernel
theorem dX5_of_11 : decode cX5_of 11 = .ok (.iaload, 1) := by decide +kernel
theorem dX5_of_12 : decode cX5_of 12 = .ok (.ireturn, 1) := by decide +kernel
theorem dX5_lays_0 : decode cX5_lays 0 = .ok (.aload_n 0, 1) := by decide +kernel
theorem dX5_lays_1 : decode cX5_lays 1 = .ok (.getfield 7, 3) := by decide +kernel
theorem dX5_lays_4 : decode cX5_lays 4 = .ok (.iconst 1, 1) := by decide +kernel
theorem dX5_lays_5 : decode cX5_lays 5 = .ok (.iconst 4, 1) := by decide +kernel
theorem dX5_lays_6 : decode cX5_lays 6 = .ok (.iload_n 1, 1) := by decide +kernel
theorem dX5_lays_7 : decode cX5_lays 7 = .ok (.imul, 1) := by decide +kernel
theorem dX5_lays_8 : decode cX5_lays 8 = .ok (.iadd, 1) := by decide +kernel
theorem dX5_lays_9 : decode cX5_lays 9 = .ok (.iload_n 2, 1) := by decide +kernel
theorem dX5_lays_10 : decode cX5_lays 10 = .ok (.iadd, 1) := by decide +kernel
theorem dX5_lays_11 : decode cX5_lays 11 = .ok (.iload_n 3, 1) := by decide +kernel
theorem dX5_lays_12 : decode cX5_lays 12 = .ok (.iastore, 1) := by decide +kernel
theorem dX5_lays_13 : decode cX5_lays 13 = .ok (.return_, 1) := by decide +kernel
theorem dX5_isPainted_0 : decode cX5_isPainted 0 = .ok (.aload_n 0, 1) := by decide +kernel
theorem dX5_isPainted_1 : decode cX5_isPainted 1 = .ok (.iload_n 1, 1) := by decide +kernel
theorem dX5_isPainted_2 : decode cX5_isPainted 2 = .ok (.iconst 1, 1) := by decide +kernel
theorem dX5_isPainted_3 : decode cX5_isPainted 3 = .ok (.invokevirtual 63, 3) := by decide +kernel
theorem dX5_isPainted_6 : decode cX5_isPainted 6 = .ok (.ifCond .lt 7, 3) := by decide +kernel
theorem dX5_isPainted_9 : decode cX5_isPainted 9 = .ok (.iconst 1, 1) := by decide +kernel
theorem dX5_isPainted_10 : decode cX5_isPainted 10 = .ok (.goto 4, 3) := by decide +kernel
theorem dX5_isPainted_13 : decode cX5_isPainted 13 = .ok (.iconst 0, 1) := by decide +kernel
theorem dX5_isPainted_14 : decode cX5_isPainted 14 = .ok (.ireturn, 1) := by decide +kernel
theorem dX5_touches_0 : decode cX5_touches 0 = .ok (.aload_n 0, 1) := by decide +kernel
theorem dX5_touches_1 : decode cX5_touches 1 = .ok (.getfield 7, 3) := by decide +kernel
theorem dX5_touches_4 : decode cX5_touches 4 = .ok (.bipush 29, 2) := by decide +kernel
theorem dX5_touches_6 : decode cX5_touches 6 = .ok (.iload_n 1, 1) := by decide +kernel
theorem dX5_touches_7 : decode cX5_touches 7 = .ok (.iadd, 1) := by decide +kernel
theorem dX5_touches_8 : decode cX5_touches 8 = .ok (.iaload, 1) := by decide +kernel
theorem dX5_touches_9 : decode cX5_touches 9 = .ok (.iload_n 2, 1) := by decide +kernel
theorem dX5_touches_10 : decode cX5_touches 10 = .ok (.ishr, 1) := by decide +kernel
theorem dX5_touches_11 : decode cX5_touches 11 = .ok (.iconst 1, 1) := by decide +kernel
theorem dX5_touches_12 : decode cX5_touches 12 = .ok (.iand, 1) := by decide +kernel
theorem dX5_touches_13 : decode cX5_touches 13 = .ok (.iconst 1, 1) := by decide +kernel
theorem dX5_touches_14 : decode cX5_touches 14 = .ok (.if_icmp .ne 7, 3) := by decide +kernel
theorem dX5_touches_17 : decode cX5_touches 17 = .ok (.iconst 1, 1) := by decide +kernel
theorem dX5_touches_18 : decode cX5_touches 18 = .ok (.goto 4, 3) := by decide +kernel
theorem dX5_touches_21 : decode cX5_touches 21 = .ok (.iconst 0, 1) := by decide +kernel
theorem dX5_touches_22 : decode cX5_touches 22 = .ok (.ireturn, 1) := by decide +kernel
theorem dX5_borders_0 : decode cX5_borders 0 = .ok (.iconst 0, 1) := by decide +kernel
theorem dX5_borders_1 : decode cX5_borders 1 = .ok (.istore_n 1, 1) := by decide +kernel
theorem dX5_borders_2 : decode cX5_borders 2 = .ok (.iconst 0, 1) := by decide +kernel
theorem dX5_borders_3 : decode cX5_borders 3 = .ok (.istore_n 2, 1) := by decide +kernel
theorem dX5_borders_4 : decode cX5_borders 4 = .ok (.iload_n 2, 1) := by decide +kernel
theorem dX5_borders_5 : decode cX5_borders 5 = .ok (.aload_n 0, 1) := by decide +kernel
theorem dX5_borders_6 : decode cX5_borders 6 = .ok (.getfield 7, 3) := by decide +kernel
theorem dX5_borders_9 : decode cX5_borders 9 = .ok (.iconst 0, 1) := by decide +kernel
theorem dX5_borders_10 : decode cX5_borders 10 = .ok (.iaload, 1) := by decide +kernel
theorem dX5_borders_11 : decode cX5_borders 11 = .ok (.if_icmp .ge 39, 3) := by decide +kernel
theorem dX5_borders_14 : decode cX5_borders 14 = .ok (.iconst 0, 1) := by decide +kernel
theorem dX5_borders_15 : decode cX5_borders 15 = .ok (.istore_n 3, 1) := by decide +kernel
theorem dX5_borders_16 : decode cX5_borders 16 = .ok (.iload_n 3, 1) := by decide +kernel
theorem dX5_borders_17 : decode cX5_borders 17 = .ok (.iload_n 2, 1) := by decide +kernel
theorem dX5_borders_18 : decode cX5_borders 18 = .ok (.if_icmp .ge 26, 3) := by decide +kernel
theorem dX5_borders_21 : decode cX5_borders 21 = .ok (.iload_n 1, 1) := by decide +kernel
theorem dX5_borders_22 : decode cX5_borders 22 = .ok (.aload_n 0, 1) := by decide +kernel
theorem dX5_borders_23 : decode cX5_borders 23 = .ok (.iload_n 2, 1) := by decide +kernel
theorem dX5_borders_24 : decode cX5_borders 24 = .ok (.iload_n 3, 1) := by decide +kernel
theorem dX5_borders_25 : decode cX5_borders 25 = .ok (.invokevirtual 67, 3) := by decide +kernel
theorem dX5_borders_28 : decode cX5_borders 28 = .ok (.ifCond .eq 7, 3) := by decide +kernel
theorem dX5_borders_31 : decode cX5_borders 31 = .ok (.iconst 1, 1) := by decide +kernel
theorem dX5_borders_32 : decode cX5_borders 32 = .ok (.goto 4, 3) := by decide +kernel
theorem dX5_borders_35 : decode cX5_borders 35 = .ok (.iconst 0, 1) := by decide +kernel
theorem dX5_borders_36 : decode cX5_borders 36 = .ok (.iadd, 1) := by decide +kernel
theorem dX5_borders_37 : decode cX5_borders 37 = .ok (.istore_n 1, 1) := by decide +kernel
theorem dX5_borders_38 : decode cX5_borders 38 = .ok (.iinc 3 1, 3) := by decide +kernel
theorem dX5_borders_41 : decode cX5_borders 41 = .ok (.goto (-25), 3) := by decide +kernel
theorem dX5_borders_44 : decode cX5_borders 44 = .ok (.iinc 2 1, 3) := by decide +kernel
theorem dX5_borders_47 : decode cX5_borders 47 = .ok (.goto (-43), 3) := by decide +kernel
theorem dX5_borders_50 : decode cX5_borders 50 = .ok (.iload_n 1, 1) := by decide +kernel
theorem dX5_borders_51 : decode cX5_borders 51 = .ok (.ireturn, 1) := by decide +kernel
theorem dX5_country_0 : decode cX5_country 0 = .ok (.aload_n 0, 1) := by decide +kernel
theorem dX5_country_1 : decode cX5_country 1 = .ok (.iload_n 1, 1) := by decide +kernel
theorem dX5_country_2 : decode cX5_country 2 = .ok (.iconst 1, 1) := by decide +kernel
theorem dX5_country_3 : decode cX5_country 3 = .ok (.bipush 9, 2) := by decide +kernel
theorem dX5_country_5 : decode cX5_country 5 = .ok (.invokestatic 59, 3) := by decide +kernel
theorem dX5_country_8 : decode cX5_country 8 = .ok (.ifCond .eq 7, 3) := by decide +kernel
theorem dX5_country_11 : decode cX5_country 11 = .ok (.iconst 0, 1) := by decide +kernel
theorem dX5_country_12 : decode cX5_country 12 = .ok (.goto 4, 3) := by decide +kernel
theorem dX5_country_15 : decode cX5_country 15 = .ok (.iconst 1, 1) := by decide +kernel
theorem dX5_country_16 : decode cX5_country 16 = .ok (.invokevirtual 71, 3) := by decide +kernel
theorem dX5_country_19 : decode cX5_country 19 = .ok (.ifCond .eq 5, 3) := by decide +kernel
theorem dX5_country_22 : decode cX5_country 22 = .ok (.iconst 0, 1) := by decide +kernel
theorem dX5_country_23 : decode cX5_country 23 = .ok (.ireturn, 1) := by decide +kernel
theorem dX5_country_24 : decode cX5_country 24 = .ok (.aload_n 0, 1) := by decide +kernel
theorem dX5_country_25 : decode cX5_country 25 = .ok (.getfield 7, 3) := by decide +kernel
theorem dX5_country_28 : decode cX5_country 28 = .ok (.iconst 0, 1) := by decide +kernel
theorem dX5_country_29 : decode cX5_country 29 = .ok (.iaload, 1) := by decide +kernel
theorem dX5_country_30 : decode cX5_country 30 = .ok (.bipush 7, 2) := by decide +kernel
theorem dX5_country_32 : decode cX5_country 32 = .ok (.if_icmp .ne 12, 3) := by decide +kernel
theorem dX5_country_35 : decode cX5_country 35 = .ok (.aload_n 0, 1) := by decide +kernel
theorem dX5_country_36 : decode cX5_country 36 = .ok (.iconst 2, 1) := by decide +kernel
theorem dX5_country_37 : decode cX5_country 37 = .ok (.iconst 1, 1) := by decide +kernel
theorem dX5_country_38 : decode cX5_country 38 = .ok (.bipush 7, 2) := by decide +kernel
theorem dX5_country_40 : decode cX5_country 40 = .ok (.invokevirtual 75, 3) := by decide +kernel
theorem dX5_country_43 : decode cX5_country 43 = .ok (.ireturn, 1) := by decide +kernel
theorem dX5_country_44 : decode cX5_country 44 = .ok (.aload_n 0, 1) := by decide +kernel
theorem dX5_country_45 : decode cX5_country 45 = .ok (.aload_n 0, 1) := by decide +kernel
theorem dX5_country_46 : decode cX5_country 46 = .ok (.getfield 7, 3) := by decide +kernel
theorem dX5_country_49 : decode cX5_country 49 = .ok (.invokevirtual 79, 3) := by decide +kernel
theorem dX5_country_52 : decode cX5_country 52 = .ok (.aload_n 0, 1) := by decide +kernel
theorem dX5_country_53 : decode cX5_country 53 = .ok (.getfield 7, 3) := by decide +kernel
theorem dX5_country_56 : decode cX5_country 56 = .ok (.iconst 0, 1) := by decide +kernel
theorem dX5_country_57 : decode cX5_country 57 = .ok (.iaload, 1) := by decide +kernel
theorem dX5_country_58 : decode cX5_country 58 = .ok (.istore_n 2, 1) := by decide +kernel
theorem dX5_country_59 : decode cX5_country 59 = .ok (.aload_n 0, 1) := by decide +kernel
theorem dX5_country_60 : decode cX5_country 60 = .ok (.getfield 7, 3) := by decide +kernel
theorem dX5_country_63 : decode cX5_country 63 = .ok (.iconst 0, 1) := by decide +kernel
theorem dX5_country_64 : decode cX5_country 64 = .ok (.dup2, 1) := by decide +kernel
theorem dX5_country_65 : decode cX5_country 65 = .ok (.iaload, 1) := by decide +kernel
theorem dX5_country_66 : decode cX5_country 66 = .ok (.iconst 1, 1) := by decide +kernel
theorem dX5_country_67 : decode cX5_country 67 = .ok (.iadd, 1) := by decide +kernel
theorem dX5_country_68 : decode cX5_country 68 = .ok (.iastore, 1) := by decide +kernel
theorem dX5_country_69 : decode cX5_country 69 = .ok (.aload_n 0, 1) := by decide +kernel
theorem dX5_country_70 : decode cX5_country 70 = .ok (.iload_n 2, 1) := by decide +kernel
theorem dX5_country_71 : decode cX5_country 71 = .ok (.iconst 0, 1) := by decide +kernel
theorem dX5_country_72 : decode cX5_country 72 = .ok (.iload_n 1, 1) := by decide +kernel
theorem dX5_country_73 : decode cX5_country 73 = .ok (.invokevirtual 83, 3) := by decide +kernel
theorem dX5_country_76 : decode cX5_country 76 = .ok (.aload_n 0, 1) := by decide +kernel
theorem dX5_country_77 : decode cX5_country 77 = .ok (.iload_n 2, 1) := by decide +kernel
theorem dX5_country_78 : decode cX5_country 78 = .ok (.iconst 1, 1) := by decide +kernel
theorem dX5_country_79 : decode cX5_country 79 = .ok (.iconst (-1), 1) := by decide +kernel
theorem dX5_country_80 : decode cX5_country 80 = .ok (.invokevirtual 83, 3) := by decide +kernel
theorem dX5_country_83 : decode cX5_country 83 = .ok (.aload_n 0, 1) := by decide +kernel
theorem dX5_country_84 : decode cX5_country 84 = .ok (.iload_n 2, 1) := by decide +kernel
theorem dX5_country_85 : decode cX5_country 85 = .ok (.iconst 2, 1) := by decide +kernel
theorem dX5_country_86 : decode cX5_country 86 = .ok (.iconst (-1), 1) := by decide +kernel
theorem dX5_country_87 : decode cX5_country 87 = .ok (.invokevirtual 83, 3) := by decide +kernel
theorem dX5_country_90 : decode cX5_country 90 = .ok (.aload_n 0, 1) := by decide +kernel
theorem dX5_country_91 : decode cX5_country 91 = .ok (.iload_n 2, 1) := by decide +kernel
theorem dX5_country_92 : decode cX5_country 92 = .ok (.iconst 3, 1) := by decide +kernel
theorem dX5_country_93 : decode cX5_country 93 = .ok (.iconst 0, 1) := by decide +kernel
theorem dX5_country_94 : decode cX5_country 94 = .ok (.invokevirtual 83, 3) := by decide +kernel
theorem dX5_country_97 : decode cX5_country 97 = .ok (.aload_n 0, 1) := by decide +kernel
theorem dX5_country_98 : decode cX5_country 98 = .ok (.getfield 7, 3) := by decide +kernel
theorem dX5_country_101 : decode cX5_country 101 = .ok (.bipush 29, 2) := by decide +kernel
theorem dX5_country_103 : decode cX5_country 103 = .ok (.iload_n 2, 1) := by decide +kernel
theorem dX5_country_104 : decode cX5_country 104 = .ok (.iadd, 1) := by decide +kernel
theorem dX5_country_105 : decode cX5_country 105 = .ok (.iconst 0, 1) := by decide +kernel
theorem dX5_country_106 : decode cX5_country 106 = .ok (.iastore, 1) := by decide +kernel
theorem dX5_country_107 : decode cX5_country 107 = .ok (.iload_n 2, 1) := by decide +kernel
theorem dX5_country_108 : decode cX5_country 108 = .ok (.ireturn, 1) := by decide +kernel
theorem dX5_border_0 : decode cX5_border 0 = .ok (.aload_n 0, 1) := by decide +kernel
theorem dX5_border_1 : decode cX5_border 1 = .ok (.aload_n 0, 1) := by decide +kernel
theorem dX5_border_2 : decode cX5_border 2 = .ok (.iload_n 1, 1) := by decide +kernel
theorem dX5_border_3 : decode cX5_border 3 = .ok (.invokevirtual 87, 3) := by decide +kernel
theorem dX5_border_6 : decode cX5_border 6 = .ok (.ifCond .eq 15, 3) := by decide +kernel
theorem dX5_border_9 : decode cX5_border 9 = .ok (.aload_n 0, 1) := by decide +kernel
theorem dX5_border_10 : decode cX5_border 10 = .ok (.iload_n 2, 1) := by decide +kernel
theorem dX5_border_11 : decode cX5_border 11 = .ok (.invokevirtual 87, 3) := by decide +kernel
theorem dX5_border_14 : decode cX5_border 14 = .ok (.ifCond .eq 7, 3) := by decide +kernel
theorem dX5_border_17 : decode cX5_border 17 = .ok (.iconst 0, 1) := by decide +kernel
theorem dX5_border_18 : decode cX5_border 18 = .ok (.goto 4, 3) := by decide +kernel
theorem dX5_border_21 : decode cX5_border 21 = .ok (.iconst 1, 1) := by decide +kernel
theorem dX5_border_22 : decode cX5_border 22 = .ok (.invokevirtual 71, 3) := by decide +kernel
theorem dX5_border_25 : decode cX5_border 25 = .ok (.ifCond .eq 5, 3) := by decide +kernel
theorem dX5_border_28 : decode cX5_border 28 = .ok (.iconst 0, 1) := by decide +kernel
theorem dX5_border_29 : decode cX5_border 29 = .ok (.ireturn, 1) := by decide +kernel
theorem dX5_border_30 : decode cX5_border 30 = .ok (.iload_n 1, 1) := by decide +kernel
theorem dX5_border_31 : decode cX5_border 31 = .ok (.iload_n 2, 1) := by decide +kernel
theorem dX5_border_32 : decode cX5_border 32 = .ok (.if_icmp .ne 11, 3) := by decide +kernel
theorem dX5_border_35 : decode cX5_border 35 = .ok (.aload_n 0, 1) := by decide +kernel
theorem dX5_border_36 : decode cX5_border 36 = .ok (.iconst 2, 1) := by decide +kernel
theorem dX5_border_37 : decode cX5_border 37 = .ok (.iconst 5, 1) := by decide +kernel
theorem dX5_border_38 : decode cX5_border 38 = .ok (.iload_n 1, 1) := by decide +kernel
theorem dX5_border_39 : decode cX5_border 39 = .ok (.invokevirtual 75, 3) := by decide +kernel
theorem dX5_border_42 : decode cX5_border 42 = .ok (.ireturn, 1) := by decide +kernel
theorem dX5_border_43 : decode cX5_border 43 = .ok (.aload_n 0, 1) := by decide +kernel
theorem dX5_border_44 : decode cX5_border 44 = .ok (.iload_n 1, 1) := by decide +kernel
theorem dX5_border_45 : decode cX5_border 45 = .ok (.iload_n 2, 1) := by decide +kernel
theorem dX5_border_46 : decode cX5_border 46 = .ok (.invokevirtual 67, 3) := by decide +kernel
theorem dX5_border_49 : decode cX5_border 49 = .ok (.ifCond .eq 12, 3) := by decide +kernel
theorem dX5_border_52 : decode cX5_border 52 = .ok (.aload_n 0, 1) := by decide +kernel
theorem dX5_border_53 : decode cX5_border 53 = .ok (.iconst 2, 1) := by decide +kernel
theorem dX5_border_54 : decode cX5_border 54 = .ok (.bipush 6, 2) := by decide +kernel
theorem dX5_border_56 : decode cX5_border 56 = .ok (.iload_n 2, 1) := by decide +kernel
theorem dX5_border_57 : decode cX5_border 57 = .ok (.invokevirtual 75, 3) := by decide +kernel
theorem dX5_border_60 : decode cX5_border 60 = .ok (.ireturn, 1) := by decide +kernel
theorem dX5_border_61 : decode cX5_border 61 = .ok (.aload_n 0, 1) := by decide +kernel
theorem dX5_border_62 : decode cX5_border 62 = .ok (.iload_n 1, 1) := by decide +kernel
theorem dX5_border_63 : decode cX5_border 63 = .ok (.invokevirtual 90, 3) := by decide +kernel
theorem dX5_border_66 : decode cX5_border 66 = .ok (.ifCond .eq 32, 3) := by decide +kernel
theorem dX5_border_69 : decode cX5_border 69 = .ok (.aload_n 0, 1) := by decide +kernel
theorem dX5_border_70 : decode cX5_border 70 = .ok (.iload_n 1, 1) := by decide +kernel
theorem dX5_border_71 : decode cX5_border 71 = .ok (.iconst 1, 1) := by decide +kernel
theorem dX5_border_72 : decode cX5_border 72 = .ok (.invokevirtual 63, 3) := by decide +kernel
theorem dX5_border_75 : decode cX5_border 75 = .ok (.aload_n 0, 1) := by decide +kernel
theorem dX5_border_76 : decode cX5_border 76 = .ok (.iload_n 2, 1) := by decide +kernel
theorem dX5_border_77 : decode cX5_border 77 = .ok (.iconst 1, 1) := by decide +kernel
theorem dX5_border_78 : decode cX5_border 78 = .ok (.invokevirtual 63, 3) := by decide +kernel
theorem dX5_border_81 : decode cX5_border 81 = .ok (.if_icmp .ne 17, 3) := by decide +kernel
theorem dX5_border_84 : decode cX5_border 84 = .ok (.aload_n 0, 1) := by decide +kernel
theorem dX5_border_85 : decode cX5_border 85 = .ok (.iconst 2, 1) := by decide +kernel
theorem dX5_border_86 : decode cX5_border 86 = .ok (.bipush 7, 2) := by decide +kernel
theorem dX5_border_88 : decode cX5_border 88 = .ok (.aload_n 0, 1) := by decide +kernel
theorem dX5_border_89 : decode cX5_border 89 = .ok (.iload_n 1, 1) := by decide +kernel
theorem dX5_border_90 : decode cX5_border 90 = .ok (.iconst 1, 1) := by decide +kernel
theorem dX5_border_91 : decode cX5_border 91 = .ok (.invokevirtual 63, 3) := by decide +kernel
theorem dX5_border_94 : decode cX5_border 94 = .ok (.invokevirtual 75, 3) := by decide +kernel
theorem dX5_border_97 : decode cX5_border 97 = .ok (.ireturn, 1) := by decide +kernel
theorem dX5_border_98 : decode cX5_border 98 = .ok (.aload_n 0, 1) := by decide +kernel
theorem dX5_border_99 : decode cX5_border 99 = .ok (.aload_n 0, 1) := by decide +kernel
theorem dX5_border_100 : decode cX5_border 100 = .ok (.getfield 7, 3) := by decide +kernel
theorem dX5_border_103 : decode cX5_border 103 = .ok (.invokevirtual 79, 3) := by decide +kernel
theorem dX5_border_106 : decode cX5_border 106 = .ok (.aload_n 0, 1) := by decide +kernel
theorem dX5_border_107 : decode cX5_border 107 = .ok (.getfield 7, 3) := by decide +kernel
theorem dX5_border_110 : decode cX5_border 110 = .ok (.bipush 29, 2) := by decide +kernel
theorem dX5_border_112 : decode cX5_border 112 = .ok (.iload_n 1, 1) := by decide +kernel
theorem dX5_border_113 : decode cX5_border 113 = .ok (.iadd, 1) := by decide +kernel
theorem dX5_border_114 : decode cX5_border 114 = .ok (.dup2, 1) := by decide +kernel
theorem dX5_border_115 : decode cX5_border 115 = .ok (.iaload, 1) := by decide +kernel
theorem dX5_border_116 : decode cX5_border 116 = .ok (.iconst 1, 1) := by decide +kernel
theorem dX5_border_117 : decode cX5_border 117 = .ok (.iload_n 2, 1) := by decide +kernel
theorem dX5_border_118 : decode cX5_border 118 = .ok (.ishl, 1) := by decide +kernel
theorem dX5_border_119 : decode cX5_border 119 = .ok (.ior, 1) := by decide +kernel
theorem dX5_border_120 : decode cX5_border 120 = .ok (.iastore, 1) := by decide +kernel
theorem dX5_border_121 : decode cX5_border 121 = .ok (.aload_n 0, 1) := by decide +kernel
theorem dX5_border_122 : decode cX5_border 122 = .ok (.getfield 7, 3) := by decide +kernel
theorem dX5_border_125 : decode cX5_border 125 = .ok (.bipush 29, 2) := by decide +kernel
theorem dX5_border_127 : decode cX5_border 127 = .ok (.iload_n 2, 1) := by decide +kernel
theorem dX5_border_128 : decode cX5_border 128 = .ok (.iadd, 1) := by decide +kernel
theorem dX5_border_129 : decode cX5_border 129 = .ok (.dup2, 1) := by decide +kernel
theorem dX5_border_130 : decode cX5_border 130 = .ok (.iaload, 1) := by decide +kernel
theorem dX5_border_131 : decode cX5_border 131 = .ok (.iconst 1, 1) := by decide +kernel
theorem dX5_border_132 : decode cX5_border 132 = .ok (.iload_n 1, 1) := by decide +kernel
theorem dX5_border_133 : decode cX5_border 133 = .ok (.ishl, 1) := by decide +kernel
theorem dX5_border_134 : decode cX5_border 134 = .ok (.ior, 1) := by decide +kernel
theorem dX5_border_135 : decode cX5_border 135 = .ok (.iastore, 1) := by decide +kernel
theorem dX5_border_136 : decode cX5_border 136 = .ok (.aload_n 0, 1) := by decide +kernel
theorem dX5_border_137 : decode cX5_border 137 = .ok (.invokevirtual 93, 3) := by decide +kernel
theorem dX5_border_140 : decode cX5_border 140 = .ok (.ireturn, 1) := by decide +kernel
theorem dX5_erase_0 : decode cX5_erase 0 = .ok (.aload_n 0, 1) := by decide +kernel
theorem dX5_erase_1 : decode cX5_erase 1 = .ok (.aload_n 0, 1) := by decide +kernel
theorem dX5_erase_2 : decode cX5_erase 2 = .ok (.iload_n 1, 1) := by decide +kernel
theorem dX5_erase_3 : decode cX5_erase 3 = .ok (.invokevirtual 87, 3) := by decide +kernel
theorem dX5_erase_6 : decode cX5_erase 6 = .ok (.ifCond .eq 15, 3) := by decide +kernel
theorem dX5_erase_9 : decode cX5_erase 9 = .ok (.aload_n 0, 1) := by decide +kernel
theorem dX5_erase_10 : decode cX5_erase 10 = .ok (.iload_n 2, 1) := by decide +kernel
theorem dX5_erase_11 : decode cX5_erase 11 = .ok (.invokevirtual 87, 3) := by decide +kernel
theorem dX5_erase_14 : decode cX5_erase 14 = .ok (.ifCond .eq 7, 3) := by decide +kernel
theorem dX5_erase_17 : decode cX5_erase 17 = .ok (.iconst 0, 1) := by decide +kernel
theorem dX5_erase_18 : decode cX5_erase 18 = .ok (.goto 4, 3) := by decide +kernel
theorem dX5_erase_21 : decode cX5_erase 21 = .ok (.iconst 1, 1) := by decide +kernel
theorem dX5_erase_22 : decode cX5_erase 22 = .ok (.invokevirtual 71, 3) := by decide +kernel
theorem dX5_erase_25 : decode cX5_erase 25 = .ok (.ifCond .eq 5, 3) := by decide +kernel
theorem dX5_erase_28 : decode cX5_erase 28 = .ok (.iconst 0, 1) := by decide +kernel
theorem dX5_erase_29 : decode cX5_erase 29 = .ok (.ireturn, 1) := by decide +kernel
theorem dX5_erase_30 : decode cX5_erase 30 = .ok (.iload_n 1, 1) := by decide +kernel
theorem dX5_erase_31 : decode cX5_erase 31 = .ok (.iload_n 2, 1) := by decide +kernel
theorem dX5_erase_32 : decode cX5_erase 32 = .ok (.if_icmp .ne 11, 3) := by decide +kernel
theorem dX5_erase_35 : decode cX5_erase 35 = .ok (.aload_n 0, 1) := by decide +kernel
theorem dX5_erase_36 : decode cX5_erase 36 = .ok (.iconst 2, 1) := by decide +kernel
theorem dX5_erase_37 : decode cX5_erase 37 = .ok (.iconst 5, 1) := by decide +kernel
theorem dX5_erase_38 : decode cX5_erase 38 = .ok (.iload_n 1, 1) := by decide +kernel
theorem dX5_erase_39 : decode cX5_erase 39 = .ok (.invokevirtual 75, 3) := by decide +kernel
theorem dX5_erase_42 : decode cX5_erase 42 = .ok (.ireturn, 1) := by decide +kernel
theorem dX5_erase_43 : decode cX5_erase 43 = .ok (.aload_n 0, 1) := by decide +kernel
theorem dX5_erase_44 : decode cX5_erase 44 = .ok (.iload_n 1, 1) := by decide +kernel
theorem dX5_erase_45 : decode cX5_erase 45 = .ok (.iload_n 2, 1) := by decide +kernel
theorem dX5_erase_46 : decode cX5_erase 46 = .ok (.invokevirtual 67, 3) := by decide +kernel
theorem dX5_erase_49 : decode cX5_erase 49 = .ok (.ifCond .ne 12, 3) := by decide +kernel
theorem dX5_erase_52 : decode cX5_erase 52 = .ok (.aload_n 0, 1) := by decide +kernel
theorem dX5_erase_53 : decode cX5_erase 53 = .ok (.iconst 2, 1) := by decide +kernel
theorem dX5_erase_54 : decode cX5_erase 54 = .ok (.bipush 6, 2) := by decide +kernel
theorem dX5_erase_56 : decode cX5_erase 56 = .ok (.iload_n 2, 1) := by decide +kernel
theorem dX5_erase_57 : decode cX5_erase 57 = .ok (.invokevirtual 75, 3) := by decide +kernel
theorem dX5_erase_60 : decode cX5_erase 60 = .ok (.ireturn, 1) := by decide +kernel
theorem dX5_erase_61 : decode cX5_erase 61 = .ok (.aload_n 0, 1) := by decide +kernel
theorem dX5_erase_62 : decode cX5_erase 62 = .ok (.aload_n 0, 1) := by decide +kernel
theorem dX5_erase_63 : decode cX5_erase 63 = .ok (.getfield 7, 3) := by decide +kernel
theorem dX5_erase_66 : decode cX5_erase 66 = .ok (.invokevirtual 79, 3) := by decide +kernel
theorem dX5_erase_69 : decode cX5_erase 69 = .ok (.aload_n 0, 1) := by decide +kernel
theorem dX5_erase_70 : decode cX5_erase 70 = .ok (.getfield 7, 3) := by decide +kernel
theorem dX5_erase_73 : decode cX5_erase 73 = .ok (.bipush 29, 2) := by decide +kernel
theorem dX5_erase_75 : decode cX5_erase 75 = .ok (.iload_n 1, 1) := by decide +kernel
theorem dX5_erase_76 : decode cX5_erase 76 = .ok (.iadd, 1) := by decide +kernel
theorem dX5_erase_77 : decode cX5_erase 77 = .ok (.dup2, 1) := by decide +kernel
theorem dX5_erase_78 : decode cX5_erase 78 = .ok (.iaload, 1) := by decide +kernel
theorem dX5_erase_79 : decode cX5_erase 79 = .ok (.iconst 1, 1) := by decide +kernel
theorem dX5_erase_80 : decode cX5_erase 80 = .ok (.iload_n 2, 1) := by decide +kernel
theorem dX5_erase_81 : decode cX5_erase 81 = .ok (.ishl, 1) := by decide +kernel
theorem dX5_erase_82 : decode cX5_erase 82 = .ok (.iconst (-1), 1) := by decide +kernel
theorem dX5_erase_83 : decode cX5_erase 83 = .ok (.ixor, 1) := by decide +kernel
theorem dX5_erase_84 : decode cX5_erase 84 = .ok (.iand, 1) := by decide +kernel
theorem dX5_erase_85 : decode cX5_erase 85 = .ok (.iastore, 1) := by decide +kernel
theorem dX5_erase_86 : decode cX5_erase 86 = .ok (.aload_n 0, 1) := by decide +kernel
theorem dX5_erase_87 : decode cX5_erase 87 = .ok (.getfield 7, 3) := by decide +kernel
theorem dX5_erase_90 : decode cX5_erase 90 = .ok (.bipush 29, 2) := by decide +kernel
theorem dX5_erase_92 : decode cX5_erase 92 = .ok (.iload_n 2, 1) := by decide +kernel
theorem dX5_erase_93 : decode cX5_erase 93 = .ok (.iadd, 1) := by decide +kernel
theorem dX5_erase_94 : decode cX5_erase 94 = .ok (.dup2, 1) := by decide +kernel
theorem dX5_erase_95 : decode cX5_erase 95 = .ok (.iaload, 1) := by decide +kernel
theorem dX5_erase_96 : decode cX5_erase 96 = .ok (.iconst 1, 1) := by decide +kernel
theorem dX5_erase_97 : decode cX5_erase 97 = .ok (.iload_n 1, 1) := by decide +kernel
theorem dX5_erase_98 : decode cX5_erase 98 = .ok (.ishl, 1) := by decide +kernel
theorem dX5_erase_99 : decode cX5_erase 99 = .ok (.iconst (-1), 1) := by decide +kernel
theorem dX5_erase_100 : decode cX5_erase 100 = .ok (.ixor, 1) := by decide +kernel
theorem dX5_erase_101 : decode cX5_erase 101 = .ok (.iand, 1) := by decide +kernel
theorem dX5_erase_102 : decode cX5_erase 102 = .ok (.iastore, 1) := by decide +kernel
theorem dX5_erase_103 : decode cX5_erase 103 = .ok (.aload_n 0, 1) := by decide +kernel
theorem dX5_erase_104 : decode cX5_erase 104 = .ok (.invokevirtual 93, 3) := by decide +kernel
theorem dX5_erase_107 : decode cX5_erase 107 = .ok (.ireturn, 1) := by decide +kernel
theorem dX5_hasBorder_0 : decode cX5_hasBorder 0 = .ok (.aload_n 0, 1) := by decide +kernel
theorem dX5_hasBorder_1 : decode cX5_hasBorder 1 = .ok (.aload_n 0, 1) := by decide +kernel
theorem dX5_hasBorder_2 : decode cX5_hasBorder 2 = .ok (.iload_n 1, 1) := by decide +kernel
theorem dX5_hasBorder_3 : decode cX5_hasBorder 3 = .ok (.invokevirtual 87, 3) := by decide +kernel
theorem dX5_hasBorder_6 : decode cX5_hasBorder 6 = .ok (.ifCond .eq 15, 3) := by decide +kernel
theorem dX5_hasBorder_9 : decode cX5_hasBorder 9 = .ok (.aload_n 0, 1) := by decide +kernel
theorem dX5_hasBorder_10 : decode cX5_hasBorder 10 = .ok (.iload_n 2, 1) := by decide +kernel
theorem dX5_hasBorder_11 : decode cX5_hasBorder 11 = .ok (.invokevirtual 87, 3) := by decide +kernel
theorem dX5_hasBorder_14 : decode cX5_hasBorder 14 = .ok (.ifCond .eq 7, 3) := by decide +kernel
theorem dX5_hasBorder_17 : decode cX5_hasBorder 17 = .ok (.iconst 0, 1) := by decide +kernel
theorem dX5_hasBorder_18 : decode cX5_hasBorder 18 = .ok (.goto 4, 3) := by decide +kernel
theorem dX5_hasBorder_21 : decode cX5_hasBorder 21 = .ok (.iconst 1, 1) := by decide +kernel
theorem dX5_hasBorder_22 : decode cX5_hasBorder 22 = .ok (.invokevirtual 71, 3) := by decide +kernel
theorem dX5_hasBorder_25 : decode cX5_hasBorder 25 = .ok (.ifCond .ne 16, 3) := by decide +kernel
theorem dX5_hasBorder_28 : decode cX5_hasBorder 28 = .ok (.aload_n 0, 1) := by decide +kernel
theorem dX5_hasBorder_29 : decode cX5_hasBorder 29 = .ok (.iload_n 1, 1) := by decide +kernel
theorem dX5_hasBorder_30 : decode cX5_hasBorder 30 = .ok (.iload_n 2, 1) := by decide +kernel
theorem dX5_hasBorder_31 : decode cX5_hasBorder 31 = .ok (.invokevirtual 67, 3) := by decide +kernel
theorem dX5_hasBorder_34 : decode cX5_hasBorder 34 = .ok (.ifCond .eq 7, 3) := by decide +kernel
theorem dX5_hasBorder_37 : decode cX5_hasBorder 37 = .ok (.iconst 1, 1) := by decide +kernel
theorem dX5_hasBorder_38 : decode cX5_hasBorder 38 = .ok (.goto 4, 3) := by decide +kernel
theorem dX5_hasBorder_41 : decode cX5_hasBorder 41 = .ok (.iconst 0, 1) := by decide +kernel
theorem dX5_hasBorder_42 : decode cX5_hasBorder 42 = .ok (.ireturn, 1) := by decide +kernel
theorem dX5_neighbourIn_0 : decode cX5_neighbourIn 0 = .ok (.iconst 0, 1) := by decide +kernel
theorem dX5_neighbourIn_1 : decode cX5_neighbourIn 1 = .ok (.istore_n 3, 1) := by decide +kernel
theorem dX5_neighbourIn_2 : decode cX5_neighbourIn 2 = .ok (.iload_n 3, 1) := by decide +kernel
theorem dX5_neighbourIn_3 : decode cX5_neighbourIn 3 = .ok (.aload_n 0, 1) := by decide +kernel
theorem dX5_neighbourIn_4 : decode cX5_neighbourIn 4 = .ok (.getfield 7, 3) := by decide +kernel
theorem dX5_neighbourIn_7 : decode cX5_neighbourIn 7 = .ok (.iconst 0, 1) := by decide +kernel
theorem dX5_neighbourIn_8 : decode cX5_neighbourIn 8 = .ok (.iaload, 1) := by decide +kernel
theorem dX5_neighbourIn_9 : decode cX5_neighbourIn 9 = .ok (.if_icmp .ge 30, 3) := by decide +kernel
theorem dX5_neighbourIn_12 : decode cX5_neighbourIn 12 = .ok (.aload_n 0, 1) := by decide +kernel
theorem dX5_neighbourIn_13 : decode cX5_neighbourIn 13 = .ok (.iload_n 1, 1) := by decide +kernel
theorem dX5_neighbourIn_14 : decode cX5_neighbourIn 14 = .ok (.iload_n 3, 1) := by decide +kernel
theorem dX5_neighbourIn_15 : decode cX5_neighbourIn 15 = .ok (.invokevirtual 67, 3) := by decide +kernel
theorem dX5_neighbourIn_18 : decode cX5_neighbourIn 18 = .ok (.ifCond .eq 15, 3) := by decide +kernel
theorem dX5_neighbourIn_21 : decode cX5_neighbourIn 21 = .ok (.aload_n 0, 1) := by decide +kernel
theorem dX5_neighbourIn_22 : decode cX5_neighbourIn 22 = .ok (.iload_n 3, 1) := by decide +kernel
theorem dX5_neighbourIn_23 : decode cX5_neighbourIn 23 = .ok (.iconst 1, 1) := by decide +kernel
theorem dX5_neighbourIn_24 : decode cX5_neighbourIn 24 = .ok (.invokevirtual 63, 3) := by decide +kernel
theorem dX5_neighbourIn_27 : decode cX5_neighbourIn 27 = .ok (.iload_n 2, 1) := by decide +kernel
theorem dX5_neighbourIn_28 : decode cX5_neighbourIn 28 = .ok (.if_icmp .ne 5, 3) := by decide +kernel
theorem dX5_neighbourIn_31 : decode cX5_neighbourIn 31 = .ok (.iload_n 3, 1) := by decide +kernel
theorem dX5_neighbourIn_32 : decode cX5_neighbourIn 32 = .ok (.ireturn, 1) := by decide +kernel
theorem dX5_neighbourIn_33 : decode cX5_neighbourIn 33 = .ok (.iinc 3 1, 3) := by decide +kernel
theorem dX5_neighbourIn_36 : decode cX5_neighbourIn 36 = .ok (.goto (-34), 3) := by decide +kernel
theorem dX5_neighbourIn_39 : decode cX5_neighbourIn 39 = .ok (.iconst (-1), 1) := by decide +kernel
theorem dX5_neighbourIn_40 : decode cX5_neighbourIn 40 = .ok (.ireturn, 1) := by decide +kernel
theorem dX5_isFree_0 : decode cX5_isFree 0 = .ok (.aload_n 0, 1) := by decide +kernel
theorem dX5_isFree_1 : decode cX5_isFree 1 = .ok (.iload_n 1, 1) := by decide +kernel
theorem dX5_isFree_2 : decode cX5_isFree 2 = .ok (.invokevirtual 90, 3) := by decide +kernel
theorem dX5_isFree_5 : decode cX5_isFree 5 = .ok (.ifCond .ne 45, 3) := by decide +kernel
theorem dX5_isFree_8 : decode cX5_isFree 8 = .ok (.iload_n 2, 1) := by decide +kernel
theorem dX5_isFree_9 : decode cX5_isFree 9 = .ok (.aload_n 0, 1) := by decide +kernel
theorem dX5_isFree_10 : decode cX5_isFree 10 = .ok (.getfield 7, 3) := by decide +kernel
theorem dX5_isFree_13 : decode cX5_isFree 13 = .ok (.bipush 36, 2) := by decide +kernel
theorem dX5_isFree_15 : decode cX5_isFree 15 = .ok (.iaload, 1) := by decide +kernel
theorem dX5_isFree_16 : decode cX5_isFree 16 = .ok (.if_icmp .ge 34, 3) := by decide +kernel
theorem dX5_isFree_19 : decode cX5_isFree 19 = .ok (.aload_n 0, 1) := by decide +kernel
theorem dX5_isFree_20 : decode cX5_isFree 20 = .ok (.iload_n 1, 1) := by decide +kernel
theorem dX5_isFree_21 : decode cX5_isFree 21 = .ok (.iload_n 2, 1) := by decide +kernel
theorem dX5_isFree_22 : decode cX5_isFree 22 = .ok (.invokevirtual 97, 3) := by decide +kernel
theorem dX5_isFree_25 : decode cX5_isFree 25 = .ok (.ifCond .ge 25, 3) := by decide +kernel
theorem dX5_isFree_28 : decode cX5_isFree 28 = .ok (.aload_n 0, 1) := by decide +kernel
theorem dX5_isFree_29 : decode cX5_isFree 29 = .ok (.getfield 7, 3) := by decide +kernel
theorem dX5_isFree_32 : decode cX5_isFree 32 = .ok (.bipush 37, 2) := by decide +kernel
theorem dX5_isFree_34 : decode cX5_isFree 34 = .ok (.iload_n 2, 1) := by decide +kernel
theorem dX5_isFree_35 : decode cX5_isFree 35 = .ok (.iadd, 1) := by decide +kernel
theorem dX5_isFree_36 : decode cX5_isFree 36 = .ok (.iaload, 1) := by decide +kernel
theorem dX5_isFree_37 : decode cX5_isFree 37 = .ok (.aload_n 0, 1) := by decide +kernel
theorem dX5_isFree_38 : decode cX5_isFree 38 = .ok (.iload_n 1, 1) := by decide +kernel
theorem dX5_isFree_39 : decode cX5_isFree 39 = .ok (.iconst 0, 1) := by decide +kernel
theorem dX5_isFree_40 : decode cX5_isFree 40 = .ok (.invokevirtual 63, 3) := by decide +kernel
theorem dX5_isFree_43 : decode cX5_isFree 43 = .ok (.if_icmp .lt 7, 3) := by decide +kernel
theorem dX5_isFree_46 : decode cX5_isFree 46 = .ok (.iconst 1, 1) := by decide +kernel
theorem dX5_isFree_47 : decode cX5_isFree 47 = .ok (.goto 4, 3) := by decide +kernel
theorem dX5_isFree_50 : decode cX5_isFree 50 = .ok (.iconst 0, 1) := by decide +kernel
theorem dX5_isFree_51 : decode cX5_isFree 51 = .ok (.ireturn, 1) := by decide +kernel
theorem dX5_freeMany_0 : decode cX5_freeMany 0 = .ok (.iconst 0, 1) := by decide +kernel
theorem dX5_freeMany_1 : decode cX5_freeMany 1 = .ok (.istore_n 2, 1) := by decide +kernel
theorem dX5_freeMany_2 : decode cX5_freeMany 2 = .ok (.iconst 0, 1) := by decide +kernel
theorem dX5_freeMany_3 : decode cX5_freeMany 3 = .ok (.istore_n 3, 1) := by decide +kernel
theorem dX5_freeMany_4 : decode cX5_freeMany 4 = .ok (.iload_n 3, 1) := by decide +kernel
theorem dX5_freeMany_5 : decode cX5_freeMany 5 = .ok (.iconst 5, 1) := by decide +kernel
theorem dX5_freeMany_6 : decode cX5_freeMany 6 = .ok (.if_icmp .ge 26, 3) := by decide +kernel
theorem dX5_freeMany_9 : decode cX5_freeMany 9 = .ok (.iload_n 2, 1) := by decide +kernel
theorem dX5_freeMany_10 : decode cX5_freeMany 10 = .ok (.aload_n 0, 1) := by decide +kernel
theorem dX5_freeMany_11 : decode cX5_freeMany 11 = .ok (.iload_n 1, 1) := by decide +kernel
theorem dX5_freeMany_12 : decode cX5_freeMany 12 = .ok (.iload_n 3, 1) := by decide +kernel
theorem dX5_freeMany_13 : decode cX5_freeMany 13 = .ok (.invokevirtual 100, 3) := by decide +kernel
theorem dX5_freeMany_16 : decode cX5_freeMany 16 = .ok (.ifCond .eq 7, 3) := by decide +kernel
theorem dX5_freeMany_19 : decode cX5_freeMany 19 = .ok (.iconst 1, 1) := by decide +kernel
theorem dX5_freeMany_20 : decode cX5_freeMany 20 = .ok (.goto 4, 3) := by decide +kernel
theorem dX5_freeMany_23 : decode cX5_freeMany 23 = .ok (.iconst 0, 1) := by decide +kernel
theorem dX5_freeMany_24 : decode cX5_freeMany 24 = .ok (.iadd, 1) := by decide +kernel
theorem dX5_freeMany_25 : decode cX5_freeMany 25 = .ok (.istore_n 2, 1) := by decide +kernel
theorem dX5_freeMany_26 : decode cX5_freeMany 26 = .ok (.iinc 3 1, 3) := by decide +kernel
theorem dX5_freeMany_29 : decode cX5_freeMany 29 = .ok (.goto (-25), 3) := by decide +kernel
theorem dX5_freeMany_32 : decode cX5_freeMany 32 = .ok (.iload_n 2, 1) := by decide +kernel
theorem dX5_freeMany_33 : decode cX5_freeMany 33 = .ok (.ireturn, 1) := by decide +kernel
theorem dX5_neighbours_0 : decode cX5_neighbours 0 = .ok (.iconst 0, 1) := by decide +kernel
theorem dX5_neighbours_1 : decode cX5_neighbours 1 = .ok (.istore_n 2, 1) := by decide +kernel
theorem dX5_neighbours_2 : decode cX5_neighbours 2 = .ok (.iconst 0, 1) := by decide +kernel
theorem dX5_neighbours_3 : decode cX5_neighbours 3 = .ok (.istore_n 3, 1) := by decide +kernel
theorem dX5_neighbours_4 : decode cX5_neighbours 4 = .ok (.iload_n 3, 1) := by decide +kernel
theorem dX5_neighbours_5 : decode cX5_neighbours 5 = .ok (.aload_n 0, 1) := by decide +kernel
theorem dX5_neighbours_6 : decode cX5_neighbours 6 = .ok (.getfield 7, 3) := by decide +kernel
theorem dX5_neighbours_9 : decode cX5_neighbours 9 = .ok (.iconst 0, 1) := by decide +kernel
theorem dX5_neighbours_10 : decode cX5_neighbours 10 = .ok (.iaload, 1) := by decide +kernel
theorem dX5_neighbours_11 : decode cX5_neighbours 11 = .ok (.if_icmp .ge 26, 3) := by decide +kernel
theorem dX5_neighbours_14 : decode cX5_neighbours 14 = .ok (.iload_n 2, 1) := by decide +kernel
theorem dX5_neighbours_15 : decode cX5_neighbours 15 = .ok (.aload_n 0, 1) := by decide +kernel
theorem dX5_neighbours_16 : decode cX5_neighbours 16 = .ok (.iload_n 1, 1) := by decide +kernel
theorem dX5_neighbours_17 : decode cX5_neighbours 17 = .ok (.iload_n 3, 1) := by decide +kernel
theorem dX5_neighbours_18 : decode cX5_neighbours 18 = .ok (.invokevirtual 67, 3) := by decide +kernel
theorem dX5_neighbours_21 : decode cX5_neighbours 21 = .ok (.ifCond .eq 7, 3) := by decide +kernel
theorem dX5_neighbours_24 : decode cX5_neighbours 24 = .ok (.iconst 1, 1) := by decide +kernel
theorem dX5_neighbours_25 : decode cX5_neighbours 25 = .ok (.goto 4, 3) := by decide +kernel
theorem dX5_neighbours_28 : decode cX5_neighbours 28 = .ok (.iconst 0, 1) := by decide +kernel
theorem dX5_neighbours_29 : decode cX5_neighbours 29 = .ok (.iadd, 1) := by decide +kernel
theorem dX5_neighbours_30 : decode cX5_neighbours 30 = .ok (.istore_n 2, 1) := by decide +kernel
theorem dX5_neighbours_31 : decode cX5_neighbours 31 = .ok (.iinc 3 1, 3) := by decide +kernel
theorem dX5_neighbours_34 : decode cX5_neighbours 34 = .ok (.goto (-30), 3) := by decide +kernel
theorem dX5_neighbours_37 : decode cX5_neighbours 37 = .ok (.iload_n 2, 1) := by decide +kernel
theorem dX5_neighbours_38 : decode cX5_neighbours 38 = .ok (.ireturn, 1) := by decide +kernel
theorem dX5_placeOf_0 : decode cX5_placeOf 0 = .ok (.iconst 0, 1) := by decide +kernel
theorem dX5_placeOf_1 : decode cX5_placeOf 1 = .ok (.istore_n 2, 1) := by decide +kernel
theorem dX5_placeOf_2 : decode cX5_placeOf 2 = .ok (.iload_n 2, 1) := by decide +kernel
theorem dX5_placeOf_3 : decode cX5_placeOf 3 = .ok (.aload_n 0, 1) := by decide +kernel
theorem dX5_placeOf_4 : decode cX5_placeOf 4 = .ok (.getfield 7, 3) := by decide +kernel
theorem dX5_placeOf_7 : decode cX5_placeOf 7 = .ok (.bipush 47, 2) := by decide +kernel
theorem dX5_placeOf_9 : decode cX5_placeOf 9 = .ok (.iaload, 1) := by decide +kernel
theorem dX5_placeOf_10 : decode cX5_placeOf 10 = .ok (.if_icmp .ge 24, 3) := by decide +kernel
theorem dX5_placeOf_13 : decode cX5_placeOf 13 = .ok (.aload_n 0, 1) := by decide +kernel
theorem dX5_placeOf_14 : decode cX5_placeOf 14 = .ok (.getfield 7, 3) := by decide +kernel
theorem dX5_placeOf_17 : decode cX5_placeOf 17 = .ok (.bipush 48, 2) := by decide +kernel
theorem dX5_placeOf_19 : decode cX5_placeOf 19 = .ok (.iload_n 2, 1) := by decide +kernel
theorem dX5_placeOf_20 : decode cX5_placeOf 20 = .ok (.iadd, 1) := by decide +kernel
theorem dX5_placeOf_21 : decode cX5_placeOf 21 = .ok (.iaload, 1) := by decide +kernel
theorem dX5_placeOf_22 : decode cX5_placeOf 22 = .ok (.iload_n 1, 1) := by decide +kernel
theorem dX5_placeOf_23 : decode cX5_placeOf 23 = .ok (.if_icmp .ne 5, 3) := by decide +kernel
theorem dX5_placeOf_26 : decode cX5_placeOf 26 = .ok (.iload_n 2, 1) := by decide +kernel
theorem dX5_placeOf_27 : decode cX5_placeOf 27 = .ok (.ireturn, 1) := by decide +kernel
theorem dX5_placeOf_28 : decode cX5_placeOf 28 = .ok (.iinc 2 1, 3) := by decide +kernel
theorem dX5_placeOf_31 : decode cX5_placeOf 31 = .ok (.goto (-29), 3) := by decide +kernel
theorem dX5_placeOf_34 : decode cX5_placeOf 34 = .ok (.iconst (-1), 1) := by decide +kernel
theorem dX5_placeOf_35 : decode cX5_placeOf 35 = .ok (.ireturn, 1) := by decide +kernel
theorem dX5_countryOf_0 : decode cX5_countryOf 0 = .ok (.aload_n 0, 1) := by decide +kernel
theorem dX5_countryOf_1 : decode cX5_countryOf 1 = .ok (.aload_n 0, 1) := by decide +kernel
theorem dX5_countryOf_2 : decode cX5_countryOf 2 = .ok (.iload_n 1, 1) := by decide +kernel
theorem dX5_countryOf_3 : decode cX5_countryOf 3 = .ok (.invokevirtual 87, 3) := by decide +kernel
theorem dX5_countryOf_6 : decode cX5_countryOf 6 = .ok (.ifCond .ne 7, 3) := by decide +kernel
theorem dX5_countryOf_9 : decode cX5_countryOf 9 = .ok (.iconst 1, 1) := by decide +kernel
theorem dX5_countryOf_10 : decode cX5_countryOf 10 = .ok (.goto 18, 3) := by decide +kernel
theorem dX5_countryOf_13 : decode cX5_countryOf 13 = .ok (.iload_n 2, 1) := by decide +kernel
theorem dX5_countryOf_14 : decode cX5_countryOf 14 = .ok (.iconst 0, 1) := by decide +kernel
theorem dX5_countryOf_15 : decode cX5_countryOf 15 = .ok (.bipush 6, 2) := by decide +kernel
theorem dX5_countryOf_17 : decode cX5_countryOf 17 = .ok (.invokestatic 59, 3) := by decide +kernel
theorem dX5_countryOf_20 : decode cX5_countryOf 20 = .ok (.ifCond .eq 7, 3) := by decide +kernel
theorem dX5_countryOf_23 : decode cX5_countryOf 23 = .ok (.iconst 0, 1) := by decide +kernel
theorem dX5_countryOf_24 : decode cX5_countryOf 24 = .ok (.goto 4, 3) := by decide +kernel
theorem dX5_countryOf_27 : decode cX5_countryOf 27 = .ok (.iconst 2, 1) := by decide +kernel
theorem dX5_countryOf_28 : decode cX5_countryOf 28 = .ok (.invokevirtual 71, 3) := by decide +kernel
theorem dX5_countryOf_31 : decode cX5_countryOf 31 = .ok (.ifCond .eq 5, 3) := by decide +kernel
theorem dX5_countryOf_34 : decode cX5_countryOf 34 = .ok (.iconst 0, 1) := by decide +kernel
theorem dX5_countryOf_35 : decode cX5_countryOf 35 = .ok (.ireturn, 1) := by decide +kernel
theorem dX5_countryOf_36 : decode cX5_countryOf 36 = .ok (.iload_n 2, 1) := by decide +kernel
theorem dX5_countryOf_37 : decode cX5_countryOf 37 = .ok (.tableswitch 67 2 6 #[35, 41, 47, 54, 61], 35) := by decide +kernel
theorem dX5_countryOf_72 : decode cX5_countryOf 72 = .ok (.aload_n 0, 1) := by decide +kernel
theorem dX5_countryOf_73 : decode cX5_countryOf 73 = .ok (.iload_n 1, 1) := by decide +kernel
theorem dX5_countryOf_74 : decode cX5_countryOf 74 = .ok (.invokevirtual 103, 3) := by decide +kernel
theorem dX5_countryOf_77 : decode cX5_countryOf 77 = .ok (.ireturn, 1) := by decide +kernel
theorem dX5_countryOf_78 : decode cX5_countryOf 78 = .ok (.aload_n 0, 1) := by decide +kernel
theorem dX5_countryOf_79 : decode cX5_countryOf 79 = .ok (.iload_n 1, 1) := by decide +kernel
theorem dX5_countryOf_80 : decode cX5_countryOf 80 = .ok (.invokevirtual 107, 3) := by decide +kernel
theorem dX5_countryOf_83 : decode cX5_countryOf 83 = .ok (.ireturn, 1) := by decide +kernel
theorem dX5_countryOf_84 : decode cX5_countryOf 84 = .ok (.aload_n 0, 1) := by decide +kernel
theorem dX5_countryOf_85 : decode cX5_countryOf 85 = .ok (.iload_n 1, 1) := by decide +kernel
theorem dX5_countryOf_86 : decode cX5_countryOf 86 = .ok (.iconst 2, 1) := by decide +kernel
theorem dX5_countryOf_87 : decode cX5_countryOf 87 = .ok (.invokevirtual 63, 3) := by decide +kernel
theorem dX5_countryOf_90 : decode cX5_countryOf 90 = .ok (.ireturn, 1) := by decide +kernel
theorem dX5_countryOf_91 : decode cX5_countryOf 91 = .ok (.aload_n 0, 1) := by decide +kernel
theorem dX5_countryOf_92 : decode cX5_countryOf 92 = .ok (.iload_n 1, 1) := by decide +kernel
theorem dX5_countryOf_93 : decode cX5_countryOf 93 = .ok (.iconst 3, 1) := by decide +kernel
theorem dX5_countryOf_94 : decode cX5_countryOf 94 = .ok (.invokevirtual 63, 3) := by decide +kernel
theorem dX5_countryOf_97 : decode cX5_countryOf 97 = .ok (.ireturn, 1) := by decide +kernel
theorem dX5_countryOf_98 : decode cX5_countryOf 98 = .ok (.aload_n 0, 1) := by decide +kernel
theorem dX5_countryOf_99 : decode cX5_countryOf 99 = .ok (.iload_n 1, 1) := by decide +kernel
theorem dX5_countryOf_100 : decode cX5_countryOf 100 = .ok (.invokevirtual 110, 3) := by decide +kernel
theorem dX5_countryOf_103 : decode cX5_countryOf 103 = .ok (.ireturn, 1) := by decide +kernel
theorem dX5_countryOf_104 : decode cX5_countryOf 104 = .ok (.aload_n 0, 1) := by decide +kernel
theorem dX5_countryOf_105 : decode cX5_countryOf 105 = .ok (.iload_n 1, 1) := by decide +kernel
theorem dX5_countryOf_106 : decode cX5_countryOf 106 = .ok (.iload_n 2, 1) := by decide +kernel
theorem dX5_countryOf_107 : decode cX5_countryOf 107 = .ok (.invokevirtual 63, 3) := by decide +kernel
theorem dX5_countryOf_110 : decode cX5_countryOf 110 = .ok (.ireturn, 1) := by decide +kernel
theorem dX5_hues_0 : decode cX5_hues 0 = .ok (.aload_n 0, 1) := by decide +kernel
theorem dX5_hues_1 : decode cX5_hues 1 = .ok (.iload_n 1, 1) := by decide +kernel
theorem dX5_hues_2 : decode cX5_hues 2 = .ok (.iconst 1, 1) := by decide +kernel
theorem dX5_hues_3 : decode cX5_hues 3 = .ok (.iconst 5, 1) := by decide +kernel
theorem dX5_hues_4 : decode cX5_hues 4 = .ok (.invokestatic 59, 3) := by decide +kernel
theorem dX5_hues_7 : decode cX5_hues 7 = .ok (.ifCond .eq 7, 3) := by decide +kernel
theorem dX5_hues_10 : decode cX5_hues 10 = .ok (.iconst 0, 1) := by decide +kernel
theorem dX5_hues_11 : decode cX5_hues 11 = .ok (.goto 4, 3) := by decide +kernel
theorem dX5_hues_14 : decode cX5_hues 14 = .ok (.iconst 1, 1) := by decide +kernel
theorem dX5_hues_15 : decode cX5_hues 15 = .ok (.invokevirtual 71, 3) := by decide +kernel
theorem dX5_hues_18 : decode cX5_hues 18 = .ok (.ifCond .eq 5, 3) := by decide +kernel
theorem dX5_hues_21 : decode cX5_hues 21 = .ok (.iconst 0, 1) := by decide +kernel
theorem dX5_hues_22 : decode cX5_hues 22 = .ok (.ireturn, 1) := by decide +kernel
theorem dX5_hues_23 : decode cX5_hues 23 = .ok (.iconst 0, 1) := by decide +kernel
theorem dX5_hues_24 : decode cX5_hues 24 = .ok (.istore_n 2, 1) := by decide +kernel
theorem dX5_hues_25 : decode cX5_hues 25 = .ok (.iload_n 2, 1) := by decide +kernel
theorem dX5_hues_26 : decode cX5_hues 26 = .ok (.aload_n 0, 1) := by decide +kernel
theorem dX5_hues_27 : decode cX5_hues 27 = .ok (.getfield 7, 3) := by decide +kernel
theorem dX5_hues_30 : decode cX5_hues 30 = .ok (.iconst 0, 1) := by decide +kernel
theorem dX5_hues_31 : decode cX5_hues 31 = .ok (.iaload, 1) := by decide +kernel
theorem dX5_hues_32 : decode cX5_hues 32 = .ok (.if_icmp .ge 28, 3) := by decide +kernel
theorem dX5_hues_35 : decode cX5_hues 35 = .ok (.aload_n 0, 1) := by decide +kernel
theorem dX5_hues_36 : decode cX5_hues 36 = .ok (.iload_n 2, 1) := by decide +kernel
theorem dX5_hues_37 : decode cX5_hues 37 = .ok (.iconst 1, 1) := by decide +kernel
theorem dX5_hues_38 : decode cX5_hues 38 = .ok (.invokevirtual 63, 3) := by decide +kernel
theorem dX5_hues_41 : decode cX5_hues 41 = .ok (.iload_n 1, 1) := by decide +kernel
theorem dX5_hues_42 : decode cX5_hues 42 = .ok (.if_icmp .lt 12, 3) := by decide +kernel
theorem dX5_hues_45 : decode cX5_hues 45 = .ok (.aload_n 0, 1) := by decide +kernel
theorem dX5_hues_46 : decode cX5_hues 46 = .ok (.iconst 2, 1) := by decide +kernel
theorem dX5_hues_47 : decode cX5_hues 47 = .ok (.bipush 9, 2) := by decide +kernel
theorem dX5_hues_49 : decode cX5_hues 49 = .ok (.iload_n 2, 1) := by decide +kernel
theorem dX5_hues_50 : decode cX5_hues 50 = .ok (.invokevirtual 75, 3) := by decide +kernel
theorem dX5_hues_53 : decode cX5_hues 53 = .ok (.ireturn, 1) := by decide +kernel
theorem dX5_hues_54 : decode cX5_hues 54 = .ok (.iinc 2 1, 3) := by decide +kernel
theorem dX5_hues_57 : decode cX5_hues 57 = .ok (.goto (-32), 3) := by decide +kernel
theorem dX5_hues_60 : decode cX5_hues 60 = .ok (.aload_n 0, 1) := by decide +kernel
theorem dX5_hues_61 : decode cX5_hues 61 = .ok (.aload_n 0, 1) := by decide +kernel
theorem dX5_hues_62 : decode cX5_hues 62 = .ok (.getfield 7, 3) := by decide +kernel
theorem dX5_hues_65 : decode cX5_hues 65 = .ok (.invokevirtual 79, 3) := by decide +kernel
theorem dX5_hues_68 : decode cX5_hues 68 = .ok (.aload_n 0, 1) := by decide +kernel
theorem dX5_hues_69 : decode cX5_hues 69 = .ok (.getfield 7, 3) := by decide +kernel
theorem dX5_hues_72 : decode cX5_hues 72 = .ok (.bipush 36, 2) := by decide +kernel
theorem dX5_hues_74 : decode cX5_hues 74 = .ok (.iaload, 1) := by decide +kernel
theorem dX5_hues_75 : decode cX5_hues 75 = .ok (.istore_n 2, 1) := by decide +kernel
theorem dX5_hues_76 : decode cX5_hues 76 = .ok (.aload_n 0, 1) := by decide +kernel
theorem dX5_hues_77 : decode cX5_hues 77 = .ok (.getfield 7, 3) := by decide +kernel
theorem dX5_hues_80 : decode cX5_hues 80 = .ok (.bipush 36, 2) := by decide +kernel
theorem dX5_hues_82 : decode cX5_hues 82 = .ok (.iload_n 1, 1) := by decide +kernel
theorem dX5_hues_83 : decode cX5_hues 83 = .ok (.iastore, 1) := by decide +kernel
theorem dX5_hues_84 : decode cX5_hues 84 = .ok (.iload_n 2, 1) := by decide +kernel
theorem dX5_hues_85 : decode cX5_hues 85 = .ok (.ireturn, 1) := by decide +kernel
theorem dX5_pots_0 : decode cX5_pots 0 = .ok (.aload_n 0, 1) := by decide +kernel
theorem dX5_pots_1 : decode cX5_pots 1 = .ok (.iload_n 1, 1) := by decide +kernel
theorem dX5_pots_2 : decode cX5_pots 2 = .ok (.invokestatic 113, 3) := by decide +kernel
theorem dX5_pots_5 : decode cX5_pots 5 = .ok (.ifCond .ne 7, 3) := by decide +kernel
theorem dX5_pots_8 : decode cX5_pots 8 = .ok (.iconst 1, 1) := by decide +kernel
theorem dX5_pots_9 : decode cX5_pots 9 = .ok (.goto 18, 3) := by decide +kernel
theorem dX5_pots_12 : decode cX5_pots 12 = .ok (.iload_n 2, 1) := by decide +kernel
theorem dX5_pots_13 : decode cX5_pots 13 = .ok (.iconst 1, 1) := by decide +kernel
theorem dX5_pots_14 : decode cX5_pots 14 = .ok (.bipush 50, 2) := by decide +kernel
theorem dX5_pots_16 : decode cX5_pots 16 = .ok (.invokestatic 59, 3) := by decide +kernel
theorem dX5_pots_19 : decode cX5_pots 19 = .ok (.ifCond .eq 7, 3) := by decide +kernel
theorem dX5_pots_22 : decode cX5_pots 22 = .ok (.iconst 0, 1) := by decide +kernel
theorem dX5_pots_23 : decode cX5_pots 23 = .ok (.goto 4, 3) := by decide +kernel
theorem dX5_pots_26 : decode cX5_pots 26 = .ok (.iconst 2, 1) := by decide +kernel
theorem dX5_pots_27 : decode cX5_pots 27 = .ok (.invokevirtual 71, 3) := by decide +kernel
theorem dX5_pots_30 : decode cX5_pots 30 = .ok (.ifCond .eq 5, 3) := by decide +kernel
theorem dX5_pots_33 : decode cX5_pots 33 = .ok (.iconst 0, 1) := by decide +kernel
theorem dX5_pots_34 : decode cX5_pots 34 = .ok (.ireturn, 1) := by decide +kernel
theorem dX5_pots_35 : decode cX5_pots 35 = .ok (.aload_n 0, 1) := by decide +kernel
theorem dX5_pots_36 : decode cX5_pots 36 = .ok (.aload_n 0, 1) := by decide +kernel
theorem dX5_pots_37 : decode cX5_pots 37 = .ok (.getfield 7, 3) := by decide +kernel
theorem dX5_pots_40 : decode cX5_pots 40 = .ok (.invokevirtual 79, 3) := by decide +kernel
theorem dX5_pots_43 : decode cX5_pots 43 = .ok (.aload_n 0, 1) := by decide +kernel
theorem dX5_pots_44 : decode cX5_pots 44 = .ok (.getfield 7, 3) := by decide +kernel
theorem dX5_pots_47 : decode cX5_pots 47 = .ok (.bipush 37, 2) := by decide +kernel
theorem dX5_pots_49 : decode cX5_pots 49 = .ok (.iload_n 1, 1) := by decide +kernel
theorem dX5_pots_50 : decode cX5_pots 50 = .ok (.iadd, 1) := by decide +kernel
theorem dX5_pots_51 : decode cX5_pots 51 = .ok (.bipush 99, 2) := by decide +kernel
theorem dX5_pots_53 : decode cX5_pots 53 = .ok (.aload_n 0, 1) := by decide +kernel
theorem dX5_pots_54 : decode cX5_pots 54 = .ok (.getfield 7, 3) := by decide +kernel
theorem dX5_pots_57 : decode cX5_pots 57 = .ok (.bipush 37, 2) := by decide +kernel
theorem dX5_pots_59 : decode cX5_pots 59 = .ok (.iload_n 1, 1) := by decide +kernel
theorem dX5_pots_60 : decode cX5_pots 60 = .ok (.iadd, 1) := by decide +kernel
theorem dX5_pots_61 : decode cX5_pots 61 = .ok (.iaload, 1) := by decide +kernel
theorem dX5_pots_62 : decode cX5_pots 62 = .ok (.iload_n 2, 1) := by decide +kernel
theorem dX5_pots_63 : decode cX5_pots 63 = .ok (.iadd, 1) := by decide +kernel
theorem dX5_pots_64 : decode cX5_pots 64 = .ok (.invokestatic 116, 3) := by decide +kernel
theorem dX5_pots_67 : decode cX5_pots 67 = .ok (.iastore, 1) := by decide +kernel
theorem dX5_pots_68 : decode cX5_pots 68 = .ok (.aload_n 0, 1) := by decide +kernel
theorem dX5_pots_69 : decode cX5_pots 69 = .ok (.getfield 7, 3) := by decide +kernel
theorem dX5_pots_72 : decode cX5_pots 72 = .ok (.bipush 37, 2) := by decide +kernel
theorem dX5_pots_74 : decode cX5_pots 74 = .ok (.iload_n 1, 1) := by decide +kernel
theorem dX5_pots_75 : decode cX5_pots 75 = .ok (.iadd, 1) := by decide +kernel
theorem dX5_pots_76 : decode cX5_pots 76 = .ok (.iaload, 1) := by decide +kernel
theorem dX5_pots_77 : decode cX5_pots 77 = .ok (.ireturn, 1) := by decide +kernel
theorem dX5_paintedIn_0 : decode cX5_paintedIn 0 = .ok (.iconst 0, 1) := by decide +kernel
theorem dX5_paintedIn_1 : decode cX5_paintedIn 1 = .ok (.istore_n 2, 1) := by decide +kernel
theorem dX5_paintedIn_2 : decode cX5_paintedIn 2 = .ok (.iconst 0, 1) := by decide +kernel
theorem dX5_paintedIn_3 : decode cX5_paintedIn 3 = .ok (.istore_n 3, 1) := by decide +kernel
theorem dX5_paintedIn_4 : decode cX5_paintedIn 4 = .ok (.iload_n 3, 1) := by decide +kernel
theorem dX5_paintedIn_5 : decode cX5_paintedIn 5 = .ok (.aload_n 0, 1) := by decide +kernel
theorem dX5_paintedIn_6 : decode cX5_paintedIn 6 = .ok (.getfield 7, 3) := by decide +kernel
theorem dX5_paintedIn_9 : decode cX5_paintedIn 9 = .ok (.iconst 0, 1) := by decide +kernel
theorem dX5_paintedIn_10 : decode cX5_paintedIn 10 = .ok (.iaload, 1) := by decide +kernel
theorem dX5_paintedIn_11 : decode cX5_paintedIn 11 = .ok (.if_icmp .ge 27, 3) := by decide +kernel
theorem dX5_paintedIn_14 : decode cX5_paintedIn 14 = .ok (.iload_n 2, 1) := by decide +kernel
theorem dX5_paintedIn_15 : decode cX5_paintedIn 15 = .ok (.aload_n 0, 1) := by decide +kernel
theorem dX5_paintedIn_16 : decode cX5_paintedIn 16 = .ok (.iload_n 3, 1) := by decide +kernel
theorem dX5_paintedIn_17 : decode cX5_paintedIn 17 = .ok (.iconst 1, 1) := by decide +kernel
theorem dX5_paintedIn_18 : decode cX5_paintedIn 18 = .ok (.invokevirtual 63, 3) := by decide +kernel
theorem dX5_paintedIn_21 : decode cX5_paintedIn 21 = .ok (.iload_n 1, 1) := by decide +kernel
theorem dX5_paintedIn_22 : decode cX5_paintedIn 22 = .ok (.if_icmp .ne 7, 3) := by decide +kernel
theorem dX5_paintedIn_25 : decode cX5_paintedIn 25 = .ok (.iconst 1, 1) := by decide +kernel
theorem dX5_paintedIn_26 : decode cX5_paintedIn 26 = .ok (.goto 4, 3) := by decide +kernel
theorem dX5_paintedIn_29 : decode cX5_paintedIn 29 = .ok (.iconst 0, 1) := by decide +kernel
theorem dX5_paintedIn_30 : decode cX5_paintedIn 30 = .ok (.iadd, 1) := by decide +kernel
theorem dX5_paintedIn_31 : decode cX5_paintedIn 31 = .ok (.istore_n 2, 1) := by decide +kernel
theorem dX5_paintedIn_32 : decode cX5_paintedIn 32 = .ok (.iinc 3 1, 3) := by decide +kernel
theorem dX5_paintedIn_35 : decode cX5_paintedIn 35 = .ok (.goto (-31), 3) := by decide +kernel
theorem dX5_paintedIn_38 : decode cX5_paintedIn 38 = .ok (.iload_n 2, 1) := by decide +kernel
theorem dX5_paintedIn_39 : decode cX5_paintedIn 39 = .ok (.ireturn, 1) := by decide +kernel
theorem dX5_hueOf_0 : decode cX5_hueOf 0 = .ok (.aload_n 0, 1) := by decide +kernel
theorem dX5_hueOf_1 : decode cX5_hueOf 1 = .ok (.iload_n 1, 1) := by decide +kernel
theorem dX5_hueOf_2 : decode cX5_hueOf 2 = .ok (.invokestatic 113, 3) := by decide +kernel
theorem dX5_hueOf_5 : decode cX5_hueOf 5 = .ok (.ifCond .ne 7, 3) := by decide +kernel
theorem dX5_hueOf_8 : decode cX5_hueOf 8 = .ok (.iconst 1, 1) := by decide +kernel
theorem dX5_hueOf_9 : decode cX5_hueOf 9 = .ok (.goto 17, 3) := by decide +kernel
theorem dX5_hueOf_12 : decode cX5_hueOf 12 = .ok (.iload_n 2, 1) := by decide +kernel
theorem dX5_hueOf_13 : decode cX5_hueOf 13 = .ok (.iconst 0, 1) := by decide +kernel
theorem dX5_hueOf_14 : decode cX5_hueOf 14 = .ok (.iconst 3, 1) := by decide +kernel
theorem dX5_hueOf_15 : decode cX5_hueOf 15 = .ok (.invokestatic 59, 3) := by decide +kernel
theorem dX5_hueOf_18 : decode cX5_hueOf 18 = .ok (.ifCond .eq 7, 3) := by decide +kernel
theorem dX5_hueOf_21 : decode cX5_hueOf 21 = .ok (.iconst 0, 1) := by decide +kernel
theorem dX5_hueOf_22 : decode cX5_hueOf 22 = .ok (.goto 4, 3) := by decide +kernel
theorem dX5_hueOf_25 : decode cX5_hueOf 25 = .ok (.iconst 2, 1) := by decide +kernel
theorem dX5_hueOf_26 : decode cX5_hueOf 26 = .ok (.invokevirtual 71, 3) := by decide +kernel
theorem dX5_hueOf_29 : decode cX5_hueOf 29 = .ok (.ifCond .eq 5, 3) := by decide +kernel
theorem dX5_hueOf_32 : decode cX5_hueOf 32 = .ok (.iconst 0, 1) := by decide +kernel
theorem dX5_hueOf_33 : decode cX5_hueOf 33 = .ok (.ireturn, 1) := by decide +kernel
theorem dX5_hueOf_34 : decode cX5_hueOf 34 = .ok (.iload_n 2, 1) := by decide +kernel
theorem dX5_hueOf_35 : decode cX5_hueOf 35 = .ok (.tableswitch 58 0 2 #[25, 35, 52], 25) := by decide +kernel
theorem dX5_hueOf_60 : decode cX5_hueOf 60 = .ok (.aload_n 0, 1) := by decide +kernel
theorem dX5_hueOf_61 : decode cX5_hueOf 61 = .ok (.getfield 7, 3) := by decide +kernel
theorem dX5_hueOf_64 : decode cX5_hueOf 64 = .ok (.bipush 37, 2) := by decide +kernel
theorem dX5_hueOf_66 : decode cX5_hueOf 66 = .ok (.iload_n 1, 1) := by decide +kernel
theorem dX5_hueOf_67 : decode cX5_hueOf 67 = .ok (.iadd, 1) := by decide +kernel
theorem dX5_hueOf_68 : decode cX5_hueOf 68 = .ok (.iaload, 1) := by decide +kernel
theorem dX5_hueOf_69 : decode cX5_hueOf 69 = .ok (.ireturn, 1) := by decide +kernel
theorem dX5_hueOf_70 : decode cX5_hueOf 70 = .ok (.iload_n 1, 1) := by decide +kernel
theorem dX5_hueOf_71 : decode cX5_hueOf 71 = .ok (.aload_n 0, 1) := by decide +kernel
theorem dX5_hueOf_72 : decode cX5_hueOf 72 = .ok (.getfield 7, 3) := by decide +kernel
theorem dX5_hueOf_75 : decode cX5_hueOf 75 = .ok (.bipush 36, 2) := by decide +kernel
theorem dX5_hueOf_77 : decode cX5_hueOf 77 = .ok (.iaload, 1) := by decide +kernel
theorem dX5_hueOf_78 : decode cX5_hueOf 78 = .ok (.if_icmp .ge 7, 3) := by decide +kernel
theorem dX5_hueOf_81 : decode cX5_hueOf 81 = .ok (.iconst 1, 1) := by decide +kernel
theorem dX5_hueOf_82 : decode cX5_hueOf 82 = .ok (.goto 4, 3) := by decide +kernel
theorem dX5_hueOf_85 : decode cX5_hueOf 85 = .ok (.iconst 0, 1) := by decide +kernel
theorem dX5_hueOf_86 : decode cX5_hueOf 86 = .ok (.ireturn, 1) := by decide +kernel
theorem dX5_hueOf_87 : decode cX5_hueOf 87 = .ok (.aload_n 0, 1) := by decide +kernel
theorem dX5_hueOf_88 : decode cX5_hueOf 88 = .ok (.iload_n 1, 1) := by decide +kernel
theorem dX5_hueOf_89 : decode cX5_hueOf 89 = .ok (.invokevirtual 119, 3) := by decide +kernel
theorem dX5_hueOf_92 : decode cX5_hueOf 92 = .ok (.ireturn, 1) := by decide +kernel
theorem dX5_hueOf_93 : decode cX5_hueOf 93 = .ok (.aload_n 0, 1) := by decide +kernel
theorem dX5_hueOf_94 : decode cX5_hueOf 94 = .ok (.getfield 7, 3) := by decide +kernel
theorem dX5_hueOf_97 : decode cX5_hueOf 97 = .ok (.bipush 42, 2) := by decide +kernel
theorem dX5_hueOf_99 : decode cX5_hueOf 99 = .ok (.iload_n 1, 1) := by decide +kernel
theorem dX5_hueOf_100 : decode cX5_hueOf 100 = .ok (.iadd, 1) := by decide +kernel
theorem dX5_hueOf_101 : decode cX5_hueOf 101 = .ok (.iaload, 1) := by decide +kernel
theorem dX5_hueOf_102 : decode cX5_hueOf 102 = .ok (.ireturn, 1) := by decide +kernel
theorem dX5_against_0 : decode cX5_against 0 = .ok (.aload_n 0, 1) := by decide +kernel
theorem dX5_against_1 : decode cX5_against 1 = .ok (.iload_n 1, 1) := by decide +kernel
theorem dX5_against_2 : decode cX5_against 2 = .ok (.invokevirtual 90, 3) := by decide +kernel
theorem dX5_against_5 : decode cX5_against 5 = .ok (.ifCond .eq 5, 3) := by decide +kernel
theorem dX5_against_8 : decode cX5_against 8 = .ok (.iconst 2, 1) := by decide +kernel
theorem dX5_against_9 : decode cX5_against 9 = .ok (.ireturn, 1) := by decide +kernel
theorem dX5_against_10 : decode cX5_against 10 = .ok (.iload_n 2, 1) := by decide +kernel
theorem dX5_against_11 : decode cX5_against 11 = .ok (.aload_n 0, 1) := by decide +kernel
theorem dX5_against_12 : decode cX5_against 12 = .ok (.getfield 7, 3) := by decide +kernel
theorem dX5_against_15 : decode cX5_against 15 = .ok (.bipush 36, 2) := by decide +kernel
theorem dX5_against_17 : decode cX5_against 17 = .ok (.iaload, 1) := by decide +kernel
theorem dX5_against_18 : decode cX5_against 18 = .ok (.if_icmp .lt 6, 3) := by decide +kernel
theorem dX5_against_21 : decode cX5_against 21 = .ok (.bipush 10, 2) := by decide +kernel
theorem dX5_against_23 : decode cX5_against 23 = .ok (.ireturn, 1) := by decide +kernel
theorem dX5_against_24 : decode cX5_against 24 = .ok (.aload_n 0, 1) := by decide +kernel
theorem dX5_against_25 : decode cX5_against 25 = .ok (.iload_n 1, 1) := by decide +kernel
theorem dX5_against_26 : decode cX5_against 26 = .ok (.iload_n 2, 1) := by decide +kernel
theorem dX5_against_27 : decode cX5_against 27 = .ok (.invokevirtual 97, 3) := by decide +kernel
theorem dX5_against_30 : decode cX5_against 30 = .ok (.ifCond .lt 5, 3) := by decide +kernel
theorem dX5_against_33 : decode cX5_against 33 = .ok (.iconst 3, 1) := by decide +kernel
theorem dX5_against_34 : decode cX5_against 34 = .ok (.ireturn, 1) := by decide +kernel
theorem dX5_against_35 : decode cX5_against 35 = .ok (.aload_n 0, 1) := by decide +kernel
theorem dX5_against_36 : decode cX5_against 36 = .ok (.getfield 7, 3) := by decide +kernel
theorem dX5_against_39 : decode cX5_against 39 = .ok (.bipush 37, 2) := by decide +kernel
theorem dX5_against_41 : decode cX5_against 41 = .ok (.iload_n 2, 1) := by decide +kernel
theorem dX5_against_42 : decode cX5_against 42 = .ok (.iadd, 1) := by decide +kernel
theorem dX5_against_43 : decode cX5_against 43 = .ok (.iaload, 1) := by decide +kernel
theorem dX5_against_44 : decode cX5_against 44 = .ok (.aload_n 0, 1) := by decide +kernel
theorem dX5_against_45 : decode cX5_against 45 = .ok (.iload_n 1, 1) := by decide +kernel
theorem dX5_against_46 : decode cX5_against 46 = .ok (.iconst 0, 1) := by decide +kernel
theorem dX5_against_47 : decode cX5_against 47 = .ok (.invokevirtual 63, 3) := by decide +kernel
theorem dX5_against_50 : decode cX5_against 50 = .ok (.if_icmp .ge 7, 3) := by decide +kernel
theorem dX5_against_53 : decode cX5_against 53 = .ok (.iconst 4, 1) := by decide +kernel
theorem dX5_against_54 : decode cX5_against 54 = .ok (.goto 4, 3) := by decide +kernel
theorem dX5_against_57 : decode cX5_against 57 = .ok (.iconst 0, 1) := by decide +kernel
theorem dX5_against_58 : decode cX5_against 58 = .ok (.ireturn, 1) := by decide +kernel
theorem dX5_paints_0 : decode cX5_paints 0 = .ok (.aload_n 0, 1) := by decide +kernel
theorem dX5_paints_1 : decode cX5_paints 1 = .ok (.iload_n 1, 1) := by decide +kernel
theorem dX5_paints_2 : decode cX5_paints 2 = .ok (.iconst 1, 1) := by decide +kernel
theorem dX5_paints_3 : decode cX5_paints 3 = .ok (.iload_n 2, 1) := by decide +kernel
theorem dX5_paints_4 : decode cX5_paints 4 = .ok (.invokevirtual 83, 3) := by decide +kernel
theorem dX5_paints_7 : decode cX5_paints 7 = .ok (.aload_n 0, 1) := by decide +kernel
theorem dX5_paints_8 : decode cX5_paints 8 = .ok (.getfield 7, 3) := by decide +kernel
theorem dX5_paints_11 : decode cX5_paints 11 = .ok (.bipush 37, 2) := by decide +kernel
theorem dX5_paints_13 : decode cX5_paints 13 = .ok (.iload_n 2, 1) := by decide +kernel
theorem dX5_paints_14 : decode cX5_paints 14 = .ok (.iadd, 1) := by decide +kernel
theorem dX5_paints_15 : decode cX5_paints 15 = .ok (.dup2, 1) := by decide +kernel
theorem dX5_paints_16 : decode cX5_paints 16 = .ok (.iaload, 1) := by decide +kernel
theorem dX5_paints_17 : decode cX5_paints 17 = .ok (.aload_n 0, 1) := by decide +kernel
theorem dX5_paints_18 : decode cX5_paints 18 = .ok (.iload_n 1, 1) := by decide +kernel
theorem dX5_paints_19 : decode cX5_paints 19 = .ok (.iconst 0, 1) := by decide +kernel
theorem dX5_paints_20 : decode cX5_paints 20 = .ok (.invokevirtual 63, 3) := by decide +kernel
theorem dX5_paints_23 : decode cX5_paints 23 = .ok (.isub, 1) := by decide +kernel
theorem dX5_paints_24 : decode cX5_paints 24 = .ok (.iastore, 1) := by decide +kernel
theorem dX5_paints_25 : decode cX5_paints 25 = .ok (.aload_n 0, 1) := by decide +kernel
theorem dX5_paints_26 : decode cX5_paints 26 = .ok (.getfield 7, 3) := by decide +kernel
theorem dX5_paints_29 : decode cX5_paints 29 = .ok (.bipush 42, 2) := by decide +kernel
theorem dX5_paints_31 : decode cX5_paints 31 = .ok (.iload_n 2, 1) := by decide +kernel
theorem dX5_paints_32 : decode cX5_paints 32 = .ok (.iadd, 1) := by decide +kernel
theorem dX5_paints_33 : decode cX5_paints 33 = .ok (.dup2, 1) := by decide +kernel
theorem dX5_paints_34 : decode cX5_paints 34 = .ok (.iaload, 1) := by decide +kernel
theorem dX5_paints_35 : decode cX5_paints 35 = .ok (.aload_n 0, 1) := by decide +kernel
theorem dX5_paints_36 : decode cX5_paints 36 = .ok (.iload_n 1, 1) := by decide +kernel
theorem dX5_paints_37 : decode cX5_paints 37 = .ok (.iconst 0, 1) := by decide +kernel
theorem dX5_paints_38 : decode cX5_paints 38 = .ok (.invokevirtual 63, 3) := by decide +kernel
theorem dX5_paints_41 : decode cX5_paints 41 = .ok (.iadd, 1) := by decide +kernel
theorem dX5_paints_42 : decode cX5_paints 42 = .ok (.iastore, 1) := by decide +kernel
theorem dX5_paints_43 : decode cX5_paints 43 = .ok (.aload_n 0, 1) := by decide +kernel
theorem dX5_paints_44 : decode cX5_paints 44 = .ok (.getfield 7, 3) := by decide +kernel
theorem dX5_paints_47 : decode cX5_paints 47 = .ok (.bipush 48, 2) := by decide +kernel
theorem dX5_paints_49 : decode cX5_paints 49 = .ok (.aload_n 0, 1) := by decide +kernel
theorem dX5_paints_50 : decode cX5_paints 50 = .ok (.getfield 7, 3) := by decide +kernel
theorem dX5_paints_53 : decode cX5_paints 53 = .ok (.bipush 47, 2) := by decide +kernel
theorem dX5_paints_55 : decode cX5_paints 55 = .ok (.iaload, 1) := by decide +kernel
theorem dX5_paints_56 : decode cX5_paints 56 = .ok (.iadd, 1) := by decide +kernel
theorem dX5_paints_57 : decode cX5_paints 57 = .ok (.iload_n 1, 1) := by decide +kernel
theorem dX5_paints_58 : decode cX5_paints 58 = .ok (.iastore, 1) := by decide +kernel
theorem dX5_paints_59 : decode cX5_paints 59 = .ok (.aload_n 0, 1) := by decide +kernel
theorem dX5_paints_60 : decode cX5_paints 60 = .ok (.getfield 7, 3) := by decide +kernel
theorem dX5_paints_63 : decode cX5_paints 63 = .ok (.bipush 47, 2) := by decide +kernel
theorem dX5_paints_65 : decode cX5_paints 65 = .ok (.dup2, 1) := by decide +kernel
theorem dX5_paints_66 : decode cX5_paints 66 = .ok (.iaload, 1) := by decide +kernel
theorem dX5_paints_67 : decode cX5_paints 67 = .ok (.iconst 1, 1) := by decide +kernel
theorem dX5_paints_68 : decode cX5_paints 68 = .ok (.iadd, 1) := by decide +kernel
theorem dX5_paints_69 : decode cX5_paints 69 = .ok (.iastore, 1) := by decide +kernel
theorem dX5_paints_70 : decode cX5_paints 70 = .ok (.return_, 1) := by decide +kernel
theorem dX5_paint_0 : decode cX5_paint 0 = .ok (.aload_n 0, 1) := by decide +kernel
theorem dX5_paint_1 : decode cX5_paint 1 = .ok (.aload_n 0, 1) := by decide +kernel
theorem dX5_paint_2 : decode cX5_paint 2 = .ok (.iload_n 1, 1) := by decide +kernel
theorem dX5_paint_3 : decode cX5_paint 3 = .ok (.invokevirtual 87, 3) := by decide +kernel
theorem dX5_paint_6 : decode cX5_paint 6 = .ok (.ifCond .eq 14, 3) := by decide +kernel
theorem dX5_paint_9 : decode cX5_paint 9 = .ok (.iload_n 2, 1) := by decide +kernel
theorem dX5_paint_10 : decode cX5_paint 10 = .ok (.invokestatic 113, 3) := by decide +kernel
theorem dX5_paint_13 : decode cX5_paint 13 = .ok (.ifCond .eq 7, 3) := by decide +kernel
theorem dX5_paint_16 : decode cX5_paint 16 = .ok (.iconst 0, 1) := by decide +kernel
theorem dX5_paint_17 : decode cX5_paint 17 = .ok (.goto 4, 3) := by decide +kernel
theorem dX5_paint_20 : decode cX5_paint 20 = .ok (.iconst 1, 1) := by decide +kernel
theorem dX5_paint_21 : decode cX5_paint 21 = .ok (.invokevirtual 71, 3) := by decide +kernel
theorem dX5_paint_24 : decode cX5_paint 24 = .ok (.ifCond .eq 5, 3) := by decide +kernel
theorem dX5_paint_27 : decode cX5_paint 27 = .ok (.iconst 0, 1) := by decide +kernel
theorem dX5_paint_28 : decode cX5_paint 28 = .ok (.ireturn, 1) := by decide +kernel
theorem dX5_paint_29 : decode cX5_paint 29 = .ok (.aload_n 0, 1) := by decide +kernel
theorem dX5_paint_30 : decode cX5_paint 30 = .ok (.iload_n 1, 1) := by decide +kernel
theorem dX5_paint_31 : decode cX5_paint 31 = .ok (.iload_n 2, 1) := by decide +kernel
theorem dX5_paint_32 : decode cX5_paint 32 = .ok (.invokevirtual 122, 3) := by decide +kernel
theorem dX5_paint_35 : decode cX5_paint 35 = .ok (.tableswitch 107 2 10 #[49, 71, 84, 107, 107, 107, 107, 107, 62], 49) := by decide +kernel
theorem dX5_paint_84 : decode cX5_paint 84 = .ok (.aload_n 0, 1) := by decide +kernel
theorem dX5_paint_85 : decode cX5_paint 85 = .ok (.iconst 2, 1) := by decide +kernel
theorem dX5_paint_86 : decode cX5_paint 86 = .ok (.iconst 2, 1) := by decide +kernel
theorem dX5_paint_87 : decode cX5_paint 87 = .ok (.aload_n 0, 1) := by decide +kernel
theorem dX5_paint_88 : decode cX5_paint 88 = .ok (.iload_n 1, 1) := by decide +kernel
theorem dX5_paint_89 : decode cX5_paint 89 = .ok (.iconst 1, 1) := by decide +kernel
theorem dX5_paint_90 : decode cX5_paint 90 = .ok (.invokevirtual 63, 3) := by decide +kernel
theorem dX5_paint_93 : decode cX5_paint 93 = .ok (.invokevirtual 75, 3) := by decide +kernel
theorem dX5_paint_96 : decode cX5_paint 96 = .ok (.ireturn, 1) := by decide +kernel
theorem dX5_paint_97 : decode cX5_paint 97 = .ok (.aload_n 0, 1) := by decide +kernel
theorem dX5_paint_98 : decode cX5_paint 98 = .ok (.iconst 2, 1) := by decide +kernel
theorem dX5_paint_99 : decode cX5_paint 99 = .ok (.bipush 10, 2) := by decide +kernel
theorem dX5_paint_101 : decode cX5_paint 101 = .ok (.iload_n 2, 1) := by decide +kernel
theorem dX5_paint_102 : decode cX5_paint 102 = .ok (.invokevirtual 75, 3) := by decide +kernel
theorem dX5_paint_105 : decode cX5_paint 105 = .ok (.ireturn, 1) := by decide +kernel
theorem dX5_paint_106 : decode cX5_paint 106 = .ok (.aload_n 0, 1) := by decide +kernel
theorem dX5_paint_107 : decode cX5_paint 107 = .ok (.iconst 2, 1) := by decide +kernel
theorem dX5_paint_108 : decode cX5_paint 108 = .ok (.iconst 3, 1) := by decide +kernel
theorem dX5_paint_109 : decode cX5_paint 109 = .ok (.aload_n 0, 1) := by decide +kernel
theorem dX5_paint_110 : decode cX5_paint 110 = .ok (.iload_n 1, 1) := by decide +kernel
theorem dX5_paint_111 : decode cX5_paint 111 = .ok (.iload_n 2, 1) := by decide +kernel
theorem dX5_paint_112 : decode cX5_paint 112 = .ok (.invokevirtual 97, 3) := by decide +kernel
theorem dX5_paint_115 : decode cX5_paint 115 = .ok (.invokevirtual 75, 3) := by decide +kernel
theorem dX5_paint_118 : decode cX5_paint 118 = .ok (.ireturn, 1) := by decide +kernel
theorem dX5_paint_119 : decode cX5_paint 119 = .ok (.aload_n 0, 1) := by decide +kernel
theorem dX5_paint_120 : decode cX5_paint 120 = .ok (.iconst 2, 1) := by decide +kernel
theorem dX5_paint_121 : decode cX5_paint 121 = .ok (.iconst 4, 1) := by decide +kernel
theorem dX5_paint_122 : decode cX5_paint 122 = .ok (.aload_n 0, 1) := by decide +kernel
theorem dX5_paint_123 : decode cX5_paint 123 = .ok (.iload_n 1, 1) := by decide +kernel
theorem dX5_paint_124 : decode cX5_paint 124 = .ok (.iconst 0, 1) := by decide +kernel
theorem dX5_paint_125 : decode cX5_paint 125 = .ok (.invokevirtual 63, 3) := by decide +kernel
theorem dX5_paint_128 : decode cX5_paint 128 = .ok (.aload_n 0, 1) := by decide +kernel
theorem dX5_paint_129 : decode cX5_paint 129 = .ok (.getfield 7, 3) := by decide +kernel
theorem dX5_paint_132 : decode cX5_paint 132 = .ok (.bipush 37, 2) := by decide +kernel
theorem dX5_paint_134 : decode cX5_paint 134 = .ok (.iload_n 2, 1) := by decide +kernel
theorem dX5_paint_135 : decode cX5_paint 135 = .ok (.iadd, 1) := by decide +kernel
theorem dX5_paint_136 : decode cX5_paint 136 = .ok (.iaload, 1) := by decide +kernel
theorem dX5_paint_137 : decode cX5_paint 137 = .ok (.isub, 1) := by decide +kernel
theorem dX5_paint_138 : decode cX5_paint 138 = .ok (.invokevirtual 75, 3) := by decide +kernel
theorem dX5_paint_141 : decode cX5_paint 141 = .ok (.ireturn, 1) := by decide +kernel
theorem dX5_paint_142 : decode cX5_paint 142 = .ok (.aload_n 0, 1) := by decide +kernel
theorem dX5_paint_143 : decode cX5_paint 143 = .ok (.aload_n 0, 1) := by decide +kernel
theorem dX5_paint_144 : decode cX5_paint 144 = .ok (.getfield 7, 3) := by decide +kernel
theorem dX5_paint_147 : decode cX5_paint 147 = .ok (.invokevirtual 79, 3) := by decide +kernel
theorem dX5_paint_150 : decode cX5_paint 150 = .ok (.aload_n 0, 1) := by decide +kernel
theorem dX5_paint_151 : decode cX5_paint 151 = .ok (.iload_n 1, 1) := by decide +kernel
theorem dX5_paint_152 : decode cX5_paint 152 = .ok (.iload_n 2, 1) := by decide +kernel
theorem dX5_paint_153 : decode cX5_paint 153 = .ok (.invokevirtual 125, 3) := by decide +kernel
theorem dX5_paint_156 : decode cX5_paint 156 = .ok (.aload_n 0, 1) := by decide +kernel
theorem dX5_paint_157 : decode cX5_paint 157 = .ok (.getfield 7, 3) := by decide +kernel
theorem dX5_paint_160 : decode cX5_paint 160 = .ok (.bipush 47, 2) := by decide +kernel
theorem dX5_paint_162 : decode cX5_paint 162 = .ok (.iaload, 1) := by decide +kernel
theorem dX5_paint_163 : decode cX5_paint 163 = .ok (.ireturn, 1) := by decide +kernel
theorem dX5_bars_0 : decode cX5_bars 0 = .ok (.aload_n 0, 1) := by decide +kernel
theorem dX5_bars_1 : decode cX5_bars 1 = .ok (.aload_n 0, 1) := by decide +kernel
theorem dX5_bars_2 : decode cX5_bars 2 = .ok (.iload_n 1, 1) := by decide +kernel
theorem dX5_bars_3 : decode cX5_bars 3 = .ok (.invokevirtual 87, 3) := by decide +kernel
theorem dX5_bars_6 : decode cX5_bars 6 = .ok (.ifCond .eq 14, 3) := by decide +kernel
theorem dX5_bars_9 : decode cX5_bars 9 = .ok (.iload_n 2, 1) := by decide +kernel
theorem dX5_bars_10 : decode cX5_bars 10 = .ok (.invokestatic 113, 3) := by decide +kernel
theorem dX5_bars_13 : decode cX5_bars 13 = .ok (.ifCond .eq 7, 3) := by decide +kernel
theorem dX5_bars_16 : decode cX5_bars 16 = .ok (.iconst 0, 1) := by decide +kernel
theorem dX5_bars_17 : decode cX5_bars 17 = .ok (.goto 4, 3) := by decide +kernel
theorem dX5_bars_20 : decode cX5_bars 20 = .ok (.iconst 1, 1) := by decide +kernel
theorem dX5_bars_21 : decode cX5_bars 21 = .ok (.invokevirtual 71, 3) := by decide +kernel
theorem dX5_bars_24 : decode cX5_bars 24 = .ok (.ifCond .eq 7, 3) := by decide +kernel
theorem dX5_bars_27 : decode cX5_bars 27 = .ok (.iconst 0, 1) := by decide +kernel
theorem dX5_bars_28 : decode cX5_bars 28 = .ok (.goto 9, 3) := by decide +kernel
theorem dX5_bars_31 : decode cX5_bars 31 = .ok (.aload_n 0, 1) := by decide +kernel
theorem dX5_bars_32 : decode cX5_bars 32 = .ok (.iload_n 1, 1) := by decide +kernel
theorem dX5_bars_33 : decode cX5_bars 33 = .ok (.iload_n 2, 1) := by decide +kernel
theorem dX5_bars_34 : decode cX5_bars 34 = .ok (.invokevirtual 122, 3) := by decide +kernel
theorem dX5_bars_37 : decode cX5_bars 37 = .ok (.ireturn, 1) := by decide +kernel
theorem dX5_back_0 : decode cX5_back 0 = .ok (.aload_n 0, 1) := by decide +kernel
theorem dX5_back_1 : decode cX5_back 1 = .ok (.iconst 0, 1) := by decide +kernel
theorem dX5_back_2 : decode cX5_back 2 = .ok (.putfield 39, 3) := by decide +kernel
theorem dX5_back_5 : decode cX5_back 5 = .ok (.aload_n 0, 1) := by decide +kernel
theorem dX5_back_6 : decode cX5_back 6 = .ok (.getfield 7, 3) := by decide +kernel
theorem dX5_back_9 : decode cX5_back 9 = .ok (.bipush 47, 2) := by decide +kernel
theorem dX5_back_11 : decode cX5_back 11 = .ok (.iaload, 1) := by decide +kernel
theorem dX5_back_12 : decode cX5_back 12 = .ok (.ifCond .ne 12, 3) := by decide +kernel
theorem dX5_back_15 : decode cX5_back 15 = .ok (.aload_n 0, 1) := by decide +kernel
theorem dX5_back_16 : decode cX5_back 16 = .ok (.iconst 1, 1) := by decide +kernel
theorem dX5_back_17 : decode cX5_back 17 = .ok (.bipush 8, 2) := by decide +kernel
theorem dX5_back_19 : decode cX5_back 19 = .ok (.iconst 0, 1) := by decide +kernel
theorem dX5_back_20 : decode cX5_back 20 = .ok (.invokevirtual 75, 3) := by decide +kernel
theorem dX5_back_23 : decode cX5_back 23 = .ok (.ireturn, 1) := by decide +kernel
theorem dX5_back_24 : decode cX5_back 24 = .ok (.aload_n 0, 1) := by decide +kernel
theorem dX5_back_25 : decode cX5_back 25 = .ok (.aload_n 0, 1) := by decide +kernel
theorem dX5_back_26 : decode cX5_back 26 = .ok (.getfield 7, 3) := by decide +kernel
theorem dX5_back_29 : decode cX5_back 29 = .ok (.invokevirtual 79, 3) := by decide +kernel
theorem dX5_back_32 : decode cX5_back 32 = .ok (.aload_n 0, 1) := by decide +kernel
theorem dX5_back_33 : decode cX5_back 33 = .ok (.getfield 7, 3) := by decide +kernel
theorem dX5_back_36 : decode cX5_back 36 = .ok (.bipush 47, 2) := by decide +kernel
theorem dX5_back_38 : decode cX5_back 38 = .ok (.dup2, 1) := by decide +kernel
theorem dX5_back_39 : decode cX5_back 39 = .ok (.iaload, 1) := by decide +kernel
theorem dX5_back_40 : decode cX5_back 40 = .ok (.iconst 1, 1) := by decide +kernel
theorem dX5_back_41 : decode cX5_back 41 = .ok (.isub, 1) := by decide +kernel
theorem dX5_back_42 : decode cX5_back 42 = .ok (.iastore, 1) := by decide +kernel
theorem dX5_back_43 : decode cX5_back 43 = .ok (.aload_n 0, 1) := by decide +kernel
theorem dX5_back_44 : decode cX5_back 44 = .ok (.getfield 7, 3) := by decide +kernel
theorem dX5_back_47 : decode cX5_back 47 = .ok (.bipush 48, 2) := by decide +kernel
theorem dX5_back_49 : decode cX5_back 49 = .ok (.aload_n 0, 1) := by decide +kernel
theorem dX5_back_50 : decode cX5_back 50 = .ok (.getfield 7, 3) := by decide +kernel
theorem dX5_back_53 : decode cX5_back 53 = .ok (.bipush 47, 2) := by decide +kernel
theorem dX5_back_55 : decode cX5_back 55 = .ok (.iaload, 1) := by decide +kernel
theorem dX5_back_56 : decode cX5_back 56 = .ok (.iadd, 1) := by decide +kernel
theorem dX5_back_57 : decode cX5_back 57 = .ok (.iaload, 1) := by decide +kernel
theorem dX5_back_58 : decode cX5_back 58 = .ok (.istore_n 1, 1) := by decide +kernel
theorem dX5_back_59 : decode cX5_back 59 = .ok (.aload_n 0, 1) := by decide +kernel
theorem dX5_back_60 : decode cX5_back 60 = .ok (.getfield 7, 3) := by decide +kernel
theorem dX5_back_63 : decode cX5_back 63 = .ok (.bipush 48, 2) := by decide +kernel
theorem dX5_back_65 : decode cX5_back 65 = .ok (.aload_n 0, 1) := by decide +kernel
theorem dX5_back_66 : decode cX5_back 66 = .ok (.getfield 7, 3) := by decide +kernel
theorem dX5_back_69 : decode cX5_back 69 = .ok (.bipush 47, 2) := by decide +kernel
theorem dX5_back_71 : decode cX5_back 71 = .ok (.iaload, 1) := by decide +kernel
theorem dX5_back_72 : decode cX5_back 72 = .ok (.iadd, 1) := by decide +kernel
theorem dX5_back_73 : decode cX5_back 73 = .ok (.iconst 0, 1) := by decide +kernel
theorem dX5_back_74 : decode cX5_back 74 = .ok (.iastore, 1) := by decide +kernel
theorem dX5_back_75 : decode cX5_back 75 = .ok (.aload_n 0, 1) := by decide +kernel
theorem dX5_back_76 : decode cX5_back 76 = .ok (.iload_n 1, 1) := by decide +kernel
theorem dX5_back_77 : decode cX5_back 77 = .ok (.iconst 1, 1) := by decide +kernel
theorem dX5_back_78 : decode cX5_back 78 = .ok (.iconst (-1), 1) := by decide +kernel
theorem dX5_back_79 : decode cX5_back 79 = .ok (.invokevirtual 83, 3) := by decide +kernel
theorem dX5_back_82 : decode cX5_back 82 = .ok (.aload_n 0, 1) := by decide +kernel
theorem dX5_back_83 : decode cX5_back 83 = .ok (.getfield 7, 3) := by decide +kernel
theorem dX5_back_86 : decode cX5_back 86 = .ok (.bipush 55, 2) := by decide +kernel
theorem dX5_back_88 : decode cX5_back 88 = .ok (.dup2, 1) := by decide +kernel
theorem dX5_back_89 : decode cX5_back 89 = .ok (.iaload, 1) := by decide +kernel
theorem dX5_back_90 : decode cX5_back 90 = .ok (.iconst 1, 1) := by decide +kernel
theorem dX5_back_91 : decode cX5_back 91 = .ok (.iadd, 1) := by decide +kernel
theorem dX5_back_92 : decode cX5_back 92 = .ok (.iastore, 1) := by decide +kernel
theorem dX5_back_93 : decode cX5_back 93 = .ok (.iload_n 1, 1) := by decide +kernel
theorem dX5_back_94 : decode cX5_back 94 = .ok (.ireturn, 1) := by decide +kernel
theorem dX5_onlyHue_0 : decode cX5_onlyHue 0 = .ok (.aload_n 0, 1) := by decide +kernel
theorem dX5_onlyHue_1 : decode cX5_onlyHue 1 = .ok (.iload_n 1, 1) := by decide +kernel
theorem dX5_onlyHue_2 : decode cX5_onlyHue 2 = .ok (.invokevirtual 107, 3) := by decide +kernel
theorem dX5_onlyHue_5 : decode cX5_onlyHue 5 = .ok (.iconst 1, 1) := by decide +kernel
theorem dX5_onlyHue_6 : decode cX5_onlyHue 6 = .ok (.if_icmp .eq 5, 3) := by decide +kernel
theorem dX5_onlyHue_9 : decode cX5_onlyHue 9 = .ok (.iconst (-1), 1) := by decide +kernel
theorem dX5_onlyHue_10 : decode cX5_onlyHue 10 = .ok (.ireturn, 1) := by decide +kernel
theorem dX5_onlyHue_11 : decode cX5_onlyHue 11 = .ok (.iconst 0, 1) := by decide +kernel
theorem dX5_onlyHue_12 : decode cX5_onlyHue 12 = .ok (.istore_n 2, 1) := by decide +kernel
theorem dX5_onlyHue_13 : decode cX5_onlyHue 13 = .ok (.aload_n 0, 1) := by decide +kernel
theorem dX5_onlyHue_14 : decode cX5_onlyHue 14 = .ok (.iload_n 1, 1) := by decide +kernel
theorem dX5_onlyHue_15 : decode cX5_onlyHue 15 = .ok (.iload_n 2, 1) := by decide +kernel
theorem dX5_onlyHue_16 : decode cX5_onlyHue 16 = .ok (.invokevirtual 100, 3) := by decide +kernel
theorem dX5_onlyHue_19 : decode cX5_onlyHue 19 = .ok (.ifCond .ne 9, 3) := by decide +kernel
theorem dX5_onlyHue_22 : decode cX5_onlyHue 22 = .ok (.iinc 2 1, 3) := by decide +kernel
theorem dX5_onlyHue_25 : decode cX5_onlyHue 25 = .ok (.goto (-12), 3) := by decide +kernel
theorem dX5_onlyHue_28 : decode cX5_onlyHue 28 = .ok (.iload_n 2, 1) := by decide +kernel
theorem dX5_onlyHue_29 : decode cX5_onlyHue 29 = .ok (.ireturn, 1) := by decide +kernel
theorem dX5_fill_0 : decode cX5_fill 0 = .ok (.aload_n 0, 1) := by decide +kernel
theorem dX5_fill_1 : decode cX5_fill 1 = .ok (.iconst 0, 1) := by decide +kernel
theorem dX5_fill_2 : decode cX5_fill 2 = .ok (.putfield 39, 3) := by decide +kernel
theorem dX5_fill_5 : decode cX5_fill 5 = .ok (.aload_n 0, 1) := by decide +kernel
theorem dX5_fill_6 : decode cX5_fill 6 = .ok (.aload_n 0, 1) := by decide +kernel
theorem dX5_fill_7 : decode cX5_fill 7 = .ok (.getfield 7, 3) := by decide +kernel
theorem dX5_fill_10 : decode cX5_fill 10 = .ok (.invokevirtual 79, 3) := by decide +kernel
theorem dX5_fill_13 : decode cX5_fill 13 = .ok (.iconst 0, 1) := by decide +kernel
theorem dX5_fill_14 : decode cX5_fill 14 = .ok (.istore_n 1, 1) := by decide +kernel
theorem dX5_fill_15 : decode cX5_fill 15 = .ok (.iconst 0, 1) := by decide +kernel
theorem dX5_fill_16 : decode cX5_fill 16 = .ok (.istore_n 2, 1) := by decide +kernel
theorem dX5_fill_17 : decode cX5_fill 17 = .ok (.iload_n 2, 1) := by decide +kernel
theorem dX5_fill_18 : decode cX5_fill 18 = .ok (.aload_n 0, 1) := by decide +kernel
theorem dX5_fill_19 : decode cX5_fill 19 = .ok (.getfield 7, 3) := by decide +kernel
theorem dX5_fill_22 : decode cX5_fill 22 = .ok (.iconst 0, 1) := by decide +kernel
theorem dX5_fill_23 : decode cX5_fill 23 = .ok (.iaload, 1) := by decide +kernel
theorem dX5_fill_24 : decode cX5_fill 24 = .ok (.if_icmp .ge 33, 3) := by decide +kernel
theorem dX5_fill_27 : decode cX5_fill 27 = .ok (.aload_n 0, 1) := by decide +kernel
theorem dX5_fill_28 : decode cX5_fill 28 = .ok (.iload_n 2, 1) := by decide +kernel
theorem dX5_fill_29 : decode cX5_fill 29 = .ok (.invokevirtual 129, 3) := by decide +kernel
theorem dX5_fill_32 : decode cX5_fill 32 = .ok (.istore_n 3, 1) := by decide +kernel
theorem dX5_fill_33 : decode cX5_fill 33 = .ok (.iload_n 3, 1) := by decide +kernel
theorem dX5_fill_34 : decode cX5_fill 34 = .ok (.ifCond .ge 9, 3) := by decide +kernel
theorem dX5_fill_37 : decode cX5_fill 37 = .ok (.iinc 2 1, 3) := by decide +kernel
theorem dX5_fill_40 : decode cX5_fill 40 = .ok (.goto (-23), 3) := by decide +kernel
theorem dX5_fill_43 : decode cX5_fill 43 = .ok (.aload_n 0, 1) := by decide +kernel
theorem dX5_fill_44 : decode cX5_fill 44 = .ok (.iload_n 2, 1) := by decide +kernel
theorem dX5_fill_45 : decode cX5_fill 45 = .ok (.iload_n 3, 1) := by decide +kernel
theorem dX5_fill_46 : decode cX5_fill 46 = .ok (.invokevirtual 125, 3) := by decide +kernel
theorem dX5_fill_49 : decode cX5_fill 49 = .ok (.iinc 1 1, 3) := by decide +kernel
theorem dX5_fill_52 : decode cX5_fill 52 = .ok (.iconst 0, 1) := by decide +kernel
theorem dX5_fill_53 : decode cX5_fill 53 = .ok (.istore_n 2, 1) := by decide +kernel
theorem dX5_fill_54 : decode cX5_fill 54 = .ok (.goto (-37), 3) := by decide +kernel
theorem dX5_fill_57 : decode cX5_fill 57 = .ok (.iload_n 1, 1) := by decide +kernel
theorem dX5_fill_58 : decode cX5_fill 58 = .ok (.ireturn, 1) := by decide +kernel
theorem dX5_step_0 : decode cX5_step 0 = .ok (.aload_n 0, 1) := by decide +kernel
theorem dX5_step_1 : decode cX5_step 1 = .ok (.iload_n 1, 1) := by decide +kernel
theorem dX5_step_2 : decode cX5_step 2 = .ok (.iconst 0, 1) := by decide +kernel
theorem dX5_step_3 : decode cX5_step 3 = .ok (.aload_n 0, 1) := by decide +kernel
theorem dX5_step_4 : decode cX5_step 4 = .ok (.getfield 7, 3) := by decide +kernel
theorem dX5_step_7 : decode cX5_step 7 = .ok (.bipush 47, 2) := by decide +kernel
theorem dX5_step_9 : decode cX5_step 9 = .ok (.iaload, 1) := by decide +kernel
theorem dX5_step_10 : decode cX5_step 10 = .ok (.iconst 1, 1) := by decide +kernel
theorem dX5_step_11 : decode cX5_step 11 = .ok (.isub, 1) := by decide +kernel
theorem dX5_step_12 : decode cX5_step 12 = .ok (.invokestatic 59, 3) := by decide +kernel
theorem dX5_step_15 : decode cX5_step 15 = .ok (.ifCond .eq 7, 3) := by decide +kernel
theorem dX5_step_18 : decode cX5_step 18 = .ok (.iconst 0, 1) := by decide +kernel
theorem dX5_step_19 : decode cX5_step 19 = .ok (.goto 4, 3) := by decide +kernel
theorem dX5_step_22 : decode cX5_step 22 = .ok (.iconst 1, 1) := by decide +kernel
theorem dX5_step_23 : decode cX5_step 23 = .ok (.invokevirtual 71, 3) := by decide +kernel
theorem dX5_step_26 : decode cX5_step 26 = .ok (.ifCond .eq 7, 3) := by decide +kernel
theorem dX5_step_29 : decode cX5_step 29 = .ok (.iconst 0, 1) := by decide +kernel
theorem dX5_step_30 : decode cX5_step 30 = .ok (.goto 12, 3) := by decide +kernel
theorem dX5_step_33 : decode cX5_step 33 = .ok (.aload_n 0, 1) := by decide +kernel
theorem dX5_step_34 : decode cX5_step 34 = .ok (.getfield 7, 3) := by decide +kernel
theorem dX5_step_37 : decode cX5_step 37 = .ok (.bipush 48, 2) := by decide +kernel
theorem dX5_step_39 : decode cX5_step 39 = .ok (.iload_n 1, 1) := by decide +kernel
theorem dX5_step_40 : decode cX5_step 40 = .ok (.iadd, 1) := by decide +kernel
theorem dX5_step_41 : decode cX5_step 41 = .ok (.iaload, 1) := by decide +kernel
theorem dX5_step_42 : decode cX5_step 42 = .ok (.ireturn, 1) := by decide +kernel
theorem dX5_isStuck_0 : decode cX5_isStuck 0 = .ok (.aload_n 0, 1) := by decide +kernel
theorem dX5_isStuck_1 : decode cX5_isStuck 1 = .ok (.iload_n 1, 1) := by decide +kernel
theorem dX5_isStuck_2 : decode cX5_isStuck 2 = .ok (.invokevirtual 90, 3) := by decide +kernel
theorem dX5_isStuck_5 : decode cX5_isStuck 5 = .ok (.ifCond .ne 15, 3) := by decide +kernel
theorem dX5_isStuck_8 : decode cX5_isStuck 8 = .ok (.aload_n 0, 1) := by decide +kernel
theorem dX5_isStuck_9 : decode cX5_isStuck 9 = .ok (.iload_n 1, 1) := by decide +kernel
theorem dX5_isStuck_10 : decode cX5_isStuck 10 = .ok (.invokevirtual 107, 3) := by decide +kernel
theorem dX5_isStuck_13 : decode cX5_isStuck 13 = .ok (.ifCond .ne 7, 3) := by decide +kernel
theorem dX5_isStuck_16 : decode cX5_isStuck 16 = .ok (.iconst 1, 1) := by decide +kernel
theorem dX5_isStuck_17 : decode cX5_isStuck 17 = .ok (.goto 4, 3) := by decide +kernel
theorem dX5_isStuck_20 : decode cX5_isStuck 20 = .ok (.iconst 0, 1) := by decide +kernel
theorem dX5_isStuck_21 : decode cX5_isStuck 21 = .ok (.ireturn, 1) := by decide +kernel
theorem dX5_stuck_0 : decode cX5_stuck 0 = .ok (.iconst 0, 1) := by decide +kernel
theorem dX5_stuck_1 : decode cX5_stuck 1 = .ok (.istore_n 1, 1) := by decide +kernel
theorem dX5_stuck_2 : decode cX5_stuck 2 = .ok (.iload_n 1, 1) := by decide +kernel
theorem dX5_stuck_3 : decode cX5_stuck 3 = .ok (.aload_n 0, 1) := by decide +kernel
theorem dX5_stuck_4 : decode cX5_stuck 4 = .ok (.getfield 7, 3) := by decide +kernel
theorem dX5_stuck_7 : decode cX5_stuck 7 = .ok (.iconst 0, 1) := by decide +kernel
theorem dX5_stuck_8 : decode cX5_stuck 8 = .ok (.iaload, 1) := by decide +kernel
theorem dX5_stuck_9 : decode cX5_stuck 9 = .ok (.if_icmp .ge 17, 3) := by decide +kernel
theorem dX5_stuck_12 : decode cX5_stuck 12 = .ok (.aload_n 0, 1) := by decide +kernel
theorem dX5_stuck_13 : decode cX5_stuck 13 = .ok (.iload_n 1, 1) := by decide +kernel
theorem dX5_stuck_14 : decode cX5_stuck 14 = .ok (.invokevirtual 132, 3) := by decide +kernel
theorem dX5_stuck_17 : decode cX5_stuck 17 = .ok (.ifCond .ne 9, 3) := by decide +kernel
theorem dX5_stuck_20 : decode cX5_stuck 20 = .ok (.iinc 1 1, 3) := by decide +kernel
theorem dX5_stuck_23 : decode cX5_stuck 23 = .ok (.goto (-21), 3) := by decide +kernel
theorem dX5_stuck_26 : decode cX5_stuck 26 = .ok (.aload_n 0, 1) := by decide +kernel
theorem dX5_stuck_27 : decode cX5_stuck 27 = .ok (.iload_n 1, 1) := by decide +kernel
theorem dX5_stuck_28 : decode cX5_stuck 28 = .ok (.aload_n 0, 1) := by decide +kernel
theorem dX5_stuck_29 : decode cX5_stuck 29 = .ok (.getfield 7, 3) := by decide +kernel
theorem dX5_stuck_32 : decode cX5_stuck 32 = .ok (.iconst 0, 1) := by decide +kernel
theorem dX5_stuck_33 : decode cX5_stuck 33 = .ok (.iaload, 1) := by decide +kernel
theorem dX5_stuck_34 : decode cX5_stuck 34 = .ok (.if_icmp .ne 7, 3) := by decide +kernel
theorem dX5_stuck_37 : decode cX5_stuck 37 = .ok (.iconst 1, 1) := by decide +kernel
theorem dX5_stuck_38 : decode cX5_stuck 38 = .ok (.goto 4, 3) := by decide +kernel
theorem dX5_stuck_41 : decode cX5_stuck 41 = .ok (.iconst 0, 1) := by decide +kernel
theorem dX5_stuck_42 : decode cX5_stuck 42 = .ok (.invokevirtual 71, 3) := by decide +kernel
theorem dX5_stuck_45 : decode cX5_stuck 45 = .ok (.ifCond .eq 7, 3) := by decide +kernel
theorem dX5_stuck_48 : decode cX5_stuck 48 = .ok (.iconst 0, 1) := by decide +kernel
theorem dX5_stuck_49 : decode cX5_stuck 49 = .ok (.goto 4, 3) := by decide +kernel
theorem dX5_stuck_52 : decode cX5_stuck 52 = .ok (.iload_n 1, 1) := by decide +kernel
theorem dX5_stuck_53 : decode cX5_stuck 53 = .ok (.ireturn, 1) := by decide +kernel
theorem dX5_plainNeighbours_0 : decode cX5_plainNeighbours 0 = .ok (.iconst 0, 1) := by decide +kernel
theorem dX5_plainNeighbours_1 : decode cX5_plainNeighbours 1 = .ok (.istore_n 2, 1) := by decide +kernel
theorem dX5_plainNeighbours_2 : decode cX5_plainNeighbours 2 = .ok (.iconst 0, 1) := by decide +kernel
theorem dX5_plainNeighbours_3 : decode cX5_plainNeighbours 3 = .ok (.istore_n 3, 1) := by decide +kernel
theorem dX5_plainNeighbours_4 : decode cX5_plainNeighbours 4 = .ok (.iload_n 3, 1) := by decide +kernel
theorem dX5_plainNeighbours_5 : decode cX5_plainNeighbours 5 = .ok (.aload_n 0, 1) := by decide +kernel
theorem dX5_plainNeighbours_6 : decode cX5_plainNeighbours 6 = .ok (.getfield 7, 3) := by decide +kernel
theorem dX5_plainNeighbours_9 : decode cX5_plainNeighbours 9 = .ok (.iconst 0, 1) := by decide +kernel
theorem dX5_plainNeighbours_10 : decode cX5_plainNeighbours 10 = .ok (.iaload, 1) := by decide +kernel
theorem dX5_plainNeighbours_11 : decode cX5_plainNeighbours 11 = .ok (.if_icmp .ge 34, 3) := by decide +kernel
theorem dX5_plainNeighbours_14 : decode cX5_plainNeighbours 14 = .ok (.iload_n 2, 1) := by decide +kernel
theorem dX5_plainNeighbours_15 : decode cX5_plainNeighbours 15 = .ok (.aload_n 0, 1) := by decide +kernel
theorem dX5_plainNeighbours_16 : decode cX5_plainNeighbours 16 = .ok (.iload_n 1, 1) := by decide +kernel
theorem dX5_plainNeighbours_17 : decode cX5_plainNeighbours 17 = .ok (.iload_n 3, 1) := by decide +kernel
theorem dX5_plainNeighbours_18 : decode cX5_plainNeighbours 18 = .ok (.invokevirtual 67, 3) := by decide +kernel
theorem dX5_plainNeighbours_21 : decode cX5_plainNeighbours 21 = .ok (.ifCond .eq 15, 3) := by decide +kernel
theorem dX5_plainNeighbours_24 : decode cX5_plainNeighbours 24 = .ok (.aload_n 0, 1) := by decide +kernel
theorem dX5_plainNeighbours_25 : decode cX5_plainNeighbours 25 = .ok (.iload_n 3, 1) := by decide +kernel
theorem dX5_plainNeighbours_26 : decode cX5_plainNeighbours 26 = .ok (.invokevirtual 90, 3) := by decide +kernel
theorem dX5_plainNeighbours_29 : decode cX5_plainNeighbours 29 = .ok (.ifCond .ne 7, 3) := by decide +kernel
theorem dX5_plainNeighbours_32 : decode cX5_plainNeighbours 32 = .ok (.iconst 1, 1) := by decide +kernel
theorem dX5_plainNeighbours_33 : decode cX5_plainNeighbours 33 = .ok (.goto 4, 3) := by decide +kernel
theorem dX5_plainNeighbours_36 : decode cX5_plainNeighbours 36 = .ok (.iconst 0, 1) := by decide +kernel
theorem dX5_plainNeighbours_37 : decode cX5_plainNeighbours 37 = .ok (.iadd, 1) := by decide +kernel
theorem dX5_plainNeighbours_38 : decode cX5_plainNeighbours 38 = .ok (.istore_n 2, 1) := by decide +kernel
theorem dX5_plainNeighbours_39 : decode cX5_plainNeighbours 39 = .ok (.iinc 3 1, 3) := by decide +kernel
theorem dX5_plainNeighbours_42 : decode cX5_plainNeighbours 42 = .ok (.goto (-38), 3) := by decide +kernel
theorem dX5_plainNeighbours_45 : decode cX5_plainNeighbours 45 = .ok (.iload_n 2, 1) := by decide +kernel
theorem dX5_plainNeighbours_46 : decode cX5_plainNeighbours 46 = .ok (.ireturn, 1) := by decide +kernel
theorem dX5_next_0 : decode cX5_next 0 = .ok (.iconst (-1), 1) := by decide +kernel
theorem dX5_next_1 : decode cX5_next 1 = .ok (.istore_n 1, 1) := by decide +kernel
theorem dX5_next_2 : decode cX5_next 2 = .ok (.iconst 0, 1) := by decide +kernel
theorem dX5_next_3 : decode cX5_next 3 = .ok (.istore_n 2, 1) := by decide +kernel
theorem dX5_next_4 : decode cX5_next 4 = .ok (.iload_n 2, 1) := by decide +kernel
theorem dX5_next_5 : decode cX5_next 5 = .ok (.aload_n 0, 1) := by decide +kernel
theorem dX5_next_6 : decode cX5_next 6 = .ok (.getfield 7, 3) := by decide +kernel
theorem dX5_next_9 : decode cX5_next 9 = .ok (.iconst 0, 1) := by decide +kernel
theorem dX5_next_10 : decode cX5_next 10 = .ok (.iaload, 1) := by decide +kernel
theorem dX5_next_11 : decode cX5_next 11 = .ok (.if_icmp .ge 65, 3) := by decide +kernel
theorem dX5_next_14 : decode cX5_next 14 = .ok (.aload_n 0, 1) := by decide +kernel
theorem dX5_next_15 : decode cX5_next 15 = .ok (.iload_n 2, 1) := by decide +kernel
theorem dX5_next_16 : decode cX5_next 16 = .ok (.invokevirtual 90, 3) := by decide +kernel
theorem dX5_next_19 : decode cX5_next 19 = .ok (.ifCond .eq 6, 3) := by decide +kernel
theorem dX5_next_22 : decode cX5_next 22 = .ok (.goto 48, 3) := by decide +kernel
theorem dX5_next_25 : decode cX5_next 25 = .ok (.iload_n 1, 1) := by decide +kernel
theorem dX5_next_26 : decode cX5_next 26 = .ok (.ifCond .lt 42, 3) := by decide +kernel
theorem dX5_next_29 : decode cX5_next 29 = .ok (.aload_n 0, 1) := by decide +kernel
theorem dX5_next_30 : decode cX5_next 30 = .ok (.iload_n 2, 1) := by decide +kernel
theorem dX5_next_31 : decode cX5_next 31 = .ok (.invokevirtual 107, 3) := by decide +kernel
theorem dX5_next_34 : decode cX5_next 34 = .ok (.aload_n 0, 1) := by decide +kernel
theorem dX5_next_35 : decode cX5_next 35 = .ok (.iload_n 1, 1) := by decide +kernel
theorem dX5_next_36 : decode cX5_next 36 = .ok (.invokevirtual 107, 3) := by decide +kernel
theorem dX5_next_39 : decode cX5_next 39 = .ok (.if_icmp .lt 29, 3) := by decide +kernel
theorem dX5_next_42 : decode cX5_next 42 = .ok (.aload_n 0, 1) := by decide +kernel
theorem dX5_next_43 : decode cX5_next 43 = .ok (.iload_n 2, 1) := by decide +kernel
theorem dX5_next_44 : decode cX5_next 44 = .ok (.invokevirtual 107, 3) := by decide +kernel
theorem dX5_next_47 : decode cX5_next 47 = .ok (.aload_n 0, 1) := by decide +kernel
theorem dX5_next_48 : decode cX5_next 48 = .ok (.iload_n 1, 1) := by decide +kernel
theorem dX5_next_49 : decode cX5_next 49 = .ok (.invokevirtual 107, 3) := by decide +kernel
theorem dX5_next_52 : decode cX5_next 52 = .ok (.if_icmp .ne 18, 3) := by decide +kernel
theorem dX5_next_55 : decode cX5_next 55 = .ok (.aload_n 0, 1) := by decide +kernel
theorem dX5_next_56 : decode cX5_next 56 = .ok (.iload_n 2, 1) := by decide +kernel
theorem dX5_next_57 : decode cX5_next 57 = .ok (.invokevirtual 135, 3) := by decide +kernel
theorem dX5_next_60 : decode cX5_next 60 = .ok (.aload_n 0, 1) := by decide +kernel
theorem dX5_next_61 : decode cX5_next 61 = .ok (.iload_n 1, 1) := by decide +kernel
theorem dX5_next_62 : decode cX5_next 62 = .ok (.invokevirtual 135, 3) := by decide +kernel
theorem dX5_next_65 : decode cX5_next 65 = .ok (.if_icmp .le 5, 3) := by decide +kernel
theorem dX5_next_68 : decode cX5_next 68 = .ok (.iload_n 2, 1) := by decide +kernel
theorem dX5_next_69 : decode cX5_next 69 = .ok (.istore_n 1, 1) := by decide +kernel
theorem dX5_next_70 : decode cX5_next 70 = .ok (.iinc 2 1, 3) := by decide +kernel
theorem dX5_next_73 : decode cX5_next 73 = .ok (.goto (-69), 3) := by decide +kernel
theorem dX5_next_76 : decode cX5_next 76 = .ok (.aload_n 0, 1) := by decide +kernel
theorem dX5_next_77 : decode cX5_next 77 = .ok (.iload_n 1, 1) := by decide +kernel
theorem dX5_next_78 : decode cX5_next 78 = .ok (.ifCond .ge 7, 3) := by decide +kernel
theorem dX5_next_81 : decode cX5_next 81 = .ok (.iconst 1, 1) := by decide +kernel
theorem dX5_next_82 : decode cX5_next 82 = .ok (.goto 4, 3) := by decide +kernel
theorem dX5_next_85 : decode cX5_next 85 = .ok (.iconst 0, 1) := by decide +kernel
theorem dX5_next_86 : decode cX5_next 86 = .ok (.invokevirtual 71, 3) := by decide +kernel
theorem dX5_next_89 : decode cX5_next 89 = .ok (.ifCond .eq 7, 3) := by decide +kernel
theorem dX5_next_92 : decode cX5_next 92 = .ok (.iconst 0, 1) := by decide +kernel
theorem dX5_next_93 : decode cX5_next 93 = .ok (.goto 4, 3) := by decide +kernel
theorem dX5_next_96 : decode cX5_next 96 = .ok (.iload_n 1, 1) := by decide +kernel
theorem dX5_next_97 : decode cX5_next 97 = .ok (.ireturn, 1) := by decide +kernel
theorem dX5_takes_0 : decode cX5_takes 0 = .ok (.iconst 0, 1) := by decide +kernel
theorem dX5_takes_1 : decode cX5_takes 1 = .ok (.istore_n 3, 1) := by decide +kernel
theorem dX5_takes_2 : decode cX5_takes 2 = .ok (.iconst 0, 1) := by decide +kernel
theorem dX5_takes_3 : decode cX5_takes 3 = .ok (.istore 4, 2) := by decide +kernel
theorem dX5_takes_5 : decode cX5_takes 5 = .ok (.iload 4, 2) := by decide +kernel
theorem dX5_takes_7 : decode cX5_takes 7 = .ok (.aload_n 0, 1) := by decide +kernel
theorem dX5_takes_8 : decode cX5_takes 8 = .ok (.getfield 7, 3) := by decide +kernel
theorem dX5_takes_11 : decode cX5_takes 11 = .ok (.iconst 0, 1) := by decide +kernel
theorem dX5_takes_12 : decode cX5_takes 12 = .ok (.iaload, 1) := by decide +kernel
theorem dX5_takes_13 : decode cX5_takes 13 = .ok (.if_icmp .ge 37, 3) := by decide +kernel
theorem dX5_takes_16 : decode cX5_takes 16 = .ok (.iload_n 3, 1) := by decide +kernel
theorem dX5_takes_17 : decode cX5_takes 17 = .ok (.aload_n 0, 1) := by decide +kernel
theorem dX5_takes_18 : decode cX5_takes 18 = .ok (.iload_n 1, 1) := by decide +kernel
theorem dX5_takes_19 : decode cX5_takes 19 = .ok (.iload 4, 2) := by decide +kernel
theorem dX5_takes_21 : decode cX5_takes 21 = .ok (.invokevirtual 67, 3) := by decide +kernel
theorem dX5_takes_24 : decode cX5_takes 24 = .ok (.ifCond .eq 17, 3) := by decide +kernel
theorem dX5_takes_27 : decode cX5_takes 27 = .ok (.aload_n 0, 1) := by decide +kernel
theorem dX5_takes_28 : decode cX5_takes 28 = .ok (.iload 4, 2) := by decide +kernel
theorem dX5_takes_30 : decode cX5_takes 30 = .ok (.iload_n 2, 1) := by decide +kernel
theorem dX5_takes_31 : decode cX5_takes 31 = .ok (.invokevirtual 100, 3) := by decide +kernel
theorem dX5_takes_34 : decode cX5_takes 34 = .ok (.ifCond .eq 7, 3) := by decide +kernel
theorem dX5_takes_37 : decode cX5_takes 37 = .ok (.iconst 1, 1) := by decide +kernel
theorem dX5_takes_38 : decode cX5_takes 38 = .ok (.goto 4, 3) := by decide +kernel
theorem dX5_takes_41 : decode cX5_takes 41 = .ok (.iconst 0, 1) := by decide +kernel
theorem dX5_takes_42 : decode cX5_takes 42 = .ok (.iadd, 1) := by decide +kernel
theorem dX5_takes_43 : decode cX5_takes 43 = .ok (.istore_n 3, 1) := by decide +kernel
theorem dX5_takes_44 : decode cX5_takes 44 = .ok (.iinc 4 1, 3) := by decide +kernel
theorem dX5_takes_47 : decode cX5_takes 47 = .ok (.goto (-42), 3) := by decide +kernel
theorem dX5_takes_50 : decode cX5_takes 50 = .ok (.iload_n 3, 1) := by decide +kernel
theorem dX5_takes_51 : decode cX5_takes 51 = .ok (.ireturn, 1) := by decide +kernel
theorem dX5_gentle_0 : decode cX5_gentle 0 = .ok (.aload_n 0, 1) := by decide +kernel
theorem dX5_gentle_1 : decode cX5_gentle 1 = .ok (.aload_n 0, 1) := by decide +kernel
theorem dX5_gentle_2 : decode cX5_gentle 2 = .ok (.iload_n 1, 1) := by decide +kernel
theorem dX5_gentle_3 : decode cX5_gentle 3 = .ok (.invokevirtual 87, 3) := by decide +kernel
theorem dX5_gentle_6 : decode cX5_gentle 6 = .ok (.ifCond .eq 7, 3) := by decide +kernel
theorem dX5_gentle_9 : decode cX5_gentle 9 = .ok (.iconst 0, 1) := by decide +kernel
theorem dX5_gentle_10 : decode cX5_gentle 10 = .ok (.goto 4, 3) := by decide +kernel
theorem dX5_gentle_13 : decode cX5_gentle 13 = .ok (.iconst 1, 1) := by decide +kernel
theorem dX5_gentle_14 : decode cX5_gentle 14 = .ok (.invokevirtual 71, 3) := by decide +kernel
theorem dX5_gentle_17 : decode cX5_gentle 17 = .ok (.ifCond .eq 5, 3) := by decide +kernel
theorem dX5_gentle_20 : decode cX5_gentle 20 = .ok (.iconst 0, 1) := by decide +kernel
theorem dX5_gentle_21 : decode cX5_gentle 21 = .ok (.ireturn, 1) := by decide +kernel
theorem dX5_gentle_22 : decode cX5_gentle 22 = .ok (.iconst (-1), 1) := by decide +kernel
theorem dX5_gentle_23 : decode cX5_gentle 23 = .ok (.istore_n 2, 1) := by decide +kernel
theorem dX5_gentle_24 : decode cX5_gentle 24 = .ok (.iconst 0, 1) := by decide +kernel
theorem dX5_gentle_25 : decode cX5_gentle 25 = .ok (.istore_n 3, 1) := by decide +kernel
theorem dX5_gentle_26 : decode cX5_gentle 26 = .ok (.iload_n 3, 1) := by decide +kernel
theorem dX5_gentle_27 : decode cX5_gentle 27 = .ok (.iconst 5, 1) := by decide +kernel
theorem dX5_gentle_28 : decode cX5_gentle 28 = .ok (.if_icmp .ge 39, 3) := by decide +kernel
theorem dX5_gentle_31 : decode cX5_gentle 31 = .ok (.aload_n 0, 1) := by decide +kernel
theorem dX5_gentle_32 : decode cX5_gentle 32 = .ok (.iload_n 1, 1) := by decide +kernel
theorem dX5_gentle_33 : decode cX5_gentle 33 = .ok (.iload_n 3, 1) := by decide +kernel
theorem dX5_gentle_34 : decode cX5_gentle 34 = .ok (.invokevirtual 100, 3) := by decide +kernel
theorem dX5_gentle_37 : decode cX5_gentle 37 = .ok (.ifCond .eq 24, 3) := by decide +kernel
theorem dX5_gentle_40 : decode cX5_gentle 40 = .ok (.iload_n 2, 1) := by decide +kernel
theorem dX5_gentle_41 : decode cX5_gentle 41 = .ok (.ifCond .lt 18, 3) := by decide +kernel
theorem dX5_gentle_44 : decode cX5_gentle 44 = .ok (.aload_n 0, 1) := by decide +kernel
theorem dX5_gentle_45 : decode cX5_gentle 45 = .ok (.iload_n 1, 1) := by decide +kernel
theorem dX5_gentle_46 : decode cX5_gentle 46 = .ok (.iload_n 3, 1) := by decide +kernel
theorem dX5_gentle_47 : decode cX5_gentle 47 = .ok (.invokevirtual 138, 3) := by decide +kernel
theorem dX5_gentle_50 : decode cX5_gentle 50 = .ok (.aload_n 0, 1) := by decide +kernel
theorem dX5_gentle_51 : decode cX5_gentle 51 = .ok (.iload_n 1, 1) := by decide +kernel
theorem dX5_gentle_52 : decode cX5_gentle 52 = .ok (.iload_n 2, 1) := by decide +kernel
theorem dX5_gentle_53 : decode cX5_gentle 53 = .ok (.invokevirtual 138, 3) := by decide +kernel
theorem dX5_gentle_56 : decode cX5_gentle 56 = .ok (.if_icmp .ge 5, 3) := by decide +kernel
theorem dX5_gentle_59 : decode cX5_gentle 59 = .ok (.iload_n 3, 1) := by decide +kernel
theorem dX5_gentle_60 : decode cX5_gentle 60 = .ok (.istore_n 2, 1) := by decide +kernel
theorem dX5_gentle_61 : decode cX5_gentle 61 = .ok (.iinc 3 1, 3) := by decide +kernel
theorem dX5_gentle_64 : decode cX5_gentle 64 = .ok (.goto (-38), 3) := by decide +kernel
theorem dX5_gentle_67 : decode cX5_gentle 67 = .ok (.aload_n 0, 1) := by decide +kernel
theorem dX5_gentle_68 : decode cX5_gentle 68 = .ok (.iload_n 2, 1) := by decide +kernel
theorem dX5_gentle_69 : decode cX5_gentle 69 = .ok (.ifCond .ge 7, 3) := by decide +kernel
theorem dX5_gentle_72 : decode cX5_gentle 72 = .ok (.iconst 2, 1) := by decide +kernel
theorem dX5_gentle_73 : decode cX5_gentle 73 = .ok (.goto 4, 3) := by decide +kernel
theorem dX5_gentle_76 : decode cX5_gentle 76 = .ok (.iconst 0, 1) := by decide +kernel
theorem dX5_gentle_77 : decode cX5_gentle 77 = .ok (.invokevirtual 71, 3) := by decide +kernel
theorem dX5_gentle_80 : decode cX5_gentle 80 = .ok (.ifCond .eq 7, 3) := by decide +kernel
theorem dX5_gentle_83 : decode cX5_gentle 83 = .ok (.iconst 0, 1) := by decide +kernel
theorem dX5_gentle_84 : decode cX5_gentle 84 = .ok (.goto 4, 3) := by decide +kernel
theorem dX5_gentle_87 : decode cX5_gentle 87 = .ok (.iload_n 2, 1) := by decide +kernel
theorem dX5_gentle_88 : decode cX5_gentle 88 = .ok (.ireturn, 1) := by decide +kernel
theorem dX5_wish_0 : decode cX5_wish 0 = .ok (.aload_n 0, 1) := by decide +kernel
theorem dX5_wish_1 : decode cX5_wish 1 = .ok (.aload_n 0, 1) := by decide +kernel
theorem dX5_wish_2 : decode cX5_wish 2 = .ok (.iload_n 1, 1) := by decide +kernel
theorem dX5_wish_3 : decode cX5_wish 3 = .ok (.invokevirtual 87, 3) := by decide +kernel
theorem dX5_wish_6 : decode cX5_wish 6 = .ok (.ifCond .eq 10, 3) := by decide +kernel
theorem dX5_wish_9 : decode cX5_wish 9 = .ok (.iload_n 2, 1) := by decide +kernel
theorem dX5_wish_10 : decode cX5_wish 10 = .ok (.invokestatic 113, 3) := by decide +kernel
theorem dX5_wish_13 : decode cX5_wish 13 = .ok (.ifCond .ne 7, 3) := by decide +kernel
theorem dX5_wish_16 : decode cX5_wish 16 = .ok (.iconst 1, 1) := by decide +kernel
theorem dX5_wish_17 : decode cX5_wish 17 = .ok (.goto 18, 3) := by decide +kernel
theorem dX5_wish_20 : decode cX5_wish 20 = .ok (.iload_n 3, 1) := by decide +kernel
theorem dX5_wish_21 : decode cX5_wish 21 = .ok (.iconst 0, 1) := by decide +kernel
theorem dX5_wish_22 : decode cX5_wish 22 = .ok (.bipush 9, 2) := by decide +kernel
theorem dX5_wish_24 : decode cX5_wish 24 = .ok (.invokestatic 59, 3) := by decide +kernel
theorem dX5_wish_27 : decode cX5_wish 27 = .ok (.ifCond .eq 7, 3) := by decide +kernel
theorem dX5_wish_30 : decode cX5_wish 30 = .ok (.iconst 0, 1) := by decide +kernel
theorem dX5_wish_31 : decode cX5_wish 31 = .ok (.goto 4, 3) := by decide +kernel
theorem dX5_wish_34 : decode cX5_wish 34 = .ok (.iconst 2, 1) := by decide +kernel
theorem dX5_wish_35 : decode cX5_wish 35 = .ok (.invokevirtual 71, 3) := by decide +kernel
theorem dX5_wish_38 : decode cX5_wish 38 = .ok (.ifCond .eq 5, 3) := by decide +kernel
theorem dX5_wish_41 : decode cX5_wish 41 = .ok (.iconst 0, 1) := by decide +kernel
theorem dX5_wish_42 : decode cX5_wish 42 = .ok (.ireturn, 1) := by decide +kernel
theorem dX5_wish_43 : decode cX5_wish 43 = .ok (.aload_n 0, 1) := by decide +kernel
theorem dX5_wish_44 : decode cX5_wish 44 = .ok (.aload_n 0, 1) := by decide +kernel
theorem dX5_wish_45 : decode cX5_wish 45 = .ok (.getfield 7, 3) := by decide +kernel
theorem dX5_wish_48 : decode cX5_wish 48 = .ok (.invokevirtual 79, 3) := by decide +kernel
theorem dX5_wish_51 : decode cX5_wish 51 = .ok (.aload_n 0, 1) := by decide +kernel
theorem dX5_wish_52 : decode cX5_wish 52 = .ok (.iload_n 1, 1) := by decide +kernel
theorem dX5_wish_53 : decode cX5_wish 53 = .ok (.iconst 2, 1) := by decide +kernel
theorem dX5_wish_54 : decode cX5_wish 54 = .ok (.invokevirtual 63, 3) := by decide +kernel
theorem dX5_wish_57 : decode cX5_wish 57 = .ok (.istore 4, 2) := by decide +kernel
theorem dX5_wish_59 : decode cX5_wish 59 = .ok (.aload_n 0, 1) := by decide +kernel
theorem dX5_wish_60 : decode cX5_wish 60 = .ok (.iload_n 1, 1) := by decide +kernel
theorem dX5_wish_61 : decode cX5_wish 61 = .ok (.iconst 2, 1) := by decide +kernel
theorem dX5_wish_62 : decode cX5_wish 62 = .ok (.iload_n 2, 1) := by decide +kernel
theorem dX5_wish_63 : decode cX5_wish 63 = .ok (.invokevirtual 83, 3) := by decide +kernel
theorem dX5_wish_66 : decode cX5_wish 66 = .ok (.aload_n 0, 1) := by decide +kernel
theorem dX5_wish_67 : decode cX5_wish 67 = .ok (.iload_n 1, 1) := by decide +kernel
theorem dX5_wish_68 : decode cX5_wish 68 = .ok (.iconst 3, 1) := by decide +kernel
theorem dX5_wish_69 : decode cX5_wish 69 = .ok (.iload_n 3, 1) := by decide +kernel
theorem dX5_wish_70 : decode cX5_wish 70 = .ok (.invokevirtual 83, 3) := by decide +kernel
theorem dX5_wish_73 : decode cX5_wish 73 = .ok (.iload 4, 2) := by decide +kernel
theorem dX5_wish_75 : decode cX5_wish 75 = .ok (.ireturn, 1) := by decide +kernel
theorem dX5_isFulfilled_0 : decode cX5_isFulfilled 0 = .ok (.aload_n 0, 1) := by decide +kernel
theorem dX5_isFulfilled_1 : decode cX5_isFulfilled 1 = .ok (.iload_n 1, 1) := by decide +kernel
theorem dX5_isFulfilled_2 : decode cX5_isFulfilled 2 = .ok (.invokevirtual 90, 3) := by decide +kernel
theorem dX5_isFulfilled_5 : decode cX5_isFulfilled 5 = .ok (.ifCond .eq 22, 3) := by decide +kernel
theorem dX5_isFulfilled_8 : decode cX5_isFulfilled 8 = .ok (.aload_n 0, 1) := by decide +kernel
theorem dX5_isFulfilled_9 : decode cX5_isFulfilled 9 = .ok (.iload_n 1, 1) := by decide +kernel
theorem dX5_isFulfilled_10 : decode cX5_isFulfilled 10 = .ok (.iconst 2, 1) := by decide +kernel
theorem dX5_isFulfilled_11 : decode cX5_isFulfilled 11 = .ok (.invokevirtual 63, 3) := by decide +kernel
theorem dX5_isFulfilled_14 : decode cX5_isFulfilled 14 = .ok (.aload_n 0, 1) := by decide +kernel
theorem dX5_isFulfilled_15 : decode cX5_isFulfilled 15 = .ok (.iload_n 1, 1) := by decide +kernel
theorem dX5_isFulfilled_16 : decode cX5_isFulfilled 16 = .ok (.iconst 1, 1) := by decide +kernel
theorem dX5_isFulfilled_17 : decode cX5_isFulfilled 17 = .ok (.invokevirtual 63, 3) := by decide +kernel
theorem dX5_isFulfilled_20 : decode cX5_isFulfilled 20 = .ok (.if_icmp .ne 7, 3) := by decide +kernel
theorem dX5_isFulfilled_23 : decode cX5_isFulfilled 23 = .ok (.iconst 1, 1) := by decide +kernel
theorem dX5_isFulfilled_24 : decode cX5_isFulfilled 24 = .ok (.goto 4, 3) := by decide +kernel
theorem dX5_isFulfilled_27 : decode cX5_isFulfilled 27 = .ok (.iconst 0, 1) := by decide +kernel
theorem dX5_isFulfilled_28 : decode cX5_isFulfilled 28 = .ok (.ireturn, 1) := by decide +kernel
theorem dX5_fulfilled_0 : decode cX5_fulfilled 0 = .ok (.aload_n 0, 1) := by decide +kernel
theorem dX5_fulfilled_1 : decode cX5_fulfilled 1 = .ok (.iconst 0, 1) := by decide +kernel
theorem dX5_fulfilled_2 : decode cX5_fulfilled 2 = .ok (.putfield 39, 3) := by decide +kernel
theorem dX5_fulfilled_5 : decode cX5_fulfilled 5 = .ok (.iconst 0, 1) := by decide +kernel
theorem dX5_fulfilled_6 : decode cX5_fulfilled 6 = .ok (.istore_n 1, 1) := by decide +kernel
theorem dX5_fulfilled_7 : decode cX5_fulfilled 7 = .ok (.iconst 0, 1) := by decide +kernel
theorem dX5_fulfilled_8 : decode cX5_fulfilled 8 = .ok (.istore_n 2, 1) := by decide +kernel
theorem dX5_fulfilled_9 : decode cX5_fulfilled 9 = .ok (.iload_n 2, 1) := by decide +kernel
theorem dX5_fulfilled_10 : decode cX5_fulfilled 10 = .ok (.aload_n 0, 1) := by decide +kernel
theorem dX5_fulfilled_11 : decode cX5_fulfilled 11 = .ok (.getfield 7, 3) := by decide +kernel
theorem dX5_fulfilled_14 : decode cX5_fulfilled 14 = .ok (.iconst 0, 1) := by decide +kernel
theorem dX5_fulfilled_15 : decode cX5_fulfilled 15 = .ok (.iaload, 1) := by decide +kernel
theorem dX5_fulfilled_16 : decode cX5_fulfilled 16 = .ok (.if_icmp .ge 30, 3) := by decide +kernel
theorem dX5_fulfilled_19 : decode cX5_fulfilled 19 = .ok (.iload_n 1, 1) := by decide +kernel
theorem dX5_fulfilled_20 : decode cX5_fulfilled 20 = .ok (.aload_n 0, 1) := by decide +kernel
theorem dX5_fulfilled_21 : decode cX5_fulfilled 21 = .ok (.iload_n 2, 1) := by decide +kernel
theorem dX5_fulfilled_22 : decode cX5_fulfilled 22 = .ok (.invokevirtual 141, 3) := by decide +kernel
theorem dX5_fulfilled_25 : decode cX5_fulfilled 25 = .ok (.ifCond .eq 12, 3) := by decide +kernel
theorem dX5_fulfilled_28 : decode cX5_fulfilled 28 = .ok (.aload_n 0, 1) := by decide +kernel
theorem dX5_fulfilled_29 : decode cX5_fulfilled 29 = .ok (.iload_n 2, 1) := by decide +kernel
theorem dX5_fulfilled_30 : decode cX5_fulfilled 30 = .ok (.iconst 3, 1) := by decide +kernel
theorem dX5_fulfilled_31 : decode cX5_fulfilled 31 = .ok (.invokevirtual 63, 3) := by decide +kernel
theorem dX5_fulfilled_34 : decode cX5_fulfilled 34 = .ok (.goto 4, 3) := by decide +kernel
theorem dX5_fulfilled_37 : decode cX5_fulfilled 37 = .ok (.iconst 0, 1) := by decide +kernel
theorem dX5_fulfilled_38 : decode cX5_fulfilled 38 = .ok (.iadd, 1) := by decide +kernel
theorem dX5_fulfilled_39 : decode cX5_fulfilled 39 = .ok (.istore_n 1, 1) := by decide +kernel
theorem dX5_fulfilled_40 : decode cX5_fulfilled 40 = .ok (.iinc 2 1, 3) := by decide +kernel
theorem dX5_fulfilled_43 : decode cX5_fulfilled 43 = .ok (.goto (-34), 3) := by decide +kernel
theorem dX5_fulfilled_46 : decode cX5_fulfilled 46 = .ok (.iload_n 1, 1) := by decide +kernel
theorem dX5_fulfilled_47 : decode cX5_fulfilled 47 = .ok (.ireturn, 1) := by decide +kernel
theorem dX5_clashes_0 : decode cX5_clashes 0 = .ok (.iconst 0, 1) := by decide +kernel
theorem dX5_clashes_1 : decode cX5_clashes 1 = .ok (.istore 4, 2) := by decide +kernel
theorem dX5_clashes_3 : decode cX5_clashes 3 = .ok (.iload 4, 2) := by decide +kernel
theorem dX5_clashes_5 : decode cX5_clashes 5 = .ok (.aload_n 0, 1) := by decide +kernel
theorem dX5_clashes_6 : decode cX5_clashes 6 = .ok (.getfield 7, 3) := by decide +kernel
theorem dX5_clashes_9 : decode cX5_clashes 9 = .ok (.iconst 0, 1) := by decide +kernel
theorem dX5_clashes_10 : decode cX5_clashes 10 = .ok (.iaload, 1) := by decide +kernel
theorem dX5_clashes_11 : decode cX5_clashes 11 = .ok (.if_icmp .ge 61, 3) := by decide +kernel
theorem dX5_clashes_14 : decode cX5_clashes 14 = .ok (.aload_n 0, 1) := by decide +kernel
theorem dX5_clashes_15 : decode cX5_clashes 15 = .ok (.iload_n 1, 1) := by decide +kernel
theorem dX5_clashes_16 : decode cX5_clashes 16 = .ok (.iload 4, 2) := by decide +kernel
theorem dX5_clashes_18 : decode cX5_clashes 18 = .ok (.invokevirtual 67, 3) := by decide +kernel
theorem dX5_clashes_21 : decode cX5_clashes 21 = .ok (.ifCond .eq 45, 3) := by decide +kernel
theorem dX5_clashes_24 : decode cX5_clashes 24 = .ok (.aload_n 0, 1) := by decide +kernel
theorem dX5_clashes_25 : decode cX5_clashes 25 = .ok (.iload 4, 2) := by decide +kernel
theorem dX5_clashes_27 : decode cX5_clashes 27 = .ok (.invokevirtual 90, 3) := by decide +kernel
theorem dX5_clashes_30 : decode cX5_clashes 30 = .ok (.ifCond .eq 17, 3) := by decide +kernel
theorem dX5_clashes_33 : decode cX5_clashes 33 = .ok (.aload_n 0, 1) := by decide +kernel
theorem dX5_clashes_34 : decode cX5_clashes 34 = .ok (.iload 4, 2) := by decide +kernel
theorem dX5_clashes_36 : decode cX5_clashes 36 = .ok (.iconst 1, 1) := by decide +kernel
theorem dX5_clashes_37 : decode cX5_clashes 37 = .ok (.invokevirtual 63, 3) := by decide +kernel
theorem dX5_clashes_40 : decode cX5_clashes 40 = .ok (.iload_n 2, 1) := by decide +kernel
theorem dX5_clashes_41 : decode cX5_clashes 41 = .ok (.if_icmp .ne 25, 3) := by decide +kernel
theorem dX5_clashes_44 : decode cX5_clashes 44 = .ok (.goto 20, 3) := by decide +kernel
theorem dX5_clashes_47 : decode cX5_clashes 47 = .ok (.iload 4, 2) := by decide +kernel
theorem dX5_clashes_49 : decode cX5_clashes 49 = .ok (.iload_n 3, 1) := by decide +kernel
theorem dX5_clashes_50 : decode cX5_clashes 50 = .ok (.if_icmp .ge 16, 3) := by decide +kernel
theorem dX5_clashes_53 : decode cX5_clashes 53 = .ok (.aload_n 0, 1) := by decide +kernel
theorem dX5_clashes_54 : decode cX5_clashes 54 = .ok (.getfield 33, 3) := by decide +kernel
theorem dX5_clashes_57 : decode cX5_clashes 57 = .ok (.iload 4, 2) := by decide +kernel
theorem dX5_clashes_59 : decode cX5_clashes 59 = .ok (.iaload, 1) := by decide +kernel
theorem dX5_clashes_60 : decode cX5_clashes 60 = .ok (.iload_n 2, 1) := by decide +kernel
theorem dX5_clashes_61 : decode cX5_clashes 61 = .ok (.if_icmp .ne 5, 3) := by decide +kernel
theorem dX5_clashes_64 : decode cX5_clashes 64 = .ok (.iconst 1, 1) := by decide +kernel
theorem dX5_clashes_65 : decode cX5_clashes 65 = .ok (.ireturn, 1) := by decide +kernel
theorem dX5_clashes_66 : decode cX5_clashes 66 = .ok (.iinc 4 1, 3) := by decide +kernel
theorem dX5_clashes_69 : decode cX5_clashes 69 = .ok (.goto (-66), 3) := by decide +kernel
theorem dX5_clashes_72 : decode cX5_clashes 72 = .ok (.iconst 0, 1) := by decide +kernel
theorem dX5_clashes_73 : decode cX5_clashes 73 = .ok (.ireturn, 1) := by decide +kernel
theorem dX5_waysFrom_0 : decode cX5_waysFrom 0 = .ok (.iload_n 1, 1) := by decide +kernel
theorem dX5_waysFrom_1 : decode cX5_waysFrom 1 = .ok (.aload_n 0, 1) := by decide +kernel
theorem dX5_waysFrom_2 : decode cX5_waysFrom 2 = .ok (.getfield 7, 3) := by decide +kernel
theorem dX5_waysFrom_5 : decode cX5_waysFrom 5 = .ok (.iconst 0, 1) := by decide +kernel
theorem dX5_waysFrom_6 : decode cX5_waysFrom 6 = .ok (.iaload, 1) := by decide +kernel
theorem dX5_waysFrom_7 : decode cX5_waysFrom 7 = .ok (.if_icmp .ne 5, 3) := by decide +kernel
theorem dX5_waysFrom_10 : decode cX5_waysFrom 10 = .ok (.iconst 1, 1) := by decide +kernel
theorem dX5_waysFrom_11 : decode cX5_waysFrom 11 = .ok (.ireturn, 1) := by decide +kernel
theorem dX5_waysFrom_12 : decode cX5_waysFrom 12 = .ok (.aload_n 0, 1) := by decide +kernel
theorem dX5_waysFrom_13 : decode cX5_waysFrom 13 = .ok (.iload_n 1, 1) := by decide +kernel
theorem dX5_waysFrom_14 : decode cX5_waysFrom 14 = .ok (.invokevirtual 90, 3) := by decide +kernel
theorem dX5_waysFrom_17 : decode cX5_waysFrom 17 = .ok (.ifCond .eq 15, 3) := by decide +kernel
theorem dX5_waysFrom_20 : decode cX5_waysFrom 20 = .ok (.aload_n 0, 1) := by decide +kernel
theorem dX5_waysFrom_21 : decode cX5_waysFrom 21 = .ok (.iload_n 1, 1) := by decide +kernel
theorem dX5_waysFrom_22 : decode cX5_waysFrom 22 = .ok (.iconst 1, 1) := by decide +kernel
theorem dX5_waysFrom_23 : decode cX5_waysFrom 23 = .ok (.iadd, 1) := by decide +kernel
theorem dX5_waysFrom_24 : decode cX5_waysFrom 24 = .ok (.iload_n 2, 1) := by decide +kernel
theorem dX5_waysFrom_25 : decode cX5_waysFrom 25 = .ok (.iload_n 3, 1) := by decide +kernel
theorem dX5_waysFrom_26 : decode cX5_waysFrom 26 = .ok (.iload 4, 2) := by decide +kernel
theorem dX5_waysFrom_28 : decode cX5_waysFrom 28 = .ok (.invokevirtual 144, 3) := by decide +kernel
theorem dX5_waysFrom_31 : decode cX5_waysFrom 31 = .ok (.ireturn, 1) := by decide +kernel
theorem dX5_waysFrom_32 : decode cX5_waysFrom 32 = .ok (.iconst 0, 1) := by decide +kernel
theorem dX5_waysFrom_33 : decode cX5_waysFrom 33 = .ok (.istore 5, 2) := by decide +kernel
theorem dX5_waysFrom_35 : decode cX5_waysFrom 35 = .ok (.iconst 0, 1) := by decide +kernel
theorem dX5_waysFrom_36 : decode cX5_waysFrom 36 = .ok (.istore 6, 2) := by decide +kernel
theorem dX5_waysFrom_38 : decode cX5_waysFrom 38 = .ok (.iload 6, 2) := by decide +kernel
theorem dX5_waysFrom_40 : decode cX5_waysFrom 40 = .ok (.iload_n 2, 1) := by decide +kernel
theorem dX5_waysFrom_41 : decode cX5_waysFrom 41 = .ok (.if_icmp .ge 59, 3) := by decide +kernel
theorem dX5_waysFrom_44 : decode cX5_waysFrom 44 = .ok (.iload_n 1, 1) := by decide +kernel
theorem dX5_waysFrom_45 : decode cX5_waysFrom 45 = .ok (.iload_n 3, 1) := by decide +kernel
theorem dX5_waysFrom_46 : decode cX5_waysFrom 46 = .ok (.if_icmp .ne 10, 3) := by decide +kernel
theorem dX5_waysFrom_49 : decode cX5_waysFrom 49 = .ok (.iload 6, 2) := by decide +kernel
theorem dX5_waysFrom_51 : decode cX5_waysFrom 51 = .ok (.iload 4, 2) := by decide +kernel
theorem dX5_waysFrom_53 : decode cX5_waysFrom 53 = .ok (.if_icmp .ne 41, 3) := by decide +kernel
theorem dX5_waysFrom_56 : decode cX5_waysFrom 56 = .ok (.aload_n 0, 1) := by decide +kernel
theorem dX5_waysFrom_57 : decode cX5_waysFrom 57 = .ok (.iload_n 1, 1) := by decide +kernel
theorem dX5_waysFrom_58 : decode cX5_waysFrom 58 = .ok (.iload 6, 2) := by decide +kernel
theorem dX5_waysFrom_60 : decode cX5_waysFrom 60 = .ok (.iload_n 1, 1) := by decide +kernel
theorem dX5_waysFrom_61 : decode cX5_waysFrom 61 = .ok (.invokevirtual 148, 3) := by decide +kernel
theorem dX5_waysFrom_64 : decode cX5_waysFrom 64 = .ok (.ifCond .eq 6, 3) := by decide +kernel
theorem dX5_waysFrom_67 : decode cX5_waysFrom 67 = .ok (.goto 27, 3) := by decide +kernel
theorem dX5_waysFrom_70 : decode cX5_waysFrom 70 = .ok (.aload_n 0, 1) := by decide +kernel
theorem dX5_waysFrom_71 : decode cX5_waysFrom 71 = .ok (.getfield 33, 3) := by decide +kernel
theorem dX5_waysFrom_74 : decode cX5_waysFrom 74 = .ok (.iload_n 1, 1) := by decide +kernel
theorem dX5_waysFrom_75 : decode cX5_waysFrom 75 = .ok (.iload 6, 2) := by decide +kernel
theorem dX5_waysFrom_77 : decode cX5_waysFrom 77 = .ok (.iastore, 1) := by decide +kernel
theorem dX5_waysFrom_78 : decode cX5_waysFrom 78 = .ok (.iload 5, 2) := by decide +kernel
theorem dX5_waysFrom_80 : decode cX5_waysFrom 80 = .ok (.aload_n 0, 1) := by decide +kernel
theorem dX5_waysFrom_81 : decode cX5_waysFrom 81 = .ok (.iload_n 1, 1) := by decide +kernel
theorem dX5_waysFrom_82 : decode cX5_waysFrom 82 = .ok (.iconst 1, 1) := by decide +kernel
theorem dX5_waysFrom_83 : decode cX5_waysFrom 83 = .ok (.iadd, 1) := by decide +kernel
theorem dX5_waysFrom_84 : decode cX5_waysFrom 84 = .ok (.iload_n 2, 1) := by decide +kernel
theorem dX5_waysFrom_85 : decode cX5_waysFrom 85 = .ok (.iload_n 3, 1) := by decide +kernel
theorem dX5_waysFrom_86 : decode cX5_waysFrom 86 = .ok (.iload 4, 2) := by decide +kernel
theorem dX5_waysFrom_88 : decode cX5_waysFrom 88 = .ok (.invokevirtual 144, 3) := by decide +kernel
theorem dX5_waysFrom_91 : decode cX5_waysFrom 91 = .ok (.iadd, 1) := by decide +kernel
theorem dX5_waysFrom_92 : decode cX5_waysFrom 92 = .ok (.istore 5, 2) := by decide +kernel
theorem dX5_waysFrom_94 : decode cX5_waysFrom 94 = .ok (.iinc 6 1, 3) := by decide +kernel
theorem dX5_waysFrom_97 : decode cX5_waysFrom 97 = .ok (.goto (-59), 3) := by decide +kernel
theorem dX5_waysFrom_100 : decode cX5_waysFrom 100 = .ok (.iload 5, 2) := by decide +kernel
theorem dX5_waysFrom_102 : decode cX5_waysFrom 102 = .ok (.ireturn, 1) := by decide +kernel
theorem dX5_ways_0 : decode cX5_ways 0 = .ok (.aload_n 0, 1) := by decide +kernel
theorem dX5_ways_1 : decode cX5_ways 1 = .ok (.iconst 0, 1) := by decide +kernel
theorem dX5_ways_2 : decode cX5_ways 2 = .ok (.putfield 39, 3) := by decide +kernel
theorem dX5_ways_5 : decode cX5_ways 5 = .ok (.aload_n 0, 1) := by decide +kernel
theorem dX5_ways_6 : decode cX5_ways 6 = .ok (.iconst 0, 1) := by decide +kernel
theorem dX5_ways_7 : decode cX5_ways 7 = .ok (.aload_n 0, 1) := by decide +kernel
theorem dX5_ways_8 : decode cX5_ways 8 = .ok (.getfield 7, 3) := by decide +kernel
theorem dX5_ways_11 : decode cX5_ways 11 = .ok (.bipush 36, 2) := by decide +kernel
theorem dX5_ways_13 : decode cX5_ways 13 = .ok (.iaload, 1) := by decide +kernel
theorem dX5_ways_14 : decode cX5_ways 14 = .ok (.iconst (-1), 1) := by decide +kernel
theorem dX5_ways_15 : decode cX5_ways 15 = .ok (.iconst (-1), 1) := by decide +kernel
theorem dX5_ways_16 : decode cX5_ways 16 = .ok (.invokevirtual 144, 3) := by decide +kernel
theorem dX5_ways_19 : decode cX5_ways 19 = .ok (.ireturn, 1) := by decide +kernel
theorem dX5_left_0 : decode cX5_left 0 = .ok (.iconst 0, 1) := by decide +kernel
theorem dX5_left_1 : decode cX5_left 1 = .ok (.istore_n 1, 1) := by decide +kernel
theorem dX5_left_2 : decode cX5_left 2 = .ok (.iconst 0, 1) := by decide +kernel
theorem dX5_left_3 : decode cX5_left 3 = .ok (.istore_n 2, 1) := by decide +kernel
theorem dX5_left_4 : decode cX5_left 4 = .ok (.iload_n 2, 1) := by decide +kernel
theorem dX5_left_5 : decode cX5_left 5 = .ok (.aload_n 0, 1) := by decide +kernel
theorem dX5_left_6 : decode cX5_left 6 = .ok (.getfield 7, 3) := by decide +kernel
theorem dX5_left_9 : decode cX5_left 9 = .ok (.iconst 0, 1) := by decide +kernel
theorem dX5_left_10 : decode cX5_left 10 = .ok (.iaload, 1) := by decide +kernel
theorem dX5_left_11 : decode cX5_left 11 = .ok (.if_icmp .ge 25, 3) := by decide +kernel
theorem dX5_left_14 : decode cX5_left 14 = .ok (.iload_n 1, 1) := by decide +kernel
theorem dX5_left_15 : decode cX5_left 15 = .ok (.aload_n 0, 1) := by decide +kernel
theorem dX5_left_16 : decode cX5_left 16 = .ok (.iload_n 2, 1) := by decide +kernel
theorem dX5_left_17 : decode cX5_left 17 = .ok (.invokevirtual 90, 3) := by decide +kernel
theorem dX5_left_20 : decode cX5_left 20 = .ok (.ifCond .eq 7, 3) := by decide +kernel
theorem dX5_left_23 : decode cX5_left 23 = .ok (.iconst 0, 1) := by decide +kernel
theorem dX5_left_24 : decode cX5_left 24 = .ok (.goto 4, 3) := by decide +kernel
theorem dX5_left_27 : decode cX5_left 27 = .ok (.iconst 1, 1) := by decide +kernel
theorem dX5_left_28 : decode cX5_left 28 = .ok (.iadd, 1) := by decide +kernel
theorem dX5_left_29 : decode cX5_left 29 = .ok (.istore_n 1, 1) := by decide +kernel
theorem dX5_left_30 : decode cX5_left 30 = .ok (.iinc 2 1, 3) := by decide +kernel
theorem dX5_left_33 : decode cX5_left 33 = .ok (.goto (-29), 3) := by decide +kernel
theorem dX5_left_36 : decode cX5_left 36 = .ok (.iload_n 1, 1) := by decide +kernel
theorem dX5_left_37 : decode cX5_left 37 = .ok (.ireturn, 1) := by decide +kernel
theorem dX5_waysAgain_0 : decode cX5_waysAgain 0 = .ok (.aload_n 0, 1) := by decide +kernel
theorem dX5_waysAgain_1 : decode cX5_waysAgain 1 = .ok (.invokevirtual 151, 3) := by decide +kernel
theorem dX5_waysAgain_4 : decode cX5_waysAgain 4 = .ok (.iconst 4, 1) := by decide +kernel
theorem dX5_waysAgain_5 : decode cX5_waysAgain 5 = .ok (.if_icmp .le 8, 3) := by decide +kernel
theorem dX5_waysAgain_8 : decode cX5_waysAgain 8 = .ok (.aload_n 0, 1) := by decide +kernel
theorem dX5_waysAgain_9 : decode cX5_waysAgain 9 = .ok (.invokevirtual 154, 3) := by decide +kernel
theorem dX5_waysAgain_12 : decode cX5_waysAgain 12 = .ok (.ireturn, 1) := by decide +kernel
theorem dX5_waysAgain_13 : decode cX5_waysAgain 13 = .ok (.aload_n 0, 1) := by decide +kernel
theorem dX5_waysAgain_14 : decode cX5_waysAgain 14 = .ok (.iconst 0, 1) := by decide +kernel
theorem dX5_waysAgain_15 : decode cX5_waysAgain 15 = .ok (.putfield 39, 3) := by decide +kernel
theorem dX5_waysAgain_18 : decode cX5_waysAgain 18 = .ok (.iconst 1, 1) := by decide +kernel
theorem dX5_waysAgain_19 : decode cX5_waysAgain 19 = .ok (.istore_n 1, 1) := by decide +kernel
theorem dX5_waysAgain_20 : decode cX5_waysAgain 20 = .ok (.iconst 0, 1) := by decide +kernel
theorem dX5_waysAgain_21 : decode cX5_waysAgain 21 = .ok (.istore_n 2, 1) := by decide +kernel
theorem dX5_waysAgain_22 : decode cX5_waysAgain 22 = .ok (.iload_n 2, 1) := by decide +kernel
theorem dX5_waysAgain_23 : decode cX5_waysAgain 23 = .ok (.aload_n 0, 1) := by decide +kernel
theorem dX5_waysAgain_24 : decode cX5_waysAgain 24 = .ok (.invokevirtual 151, 3) := by decide +kernel
theorem dX5_waysAgain_27 : decode cX5_waysAgain 27 = .ok (.if_icmp .ge 19, 3) := by decide +kernel
theorem dX5_waysAgain_30 : decode cX5_waysAgain 30 = .ok (.iload_n 1, 1) := by decide +kernel
theorem dX5_waysAgain_31 : decode cX5_waysAgain 31 = .ok (.aload_n 0, 1) := by decide +kernel
theorem dX5_waysAgain_32 : decode cX5_waysAgain 32 = .ok (.getfield 7, 3) := by decide +kernel
theorem dX5_waysAgain_35 : decode cX5_waysAgain 35 = .ok (.bipush 36, 2) := by decide +kernel
theorem dX5_waysAgain_37 : decode cX5_waysAgain 37 = .ok (.iaload, 1) := by decide +kernel
theorem dX5_waysAgain_38 : decode cX5_waysAgain 38 = .ok (.imul, 1) := by decide +kernel
theorem dX5_waysAgain_39 : decode cX5_waysAgain 39 = .ok (.istore_n 1, 1) := by decide +kernel
theorem dX5_waysAgain_40 : decode cX5_waysAgain 40 = .ok (.iinc 2 1, 3) := by decide +kernel
theorem dX5_waysAgain_43 : decode cX5_waysAgain 43 = .ok (.goto (-21), 3) := by decide +kernel
theorem dX5_waysAgain_46 : decode cX5_waysAgain 46 = .ok (.iconst 0, 1) := by decide +kernel
theorem dX5_waysAgain_47 : decode cX5_waysAgain 47 = .ok (.istore_n 2, 1) := by decide +kernel
theorem dX5_waysAgain_48 : decode cX5_waysAgain 48 = .ok (.iconst 0, 1) := by decide +kernel
theorem dX5_waysAgain_49 : decode cX5_waysAgain 49 = .ok (.istore_n 3, 1) := by decide +kernel
theorem dX5_waysAgain_50 : decode cX5_waysAgain 50 = .ok (.iload_n 3, 1) := by decide +kernel
theorem dX5_waysAgain_51 : decode cX5_waysAgain 51 = .ok (.iload_n 1, 1) := by decide +kernel
theorem dX5_waysAgain_52 : decode cX5_waysAgain 52 = .ok (.if_icmp .ge 119, 3) := by decide +kernel
theorem dX5_waysAgain_55 : decode cX5_waysAgain 55 = .ok (.iload_n 3, 1) := by decide +kernel
theorem dX5_waysAgain_56 : decode cX5_waysAgain 56 = .ok (.istore 4, 2) := by decide +kernel
theorem dX5_waysAgain_58 : decode cX5_waysAgain 58 = .ok (.iconst 1, 1) := by decide +kernel
theorem dX5_waysAgain_59 : decode cX5_waysAgain 59 = .ok (.istore 5, 2) := by decide +kernel
theorem dX5_waysAgain_61 : decode cX5_waysAgain 61 = .ok (.iconst 0, 1) := by decide +kernel
theorem dX5_waysAgain_62 : decode cX5_waysAgain 62 = .ok (.istore 6, 2) := by decide +kernel
theorem dX5_waysAgain_64 : decode cX5_waysAgain 64 = .ok (.iload 6, 2) := by decide +kernel
theorem dX5_waysAgain_66 : decode cX5_waysAgain 66 = .ok (.aload_n 0, 1) := by decide +kernel
theorem dX5_waysAgain_67 : decode cX5_waysAgain 67 = .ok (.getfield 7, 3) := by decide +kernel
theorem dX5_waysAgain_70 : decode cX5_waysAgain 70 = .ok (.iconst 0, 1) := by decide +kernel
theorem dX5_waysAgain_71 : decode cX5_waysAgain 71 = .ok (.iaload, 1) := by decide +kernel
theorem dX5_waysAgain_72 : decode cX5_waysAgain 72 = .ok (.if_icmp .ge 80, 3) := by decide +kernel
theorem dX5_waysAgain_75 : decode cX5_waysAgain 75 = .ok (.iload 5, 2) := by decide +kernel
theorem dX5_waysAgain_77 : decode cX5_waysAgain 77 = .ok (.ifCond .eq 75, 3) := by decide +kernel
theorem dX5_waysAgain_80 : decode cX5_waysAgain 80 = .ok (.aload_n 0, 1) := by decide +kernel
theorem dX5_waysAgain_81 : decode cX5_waysAgain 81 = .ok (.iload 6, 2) := by decide +kernel
theorem dX5_waysAgain_83 : decode cX5_waysAgain 83 = .ok (.invokevirtual 90, 3) := by decide +kernel
theorem dX5_waysAgain_86 : decode cX5_waysAgain 86 = .ok (.ifCond .eq 6, 3) := by decide +kernel
theorem dX5_waysAgain_89 : decode cX5_waysAgain 89 = .ok (.goto 57, 3) := by decide +kernel
theorem dX5_waysAgain_92 : decode cX5_waysAgain 92 = .ok (.aload_n 0, 1) := by decide +kernel
theorem dX5_waysAgain_93 : decode cX5_waysAgain 93 = .ok (.getfield 33, 3) := by decide +kernel
theorem dX5_waysAgain_96 : decode cX5_waysAgain 96 = .ok (.iload 6, 2) := by decide +kernel
theorem dX5_waysAgain_98 : decode cX5_waysAgain 98 = .ok (.iload 4, 2) := by decide +kernel
theorem dX5_waysAgain_100 : decode cX5_waysAgain 100 = .ok (.aload_n 0, 1) := by decide +kernel
theorem dX5_waysAgain_101 : decode cX5_waysAgain 101 = .ok (.getfield 7, 3) := by decide +kernel
theorem dX5_waysAgain_104 : decode cX5_waysAgain 104 = .ok (.bipush 36, 2) := by decide +kernel
theorem dX5_waysAgain_106 : decode cX5_waysAgain 106 = .ok (.iaload, 1) := by decide +kernel
theorem dX5_waysAgain_107 : decode cX5_waysAgain 107 = .ok (.irem, 1) := by decide +kernel
theorem dX5_waysAgain_108 : decode cX5_waysAgain 108 = .ok (.iastore, 1) := by decide +kernel
theorem dX5_waysAgain_109 : decode cX5_waysAgain 109 = .ok (.iload 4, 2) := by decide +kernel
theorem dX5_waysAgain_111 : decode cX5_waysAgain 111 = .ok (.aload_n 0, 1) := by decide +kernel
theorem dX5_waysAgain_112 : decode cX5_waysAgain 112 = .ok (.getfield 7, 3) := by decide +kernel
theorem dX5_waysAgain_115 : decode cX5_waysAgain 115 = .ok (.bipush 36, 2) := by decide +kernel
theorem dX5_waysAgain_117 : decode cX5_waysAgain 117 = .ok (.iaload, 1) := by decide +kernel
theorem dX5_waysAgain_118 : decode cX5_waysAgain 118 = .ok (.idiv, 1) := by decide +kernel
theorem dX5_waysAgain_119 : decode cX5_waysAgain 119 = .ok (.istore 4, 2) := by decide +kernel
theorem dX5_waysAgain_121 : decode cX5_waysAgain 121 = .ok (.aload_n 0, 1) := by decide +kernel
theorem dX5_waysAgain_122 : decode cX5_waysAgain 122 = .ok (.iload 6, 2) := by decide +kernel
theorem dX5_waysAgain_124 : decode cX5_waysAgain 124 = .ok (.aload_n 0, 1) := by decide +kernel
theorem dX5_waysAgain_125 : decode cX5_waysAgain 125 = .ok (.getfield 33, 3) := by decide +kernel
theorem dX5_waysAgain_128 : decode cX5_waysAgain 128 = .ok (.iload 6, 2) := by decide +kernel
theorem dX5_waysAgain_130 : decode cX5_waysAgain 130 = .ok (.iaload, 1) := by decide +kernel
theorem dX5_waysAgain_131 : decode cX5_waysAgain 131 = .ok (.iload 6, 2) := by decide +kernel
theorem dX5_waysAgain_133 : decode cX5_waysAgain 133 = .ok (.invokevirtual 148, 3) := by decide +kernel
theorem dX5_waysAgain_136 : decode cX5_waysAgain 136 = .ok (.ifCond .ne 7, 3) := by decide +kernel
theorem dX5_waysAgain_139 : decode cX5_waysAgain 139 = .ok (.iconst 1, 1) := by decide +kernel
theorem dX5_waysAgain_140 : decode cX5_waysAgain 140 = .ok (.goto 4, 3) := by decide +kernel
theorem dX5_waysAgain_143 : decode cX5_waysAgain 143 = .ok (.iconst 0, 1) := by decide +kernel
theorem dX5_waysAgain_144 : decode cX5_waysAgain 144 = .ok (.istore 5, 2) := by decide +kernel
theorem dX5_waysAgain_146 : decode cX5_waysAgain 146 = .ok (.iinc 6 1, 3) := by decide +kernel
theorem dX5_waysAgain_149 : decode cX5_waysAgain 149 = .ok (.goto (-85), 3) := by decide +kernel
theorem dX5_waysAgain_152 : decode cX5_waysAgain 152 = .ok (.iload_n 2, 1) := by decide +kernel
theorem dX5_waysAgain_153 : decode cX5_waysAgain 153 = .ok (.iload 5, 2) := by decide +kernel
theorem dX5_waysAgain_155 : decode cX5_waysAgain 155 = .ok (.ifCond .eq 7, 3) := by decide +kernel
theorem dX5_waysAgain_158 : decode cX5_waysAgain 158 = .ok (.iconst 1, 1) := by decide +kernel
theorem dX5_waysAgain_159 : decode cX5_waysAgain 159 = .ok (.goto 4, 3) := by decide +kernel
theorem dX5_waysAgain_162 : decode cX5_waysAgain 162 = .ok (.iconst 0, 1) := by decide +kernel
theorem dX5_waysAgain_163 : decode cX5_waysAgain 163 = .ok (.iadd, 1) := by decide +kernel
theorem dX5_waysAgain_164 : decode cX5_waysAgain 164 = .ok (.istore_n 2, 1) := by decide +kernel
theorem dX5_waysAgain_165 : decode cX5_waysAgain 165 = .ok (.iinc 3 1, 3) := by decide +kernel
theorem dX5_waysAgain_168 : decode cX5_waysAgain 168 = .ok (.goto (-118), 3) := by decide +kernel
theorem dX5_waysAgain_171 : decode cX5_waysAgain 171 = .ok (.iload_n 2, 1) := by decide +kernel
theorem dX5_waysAgain_172 : decode cX5_waysAgain 172 = .ok (.ireturn, 1) := by decide +kernel
theorem dX5_waysFor_0 : decode cX5_waysFor 0 = .ok (.aload_n 0, 1) := by decide +kernel
theorem dX5_waysFor_1 : decode cX5_waysFor 1 = .ok (.aload_n 0, 1) := by decide +kernel
theorem dX5_waysFor_2 : decode cX5_waysFor 2 = .ok (.iload_n 1, 1) := by decide +kernel
theorem dX5_waysFor_3 : decode cX5_waysFor 3 = .ok (.invokevirtual 87, 3) := by decide +kernel
theorem dX5_waysFor_6 : decode cX5_waysFor 6 = .ok (.ifCond .ne 7, 3) := by decide +kernel
theorem dX5_waysFor_9 : decode cX5_waysFor 9 = .ok (.iconst 1, 1) := by decide +kernel
theorem dX5_waysFor_10 : decode cX5_waysFor 10 = .ok (.goto 17, 3) := by decide +kernel
theorem dX5_waysFor_13 : decode cX5_waysFor 13 = .ok (.aload_n 0, 1) := by decide +kernel
theorem dX5_waysFor_14 : decode cX5_waysFor 14 = .ok (.iload_n 1, 1) := by decide +kernel
theorem dX5_waysFor_15 : decode cX5_waysFor 15 = .ok (.iconst 2, 1) := by decide +kernel
theorem dX5_waysFor_16 : decode cX5_waysFor 16 = .ok (.invokevirtual 63, 3) := by decide +kernel
theorem dX5_waysFor_19 : decode cX5_waysFor 19 = .ok (.ifCond .ge 7, 3) := by decide +kernel
theorem dX5_waysFor_22 : decode cX5_waysFor 22 = .ok (.iconst 2, 1) := by decide +kernel
theorem dX5_waysFor_23 : decode cX5_waysFor 23 = .ok (.goto 4, 3) := by decide +kernel
theorem dX5_waysFor_26 : decode cX5_waysFor 26 = .ok (.iconst 0, 1) := by decide +kernel
theorem dX5_waysFor_27 : decode cX5_waysFor 27 = .ok (.invokevirtual 71, 3) := by decide +kernel
theorem dX5_waysFor_30 : decode cX5_waysFor 30 = .ok (.ifCond .eq 5, 3) := by decide +kernel
theorem dX5_waysFor_33 : decode cX5_waysFor 33 = .ok (.iconst 0, 1) := by decide +kernel
theorem dX5_waysFor_34 : decode cX5_waysFor 34 = .ok (.ireturn, 1) := by decide +kernel
theorem dX5_waysFor_35 : decode cX5_waysFor 35 = .ok (.aload_n 0, 1) := by decide +kernel
theorem dX5_waysFor_36 : decode cX5_waysFor 36 = .ok (.iload_n 1, 1) := by decide +kernel
theorem dX5_waysFor_37 : decode cX5_waysFor 37 = .ok (.invokevirtual 90, 3) := by decide +kernel
theorem dX5_waysFor_40 : decode cX5_waysFor 40 = .ok (.ifCond .eq 30, 3) := by decide +kernel
theorem dX5_waysFor_43 : decode cX5_waysFor 43 = .ok (.aload_n 0, 1) := by decide +kernel
theorem dX5_waysFor_44 : decode cX5_waysFor 44 = .ok (.iload_n 1, 1) := by decide +kernel
theorem dX5_waysFor_45 : decode cX5_waysFor 45 = .ok (.invokevirtual 141, 3) := by decide +kernel
theorem dX5_waysFor_48 : decode cX5_waysFor 48 = .ok (.ifCond .eq 20, 3) := by decide +kernel
theorem dX5_waysFor_51 : decode cX5_waysFor 51 = .ok (.aload_n 0, 1) := by decide +kernel
theorem dX5_waysFor_52 : decode cX5_waysFor 52 = .ok (.iconst 0, 1) := by decide +kernel
theorem dX5_waysFor_53 : decode cX5_waysFor 53 = .ok (.aload_n 0, 1) := by decide +kernel
theorem dX5_waysFor_54 : decode cX5_waysFor 54 = .ok (.getfield 7, 3) := by decide +kernel
theorem dX5_waysFor_57 : decode cX5_waysFor 57 = .ok (.bipush 36, 2) := by decide +kernel
theorem dX5_waysFor_59 : decode cX5_waysFor 59 = .ok (.iaload, 1) := by decide +kernel
theorem dX5_waysFor_60 : decode cX5_waysFor 60 = .ok (.iconst (-1), 1) := by decide +kernel
theorem dX5_waysFor_61 : decode cX5_waysFor 61 = .ok (.iconst (-1), 1) := by decide +kernel
theorem dX5_waysFor_62 : decode cX5_waysFor 62 = .ok (.invokevirtual 144, 3) := by decide +kernel
theorem dX5_waysFor_65 : decode cX5_waysFor 65 = .ok (.goto 4, 3) := by decide +kernel
theorem dX5_waysFor_68 : decode cX5_waysFor 68 = .ok (.iconst 0, 1) := by decide +kernel
theorem dX5_waysFor_69 : decode cX5_waysFor 69 = .ok (.ireturn, 1) := by decide +kernel
theorem dX5_waysFor_70 : decode cX5_waysFor 70 = .ok (.aload_n 0, 1) := by decide +kernel
theorem dX5_waysFor_71 : decode cX5_waysFor 71 = .ok (.iconst 0, 1) := by decide +kernel
theorem dX5_waysFor_72 : decode cX5_waysFor 72 = .ok (.aload_n 0, 1) := by decide +kernel
theorem dX5_waysFor_73 : decode cX5_waysFor 73 = .ok (.getfield 7, 3) := by decide +kernel
theorem dX5_waysFor_76 : decode cX5_waysFor 76 = .ok (.bipush 36, 2) := by decide +kernel
theorem dX5_waysFor_78 : decode cX5_waysFor 78 = .ok (.iaload, 1) := by decide +kernel
theorem dX5_waysFor_79 : decode cX5_waysFor 79 = .ok (.iload_n 1, 1) := by decide +kernel
theorem dX5_waysFor_80 : decode cX5_waysFor 80 = .ok (.aload_n 0, 1) := by decide +kernel
theorem dX5_waysFor_81 : decode cX5_waysFor 81 = .ok (.iload_n 1, 1) := by decide +kernel
theorem dX5_waysFor_82 : decode cX5_waysFor 82 = .ok (.iconst 2, 1) := by decide +kernel
theorem dX5_waysFor_83 : decode cX5_waysFor 83 = .ok (.invokevirtual 63, 3) := by decide +kernel
theorem dX5_waysFor_86 : decode cX5_waysFor 86 = .ok (.invokevirtual 144, 3) := by decide +kernel
theorem dX5_waysFor_89 : decode cX5_waysFor 89 = .ok (.ireturn, 1) := by decide +kernel
theorem dX5_fewest_0 : decode cX5_fewest 0 = .ok (.iconst 1, 1) := by decide +kernel
theorem dX5_fewest_1 : decode cX5_fewest 1 = .ok (.istore_n 1, 1) := by decide +kernel
theorem dX5_fewest_2 : decode cX5_fewest 2 = .ok (.iconst 0, 1) := by decide +kernel
theorem dX5_fewest_3 : decode cX5_fewest 3 = .ok (.istore_n 2, 1) := by decide +kernel
theorem dX5_fewest_4 : decode cX5_fewest 4 = .ok (.iload_n 2, 1) := by decide +kernel
theorem dX5_fewest_5 : decode cX5_fewest 5 = .ok (.aload_n 0, 1) := by decide +kernel
theorem dX5_fewest_6 : decode cX5_fewest 6 = .ok (.getfield 7, 3) := by decide +kernel
theorem dX5_fewest_9 : decode cX5_fewest 9 = .ok (.iconst 0, 1) := by decide +kernel
theorem dX5_fewest_10 : decode cX5_fewest 10 = .ok (.iaload, 1) := by decide +kernel
theorem dX5_fewest_11 : decode cX5_fewest 11 = .ok (.if_icmp .ge 22, 3) := by decide +kernel
theorem dX5_fewest_14 : decode cX5_fewest 14 = .ok (.iload_n 1, 1) := by decide +kernel
theorem dX5_fewest_15 : decode cX5_fewest 15 = .ok (.aload_n 0, 1) := by decide +kernel
theorem dX5_fewest_16 : decode cX5_fewest 16 = .ok (.iload_n 2, 1) := by decide +kernel
theorem dX5_fewest_17 : decode cX5_fewest 17 = .ok (.iconst 1, 1) := by decide +kernel
theorem dX5_fewest_18 : decode cX5_fewest 18 = .ok (.invokevirtual 63, 3) := by decide +kernel
theorem dX5_fewest_21 : decode cX5_fewest 21 = .ok (.iconst 1, 1) := by decide +kernel
theorem dX5_fewest_22 : decode cX5_fewest 22 = .ok (.iadd, 1) := by decide +kernel
theorem dX5_fewest_23 : decode cX5_fewest 23 = .ok (.invokestatic 157, 3) := by decide +kernel
theorem dX5_fewest_26 : decode cX5_fewest 26 = .ok (.istore_n 1, 1) := by decide +kernel
theorem dX5_fewest_27 : decode cX5_fewest 27 = .ok (.iinc 2 1, 3) := by decide +kernel
theorem dX5_fewest_30 : decode cX5_fewest 30 = .ok (.goto (-26), 3) := by decide +kernel
theorem dX5_fewest_33 : decode cX5_fewest 33 = .ok (.iload_n 1, 1) := by decide +kernel
theorem dX5_fewest_34 : decode cX5_fewest 34 = .ok (.iconst 5, 1) := by decide +kernel
theorem dX5_fewest_35 : decode cX5_fewest 35 = .ok (.if_icmp .gt 20, 3) := by decide +kernel
theorem dX5_fewest_38 : decode cX5_fewest 38 = .ok (.aload_n 0, 1) := by decide +kernel
theorem dX5_fewest_39 : decode cX5_fewest 39 = .ok (.iconst 0, 1) := by decide +kernel
theorem dX5_fewest_40 : decode cX5_fewest 40 = .ok (.iload_n 1, 1) := by decide +kernel
theorem dX5_fewest_41 : decode cX5_fewest 41 = .ok (.iconst (-1), 1) := by decide +kernel
theorem dX5_fewest_42 : decode cX5_fewest 42 = .ok (.iconst (-1), 1) := by decide +kernel
theorem dX5_fewest_43 : decode cX5_fewest 43 = .ok (.invokevirtual 144, 3) := by decide +kernel
theorem dX5_fewest_46 : decode cX5_fewest 46 = .ok (.ifCond .ne 9, 3) := by decide +kernel
theorem dX5_fewest_49 : decode cX5_fewest 49 = .ok (.iinc 1 1, 3) := by decide +kernel
theorem dX5_fewest_52 : decode cX5_fewest 52 = .ok (.goto (-19), 3) := by decide +kernel
theorem dX5_fewest_55 : decode cX5_fewest 55 = .ok (.aload_n 0, 1) := by decide +kernel
theorem dX5_fewest_56 : decode cX5_fewest 56 = .ok (.iload_n 1, 1) := by decide +kernel
theorem dX5_fewest_57 : decode cX5_fewest 57 = .ok (.iconst 5, 1) := by decide +kernel
theorem dX5_fewest_58 : decode cX5_fewest 58 = .ok (.if_icmp .le 7, 3) := by decide +kernel
theorem dX5_fewest_61 : decode cX5_fewest 61 = .ok (.iconst 1, 1) := by decide +kernel
theorem dX5_fewest_62 : decode cX5_fewest 62 = .ok (.goto 4, 3) := by decide +kernel
theorem dX5_fewest_65 : decode cX5_fewest 65 = .ok (.iconst 0, 1) := by decide +kernel
theorem dX5_fewest_66 : decode cX5_fewest 66 = .ok (.invokevirtual 71, 3) := by decide +kernel
theorem dX5_fewest_69 : decode cX5_fewest 69 = .ok (.ifCond .eq 7, 3) := by decide +kernel
theorem dX5_fewest_72 : decode cX5_fewest 72 = .ok (.iconst 0, 1) := by decide +kernel
theorem dX5_fewest_73 : decode cX5_fewest 73 = .ok (.goto 4, 3) := by decide +kernel
theorem dX5_fewest_76 : decode cX5_fewest 76 = .ok (.iload_n 1, 1) := by decide +kernel
theorem dX5_fewest_77 : decode cX5_fewest 77 = .ok (.ireturn, 1) := by decide +kernel
theorem dX5_areAll_0 : decode cX5_areAll 0 = .ok (.iconst 0, 1) := by decide +kernel
theorem dX5_areAll_1 : decode cX5_areAll 1 = .ok (.istore_n 2, 1) := by decide +kernel
theorem dX5_areAll_2 : decode cX5_areAll 2 = .ok (.iload_n 2, 1) := by decide +kernel
theorem dX5_areAll_3 : decode cX5_areAll 3 = .ok (.aload_n 0, 1) := by decide +kernel
theorem dX5_areAll_4 : decode cX5_areAll 4 = .ok (.getfield 7, 3) := by decide +kernel
theorem dX5_areAll_7 : decode cX5_areAll 7 = .ok (.iconst 0, 1) := by decide +kernel
theorem dX5_areAll_8 : decode cX5_areAll 8 = .ok (.iaload, 1) := by decide +kernel
theorem dX5_areAll_9 : decode cX5_areAll 9 = .ok (.if_icmp .ge 40, 3) := by decide +kernel
theorem dX5_areAll_12 : decode cX5_areAll 12 = .ok (.iload_n 1, 1) := by decide +kernel
theorem dX5_areAll_13 : decode cX5_areAll 13 = .ok (.iload_n 2, 1) := by decide +kernel
theorem dX5_areAll_14 : decode cX5_areAll 14 = .ok (.ishr, 1) := by decide +kernel
theorem dX5_areAll_15 : decode cX5_areAll 15 = .ok (.iconst 1, 1) := by decide +kernel
theorem dX5_areAll_16 : decode cX5_areAll 16 = .ok (.iand, 1) := by decide +kernel
theorem dX5_areAll_17 : decode cX5_areAll 17 = .ok (.iconst 1, 1) := by decide +kernel
theorem dX5_areAll_18 : decode cX5_areAll 18 = .ok (.if_icmp .ne 25, 3) := by decide +kernel
theorem dX5_areAll_21 : decode cX5_areAll 21 = .ok (.iload_n 1, 1) := by decide +kernel
theorem dX5_areAll_22 : decode cX5_areAll 22 = .ok (.aload_n 0, 1) := by decide +kernel
theorem dX5_areAll_23 : decode cX5_areAll 23 = .ok (.getfield 7, 3) := by decide +kernel
theorem dX5_areAll_26 : decode cX5_areAll 26 = .ok (.bipush 29, 2) := by decide +kernel
theorem dX5_areAll_28 : decode cX5_areAll 28 = .ok (.iload_n 2, 1) := by decide +kernel
theorem dX5_areAll_29 : decode cX5_areAll 29 = .ok (.iadd, 1) := by decide +kernel
theorem dX5_areAll_30 : decode cX5_areAll 30 = .ok (.iaload, 1) := by decide +kernel
theorem dX5_areAll_31 : decode cX5_areAll 31 = .ok (.iconst 1, 1) := by decide +kernel
theorem dX5_areAll_32 : decode cX5_areAll 32 = .ok (.iload_n 2, 1) := by decide +kernel
theorem dX5_areAll_33 : decode cX5_areAll 33 = .ok (.ishl, 1) := by decide +kernel
theorem dX5_areAll_34 : decode cX5_areAll 34 = .ok (.ior, 1) := by decide +kernel
theorem dX5_areAll_35 : decode cX5_areAll 35 = .ok (.iconst (-1), 1) := by decide +kernel
theorem dX5_areAll_36 : decode cX5_areAll 36 = .ok (.ixor, 1) := by decide +kernel
theorem dX5_areAll_37 : decode cX5_areAll 37 = .ok (.iand, 1) := by decide +kernel
theorem dX5_areAll_38 : decode cX5_areAll 38 = .ok (.ifCond .eq 5, 3) := by decide +kernel
theorem dX5_areAll_41 : decode cX5_areAll 41 = .ok (.iconst 0, 1) := by decide +kernel
theorem dX5_areAll_42 : decode cX5_areAll 42 = .ok (.ireturn, 1) := by decide +kernel
theorem dX5_areAll_43 : decode cX5_areAll 43 = .ok (.iinc 2 1, 3) := by decide +kernel
theorem dX5_areAll_46 : decode cX5_areAll 46 = .ok (.goto (-44), 3) := by decide +kernel
theorem dX5_areAll_49 : decode cX5_areAll 49 = .ok (.iconst 1, 1) := by decide +kernel
theorem dX5_areAll_50 : decode cX5_areAll 50 = .ok (.ireturn, 1) := by decide +kernel
theorem dX5_clique_0 : decode cX5_clique 0 = .ok (.aload_n 0, 1) := by decide +kernel
theorem dX5_clique_1 : decode cX5_clique 1 = .ok (.iconst 0, 1) := by decide +kernel
theorem dX5_clique_2 : decode cX5_clique 2 = .ok (.putfield 39, 3) := by decide +kernel
theorem dX5_clique_5 : decode cX5_clique 5 = .ok (.iconst 0, 1) := by decide +kernel
theorem dX5_clique_6 : decode cX5_clique 6 = .ok (.istore_n 1, 1) := by decide +kernel
theorem dX5_clique_7 : decode cX5_clique 7 = .ok (.iconst 0, 1) := by decide +kernel
theorem dX5_clique_8 : decode cX5_clique 8 = .ok (.istore_n 2, 1) := by decide +kernel
theorem dX5_clique_9 : decode cX5_clique 9 = .ok (.iload_n 2, 1) := by decide +kernel
theorem dX5_clique_10 : decode cX5_clique 10 = .ok (.iconst 1, 1) := by decide +kernel
theorem dX5_clique_11 : decode cX5_clique 11 = .ok (.aload_n 0, 1) := by decide +kernel
theorem dX5_clique_12 : decode cX5_clique 12 = .ok (.getfield 7, 3) := by decide +kernel
theorem dX5_clique_15 : decode cX5_clique 15 = .ok (.iconst 0, 1) := by decide +kernel
theorem dX5_clique_16 : decode cX5_clique 16 = .ok (.iaload, 1) := by decide +kernel
theorem dX5_clique_17 : decode cX5_clique 17 = .ok (.ishl, 1) := by decide +kernel
theorem dX5_clique_18 : decode cX5_clique 18 = .ok (.if_icmp .ge 55, 3) := by decide +kernel
theorem dX5_clique_21 : decode cX5_clique 21 = .ok (.iconst 0, 1) := by decide +kernel
theorem dX5_clique_22 : decode cX5_clique 22 = .ok (.istore_n 3, 1) := by decide +kernel
theorem dX5_clique_23 : decode cX5_clique 23 = .ok (.iconst 0, 1) := by decide +kernel
theorem dX5_clique_24 : decode cX5_clique 24 = .ok (.istore 4, 2) := by decide +kernel
theorem dX5_clique_26 : decode cX5_clique 26 = .ok (.iload 4, 2) := by decide +kernel
theorem dX5_clique_28 : decode cX5_clique 28 = .ok (.aload_n 0, 1) := by decide +kernel
theorem dX5_clique_29 : decode cX5_clique 29 = .ok (.getfield 7, 3) := by decide +kernel
theorem dX5_clique_32 : decode cX5_clique 32 = .ok (.iconst 0, 1) := by decide +kernel
theorem dX5_clique_33 : decode cX5_clique 33 = .ok (.iaload, 1) := by decide +kernel
theorem dX5_clique_34 : decode cX5_clique 34 = .ok (.if_icmp .ge 18, 3) := by decide +kernel
theorem dX5_clique_37 : decode cX5_clique 37 = .ok (.iload_n 3, 1) := by decide +kernel
theorem dX5_clique_38 : decode cX5_clique 38 = .ok (.iload_n 2, 1) := by decide +kernel
theorem dX5_clique_39 : decode cX5_clique 39 = .ok (.iload 4, 2) := by decide +kernel
theorem dX5_clique_41 : decode cX5_clique 41 = .ok (.ishr, 1) := by decide +kernel
theorem dX5_clique_42 : decode cX5_clique 42 = .ok (.iconst 1, 1) := by decide +kernel
theorem dX5_clique_43 : decode cX5_clique 43 = .ok (.iand, 1) := by decide +kernel
theorem dX5_clique_44 : decode cX5_clique 44 = .ok (.iadd, 1) := by decide +kernel
theorem dX5_clique_45 : decode cX5_clique 45 = .ok (.istore_n 3, 1) := by decide +kernel
theorem dX5_clique_46 : decode cX5_clique 46 = .ok (.iinc 4 1, 3) := by decide +kernel
theorem dX5_clique_49 : decode cX5_clique 49 = .ok (.goto (-23), 3) := by decide +kernel
theorem dX5_clique_52 : decode cX5_clique 52 = .ok (.iload_n 3, 1) := by decide +kernel
theorem dX5_clique_53 : decode cX5_clique 53 = .ok (.iload_n 1, 1) := by decide +kernel
theorem dX5_clique_54 : decode cX5_clique 54 = .ok (.if_icmp .le 13, 3) := by decide +kernel
theorem dX5_clique_57 : decode cX5_clique 57 = .ok (.aload_n 0, 1) := by decide +kernel
theorem dX5_clique_58 : decode cX5_clique 58 = .ok (.iload_n 2, 1) := by decide +kernel
theorem dX5_clique_59 : decode cX5_clique 59 = .ok (.invokevirtual 160, 3) := by decide +kernel
theorem dX5_clique_62 : decode cX5_clique 62 = .ok (.ifCond .eq 5, 3) := by decide +kernel
theorem dX5_clique_65 : decode cX5_clique 65 = .ok (.iload_n 3, 1) := by decide +kernel
theorem dX5_clique_66 : decode cX5_clique 66 = .ok (.istore_n 1, 1) := by decide +kernel
theorem dX5_clique_67 : decode cX5_clique 67 = .ok (.iinc 2 1, 3) := by decide +kernel
theorem dX5_clique_70 : decode cX5_clique 70 = .ok (.goto (-61), 3) := by decide +kernel
theorem dX5_clique_73 : decode cX5_clique 73 = .ok (.iload_n 1, 1) := by decide +kernel
theorem dX5_clique_74 : decode cX5_clique 74 = .ok (.ireturn, 1) := by decide +kernel
theorem dX5_writes_0 : decode cX5_writes 0 = .ok (.aload_n 0, 1) := by decide +kernel
theorem dX5_writes_1 : decode cX5_writes 1 = .ok (.getfield 29, 3) := by decide +kernel
theorem dX5_writes_4 : decode cX5_writes 4 = .ok (.aload_n 0, 1) := by decide +kernel
theorem dX5_writes_5 : decode cX5_writes 5 = .ok (.getfield 163, 3) := by decide +kernel
theorem dX5_writes_8 : decode cX5_writes 8 = .ok (.iload_n 1, 1) := by decide +kernel
theorem dX5_writes_9 : decode cX5_writes 9 = .ok (.i2c, 1) := by decide +kernel
theorem dX5_writes_10 : decode cX5_writes 10 = .ok (.castore, 1) := by decide +kernel
theorem dX5_writes_11 : decode cX5_writes 11 = .ok (.aload_n 0, 1) := by decide +kernel
theorem dX5_writes_12 : decode cX5_writes 12 = .ok (.dup, 1) := by decide +kernel
theorem dX5_writes_13 : decode cX5_writes 13 = .ok (.getfield 163, 3) := by decide +kernel
theorem dX5_writes_16 : decode cX5_writes 16 = .ok (.iconst 1, 1) := by decide +kernel
theorem dX5_writes_17 : decode cX5_writes 17 = .ok (.iadd, 1) := by decide +kernel
theorem dX5_writes_18 : decode cX5_writes 18 = .ok (.putfield 163, 3) := by decide +kernel
theorem dX5_writes_21 : decode cX5_writes 21 = .ok (.return_, 1) := by decide +kernel
theorem dX5_line_0 : decode cX5_line 0 = .ok (.aload_n 0, 1) := by decide +kernel
theorem dX5_line_1 : decode cX5_line 1 = .ok (.aload_n 0, 1) := by decide +kernel
theorem dX5_line_2 : decode cX5_line 2 = .ok (.iload_n 1, 1) := by decide +kernel
theorem dX5_line_3 : decode cX5_line 3 = .ok (.invokevirtual 87, 3) := by decide +kernel
theorem dX5_line_6 : decode cX5_line 6 = .ok (.ifCond .eq 7, 3) := by decide +kernel
theorem dX5_line_9 : decode cX5_line 9 = .ok (.iconst 0, 1) := by decide +kernel
theorem dX5_line_10 : decode cX5_line 10 = .ok (.goto 4, 3) := by decide +kernel
theorem dX5_line_13 : decode cX5_line 13 = .ok (.iconst 1, 1) := by decide +kernel
theorem dX5_line_14 : decode cX5_line 14 = .ok (.invokevirtual 71, 3) := by decide +kernel
theorem dX5_line_17 : decode cX5_line 17 = .ok (.ifCond .eq 5, 3) := by decide +kernel
theorem dX5_line_20 : decode cX5_line 20 = .ok (.iconst 0, 1) := by decide +kernel
theorem dX5_line_21 : decode cX5_line 21 = .ok (.ireturn, 1) := by decide +kernel
theorem dX5_line_22 : decode cX5_line 22 = .ok (.aload_n 0, 1) := by decide +kernel
theorem dX5_line_23 : decode cX5_line 23 = .ok (.iconst 0, 1) := by decide +kernel
theorem dX5_line_24 : decode cX5_line 24 = .ok (.putfield 163, 3) := by decide +kernel
theorem dX5_line_27 : decode cX5_line 27 = .ok (.aload_n 0, 1) := by decide +kernel
theorem dX5_line_28 : decode cX5_line 28 = .ok (.bipush 48, 2) := by decide +kernel
theorem dX5_line_30 : decode cX5_line 30 = .ok (.iload_n 1, 1) := by decide +kernel
theorem dX5_line_31 : decode cX5_line 31 = .ok (.iadd, 1) := by decide +kernel
theorem dX5_line_32 : decode cX5_line 32 = .ok (.invokevirtual 166, 3) := by decide +kernel
theorem dX5_line_35 : decode cX5_line 35 = .ok (.aload_n 0, 1) := by decide +kernel
theorem dX5_line_36 : decode cX5_line 36 = .ok (.bipush 58, 2) := by decide +kernel
theorem dX5_line_38 : decode cX5_line 38 = .ok (.invokevirtual 166, 3) := by decide +kernel
theorem dX5_line_41 : decode cX5_line 41 = .ok (.aload_n 0, 1) := by decide +kernel
theorem dX5_line_42 : decode cX5_line 42 = .ok (.aload_n 0, 1) := by decide +kernel
theorem dX5_line_43 : decode cX5_line 43 = .ok (.iload_n 1, 1) := by decide +kernel
theorem dX5_line_44 : decode cX5_line 44 = .ok (.invokevirtual 90, 3) := by decide +kernel
theorem dX5_line_47 : decode cX5_line 47 = .ok (.ifCond .eq 15, 3) := by decide +kernel
theorem dX5_line_50 : decode cX5_line 50 = .ok (.bipush 48, 2) := by decide +kernel
theorem dX5_line_52 : decode cX5_line 52 = .ok (.aload_n 0, 1) := by decide +kernel
theorem dX5_line_53 : decode cX5_line 53 = .ok (.iload_n 1, 1) := by decide +kernel
theorem dX5_line_54 : decode cX5_line 54 = .ok (.iconst 1, 1) := by decide +kernel
theorem dX5_line_55 : decode cX5_line 55 = .ok (.invokevirtual 63, 3) := by decide +kernel
theorem dX5_line_58 : decode cX5_line 58 = .ok (.iadd, 1) := by decide +kernel
theorem dX5_line_59 : decode cX5_line 59 = .ok (.goto 5, 3) := by decide +kernel
theorem dX5_line_62 : decode cX5_line 62 = .ok (.bipush 45, 2) := by decide +kernel
theorem dX5_line_64 : decode cX5_line 64 = .ok (.invokevirtual 166, 3) := by decide +kernel
theorem dX5_line_67 : decode cX5_line 67 = .ok (.aload_n 0, 1) := by decide +kernel
theorem dX5_line_68 : decode cX5_line 68 = .ok (.bipush 40, 2) := by decide +kernel
theorem dX5_line_70 : decode cX5_line 70 = .ok (.invokevirtual 166, 3) := by decide +kernel
theorem dX5_line_73 : decode cX5_line 73 = .ok (.iconst 1, 1) := by decide +kernel
theorem dX5_line_74 : decode cX5_line 74 = .ok (.istore_n 2, 1) := by decide +kernel
theorem dX5_line_75 : decode cX5_line 75 = .ok (.iconst 0, 1) := by decide +kernel
theorem dX5_line_76 : decode cX5_line 76 = .ok (.istore_n 3, 1) := by decide +kernel
theorem dX5_line_77 : decode cX5_line 77 = .ok (.iload_n 3, 1) := by decide +kernel
theorem dX5_line_78 : decode cX5_line 78 = .ok (.aload_n 0, 1) := by decide +kernel
theorem dX5_line_79 : decode cX5_line 79 = .ok (.getfield 7, 3) := by decide +kernel
theorem dX5_line_82 : decode cX5_line 82 = .ok (.iconst 0, 1) := by decide +kernel
theorem dX5_line_83 : decode cX5_line 83 = .ok (.iaload, 1) := by decide +kernel
theorem dX5_line_84 : decode cX5_line 84 = .ok (.if_icmp .ge 41, 3) := by decide +kernel
theorem dX5_line_87 : decode cX5_line 87 = .ok (.aload_n 0, 1) := by decide +kernel
theorem dX5_line_88 : decode cX5_line 88 = .ok (.iload_n 1, 1) := by decide +kernel
theorem dX5_line_89 : decode cX5_line 89 = .ok (.iload_n 3, 1) := by decide +kernel
theorem dX5_line_90 : decode cX5_line 90 = .ok (.invokevirtual 67, 3) := by decide +kernel
theorem dX5_line_93 : decode cX5_line 93 = .ok (.ifCond .ne 6, 3) := by decide +kernel
theorem dX5_line_96 : decode cX5_line 96 = .ok (.goto 23, 3) := by decide +kernel
theorem dX5_line_99 : decode cX5_line 99 = .ok (.iload_n 2, 1) := by decide +kernel
theorem dX5_line_100 : decode cX5_line 100 = .ok (.ifCond .ne 9, 3) := by decide +kernel
theorem dX5_line_103 : decode cX5_line 103 = .ok (.aload_n 0, 1) := by decide +kernel
theorem dX5_line_104 : decode cX5_line 104 = .ok (.bipush 44, 2) := by decide +kernel
theorem dX5_line_106 : decode cX5_line 106 = .ok (.invokevirtual 166, 3) := by decide +kernel
theorem dX5_line_109 : decode cX5_line 109 = .ok (.aload_n 0, 1) := by decide +kernel
theorem dX5_line_110 : decode cX5_line 110 = .ok (.bipush 48, 2) := by decide +kernel
theorem dX5_line_112 : decode cX5_line 112 = .ok (.iload_n 3, 1) := by decide +kernel
theorem dX5_line_113 : decode cX5_line 113 = .ok (.iadd, 1) := by decide +kernel
theorem dX5_line_114 : decode cX5_line 114 = .ok (.invokevirtual 166, 3) := by decide +kernel
theorem dX5_line_117 : decode cX5_line 117 = .ok (.iconst 0, 1) := by decide +kernel
theorem dX5_line_118 : decode cX5_line 118 = .ok (.istore_n 2, 1) := by decide +kernel
theorem dX5_line_119 : decode cX5_line 119 = .ok (.iinc 3 1, 3) := by decide +kernel
theorem dX5_line_122 : decode cX5_line 122 = .ok (.goto (-45), 3) := by decide +kernel
theorem dX5_line_125 : decode cX5_line 125 = .ok (.aload_n 0, 1) := by decide +kernel
theorem dX5_line_126 : decode cX5_line 126 = .ok (.bipush 41, 2) := by decide +kernel
theorem dX5_line_128 : decode cX5_line 128 = .ok (.invokevirtual 166, 3) := by decide +kernel
theorem dX5_line_131 : decode cX5_line 131 = .ok (.aload_n 0, 1) := by decide +kernel
theorem dX5_line_132 : decode cX5_line 132 = .ok (.iload_n 1, 1) := by decide +kernel
theorem dX5_line_133 : decode cX5_line 133 = .ok (.invokevirtual 132, 3) := by decide +kernel
theorem dX5_line_136 : decode cX5_line 136 = .ok (.ifCond .eq 9, 3) := by decide +kernel
theorem dX5_line_139 : decode cX5_line 139 = .ok (.aload_n 0, 1) := by decide +kernel
theorem dX5_line_140 : decode cX5_line 140 = .ok (.bipush 33, 2) := by decide +kernel
theorem dX5_line_142 : decode cX5_line 142 = .ok (.invokevirtual 166, 3) := by decide +kernel
theorem dX5_line_145 : decode cX5_line 145 = .ok (.aload_n 0, 1) := by decide +kernel
theorem dX5_line_146 : decode cX5_line 146 = .ok (.getfield 163, 3) := by decide +kernel
theorem dX5_line_149 : decode cX5_line 149 = .ok (.ireturn, 1) := by decide +kernel
theorem dX5_character_0 : decode cX5_character 0 = .ok (.aload_n 0, 1) := by decide +kernel
theorem dX5_character_1 : decode cX5_character 1 = .ok (.iload_n 1, 1) := by decide +kernel
theorem dX5_character_2 : decode cX5_character 2 = .ok (.iconst 0, 1) := by decide +kernel
theorem dX5_character_3 : decode cX5_character 3 = .ok (.aload_n 0, 1) := by decide +kernel
theorem dX5_character_4 : decode cX5_character 4 = .ok (.getfield 163, 3) := by decide +kernel
theorem dX5_character_7 : decode cX5_character 7 = .ok (.iconst 1, 1) := by decide +kernel
theorem dX5_character_8 : decode cX5_character 8 = .ok (.isub, 1) := by decide +kernel
theorem dX5_character_9 : decode cX5_character 9 = .ok (.invokestatic 59, 3) := by decide +kernel
theorem dX5_character_12 : decode cX5_character 12 = .ok (.ifCond .eq 7, 3) := by decide +kernel
theorem dX5_character_15 : decode cX5_character 15 = .ok (.iconst 0, 1) := by decide +kernel
theorem dX5_character_16 : decode cX5_character 16 = .ok (.goto 4, 3) := by decide +kernel
theorem dX5_character_19 : decode cX5_character 19 = .ok (.iconst 1, 1) := by decide +kernel
theorem dX5_character_20 : decode cX5_character 20 = .ok (.invokevirtual 71, 3) := by decide +kernel
theorem dX5_character_23 : decode cX5_character 23 = .ok (.ifCond .eq 8, 3) := by decide +kernel
theorem dX5_character_26 : decode cX5_character 26 = .ok (.bipush 32, 2) := by decide +kernel
theorem dX5_character_28 : decode cX5_character 28 = .ok (.goto 9, 3) := by decide +kernel
theorem dX5_character_31 : decode cX5_character 31 = .ok (.aload_n 0, 1) := by decide +kernel
theorem dX5_character_32 : decode cX5_character 32 = .ok (.getfield 29, 3) := by decide +kernel
theorem dX5_character_35 : decode cX5_character 35 = .ok (.iload_n 1, 1) := by decide +kernel
theorem dX5_character_36 : decode cX5_character 36 = .ok (.caload, 1) := by decide +kernel
theorem dX5_character_37 : decode cX5_character 37 = .ok (.ireturn, 1) := by decide +kernel
theorem dX5_append_0 : decode cX5_append 0 = .ok (.aload_n 0, 1) := by decide +kernel
theorem dX5_append_1 : decode cX5_append 1 = .ok (.aload_n 0, 1) := by decide +kernel
theorem dX5_append_2 : decode cX5_append 2 = .ok (.getfield 170, 3) := by decide +kernel
theorem dX5_append_5 : decode cX5_append 5 = .ok (.bipush 60, 2) := by decide +kernel
theorem dX5_append_7 : decode cX5_append 7 = .ok (.if_icmp .ne 7, 3) := by decide +kernel
theorem dX5_append_10 : decode cX5_append 10 = .ok (.iconst 1, 1) := by decide +kernel
theorem dX5_append_11 : decode cX5_append 11 = .ok (.goto 4, 3) := by decide +kernel
theorem dX5_append_14 : decode cX5_append 14 = .ok (.iconst 0, 1) := by decide +kernel
theorem dX5_append_15 : decode cX5_append 15 = .ok (.invokevirtual 71, 3) := by decide +kernel
theorem dX5_append_18 : decode cX5_append 18 = .ok (.ifCond .eq 5, 3) := by decide +kernel
theorem dX5_append_21 : decode cX5_append 21 = .ok (.iconst 0, 1) := by decide +kernel
theorem dX5_append_22 : decode cX5_append 22 = .ok (.ireturn, 1) := by decide +kernel
theorem dX5_append_23 : decode cX5_append 23 = .ok (.aload_n 0, 1) := by decide +kernel
theorem dX5_append_24 : decode cX5_append 24 = .ok (.getfield 22, 3) := by decide +kernel
theorem dX5_append_27 : decode cX5_append 27 = .ok (.aload_n 0, 1) := by decide +kernel
theorem dX5_append_28 : decode cX5_append 28 = .ok (.getfield 170, 3) := by decide +kernel
theorem dX5_append_31 : decode cX5_append 31 = .ok (.iload_n 1, 1) := by decide +kernel
theorem dX5_append_32 : decode cX5_append 32 = .ok (.iastore, 1) := by decide +kernel
theorem dX5_append_33 : decode cX5_append 33 = .ok (.aload_n 0, 1) := by decide +kernel
theorem dX5_append_34 : decode cX5_append 34 = .ok (.dup, 1) := by decide +kernel
theorem dX5_append_35 : decode cX5_append 35 = .ok (.getfield 170, 3) := by decide +kernel
theorem dX5_append_38 : decode cX5_append 38 = .ok (.iconst 1, 1) := by decide +kernel
theorem dX5_append_39 : decode cX5_append 39 = .ok (.iadd, 1) := by decide +kernel
theorem dX5_append_40 : decode cX5_append 40 = .ok (.putfield 170, 3) := by decide +kernel
theorem dX5_append_43 : decode cX5_append 43 = .ok (.aload_n 0, 1) := by decide +kernel
theorem dX5_append_44 : decode cX5_append 44 = .ok (.getfield 170, 3) := by decide +kernel
theorem dX5_append_47 : decode cX5_append 47 = .ok (.ireturn, 1) := by decide +kernel
theorem dX5_here_0 : decode cX5_here 0 = .ok (.aload_n 0, 1) := by decide +kernel
theorem dX5_here_1 : decode cX5_here 1 = .ok (.getfield 173, 3) := by decide +kernel
theorem dX5_here_4 : decode cX5_here 4 = .ok (.aload_n 0, 1) := by decide +kernel
theorem dX5_here_5 : decode cX5_here 5 = .ok (.getfield 170, 3) := by decide +kernel
theorem dX5_here_8 : decode cX5_here 8 = .ok (.if_icmp .ge 15, 3) := by decide +kernel
theorem dX5_here_11 : decode cX5_here 11 = .ok (.aload_n 0, 1) := by decide +kernel
theorem dX5_here_12 : decode cX5_here 12 = .ok (.getfield 22, 3) := by decide +kernel
theorem dX5_here_15 : decode cX5_here 15 = .ok (.aload_n 0, 1) := by decide +kernel
theorem dX5_here_16 : decode cX5_here 16 = .ok (.getfield 173, 3) := by decide +kernel
theorem dX5_here_19 : decode cX5_here 19 = .ok (.iaload, 1) := by decide +kernel
theorem dX5_here_20 : decode cX5_here 20 = .ok (.goto 4, 3) := by decide +kernel
theorem dX5_here_23 : decode cX5_here 23 = .ok (.iconst (-1), 1) := by decide +kernel
theorem dX5_here_24 : decode cX5_here 24 = .ok (.ireturn, 1) := by decide +kernel
theorem dX5_skips_0 : decode cX5_skips 0 = .ok (.aload_n 0, 1) := by decide +kernel
theorem dX5_skips_1 : decode cX5_skips 1 = .ok (.invokevirtual 176, 3) := by decide +kernel
theorem dX5_skips_4 : decode cX5_skips 4 = .ok (.iload_n 1, 1) := by decide +kernel
theorem dX5_skips_5 : decode cX5_skips 5 = .ok (.if_icmp .eq 5, 3) := by decide +kernel
theorem dX5_skips_8 : decode cX5_skips 8 = .ok (.iconst 0, 1) := by decide +kernel
theorem dX5_skips_9 : decode cX5_skips 9 = .ok (.ireturn, 1) := by decide +kernel
theorem dX5_skips_10 : decode cX5_skips 10 = .ok (.aload_n 0, 1) := by decide +kernel
theorem dX5_skips_11 : decode cX5_skips 11 = .ok (.dup, 1) := by decide +kernel
theorem dX5_skips_12 : decode cX5_skips 12 = .ok (.getfield 173, 3) := by decide +kernel
theorem dX5_skips_15 : decode cX5_skips 15 = .ok (.iconst 1, 1) := by decide +kernel
theorem dX5_skips_16 : decode cX5_skips 16 = .ok (.iadd, 1) := by decide +kernel
theorem dX5_skips_17 : decode cX5_skips 17 = .ok (.putfield 173, 3) := by decide +kernel
theorem dX5_skips_20 : decode cX5_skips 20 = .ok (.iconst 1, 1) := by decide +kernel
theorem dX5_skips_21 : decode cX5_skips 21 = .ok (.ireturn, 1) := by decide +kernel
theorem dX5_number_0 : decode cX5_number 0 = .ok (.aload_n 0, 1) := by decide +kernel
theorem dX5_number_1 : decode cX5_number 1 = .ok (.invokevirtual 176, 3) := by decide +kernel
theorem dX5_number_4 : decode cX5_number 4 = .ok (.bipush 48, 2) := by decide +kernel
theorem dX5_number_6 : decode cX5_number 6 = .ok (.bipush 57, 2) := by decide +kernel
theorem dX5_number_8 : decode cX5_number 8 = .ok (.invokestatic 59, 3) := by decide +kernel
theorem dX5_number_11 : decode cX5_number 11 = .ok (.ifCond .ne 5, 3) := by decide +kernel
theorem dX5_number_14 : decode cX5_number 14 = .ok (.iconst 0, 1) := by decide +kernel
theorem dX5_number_15 : decode cX5_number 15 = .ok (.ireturn, 1) := by decide +kernel
theorem dX5_number_16 : decode cX5_number 16 = .ok (.aload_n 0, 1) := by decide +kernel
theorem dX5_number_17 : decode cX5_number 17 = .ok (.getfield 36, 3) := by decide +kernel
theorem dX5_number_20 : decode cX5_number 20 = .ok (.iload_n 1, 1) := by decide +kernel
theorem dX5_number_21 : decode cX5_number 21 = .ok (.iconst 0, 1) := by decide +kernel
theorem dX5_number_22 : decode cX5_number 22 = .ok (.iastore, 1) := by decide +kernel
theorem dX5_number_23 : decode cX5_number 23 = .ok (.iconst 0, 1) := by decide +kernel
theorem dX5_number_24 : decode cX5_number 24 = .ok (.istore_n 3, 1) := by decide +kernel
theorem dX5_number_25 : decode cX5_number 25 = .ok (.iload_n 3, 1) := by decide +kernel
theorem dX5_number_26 : decode cX5_number 26 = .ok (.iload_n 2, 1) := by decide +kernel
theorem dX5_number_27 : decode cX5_number 27 = .ok (.if_icmp .ge 56, 3) := by decide +kernel
theorem dX5_number_30 : decode cX5_number 30 = .ok (.aload_n 0, 1) := by decide +kernel
theorem dX5_number_31 : decode cX5_number 31 = .ok (.invokevirtual 176, 3) := by decide +kernel
theorem dX5_number_34 : decode cX5_number 34 = .ok (.bipush 48, 2) := by decide +kernel
theorem dX5_number_36 : decode cX5_number 36 = .ok (.bipush 57, 2) := by decide +kernel
theorem dX5_number_38 : decode cX5_number 38 = .ok (.invokestatic 59, 3) := by decide +kernel
theorem dX5_number_41 : decode cX5_number 41 = .ok (.ifCond .eq 42, 3) := by decide +kernel
theorem dX5_number_44 : decode cX5_number 44 = .ok (.aload_n 0, 1) := by decide +kernel
theorem dX5_number_45 : decode cX5_number 45 = .ok (.getfield 36, 3) := by decide +kernel
theorem dX5_number_48 : decode cX5_number 48 = .ok (.iload_n 1, 1) := by decide +kernel
theorem dX5_number_49 : decode cX5_number 49 = .ok (.bipush 10, 2) := by decide +kernel
theorem dX5_number_51 : decode cX5_number 51 = .ok (.aload_n 0, 1) := by decide +kernel
theorem dX5_number_52 : decode cX5_number 52 = .ok (.getfield 36, 3) := by decide +kernel
theorem dX5_number_55 : decode cX5_number 55 = .ok (.iload_n 1, 1) := by decide +kernel
theorem dX5_number_56 : decode cX5_number 56 = .ok (.iaload, 1) := by decide +kernel
theorem dX5_number_57 : decode cX5_number 57 = .ok (.imul, 1) := by decide +kernel
theorem dX5_number_58 : decode cX5_number 58 = .ok (.aload_n 0, 1) := by decide +kernel
theorem dX5_number_59 : decode cX5_number 59 = .ok (.invokevirtual 176, 3) := by decide +kernel
theorem dX5_number_62 : decode cX5_number 62 = .ok (.iadd, 1) := by decide +kernel
theorem dX5_number_63 : decode cX5_number 63 = .ok (.bipush 48, 2) := by decide +kernel
theorem dX5_number_65 : decode cX5_number 65 = .ok (.isub, 1) := by decide +kernel
theorem dX5_number_66 : decode cX5_number 66 = .ok (.iastore, 1) := by decide +kernel
theorem dX5_number_67 : decode cX5_number 67 = .ok (.aload_n 0, 1) := by decide +kernel
theorem dX5_number_68 : decode cX5_number 68 = .ok (.dup, 1) := by decide +kernel
theorem dX5_number_69 : decode cX5_number 69 = .ok (.getfield 173, 3) := by decide +kernel
theorem dX5_number_72 : decode cX5_number 72 = .ok (.iconst 1, 1) := by decide +kernel
theorem dX5_number_73 : decode cX5_number 73 = .ok (.iadd, 1) := by decide +kernel
theorem dX5_number_74 : decode cX5_number 74 = .ok (.putfield 173, 3) := by decide +kernel
theorem dX5_number_77 : decode cX5_number 77 = .ok (.iinc 3 1, 3) := by decide +kernel
theorem dX5_number_80 : decode cX5_number 80 = .ok (.goto (-55), 3) := by decide +kernel
theorem dX5_number_83 : decode cX5_number 83 = .ok (.iconst 1, 1) := by decide +kernel
theorem dX5_number_84 : decode cX5_number 84 = .ok (.ireturn, 1) := by decide +kernel
theorem dX5_orderHere_0 : decode cX5_orderHere 0 = .ok (.iconst 4, 1) := by decide +kernel
theorem dX5_orderHere_1 : decode cX5_orderHere 1 = .ok (.aload_n 0, 1) := by decide +kernel
theorem dX5_orderHere_2 : decode cX5_orderHere 2 = .ok (.getfield 179, 3) := by decide +kernel
theorem dX5_orderHere_5 : decode cX5_orderHere 5 = .ok (.imul, 1) := by decide +kernel
theorem dX5_orderHere_6 : decode cX5_orderHere 6 = .ok (.istore_n 1, 1) := by decide +kernel
theorem dX5_orderHere_7 : decode cX5_orderHere 7 = .ok (.aload_n 0, 1) := by decide +kernel
theorem dX5_orderHere_8 : decode cX5_orderHere 8 = .ok (.getfield 36, 3) := by decide +kernel
theorem dX5_orderHere_11 : decode cX5_orderHere 11 = .ok (.iload_n 1, 1) := by decide +kernel
theorem dX5_orderHere_12 : decode cX5_orderHere 12 = .ok (.aload_n 0, 1) := by decide +kernel
theorem dX5_orderHere_13 : decode cX5_orderHere 13 = .ok (.invokevirtual 176, 3) := by decide +kernel
theorem dX5_orderHere_16 : decode cX5_orderHere 16 = .ok (.iastore, 1) := by decide +kernel
theorem dX5_orderHere_17 : decode cX5_orderHere 17 = .ok (.aload_n 0, 1) := by decide +kernel
theorem dX5_orderHere_18 : decode cX5_orderHere 18 = .ok (.bipush 112, 2) := by decide +kernel
theorem dX5_orderHere_20 : decode cX5_orderHere 20 = .ok (.invokevirtual 182, 3) := by decide +kernel
theorem dX5_orderHere_23 : decode cX5_orderHere 23 = .ok (.ifCond .eq 40, 3) := by decide +kernel
theorem dX5_orderHere_26 : decode cX5_orderHere 26 = .ok (.aload_n 0, 1) := by decide +kernel
theorem dX5_orderHere_27 : decode cX5_orderHere 27 = .ok (.iload_n 1, 1) := by decide +kernel
theorem dX5_orderHere_28 : decode cX5_orderHere 28 = .ok (.iconst 1, 1) := by decide +kernel
theorem dX5_orderHere_29 : decode cX5_orderHere 29 = .ok (.iadd, 1) := by decide +kernel
theorem dX5_orderHere_30 : decode cX5_orderHere 30 = .ok (.iconst 1, 1) := by decide +kernel
theorem dX5_orderHere_31 : decode cX5_orderHere 31 = .ok (.invokevirtual 185, 3) := by decide +kernel
theorem dX5_orderHere_34 : decode cX5_orderHere 34 = .ok (.ifCond .eq 27, 3) := by decide +kernel
theorem dX5_orderHere_37 : decode cX5_orderHere 37 = .ok (.aload_n 0, 1) := by decide +kernel
theorem dX5_orderHere_38 : decode cX5_orderHere 38 = .ok (.bipush 61, 2) := by decide +kernel
theorem dX5_orderHere_40 : decode cX5_orderHere 40 = .ok (.invokevirtual 182, 3) := by decide +kernel
theorem dX5_orderHere_43 : decode cX5_orderHere 43 = .ok (.ifCond .eq 18, 3) := by decide +kernel
theorem dX5_orderHere_46 : decode cX5_orderHere 46 = .ok (.aload_n 0, 1) := by decide +kernel
theorem dX5_orderHere_47 : decode cX5_orderHere 47 = .ok (.iload_n 1, 1) := by decide +kernel
theorem dX5_orderHere_48 : decode cX5_orderHere 48 = .ok (.iconst 2, 1) := by decide +kernel
theorem dX5_orderHere_49 : decode cX5_orderHere 49 = .ok (.iadd, 1) := by decide +kernel
theorem dX5_orderHere_50 : decode cX5_orderHere 50 = .ok (.iconst 1, 1) := by decide +kernel
theorem dX5_orderHere_51 : decode cX5_orderHere 51 = .ok (.invokevirtual 185, 3) := by decide +kernel
theorem dX5_orderHere_54 : decode cX5_orderHere 54 = .ok (.ifCond .eq 7, 3) := by decide +kernel
theorem dX5_orderHere_57 : decode cX5_orderHere 57 = .ok (.iconst 1, 1) := by decide +kernel
theorem dX5_orderHere_58 : decode cX5_orderHere 58 = .ok (.goto 4, 3) := by decide +kernel
theorem dX5_orderHere_61 : decode cX5_orderHere 61 = .ok (.iconst 0, 1) := by decide +kernel
theorem dX5_orderHere_62 : decode cX5_orderHere 62 = .ok (.ireturn, 1) := by decide +kernel
theorem dX5_orderHere_63 : decode cX5_orderHere 63 = .ok (.aload_n 0, 1) := by decide +kernel
theorem dX5_orderHere_64 : decode cX5_orderHere 64 = .ok (.bipush 98, 2) := by decide +kernel
theorem dX5_orderHere_66 : decode cX5_orderHere 66 = .ok (.invokevirtual 182, 3) := by decide +kernel
theorem dX5_orderHere_69 : decode cX5_orderHere 69 = .ok (.ifCond .eq 40, 3) := by decide +kernel
theorem dX5_orderHere_72 : decode cX5_orderHere 72 = .ok (.aload_n 0, 1) := by decide +kernel
theorem dX5_orderHere_73 : decode cX5_orderHere 73 = .ok (.iload_n 1, 1) := by decide +kernel
theorem dX5_orderHere_74 : decode cX5_orderHere 74 = .ok (.iconst 1, 1) := by decide +kernel
theorem dX5_orderHere_75 : decode cX5_orderHere 75 = .ok (.iadd, 1) := by decide +kernel
theorem dX5_orderHere_76 : decode cX5_orderHere 76 = .ok (.iconst 1, 1) := by decide +kernel
theorem dX5_orderHere_77 : decode cX5_orderHere 77 = .ok (.invokevirtual 185, 3) := by decide +kernel
theorem dX5_orderHere_80 : decode cX5_orderHere 80 = .ok (.ifCond .eq 27, 3) := by decide +kernel
theorem dX5_orderHere_83 : decode cX5_orderHere 83 = .ok (.aload_n 0, 1) := by decide +kernel
theorem dX5_orderHere_84 : decode cX5_orderHere 84 = .ok (.bipush 45, 2) := by decide +kernel
theorem dX5_orderHere_86 : decode cX5_orderHere 86 = .ok (.invokevirtual 182, 3) := by decide +kernel
theorem dX5_orderHere_89 : decode cX5_orderHere 89 = .ok (.ifCond .eq 18, 3) := by decide +kernel
theorem dX5_orderHere_92 : decode cX5_orderHere 92 = .ok (.aload_n 0, 1) := by decide +kernel
theorem dX5_orderHere_93 : decode cX5_orderHere 93 = .ok (.iload_n 1, 1) := by decide +kernel
theorem dX5_orderHere_94 : decode cX5_orderHere 94 = .ok (.iconst 2, 1) := by decide +kernel
theorem dX5_orderHere_95 : decode cX5_orderHere 95 = .ok (.iadd, 1) := by decide +kernel
theorem dX5_orderHere_96 : decode cX5_orderHere 96 = .ok (.iconst 1, 1) := by decide +kernel
theorem dX5_orderHere_97 : decode cX5_orderHere 97 = .ok (.invokevirtual 185, 3) := by decide +kernel
theorem dX5_orderHere_100 : decode cX5_orderHere 100 = .ok (.ifCond .eq 7, 3) := by decide +kernel
theorem dX5_orderHere_103 : decode cX5_orderHere 103 = .ok (.iconst 1, 1) := by decide +kernel
theorem dX5_orderHere_104 : decode cX5_orderHere 104 = .ok (.goto 4, 3) := by decide +kernel
theorem dX5_orderHere_107 : decode cX5_orderHere 107 = .ok (.iconst 0, 1) := by decide +kernel
theorem dX5_orderHere_108 : decode cX5_orderHere 108 = .ok (.ireturn, 1) := by decide +kernel
theorem dX5_orderHere_109 : decode cX5_orderHere 109 = .ok (.aload_n 0, 1) := by decide +kernel
theorem dX5_orderHere_110 : decode cX5_orderHere 110 = .ok (.bipush 119, 2) := by decide +kernel
theorem dX5_orderHere_112 : decode cX5_orderHere 112 = .ok (.invokevirtual 182, 3) := by decide +kernel
theorem dX5_orderHere_115 : decode cX5_orderHere 115 = .ok (.ifCond .eq 60, 3) := by decide +kernel
theorem dX5_orderHere_118 : decode cX5_orderHere 118 = .ok (.aload_n 0, 1) := by decide +kernel
theorem dX5_orderHere_119 : decode cX5_orderHere 119 = .ok (.iload_n 1, 1) := by decide +kernel
theorem dX5_orderHere_120 : decode cX5_orderHere 120 = .ok (.iconst 1, 1) := by decide +kernel
theorem dX5_orderHere_121 : decode cX5_orderHere 121 = .ok (.iadd, 1) := by decide +kernel
theorem dX5_orderHere_122 : decode cX5_orderHere 122 = .ok (.iconst 1, 1) := by decide +kernel
theorem dX5_orderHere_123 : decode cX5_orderHere 123 = .ok (.invokevirtual 185, 3) := by decide +kernel
theorem dX5_orderHere_126 : decode cX5_orderHere 126 = .ok (.ifCond .eq 47, 3) := by decide +kernel
theorem dX5_orderHere_129 : decode cX5_orderHere 129 = .ok (.aload_n 0, 1) := by decide +kernel
theorem dX5_orderHere_130 : decode cX5_orderHere 130 = .ok (.bipush 61, 2) := by decide +kernel
theorem dX5_orderHere_132 : decode cX5_orderHere 132 = .ok (.invokevirtual 182, 3) := by decide +kernel
theorem dX5_orderHere_135 : decode cX5_orderHere 135 = .ok (.ifCond .eq 38, 3) := by decide +kernel
theorem dX5_orderHere_138 : decode cX5_orderHere 138 = .ok (.aload_n 0, 1) := by decide +kernel
theorem dX5_orderHere_139 : decode cX5_orderHere 139 = .ok (.iload_n 1, 1) := by decide +kernel
theorem dX5_orderHere_140 : decode cX5_orderHere 140 = .ok (.iconst 2, 1) := by decide +kernel
theorem dX5_orderHere_141 : decode cX5_orderHere 141 = .ok (.iadd, 1) := by decide +kernel
theorem dX5_orderHere_142 : decode cX5_orderHere 142 = .ok (.iconst 1, 1) := by decide +kernel
theorem dX5_orderHere_143 : decode cX5_orderHere 143 = .ok (.invokevirtual 185, 3) := by decide +kernel
theorem dX5_orderHere_146 : decode cX5_orderHere 146 = .ok (.ifCond .eq 27, 3) := by decide +kernel
theorem dX5_orderHere_149 : decode cX5_orderHere 149 = .ok (.aload_n 0, 1) := by decide +kernel
theorem dX5_orderHere_150 : decode cX5_orderHere 150 = .ok (.bipush 42, 2) := by decide +kernel
theorem dX5_orderHere_152 : decode cX5_orderHere 152 = .ok (.invokevirtual 182, 3) := by decide +kernel
theorem dX5_orderHere_155 : decode cX5_orderHere 155 = .ok (.ifCond .eq 18, 3) := by decide +kernel
theorem dX5_orderHere_158 : decode cX5_orderHere 158 = .ok (.aload_n 0, 1) := by decide +kernel
theorem dX5_orderHere_159 : decode cX5_orderHere 159 = .ok (.iload_n 1, 1) := by decide +kernel
theorem dX5_orderHere_160 : decode cX5_orderHere 160 = .ok (.iconst 3, 1) := by decide +kernel
theorem dX5_orderHere_161 : decode cX5_orderHere 161 = .ok (.iadd, 1) := by decide +kernel
theorem dX5_orderHere_162 : decode cX5_orderHere 162 = .ok (.iconst 1, 1) := by decide +kernel
theorem dX5_orderHere_163 : decode cX5_orderHere 163 = .ok (.invokevirtual 185, 3) := by decide +kernel
theorem dX5_orderHere_166 : decode cX5_orderHere 166 = .ok (.ifCond .eq 7, 3) := by decide +kernel
theorem dX5_orderHere_169 : decode cX5_orderHere 169 = .ok (.iconst 1, 1) := by decide +kernel
theorem dX5_orderHere_170 : decode cX5_orderHere 170 = .ok (.goto 4, 3) := by decide +kernel
theorem dX5_orderHere_173 : decode cX5_orderHere 173 = .ok (.iconst 0, 1) := by decide +kernel
theorem dX5_orderHere_174 : decode cX5_orderHere 174 = .ok (.ireturn, 1) := by decide +kernel
theorem dX5_orderHere_175 : decode cX5_orderHere 175 = .ok (.aload_n 0, 1) := by decide +kernel
theorem dX5_orderHere_176 : decode cX5_orderHere 176 = .ok (.bipush 104, 2) := by decide +kernel
theorem dX5_orderHere_178 : decode cX5_orderHere 178 = .ok (.invokevirtual 182, 3) := by decide +kernel
theorem dX5_orderHere_181 : decode cX5_orderHere 181 = .ok (.ifCond .eq 12, 3) := by decide +kernel
theorem dX5_orderHere_184 : decode cX5_orderHere 184 = .ok (.aload_n 0, 1) := by decide +kernel
theorem dX5_orderHere_185 : decode cX5_orderHere 185 = .ok (.iload_n 1, 1) := by decide +kernel
theorem dX5_orderHere_186 : decode cX5_orderHere 186 = .ok (.iconst 1, 1) := by decide +kernel
theorem dX5_orderHere_187 : decode cX5_orderHere 187 = .ok (.iadd, 1) := by decide +kernel
theorem dX5_orderHere_188 : decode cX5_orderHere 188 = .ok (.iconst 2, 1) := by decide +kernel
theorem dX5_orderHere_189 : decode cX5_orderHere 189 = .ok (.invokevirtual 185, 3) := by decide +kernel
theorem dX5_orderHere_192 : decode cX5_orderHere 192 = .ok (.ireturn, 1) := by decide +kernel
theorem dX5_orderHere_193 : decode cX5_orderHere 193 = .ok (.aload_n 0, 1) := by decide +kernel
theorem dX5_orderHere_194 : decode cX5_orderHere 194 = .ok (.bipush 106, 2) := by decide +kernel
theorem dX5_orderHere_196 : decode cX5_orderHere 196 = .ok (.invokevirtual 182, 3) := by decide +kernel
theorem dX5_orderHere_199 : decode cX5_orderHere 199 = .ok (.ifCond .eq 40, 3) := by decide +kernel
theorem dX5_orderHere_202 : decode cX5_orderHere 202 = .ok (.aload_n 0, 1) := by decide +kernel
theorem dX5_orderHere_203 : decode cX5_orderHere 203 = .ok (.iload_n 1, 1) := by decide +kernel
theorem dX5_orderHere_204 : decode cX5_orderHere 204 = .ok (.iconst 1, 1) := by decide +kernel
theorem dX5_orderHere_205 : decode cX5_orderHere 205 = .ok (.iadd, 1) := by decide +kernel
theorem dX5_orderHere_206 : decode cX5_orderHere 206 = .ok (.iconst 1, 1) := by decide +kernel
theorem dX5_orderHere_207 : decode cX5_orderHere 207 = .ok (.invokevirtual 185, 3) := by decide +kernel
theorem dX5_orderHere_210 : decode cX5_orderHere 210 = .ok (.ifCond .eq 27, 3) := by decide +kernel
theorem dX5_orderHere_213 : decode cX5_orderHere 213 = .ok (.aload_n 0, 1) := by decide +kernel
theorem dX5_orderHere_214 : decode cX5_orderHere 214 = .ok (.bipush 43, 2) := by decide +kernel
theorem dX5_orderHere_216 : decode cX5_orderHere 216 = .ok (.invokevirtual 182, 3) := by decide +kernel
theorem dX5_orderHere_219 : decode cX5_orderHere 219 = .ok (.ifCond .eq 18, 3) := by decide +kernel
theorem dX5_orderHere_222 : decode cX5_orderHere 222 = .ok (.aload_n 0, 1) := by decide +kernel
theorem dX5_orderHere_223 : decode cX5_orderHere 223 = .ok (.iload_n 1, 1) := by decide +kernel
theorem dX5_orderHere_224 : decode cX5_orderHere 224 = .ok (.iconst 2, 1) := by decide +kernel
theorem dX5_orderHere_225 : decode cX5_orderHere 225 = .ok (.iadd, 1) := by decide +kernel
theorem dX5_orderHere_226 : decode cX5_orderHere 226 = .ok (.iconst 2, 1) := by decide +kernel
theorem dX5_orderHere_227 : decode cX5_orderHere 227 = .ok (.invokevirtual 185, 3) := by decide +kernel
theorem dX5_orderHere_230 : decode cX5_orderHere 230 = .ok (.ifCond .eq 7, 3) := by decide +kernel
theorem dX5_orderHere_233 : decode cX5_orderHere 233 = .ok (.iconst 1, 1) := by decide +kernel
theorem dX5_orderHere_234 : decode cX5_orderHere 234 = .ok (.goto 4, 3) := by decide +kernel
theorem dX5_orderHere_237 : decode cX5_orderHere 237 = .ok (.iconst 0, 1) := by decide +kernel
theorem dX5_orderHere_238 : decode cX5_orderHere 238 = .ok (.ireturn, 1) := by decide +kernel
theorem dX5_orderHere_239 : decode cX5_orderHere 239 = .ok (.aload_n 0, 1) := by decide +kernel
theorem dX5_orderHere_240 : decode cX5_orderHere 240 = .ok (.bipush 120, 2) := by decide +kernel
theorem dX5_orderHere_242 : decode cX5_orderHere 242 = .ok (.invokevirtual 182, 3) := by decide +kernel
theorem dX5_orderHere_245 : decode cX5_orderHere 245 = .ok (.ifCond .ne 12, 3) := by decide +kernel
theorem dX5_orderHere_248 : decode cX5_orderHere 248 = .ok (.aload_n 0, 1) := by decide +kernel
theorem dX5_orderHere_249 : decode cX5_orderHere 249 = .ok (.bipush 102, 2) := by decide +kernel
theorem dX5_orderHere_251 : decode cX5_orderHere 251 = .ok (.invokevirtual 182, 3) := by decide +kernel
theorem dX5_orderHere_254 : decode cX5_orderHere 254 = .ok (.ifCond .eq 7, 3) := by decide +kernel
theorem dX5_orderHere_257 : decode cX5_orderHere 257 = .ok (.iconst 1, 1) := by decide +kernel
theorem dX5_orderHere_258 : decode cX5_orderHere 258 = .ok (.goto 4, 3) := by decide +kernel
theorem dX5_orderHere_261 : decode cX5_orderHere 261 = .ok (.iconst 0, 1) := by decide +kernel
theorem dX5_orderHere_262 : decode cX5_orderHere 262 = .ok (.ireturn, 1) := by decide +kernel
theorem dX5_isText_0 : decode cX5_isText 0 = .ok (.aload_n 0, 1) := by decide +kernel
theorem dX5_isText_1 : decode cX5_isText 1 = .ok (.iconst 0, 1) := by decide +kernel
theorem dX5_isText_2 : decode cX5_isText 2 = .ok (.putfield 173, 3) := by decide +kernel
theorem dX5_isText_5 : decode cX5_isText 5 = .ok (.aload_n 0, 1) := by decide +kernel
theorem dX5_isText_6 : decode cX5_isText 6 = .ok (.iconst 0, 1) := by decide +kernel
theorem dX5_isText_7 : decode cX5_isText 7 = .ok (.putfield 179, 3) := by decide +kernel
theorem dX5_isText_10 : decode cX5_isText 10 = .ok (.aload_n 0, 1) := by decide +kernel
theorem dX5_isText_11 : decode cX5_isText 11 = .ok (.invokevirtual 188, 3) := by decide +kernel
theorem dX5_isText_14 : decode cX5_isText 14 = .ok (.ifCond .ne 5, 3) := by decide +kernel
theorem dX5_isText_17 : decode cX5_isText 17 = .ok (.iconst 0, 1) := by decide +kernel
theorem dX5_isText_18 : decode cX5_isText 18 = .ok (.ireturn, 1) := by decide +kernel
theorem dX5_isText_19 : decode cX5_isText 19 = .ok (.aload_n 0, 1) := by decide +kernel
theorem dX5_isText_20 : decode cX5_isText 20 = .ok (.dup, 1) := by decide +kernel
theorem dX5_isText_21 : decode cX5_isText 21 = .ok (.getfield 179, 3) := by decide +kernel
theorem dX5_isText_24 : decode cX5_isText 24 = .ok (.iconst 1, 1) := by decide +kernel
theorem dX5_isText_25 : decode cX5_isText 25 = .ok (.iadd, 1) := by decide +kernel
theorem dX5_isText_26 : decode cX5_isText 26 = .ok (.putfield 179, 3) := by decide +kernel
theorem dX5_isText_29 : decode cX5_isText 29 = .ok (.aload_n 0, 1) := by decide +kernel
theorem dX5_isText_30 : decode cX5_isText 30 = .ok (.bipush 59, 2) := by decide +kernel
theorem dX5_isText_32 : decode cX5_isText 32 = .ok (.invokevirtual 182, 3) := by decide +kernel
theorem dX5_isText_35 : decode cX5_isText 35 = .ok (.ifCond .ne (-25), 3) := by decide +kernel
theorem dX5_isText_38 : decode cX5_isText 38 = .ok (.aload_n 0, 1) := by decide +kernel
theorem dX5_isText_39 : decode cX5_isText 39 = .ok (.getfield 173, 3) := by decide +kernel
theorem dX5_isText_42 : decode cX5_isText 42 = .ok (.aload_n 0, 1) := by decide +kernel
theorem dX5_isText_43 : decode cX5_isText 43 = .ok (.getfield 170, 3) := by decide +kernel
theorem dX5_isText_46 : decode cX5_isText 46 = .ok (.if_icmp .ne 7, 3) := by decide +kernel
theorem dX5_isText_49 : decode cX5_isText 49 = .ok (.iconst 1, 1) := by decide +kernel
theorem dX5_isText_50 : decode cX5_isText 50 = .ok (.goto 4, 3) := by decide +kernel
theorem dX5_isText_53 : decode cX5_isText 53 = .ok (.iconst 0, 1) := by decide +kernel
theorem dX5_isText_54 : decode cX5_isText 54 = .ok (.ireturn, 1) := by decide +kernel
theorem dX5_carries_0 : decode cX5_carries 0 = .ok (.aload_n 0, 1) := by decide +kernel
theorem dX5_carries_1 : decode cX5_carries 1 = .ok (.getfield 36, 3) := by decide +kernel
theorem dX5_carries_4 : decode cX5_carries 4 = .ok (.iload_n 1, 1) := by decide +kernel
theorem dX5_carries_5 : decode cX5_carries 5 = .ok (.iaload, 1) := by decide +kernel
theorem dX5_carries_6 : decode cX5_carries 6 = .ok (.lookupswitch 168 #[(98, 79), (104, 129), (106, 142), (112, 58), (119, 100), (120, 163)], 58) := by decide +kernel
theorem dX5_carries_64 : decode cX5_carries 64 = .ok (.aload_n 0, 1) := by decide +kernel
theorem dX5_carries_65 : decode cX5_carries 65 = .ok (.aload_n 0, 1) := by decide +kernel
theorem dX5_carries_66 : decode cX5_carries 66 = .ok (.getfield 36, 3) := by decide +kernel
theorem dX5_carries_69 : decode cX5_carries 69 = .ok (.iload_n 1, 1) := by decide +kernel
theorem dX5_carries_70 : decode cX5_carries 70 = .ok (.iconst 1, 1) := by decide +kernel
theorem dX5_carries_71 : decode cX5_carries 71 = .ok (.iadd, 1) := by decide +kernel
theorem dX5_carries_72 : decode cX5_carries 72 = .ok (.iaload, 1) := by decide +kernel
theorem dX5_carries_73 : decode cX5_carries 73 = .ok (.aload_n 0, 1) := by decide +kernel
theorem dX5_carries_74 : decode cX5_carries 74 = .ok (.getfield 36, 3) := by decide +kernel
theorem dX5_carries_77 : decode cX5_carries 77 = .ok (.iload_n 1, 1) := by decide +kernel
theorem dX5_carries_78 : decode cX5_carries 78 = .ok (.iconst 2, 1) := by decide +kernel
theorem dX5_carries_79 : decode cX5_carries 79 = .ok (.iadd, 1) := by decide +kernel
theorem dX5_carries_80 : decode cX5_carries 80 = .ok (.iaload, 1) := by decide +kernel
theorem dX5_carries_81 : decode cX5_carries 81 = .ok (.invokevirtual 192, 3) := by decide +kernel
theorem dX5_carries_84 : decode cX5_carries 84 = .ok (.ireturn, 1) := by decide +kernel
theorem dX5_carries_85 : decode cX5_carries 85 = .ok (.aload_n 0, 1) := by decide +kernel
theorem dX5_carries_86 : decode cX5_carries 86 = .ok (.aload_n 0, 1) := by decide +kernel
theorem dX5_carries_87 : decode cX5_carries 87 = .ok (.getfield 36, 3) := by decide +kernel
theorem dX5_carries_90 : decode cX5_carries 90 = .ok (.iload_n 1, 1) := by decide +kernel
theorem dX5_carries_91 : decode cX5_carries 91 = .ok (.iconst 1, 1) := by decide +kernel
theorem dX5_carries_92 : decode cX5_carries 92 = .ok (.iadd, 1) := by decide +kernel
theorem dX5_carries_93 : decode cX5_carries 93 = .ok (.iaload, 1) := by decide +kernel
theorem dX5_carries_94 : decode cX5_carries 94 = .ok (.aload_n 0, 1) := by decide +kernel
theorem dX5_carries_95 : decode cX5_carries 95 = .ok (.getfield 36, 3) := by decide +kernel
theorem dX5_carries_98 : decode cX5_carries 98 = .ok (.iload_n 1, 1) := by decide +kernel
theorem dX5_carries_99 : decode cX5_carries 99 = .ok (.iconst 2, 1) := by decide +kernel
theorem dX5_carries_100 : decode cX5_carries 100 = .ok (.iadd, 1) := by decide +kernel
theorem dX5_carries_101 : decode cX5_carries 101 = .ok (.iaload, 1) := by decide +kernel
theorem dX5_carries_102 : decode cX5_carries 102 = .ok (.invokevirtual 195, 3) := by decide +kernel
theorem dX5_carries_105 : decode cX5_carries 105 = .ok (.ireturn, 1) := by decide +kernel
theorem dX5_carries_106 : decode cX5_carries 106 = .ok (.aload_n 0, 1) := by decide +kernel
theorem dX5_carries_107 : decode cX5_carries 107 = .ok (.aload_n 0, 1) := by decide +kernel
theorem dX5_carries_108 : decode cX5_carries 108 = .ok (.getfield 36, 3) := by decide +kernel
theorem dX5_carries_111 : decode cX5_carries 111 = .ok (.iload_n 1, 1) := by decide +kernel
theorem dX5_carries_112 : decode cX5_carries 112 = .ok (.iconst 1, 1) := by decide +kernel
theorem dX5_carries_113 : decode cX5_carries 113 = .ok (.iadd, 1) := by decide +kernel
theorem dX5_carries_114 : decode cX5_carries 114 = .ok (.iaload, 1) := by decide +kernel
theorem dX5_carries_115 : decode cX5_carries 115 = .ok (.aload_n 0, 1) := by decide +kernel
theorem dX5_carries_116 : decode cX5_carries 116 = .ok (.getfield 36, 3) := by decide +kernel
theorem dX5_carries_119 : decode cX5_carries 119 = .ok (.iload_n 1, 1) := by decide +kernel
theorem dX5_carries_120 : decode cX5_carries 120 = .ok (.iconst 2, 1) := by decide +kernel
theorem dX5_carries_121 : decode cX5_carries 121 = .ok (.iadd, 1) := by decide +kernel
theorem dX5_carries_122 : decode cX5_carries 122 = .ok (.iaload, 1) := by decide +kernel
theorem dX5_carries_123 : decode cX5_carries 123 = .ok (.aload_n 0, 1) := by decide +kernel
theorem dX5_carries_124 : decode cX5_carries 124 = .ok (.getfield 36, 3) := by decide +kernel
theorem dX5_carries_127 : decode cX5_carries 127 = .ok (.iload_n 1, 1) := by decide +kernel
theorem dX5_carries_128 : decode cX5_carries 128 = .ok (.iconst 3, 1) := by decide +kernel
theorem dX5_carries_129 : decode cX5_carries 129 = .ok (.iadd, 1) := by decide +kernel
theorem dX5_carries_130 : decode cX5_carries 130 = .ok (.iaload, 1) := by decide +kernel
theorem dX5_carries_131 : decode cX5_carries 131 = .ok (.invokevirtual 198, 3) := by decide +kernel
theorem dX5_carries_134 : decode cX5_carries 134 = .ok (.ireturn, 1) := by decide +kernel
theorem dX5_carries_135 : decode cX5_carries 135 = .ok (.aload_n 0, 1) := by decide +kernel
theorem dX5_carries_136 : decode cX5_carries 136 = .ok (.aload_n 0, 1) := by decide +kernel
theorem dX5_carries_137 : decode cX5_carries 137 = .ok (.getfield 36, 3) := by decide +kernel
theorem dX5_carries_140 : decode cX5_carries 140 = .ok (.iload_n 1, 1) := by decide +kernel
theorem dX5_carries_141 : decode cX5_carries 141 = .ok (.iconst 1, 1) := by decide +kernel
theorem dX5_carries_142 : decode cX5_carries 142 = .ok (.iadd, 1) := by decide +kernel
theorem dX5_carries_143 : decode cX5_carries 143 = .ok (.iaload, 1) := by decide +kernel
theorem dX5_carries_144 : decode cX5_carries 144 = .ok (.invokevirtual 201, 3) := by decide +kernel
theorem dX5_carries_147 : decode cX5_carries 147 = .ok (.ireturn, 1) := by decide +kernel
theorem dX5_carries_148 : decode cX5_carries 148 = .ok (.aload_n 0, 1) := by decide +kernel
theorem dX5_carries_149 : decode cX5_carries 149 = .ok (.aload_n 0, 1) := by decide +kernel
theorem dX5_carries_150 : decode cX5_carries 150 = .ok (.getfield 36, 3) := by decide +kernel
theorem dX5_carries_153 : decode cX5_carries 153 = .ok (.iload_n 1, 1) := by decide +kernel
theorem dX5_carries_154 : decode cX5_carries 154 = .ok (.iconst 1, 1) := by decide +kernel
theorem dX5_carries_155 : decode cX5_carries 155 = .ok (.iadd, 1) := by decide +kernel
theorem dX5_carries_156 : decode cX5_carries 156 = .ok (.iaload, 1) := by decide +kernel
theorem dX5_carries_157 : decode cX5_carries 157 = .ok (.aload_n 0, 1) := by decide +kernel
theorem dX5_carries_158 : decode cX5_carries 158 = .ok (.getfield 36, 3) := by decide +kernel
theorem dX5_carries_161 : decode cX5_carries 161 = .ok (.iload_n 1, 1) := by decide +kernel
theorem dX5_carries_162 : decode cX5_carries 162 = .ok (.iconst 2, 1) := by decide +kernel
theorem dX5_carries_163 : decode cX5_carries 163 = .ok (.iadd, 1) := by decide +kernel
theorem dX5_carries_164 : decode cX5_carries 164 = .ok (.iaload, 1) := by decide +kernel
theorem dX5_carries_165 : decode cX5_carries 165 = .ok (.invokevirtual 204, 3) := by decide +kernel
theorem dX5_carries_168 : decode cX5_carries 168 = .ok (.ireturn, 1) := by decide +kernel
theorem dX5_carries_169 : decode cX5_carries 169 = .ok (.aload_n 0, 1) := by decide +kernel
theorem dX5_carries_170 : decode cX5_carries 170 = .ok (.invokevirtual 207, 3) := by decide +kernel
theorem dX5_carries_173 : decode cX5_carries 173 = .ok (.ireturn, 1) := by decide +kernel
theorem dX5_carries_174 : decode cX5_carries 174 = .ok (.aload_n 0, 1) := by decide +kernel
theorem dX5_carries_175 : decode cX5_carries 175 = .ok (.invokevirtual 210, 3) := by decide +kernel
theorem dX5_carries_178 : decode cX5_carries 178 = .ok (.ireturn, 1) := by decide +kernel
theorem dX5_isRefusal_0 : decode cX5_isRefusal 0 = .ok (.iload_n 1, 1) := by decide +kernel
theorem dX5_isRefusal_1 : decode cX5_isRefusal 1 = .ok (.bipush 120, 2) := by decide +kernel
theorem dX5_isRefusal_3 : decode cX5_isRefusal 3 = .ok (.if_icmp .ne 19, 3) := by decide +kernel
theorem dX5_isRefusal_6 : decode cX5_isRefusal 6 = .ok (.aload_n 0, 1) := by decide +kernel
theorem dX5_isRefusal_7 : decode cX5_isRefusal 7 = .ok (.getfield 39, 3) := by decide +kernel
theorem dX5_isRefusal_10 : decode cX5_isRefusal 10 = .ok (.iconst 1, 1) := by decide +kernel
theorem dX5_isRefusal_11 : decode cX5_isRefusal 11 = .ok (.if_icmp .ne 7, 3) := by decide +kernel
theorem dX5_isRefusal_14 : decode cX5_isRefusal 14 = .ok (.iconst 1, 1) := by decide +kernel
theorem dX5_isRefusal_15 : decode cX5_isRefusal 15 = .ok (.goto 38, 3) := by decide +kernel
theorem dX5_isRefusal_18 : decode cX5_isRefusal 18 = .ok (.iconst 0, 1) := by decide +kernel
theorem dX5_isRefusal_19 : decode cX5_isRefusal 19 = .ok (.goto 34, 3) := by decide +kernel
theorem dX5_isRefusal_22 : decode cX5_isRefusal 22 = .ok (.iload_n 1, 1) := by decide +kernel
theorem dX5_isRefusal_23 : decode cX5_isRefusal 23 = .ok (.bipush 112, 2) := by decide +kernel
theorem dX5_isRefusal_25 : decode cX5_isRefusal 25 = .ok (.if_icmp .eq 15, 3) := by decide +kernel
theorem dX5_isRefusal_28 : decode cX5_isRefusal 28 = .ok (.iload_n 1, 1) := by decide +kernel
theorem dX5_isRefusal_29 : decode cX5_isRefusal 29 = .ok (.bipush 98, 2) := by decide +kernel
theorem dX5_isRefusal_31 : decode cX5_isRefusal 31 = .ok (.if_icmp .eq 9, 3) := by decide +kernel
theorem dX5_isRefusal_34 : decode cX5_isRefusal 34 = .ok (.iload_n 1, 1) := by decide +kernel
theorem dX5_isRefusal_35 : decode cX5_isRefusal 35 = .ok (.bipush 104, 2) := by decide +kernel
theorem dX5_isRefusal_37 : decode cX5_isRefusal 37 = .ok (.if_icmp .ne 15, 3) := by decide +kernel
theorem dX5_isRefusal_40 : decode cX5_isRefusal 40 = .ok (.aload_n 0, 1) := by decide +kernel
theorem dX5_isRefusal_41 : decode cX5_isRefusal 41 = .ok (.getfield 39, 3) := by decide +kernel
theorem dX5_isRefusal_44 : decode cX5_isRefusal 44 = .ok (.iconst 2, 1) := by decide +kernel
theorem dX5_isRefusal_45 : decode cX5_isRefusal 45 = .ok (.if_icmp .ne 7, 3) := by decide +kernel
theorem dX5_isRefusal_48 : decode cX5_isRefusal 48 = .ok (.iconst 1, 1) := by decide +kernel
theorem dX5_isRefusal_49 : decode cX5_isRefusal 49 = .ok (.goto 4, 3) := by decide +kernel
theorem dX5_isRefusal_52 : decode cX5_isRefusal 52 = .ok (.iconst 0, 1) := by decide +kernel
theorem dX5_isRefusal_53 : decode cX5_isRefusal 53 = .ok (.ireturn, 1) := by decide +kernel
theorem dX5_read_0 : decode cX5_read 0 = .ok (.aload_n 0, 1) := by decide +kernel
theorem dX5_read_1 : decode cX5_read 1 = .ok (.invokevirtual 213, 3) := by decide +kernel
theorem dX5_read_4 : decode cX5_read 4 = .ok (.istore_n 1, 1) := by decide +kernel
theorem dX5_read_5 : decode cX5_read 5 = .ok (.aload_n 0, 1) := by decide +kernel
theorem dX5_read_6 : decode cX5_read 6 = .ok (.iload_n 1, 1) := by decide +kernel
theorem dX5_read_7 : decode cX5_read 7 = .ok (.ifCond .eq 7, 3) := by decide +kernel
theorem dX5_read_10 : decode cX5_read 10 = .ok (.iconst (-1), 1) := by decide +kernel
theorem dX5_read_11 : decode cX5_read 11 = .ok (.goto 7, 3) := by decide +kernel
theorem dX5_read_14 : decode cX5_read 14 = .ok (.aload_n 0, 1) := by decide +kernel
theorem dX5_read_15 : decode cX5_read 15 = .ok (.getfield 173, 3) := by decide +kernel
theorem dX5_read_18 : decode cX5_read 18 = .ok (.putfield 25, 3) := by decide +kernel
theorem dX5_read_21 : decode cX5_read 21 = .ok (.aload_n 0, 1) := by decide +kernel
theorem dX5_read_22 : decode cX5_read 22 = .ok (.iconst 0, 1) := by decide +kernel
theorem dX5_read_23 : decode cX5_read 23 = .ok (.putfield 170, 3) := by decide +kernel
theorem dX5_read_26 : decode cX5_read 26 = .ok (.aload_n 0, 1) := by decide +kernel
theorem dX5_read_27 : decode cX5_read 27 = .ok (.iload_n 1, 1) := by decide +kernel
theorem dX5_read_28 : decode cX5_read 28 = .ok (.ifCond .eq 7, 3) := by decide +kernel
theorem dX5_read_31 : decode cX5_read 31 = .ok (.iconst 0, 1) := by decide +kernel
theorem dX5_read_32 : decode cX5_read 32 = .ok (.goto 4, 3) := by decide +kernel
theorem dX5_read_35 : decode cX5_read 35 = .ok (.iconst 1, 1) := by decide +kernel
theorem dX5_read_36 : decode cX5_read 36 = .ok (.invokevirtual 71, 3) := by decide +kernel
theorem dX5_read_39 : decode cX5_read 39 = .ok (.ifCond .eq 5, 3) := by decide +kernel
theorem dX5_read_42 : decode cX5_read 42 = .ok (.iconst 0, 1) := by decide +kernel
theorem dX5_read_43 : decode cX5_read 43 = .ok (.ireturn, 1) := by decide +kernel
theorem dX5_read_44 : decode cX5_read 44 = .ok (.aload_n 0, 1) := by decide +kernel
theorem dX5_read_45 : decode cX5_read 45 = .ok (.getfield 7, 3) := by decide +kernel
theorem dX5_read_48 : decode cX5_read 48 = .ok (.iconst 0, 1) := by decide +kernel
theorem dX5_read_49 : decode cX5_read 49 = .ok (.aload_n 0, 1) := by decide +kernel
theorem dX5_read_50 : decode cX5_read 50 = .ok (.getfield 19, 3) := by decide +kernel
theorem dX5_read_53 : decode cX5_read 53 = .ok (.iconst 0, 1) := by decide +kernel
theorem dX5_read_54 : decode cX5_read 54 = .ok (.invokestatic 55, 3) := by decide +kernel
theorem dX5_read_57 : decode cX5_read 57 = .ok (.aload_n 0, 1) := by decide +kernel
theorem dX5_read_58 : decode cX5_read 58 = .ok (.iconst 1, 1) := by decide +kernel
theorem dX5_read_59 : decode cX5_read 59 = .ok (.putfield 48, 3) := by decide +kernel
theorem dX5_read_62 : decode cX5_read 62 = .ok (.iconst 0, 1) := by decide +kernel
theorem dX5_read_63 : decode cX5_read 63 = .ok (.istore_n 2, 1) := by decide +kernel
theorem dX5_read_64 : decode cX5_read 64 = .ok (.iconst 0, 1) := by decide +kernel
theorem dX5_read_65 : decode cX5_read 65 = .ok (.istore_n 3, 1) := by decide +kernel
theorem dX5_read_66 : decode cX5_read 66 = .ok (.iload_n 2, 1) := by decide +kernel
theorem dX5_read_67 : decode cX5_read 67 = .ok (.aload_n 0, 1) := by decide +kernel
theorem dX5_read_68 : decode cX5_read 68 = .ok (.getfield 179, 3) := by decide +kernel
theorem dX5_read_71 : decode cX5_read 71 = .ok (.if_icmp .ge 24, 3) := by decide +kernel
theorem dX5_read_74 : decode cX5_read 74 = .ok (.aload_n 0, 1) := by decide +kernel
theorem dX5_read_75 : decode cX5_read 75 = .ok (.getfield 39, 3) := by decide +kernel
theorem dX5_read_78 : decode cX5_read 78 = .ok (.ifCond .ne 17, 3) := by decide +kernel
theorem dX5_read_81 : decode cX5_read 81 = .ok (.aload_n 0, 1) := by decide +kernel
theorem dX5_read_82 : decode cX5_read 82 = .ok (.iconst 4, 1) := by decide +kernel
theorem dX5_read_83 : decode cX5_read 83 = .ok (.iload_n 2, 1) := by decide +kernel
theorem dX5_read_84 : decode cX5_read 84 = .ok (.imul, 1) := by decide +kernel
theorem dX5_read_85 : decode cX5_read 85 = .ok (.invokevirtual 216, 3) := by decide +kernel
theorem dX5_read_88 : decode cX5_read 88 = .ok (.istore_n 3, 1) := by decide +kernel
theorem dX5_read_89 : decode cX5_read 89 = .ok (.iinc 2 1, 3) := by decide +kernel
theorem dX5_read_92 : decode cX5_read 92 = .ok (.goto (-26), 3) := by decide +kernel
theorem dX5_read_95 : decode cX5_read 95 = .ok (.aload_n 0, 1) := by decide +kernel
theorem dX5_read_96 : decode cX5_read 96 = .ok (.iconst 0, 1) := by decide +kernel
theorem dX5_read_97 : decode cX5_read 97 = .ok (.putfield 48, 3) := by decide +kernel
theorem dX5_read_100 : decode cX5_read 100 = .ok (.aload_n 0, 1) := by decide +kernel
theorem dX5_read_101 : decode cX5_read 101 = .ok (.getfield 39, 3) := by decide +kernel
theorem dX5_read_104 : decode cX5_read 104 = .ok (.ifCond .le 52, 3) := by decide +kernel
theorem dX5_read_107 : decode cX5_read 107 = .ok (.aload_n 0, 1) := by decide +kernel
theorem dX5_read_108 : decode cX5_read 108 = .ok (.getfield 19, 3) := by decide +kernel
theorem dX5_read_111 : decode cX5_read 111 = .ok (.iconst 0, 1) := by decide +kernel
theorem dX5_read_112 : decode cX5_read 112 = .ok (.aload_n 0, 1) := by decide +kernel
theorem dX5_read_113 : decode cX5_read 113 = .ok (.getfield 7, 3) := by decide +kernel
theorem dX5_read_116 : decode cX5_read 116 = .ok (.iconst 0, 1) := by decide +kernel
theorem dX5_read_117 : decode cX5_read 117 = .ok (.invokestatic 55, 3) := by decide +kernel
theorem dX5_read_120 : decode cX5_read 120 = .ok (.aload_n 0, 1) := by decide +kernel
theorem dX5_read_121 : decode cX5_read 121 = .ok (.aload_n 0, 1) := by decide +kernel
theorem dX5_read_122 : decode cX5_read 122 = .ok (.aload_n 0, 1) := by decide +kernel
theorem dX5_read_123 : decode cX5_read 123 = .ok (.getfield 36, 3) := by decide +kernel
theorem dX5_read_126 : decode cX5_read 126 = .ok (.iconst 4, 1) := by decide +kernel
theorem dX5_read_127 : decode cX5_read 127 = .ok (.iload_n 2, 1) := by decide +kernel
theorem dX5_read_128 : decode cX5_read 128 = .ok (.imul, 1) := by decide +kernel
theorem dX5_read_129 : decode cX5_read 129 = .ok (.iconst 4, 1) := by decide +kernel
theorem dX5_read_130 : decode cX5_read 130 = .ok (.isub, 1) := by decide +kernel
theorem dX5_read_131 : decode cX5_read 131 = .ok (.iaload, 1) := by decide +kernel
theorem dX5_read_132 : decode cX5_read 132 = .ok (.invokevirtual 219, 3) := by decide +kernel
theorem dX5_read_135 : decode cX5_read 135 = .ok (.ifCond .eq 7, 3) := by decide +kernel
theorem dX5_read_138 : decode cX5_read 138 = .ok (.iconst 2, 1) := by decide +kernel
theorem dX5_read_139 : decode cX5_read 139 = .ok (.goto 4, 3) := by decide +kernel
theorem dX5_read_142 : decode cX5_read 142 = .ok (.iconst 1, 1) := by decide +kernel
theorem dX5_read_143 : decode cX5_read 143 = .ok (.putfield 39, 3) := by decide +kernel
theorem dX5_read_146 : decode cX5_read 146 = .ok (.iload_n 3, 1) := by decide +kernel
theorem dX5_read_147 : decode cX5_read 147 = .ok (.ifCond .ge 7, 3) := by decide +kernel
theorem dX5_read_150 : decode cX5_read 150 = .ok (.iload_n 3, 1) := by decide +kernel
theorem dX5_read_151 : decode cX5_read 151 = .ok (.goto 4, 3) := by decide +kernel
theorem dX5_read_154 : decode cX5_read 154 = .ok (.iconst 0, 1) := by decide +kernel
theorem dX5_read_155 : decode cX5_read 155 = .ok (.ireturn, 1) := by decide +kernel
theorem dX5_read_156 : decode cX5_read 156 = .ok (.aload_n 0, 1) := by decide +kernel
theorem dX5_read_157 : decode cX5_read 157 = .ok (.aload_n 0, 1) := by decide +kernel
theorem dX5_read_158 : decode cX5_read 158 = .ok (.getfield 19, 3) := by decide +kernel
theorem dX5_read_161 : decode cX5_read 161 = .ok (.invokevirtual 79, 3) := by decide +kernel
theorem dX5_read_164 : decode cX5_read 164 = .ok (.aload_n 0, 1) := by decide +kernel
theorem dX5_read_165 : decode cX5_read 165 = .ok (.getfield 179, 3) := by decide +kernel
theorem dX5_read_168 : decode cX5_read 168 = .ok (.ireturn, 1) := by decide +kernel
theorem dX5_errorPosition_0 : decode cX5_errorPosition 0 = .ok (.aload_n 0, 1) := by decide +kernel
theorem dX5_errorPosition_1 : decode cX5_errorPosition 1 = .ok (.iconst 0, 1) := by decide +kernel
theorem dX5_errorPosition_2 : decode cX5_errorPosition 2 = .ok (.putfield 39, 3) := by decide +kernel
theorem dX5_errorPosition_5 : decode cX5_errorPosition 5 = .ok (.aload_n 0, 1) := by decide +kernel
theorem dX5_errorPosition_6 : decode cX5_errorPosition 6 = .ok (.getfield 25, 3) := by decide +kernel
theorem dX5_errorPosition_9 : decode cX5_errorPosition 9 = .ok (.ireturn, 1) := by decide +kernel
theorem dX5_refusal_0 : decode cX5_refusal 0 = .ok (.aload_n 0, 1) := by decide +kernel
theorem dX5_refusal_1 : decode cX5_refusal 1 = .ok (.aload_n 0, 1) := by decide +kernel
theorem dX5_refusal_2 : decode cX5_refusal 2 = .ok (.getfield 42, 3) := by decide +kernel
theorem dX5_refusal_5 : decode cX5_refusal 5 = .ok (.ifCond .ne 7, 3) := by decide +kernel
theorem dX5_refusal_8 : decode cX5_refusal 8 = .ok (.iconst 1, 1) := by decide +kernel
theorem dX5_refusal_9 : decode cX5_refusal 9 = .ok (.goto 4, 3) := by decide +kernel
theorem dX5_refusal_12 : decode cX5_refusal 12 = .ok (.iconst 0, 1) := by decide +kernel
theorem dX5_refusal_13 : decode cX5_refusal 13 = .ok (.invokevirtual 71, 3) := by decide +kernel
theorem dX5_refusal_16 : decode cX5_refusal 16 = .ok (.ifCond .eq 7, 3) := by decide +kernel
theorem dX5_refusal_19 : decode cX5_refusal 19 = .ok (.iconst 0, 1) := by decide +kernel
theorem dX5_refusal_20 : decode cX5_refusal 20 = .ok (.goto 18, 3) := by decide +kernel
theorem dX5_refusal_23 : decode cX5_refusal 23 = .ok (.iload_n 1, 1) := by decide +kernel
theorem dX5_refusal_24 : decode cX5_refusal 24 = .ok (.ifCond .eq 10, 3) := by decide +kernel
theorem dX5_refusal_27 : decode cX5_refusal 27 = .ok (.aload_n 0, 1) := by decide +kernel
theorem dX5_refusal_28 : decode cX5_refusal 28 = .ok (.getfield 45, 3) := by decide +kernel
theorem dX5_refusal_31 : decode cX5_refusal 31 = .ok (.goto 7, 3) := by decide +kernel
theorem dX5_refusal_34 : decode cX5_refusal 34 = .ok (.aload_n 0, 1) := by decide +kernel
theorem dX5_refusal_35 : decode cX5_refusal 35 = .ok (.getfield 42, 3) := by decide +kernel
theorem dX5_refusal_38 : decode cX5_refusal 38 = .ok (.ireturn, 1) := by decide +kernel
theorem dX5_sumOf_0 : decode cX5_sumOf 0 = .ok (.iconst 0, 1) := by decide +kernel
theorem dX5_sumOf_1 : decode cX5_sumOf 1 = .ok (.istore_n 2, 1) := by decide +kernel
theorem dX5_sumOf_2 : decode cX5_sumOf 2 = .ok (.iconst 0, 1) := by decide +kernel
theorem dX5_sumOf_3 : decode cX5_sumOf 3 = .ok (.istore_n 3, 1) := by decide +kernel
theorem dX5_sumOf_4 : decode cX5_sumOf 4 = .ok (.iload_n 3, 1) := by decide +kernel
theorem dX5_sumOf_5 : decode cX5_sumOf 5 = .ok (.iconst 5, 1) := by decide +kernel
theorem dX5_sumOf_6 : decode cX5_sumOf 6 = .ok (.if_icmp .ge 20, 3) := by decide +kernel
theorem dX5_sumOf_9 : decode cX5_sumOf 9 = .ok (.iload_n 2, 1) := by decide +kernel
theorem dX5_sumOf_10 : decode cX5_sumOf 10 = .ok (.aload_n 0, 1) := by decide +kernel
theorem dX5_sumOf_11 : decode cX5_sumOf 11 = .ok (.getfield 7, 3) := by decide +kernel
theorem dX5_sumOf_14 : decode cX5_sumOf 14 = .ok (.iload_n 1, 1) := by decide +kernel
theorem dX5_sumOf_15 : decode cX5_sumOf 15 = .ok (.iload_n 3, 1) := by decide +kernel
theorem dX5_sumOf_16 : decode cX5_sumOf 16 = .ok (.iadd, 1) := by decide +kernel
theorem dX5_sumOf_17 : decode cX5_sumOf 17 = .ok (.iaload, 1) := by decide +kernel
theorem dX5_sumOf_18 : decode cX5_sumOf 18 = .ok (.iadd, 1) := by decide +kernel
theorem dX5_sumOf_19 : decode cX5_sumOf 19 = .ok (.istore_n 2, 1) := by decide +kernel
theorem dX5_sumOf_20 : decode cX5_sumOf 20 = .ok (.iinc 3 1, 3) := by decide +kernel
theorem dX5_sumOf_23 : decode cX5_sumOf 23 = .ok (.goto (-19), 3) := by decide +kernel
theorem dX5_sumOf_26 : decode cX5_sumOf 26 = .ok (.iload_n 2, 1) := by decide +kernel
theorem dX5_sumOf_27 : decode cX5_sumOf 27 = .ok (.ireturn, 1) := by decide +kernel
theorem dX5_paintedMany_0 : decode cX5_paintedMany 0 = .ok (.aload_n 0, 1) := by decide +kernel
theorem dX5_paintedMany_1 : decode cX5_paintedMany 1 = .ok (.getfield 7, 3) := by decide +kernel
theorem dX5_paintedMany_4 : decode cX5_paintedMany 4 = .ok (.iconst 0, 1) := by decide +kernel
theorem dX5_paintedMany_5 : decode cX5_paintedMany 5 = .ok (.iaload, 1) := by decide +kernel
theorem dX5_paintedMany_6 : decode cX5_paintedMany 6 = .ok (.aload_n 0, 1) := by decide +kernel
theorem dX5_paintedMany_7 : decode cX5_paintedMany 7 = .ok (.invokevirtual 151, 3) := by decide +kernel
theorem dX5_paintedMany_10 : decode cX5_paintedMany 10 = .ok (.isub, 1) := by decide +kernel
theorem dX5_paintedMany_11 : decode cX5_paintedMany 11 = .ok (.ireturn, 1) := by decide +kernel
theorem dX5_stuckMany_0 : decode cX5_stuckMany 0 = .ok (.iconst 0, 1) := by decide +kernel
theorem dX5_stuckMany_1 : decode cX5_stuckMany 1 = .ok (.istore_n 1, 1) := by decide +kernel
theorem dX5_stuckMany_2 : decode cX5_stuckMany 2 = .ok (.iconst 0, 1) := by decide +kernel
theorem dX5_stuckMany_3 : decode cX5_stuckMany 3 = .ok (.istore_n 2, 1) := by decide +kernel
theorem dX5_stuckMany_4 : decode cX5_stuckMany 4 = .ok (.iload_n 2, 1) := by decide +kernel
theorem dX5_stuckMany_5 : decode cX5_stuckMany 5 = .ok (.aload_n 0, 1) := by decide +kernel
theorem dX5_stuckMany_6 : decode cX5_stuckMany 6 = .ok (.getfield 7, 3) := by decide +kernel
theorem dX5_stuckMany_9 : decode cX5_stuckMany 9 = .ok (.iconst 0, 1) := by decide +kernel
theorem dX5_stuckMany_10 : decode cX5_stuckMany 10 = .ok (.iaload, 1) := by decide +kernel
theorem dX5_stuckMany_11 : decode cX5_stuckMany 11 = .ok (.if_icmp .ge 25, 3) := by decide +kernel
theorem dX5_stuckMany_14 : decode cX5_stuckMany 14 = .ok (.iload_n 1, 1) := by decide +kernel
theorem dX5_stuckMany_15 : decode cX5_stuckMany 15 = .ok (.aload_n 0, 1) := by decide +kernel
theorem dX5_stuckMany_16 : decode cX5_stuckMany 16 = .ok (.iload_n 2, 1) := by decide +kernel
theorem dX5_stuckMany_17 : decode cX5_stuckMany 17 = .ok (.invokevirtual 132, 3) := by decide +kernel
theorem dX5_stuckMany_20 : decode cX5_stuckMany 20 = .ok (.ifCond .eq 7, 3) := by decide +kernel
theorem dX5_stuckMany_23 : decode cX5_stuckMany 23 = .ok (.iconst 1, 1) := by decide +kernel
theorem dX5_stuckMany_24 : decode cX5_stuckMany 24 = .ok (.goto 4, 3) := by decide +kernel
theorem dX5_stuckMany_27 : decode cX5_stuckMany 27 = .ok (.iconst 0, 1) := by decide +kernel
theorem dX5_stuckMany_28 : decode cX5_stuckMany 28 = .ok (.iadd, 1) := by decide +kernel
theorem dX5_stuckMany_29 : decode cX5_stuckMany 29 = .ok (.istore_n 1, 1) := by decide +kernel
theorem dX5_stuckMany_30 : decode cX5_stuckMany 30 = .ok (.iinc 2 1, 3) := by decide +kernel
theorem dX5_stuckMany_33 : decode cX5_stuckMany 33 = .ok (.goto (-29), 3) := by decide +kernel
theorem dX5_stuckMany_36 : decode cX5_stuckMany 36 = .ok (.iload_n 1, 1) := by decide +kernel
theorem dX5_stuckMany_37 : decode cX5_stuckMany 37 = .ok (.ireturn, 1) := by decide +kernel
theorem dX5_wishes_0 : decode cX5_wishes 0 = .ok (.iconst 0, 1) := by decide +kernel
theorem dX5_wishes_1 : decode cX5_wishes 1 = .ok (.istore_n 2, 1) := by decide +kernel
theorem dX5_wishes_2 : decode cX5_wishes 2 = .ok (.iconst 0, 1) := by decide +kernel
theorem dX5_wishes_3 : decode cX5_wishes 3 = .ok (.istore_n 3, 1) := by decide +kernel
theorem dX5_wishes_4 : decode cX5_wishes 4 = .ok (.iload_n 3, 1) := by decide +kernel
theorem dX5_wishes_5 : decode cX5_wishes 5 = .ok (.aload_n 0, 1) := by decide +kernel
theorem dX5_wishes_6 : decode cX5_wishes 6 = .ok (.getfield 7, 3) := by decide +kernel
theorem dX5_wishes_9 : decode cX5_wishes 9 = .ok (.iconst 0, 1) := by decide +kernel
theorem dX5_wishes_10 : decode cX5_wishes 10 = .ok (.iaload, 1) := by decide +kernel
theorem dX5_wishes_11 : decode cX5_wishes 11 = .ok (.if_icmp .ge 38, 3) := by decide +kernel
theorem dX5_wishes_14 : decode cX5_wishes 14 = .ok (.iload_n 2, 1) := by decide +kernel
theorem dX5_wishes_15 : decode cX5_wishes 15 = .ok (.aload_n 0, 1) := by decide +kernel
theorem dX5_wishes_16 : decode cX5_wishes 16 = .ok (.iload_n 3, 1) := by decide +kernel
theorem dX5_wishes_17 : decode cX5_wishes 17 = .ok (.iconst 2, 1) := by decide +kernel
theorem dX5_wishes_18 : decode cX5_wishes 18 = .ok (.invokevirtual 63, 3) := by decide +kernel
theorem dX5_wishes_21 : decode cX5_wishes 21 = .ok (.ifCond .lt 19, 3) := by decide +kernel
theorem dX5_wishes_24 : decode cX5_wishes 24 = .ok (.iload_n 1, 1) := by decide +kernel
theorem dX5_wishes_25 : decode cX5_wishes 25 = .ok (.ifCond .eq 11, 3) := by decide +kernel
theorem dX5_wishes_28 : decode cX5_wishes 28 = .ok (.aload_n 0, 1) := by decide +kernel
theorem dX5_wishes_29 : decode cX5_wishes 29 = .ok (.iload_n 3, 1) := by decide +kernel
theorem dX5_wishes_30 : decode cX5_wishes 30 = .ok (.invokevirtual 141, 3) := by decide +kernel
theorem dX5_wishes_33 : decode cX5_wishes 33 = .ok (.ifCond .eq 7, 3) := by decide +kernel
theorem dX5_wishes_36 : decode cX5_wishes 36 = .ok (.iconst 1, 1) := by decide +kernel
theorem dX5_wishes_37 : decode cX5_wishes 37 = .ok (.goto 4, 3) := by decide +kernel
theorem dX5_wishes_40 : decode cX5_wishes 40 = .ok (.iconst 0, 1) := by decide +kernel
theorem dX5_wishes_41 : decode cX5_wishes 41 = .ok (.iadd, 1) := by decide +kernel
theorem dX5_wishes_42 : decode cX5_wishes 42 = .ok (.istore_n 2, 1) := by decide +kernel
theorem dX5_wishes_43 : decode cX5_wishes 43 = .ok (.iinc 3 1, 3) := by decide +kernel
theorem dX5_wishes_46 : decode cX5_wishes 46 = .ok (.goto (-42), 3) := by decide +kernel
theorem dX5_wishes_49 : decode cX5_wishes 49 = .ok (.iload_n 2, 1) := by decide +kernel
theorem dX5_wishes_50 : decode cX5_wishes 50 = .ok (.ireturn, 1) := by decide +kernel
theorem dX5_account_0 : decode cX5_account 0 = .ok (.aload_n 0, 1) := by decide +kernel
theorem dX5_account_1 : decode cX5_account 1 = .ok (.iload_n 1, 1) := by decide +kernel
theorem dX5_account_2 : decode cX5_account 2 = .ok (.iconst 0, 1) := by decide +kernel
theorem dX5_account_3 : decode cX5_account 3 = .ok (.bipush 12, 2) := by decide +kernel
theorem dX5_account_5 : decode cX5_account 5 = .ok (.invokestatic 59, 3) := by decide +kernel
theorem dX5_account_8 : decode cX5_account 8 = .ok (.ifCond .eq 7, 3) := by decide +kernel
theorem dX5_account_11 : decode cX5_account 11 = .ok (.iconst 0, 1) := by decide +kernel
theorem dX5_account_12 : decode cX5_account 12 = .ok (.goto 4, 3) := by decide +kernel
theorem dX5_account_15 : decode cX5_account 15 = .ok (.iconst 1, 1) := by decide +kernel
theorem dX5_account_16 : decode cX5_account 16 = .ok (.invokevirtual 71, 3) := by decide +kernel
theorem dX5_account_19 : decode cX5_account 19 = .ok (.ifCond .eq 5, 3) := by decide +kernel
theorem dX5_account_22 : decode cX5_account 22 = .ok (.iconst 0, 1) := by decide +kernel
theorem dX5_account_23 : decode cX5_account 23 = .ok (.ireturn, 1) := by decide +kernel
theorem dX5_account_24 : decode cX5_account 24 = .ok (.iload_n 1, 1) := by decide +kernel
theorem dX5_account_25 : decode cX5_account 25 = .ok (.tableswitch 140 0 11 #[63, 70, 75, 83, 88, 93, 101, 108, 115, 123, 129, 135], 63) := by decide +kernel
theorem dX5_account_88 : decode cX5_account 88 = .ok (.aload_n 0, 1) := by decide +kernel
theorem dX5_account_89 : decode cX5_account 89 = .ok (.getfield 7, 3) := by decide +kernel
theorem dX5_account_92 : decode cX5_account 92 = .ok (.iconst 0, 1) := by decide +kernel
theorem dX5_account_93 : decode cX5_account 93 = .ok (.iaload, 1) := by decide +kernel
theorem dX5_account_94 : decode cX5_account 94 = .ok (.ireturn, 1) := by decide +kernel
theorem dX5_account_95 : decode cX5_account 95 = .ok (.aload_n 0, 1) := by decide +kernel
theorem dX5_account_96 : decode cX5_account 96 = .ok (.invokevirtual 93, 3) := by decide +kernel
theorem dX5_account_99 : decode cX5_account 99 = .ok (.ireturn, 1) := by decide +kernel
theorem dX5_account_100 : decode cX5_account 100 = .ok (.aload_n 0, 1) := by decide +kernel
theorem dX5_account_101 : decode cX5_account 101 = .ok (.getfield 7, 3) := by decide +kernel
theorem dX5_account_104 : decode cX5_account 104 = .ok (.bipush 36, 2) := by decide +kernel
theorem dX5_account_106 : decode cX5_account 106 = .ok (.iaload, 1) := by decide +kernel
theorem dX5_account_107 : decode cX5_account 107 = .ok (.ireturn, 1) := by decide +kernel
theorem dX5_account_108 : decode cX5_account 108 = .ok (.aload_n 0, 1) := by decide +kernel
theorem dX5_account_109 : decode cX5_account 109 = .ok (.invokevirtual 222, 3) := by decide +kernel
theorem dX5_account_112 : decode cX5_account 112 = .ok (.ireturn, 1) := by decide +kernel
theorem dX5_account_113 : decode cX5_account 113 = .ok (.aload_n 0, 1) := by decide +kernel
theorem dX5_account_114 : decode cX5_account 114 = .ok (.invokevirtual 225, 3) := by decide +kernel
theorem dX5_account_117 : decode cX5_account 117 = .ok (.ireturn, 1) := by decide +kernel
theorem dX5_account_118 : decode cX5_account 118 = .ok (.aload_n 0, 1) := by decide +kernel
theorem dX5_account_119 : decode cX5_account 119 = .ok (.getfield 7, 3) := by decide +kernel
theorem dX5_account_122 : decode cX5_account 122 = .ok (.bipush 47, 2) := by decide +kernel
theorem dX5_account_124 : decode cX5_account 124 = .ok (.iaload, 1) := by decide +kernel
theorem dX5_account_125 : decode cX5_account 125 = .ok (.ireturn, 1) := by decide +kernel
theorem dX5_account_126 : decode cX5_account 126 = .ok (.aload_n 0, 1) := by decide +kernel
theorem dX5_account_127 : decode cX5_account 127 = .ok (.bipush 37, 2) := by decide +kernel
theorem dX5_account_129 : decode cX5_account 129 = .ok (.invokevirtual 228, 3) := by decide +kernel
theorem dX5_account_132 : decode cX5_account 132 = .ok (.ireturn, 1) := by decide +kernel
theorem dX5_account_133 : decode cX5_account 133 = .ok (.aload_n 0, 1) := by decide +kernel
theorem dX5_account_134 : decode cX5_account 134 = .ok (.bipush 42, 2) := by decide +kernel
theorem dX5_account_136 : decode cX5_account 136 = .ok (.invokevirtual 228, 3) := by decide +kernel
theorem dX5_account_139 : decode cX5_account 139 = .ok (.ireturn, 1) := by decide +kernel
theorem dX5_account_140 : decode cX5_account 140 = .ok (.aload_n 0, 1) := by decide +kernel
theorem dX5_account_141 : decode cX5_account 141 = .ok (.getfield 7, 3) := by decide +kernel
theorem dX5_account_144 : decode cX5_account 144 = .ok (.bipush 55, 2) := by decide +kernel
theorem dX5_account_146 : decode cX5_account 146 = .ok (.iaload, 1) := by decide +kernel
theorem dX5_account_147 : decode cX5_account 147 = .ok (.ireturn, 1) := by decide +kernel
theorem dX5_account_148 : decode cX5_account 148 = .ok (.aload_n 0, 1) := by decide +kernel
theorem dX5_account_149 : decode cX5_account 149 = .ok (.iconst 0, 1) := by decide +kernel
theorem dX5_account_150 : decode cX5_account 150 = .ok (.invokevirtual 231, 3) := by decide +kernel
theorem dX5_account_153 : decode cX5_account 153 = .ok (.ireturn, 1) := by decide +kernel
theorem dX5_account_154 : decode cX5_account 154 = .ok (.aload_n 0, 1) := by decide +kernel
theorem dX5_account_155 : decode cX5_account 155 = .ok (.iconst 1, 1) := by decide +kernel
theorem dX5_account_156 : decode cX5_account 156 = .ok (.invokevirtual 231, 3) := by decide +kernel
theorem dX5_account_159 : decode cX5_account 159 = .ok (.ireturn, 1) := by decide +kernel
theorem dX5_account_160 : decode cX5_account 160 = .ok (.aload_n 0, 1) := by decide +kernel
theorem dX5_account_161 : decode cX5_account 161 = .ok (.getfield 170, 3) := by decide +kernel
theorem dX5_account_164 : decode cX5_account 164 = .ok (.ireturn, 1) := by decide +kernel
theorem dX5_account_165 : decode cX5_account 165 = .ok (.aload_n 0, 1) := by decide +kernel
theorem dX5_account_166 : decode cX5_account 166 = .ok (.getfield 52, 3) := by decide +kernel
theorem dX5_account_169 : decode cX5_account 169 = .ok (.ireturn, 1) := by decide +kernel
theorem dX5_isWell_0 : decode cX5_isWell 0 = .ok (.aload_n 0, 1) := by decide +kernel
theorem dX5_isWell_1 : decode cX5_isWell 1 = .ok (.iconst 0, 1) := by decide +kernel
theorem dX5_isWell_2 : decode cX5_isWell 2 = .ok (.putfield 39, 3) := by decide +kernel
theorem dX5_isWell_5 : decode cX5_isWell 5 = .ok (.iconst 0, 1) := by decide +kernel
theorem dX5_isWell_6 : decode cX5_isWell 6 = .ok (.istore_n 1, 1) := by decide +kernel
theorem dX5_isWell_7 : decode cX5_isWell 7 = .ok (.iload_n 1, 1) := by decide +kernel
theorem dX5_isWell_8 : decode cX5_isWell 8 = .ok (.aload_n 0, 1) := by decide +kernel
theorem dX5_isWell_9 : decode cX5_isWell 9 = .ok (.getfield 7, 3) := by decide +kernel
theorem dX5_isWell_12 : decode cX5_isWell 12 = .ok (.iconst 0, 1) := by decide +kernel
theorem dX5_isWell_13 : decode cX5_isWell 13 = .ok (.iaload, 1) := by decide +kernel
theorem dX5_isWell_14 : decode cX5_isWell 14 = .ok (.if_icmp .ge 56, 3) := by decide +kernel
theorem dX5_isWell_17 : decode cX5_isWell 17 = .ok (.iconst 0, 1) := by decide +kernel
theorem dX5_isWell_18 : decode cX5_isWell 18 = .ok (.istore_n 2, 1) := by decide +kernel
theorem dX5_isWell_19 : decode cX5_isWell 19 = .ok (.iload_n 2, 1) := by decide +kernel
theorem dX5_isWell_20 : decode cX5_isWell 20 = .ok (.iload_n 1, 1) := by decide +kernel
theorem dX5_isWell_21 : decode cX5_isWell 21 = .ok (.if_icmp .ge 43, 3) := by decide +kernel
theorem dX5_isWell_24 : decode cX5_isWell 24 = .ok (.aload_n 0, 1) := by decide +kernel
theorem dX5_isWell_25 : decode cX5_isWell 25 = .ok (.iload_n 1, 1) := by decide +kernel
theorem dX5_isWell_26 : decode cX5_isWell 26 = .ok (.iload_n 2, 1) := by decide +kernel
theorem dX5_isWell_27 : decode cX5_isWell 27 = .ok (.invokevirtual 67, 3) := by decide +kernel
theorem dX5_isWell_30 : decode cX5_isWell 30 = .ok (.ifCond .eq 28, 3) := by decide +kernel
theorem dX5_isWell_33 : decode cX5_isWell 33 = .ok (.aload_n 0, 1) := by decide +kernel
theorem dX5_isWell_34 : decode cX5_isWell 34 = .ok (.iload_n 1, 1) := by decide +kernel
theorem dX5_isWell_35 : decode cX5_isWell 35 = .ok (.invokevirtual 90, 3) := by decide +kernel
theorem dX5_isWell_38 : decode cX5_isWell 38 = .ok (.ifCond .eq 20, 3) := by decide +kernel
theorem dX5_isWell_41 : decode cX5_isWell 41 = .ok (.aload_n 0, 1) := by decide +kernel
theorem dX5_isWell_42 : decode cX5_isWell 42 = .ok (.iload_n 1, 1) := by decide +kernel
theorem dX5_isWell_43 : decode cX5_isWell 43 = .ok (.iconst 1, 1) := by decide +kernel
theorem dX5_isWell_44 : decode cX5_isWell 44 = .ok (.invokevirtual 63, 3) := by decide +kernel
theorem dX5_isWell_47 : decode cX5_isWell 47 = .ok (.aload_n 0, 1) := by decide +kernel
theorem dX5_isWell_48 : decode cX5_isWell 48 = .ok (.iload_n 2, 1) := by decide +kernel
theorem dX5_isWell_49 : decode cX5_isWell 49 = .ok (.iconst 1, 1) := by decide +kernel
theorem dX5_isWell_50 : decode cX5_isWell 50 = .ok (.invokevirtual 63, 3) := by decide +kernel
theorem dX5_isWell_53 : decode cX5_isWell 53 = .ok (.if_icmp .ne 5, 3) := by decide +kernel
theorem dX5_isWell_56 : decode cX5_isWell 56 = .ok (.iconst 0, 1) := by decide +kernel
theorem dX5_isWell_57 : decode cX5_isWell 57 = .ok (.ireturn, 1) := by decide +kernel
theorem dX5_isWell_58 : decode cX5_isWell 58 = .ok (.iinc 2 1, 3) := by decide +kernel
theorem dX5_isWell_61 : decode cX5_isWell 61 = .ok (.goto (-42), 3) := by decide +kernel
theorem dX5_isWell_64 : decode cX5_isWell 64 = .ok (.iinc 1 1, 3) := by decide +kernel
theorem dX5_isWell_67 : decode cX5_isWell 67 = .ok (.goto (-60), 3) := by decide +kernel
theorem dX5_isWell_70 : decode cX5_isWell 70 = .ok (.iconst 0, 1) := by decide +kernel
theorem dX5_isWell_71 : decode cX5_isWell 71 = .ok (.istore_n 1, 1) := by decide +kernel
theorem dX5_isWell_72 : decode cX5_isWell 72 = .ok (.iload_n 1, 1) := by decide +kernel
theorem dX5_isWell_73 : decode cX5_isWell 73 = .ok (.aload_n 0, 1) := by decide +kernel
theorem dX5_isWell_74 : decode cX5_isWell 74 = .ok (.getfield 7, 3) := by decide +kernel
theorem dX5_isWell_77 : decode cX5_isWell 77 = .ok (.iconst 0, 1) := by decide +kernel
theorem dX5_isWell_78 : decode cX5_isWell 78 = .ok (.iaload, 1) := by decide +kernel
theorem dX5_isWell_79 : decode cX5_isWell 79 = .ok (.if_icmp .ge 32, 3) := by decide +kernel
theorem dX5_isWell_82 : decode cX5_isWell 82 = .ok (.aload_n 0, 1) := by decide +kernel
theorem dX5_isWell_83 : decode cX5_isWell 83 = .ok (.iload_n 1, 1) := by decide +kernel
theorem dX5_isWell_84 : decode cX5_isWell 84 = .ok (.invokevirtual 90, 3) := by decide +kernel
theorem dX5_isWell_87 : decode cX5_isWell 87 = .ok (.aload_n 0, 1) := by decide +kernel
theorem dX5_isWell_88 : decode cX5_isWell 88 = .ok (.iload_n 1, 1) := by decide +kernel
theorem dX5_isWell_89 : decode cX5_isWell 89 = .ok (.invokevirtual 110, 3) := by decide +kernel
theorem dX5_isWell_92 : decode cX5_isWell 92 = .ok (.ifCond .lt 7, 3) := by decide +kernel
theorem dX5_isWell_95 : decode cX5_isWell 95 = .ok (.iconst 1, 1) := by decide +kernel
theorem dX5_isWell_96 : decode cX5_isWell 96 = .ok (.goto 4, 3) := by decide +kernel
theorem dX5_isWell_99 : decode cX5_isWell 99 = .ok (.iconst 0, 1) := by decide +kernel
theorem dX5_isWell_100 : decode cX5_isWell 100 = .ok (.if_icmp .eq 5, 3) := by decide +kernel
theorem dX5_isWell_103 : decode cX5_isWell 103 = .ok (.iconst 0, 1) := by decide +kernel
theorem dX5_isWell_104 : decode cX5_isWell 104 = .ok (.ireturn, 1) := by decide +kernel
theorem dX5_isWell_105 : decode cX5_isWell 105 = .ok (.iinc 1 1, 3) := by decide +kernel
theorem dX5_isWell_108 : decode cX5_isWell 108 = .ok (.goto (-36), 3) := by decide +kernel
theorem dX5_isWell_111 : decode cX5_isWell 111 = .ok (.aload_n 0, 1) := by decide +kernel
theorem dX5_isWell_112 : decode cX5_isWell 112 = .ok (.getfield 7, 3) := by decide +kernel
theorem dX5_isWell_115 : decode cX5_isWell 115 = .ok (.bipush 47, 2) := by decide +kernel
theorem dX5_isWell_117 : decode cX5_isWell 117 = .ok (.iaload, 1) := by decide +kernel
theorem dX5_isWell_118 : decode cX5_isWell 118 = .ok (.aload_n 0, 1) := by decide +kernel
theorem dX5_isWell_119 : decode cX5_isWell 119 = .ok (.invokevirtual 222, 3) := by decide +kernel
theorem dX5_isWell_122 : decode cX5_isWell 122 = .ok (.if_icmp .ne 7, 3) := by decide +kernel
theorem dX5_isWell_125 : decode cX5_isWell 125 = .ok (.iconst 1, 1) := by decide +kernel
theorem dX5_isWell_126 : decode cX5_isWell 126 = .ok (.goto 4, 3) := by decide +kernel
theorem dX5_isWell_129 : decode cX5_isWell 129 = .ok (.iconst 0, 1) := by decide +kernel
theorem dX5_isWell_130 : decode cX5_isWell 130 = .ok (.ireturn, 1) := by decide +kernel
theorem dX5_meanSize_0 : decode cX5_meanSize 0 = .ok (.iconst 0, 1) := by decide +kernel
theorem dX5_meanSize_1 : decode cX5_meanSize 1 = .ok (.istore_n 1, 1) := by decide +kernel
theorem dX5_meanSize_2 : decode cX5_meanSize 2 = .ok (.iconst 0, 1) := by decide +kernel
theorem dX5_meanSize_3 : decode cX5_meanSize 3 = .ok (.istore_n 2, 1) := by decide +kernel
theorem dX5_meanSize_4 : decode cX5_meanSize 4 = .ok (.iload_n 2, 1) := by decide +kernel
theorem dX5_meanSize_5 : decode cX5_meanSize 5 = .ok (.aload_n 0, 1) := by decide +kernel
theorem dX5_meanSize_6 : decode cX5_meanSize 6 = .ok (.getfield 7, 3) := by decide +kernel
theorem dX5_meanSize_9 : decode cX5_meanSize 9 = .ok (.iconst 0, 1) := by decide +kernel
theorem dX5_meanSize_10 : decode cX5_meanSize 10 = .ok (.iaload, 1) := by decide +kernel
theorem dX5_meanSize_11 : decode cX5_meanSize 11 = .ok (.if_icmp .ge 30, 3) := by decide +kernel
theorem dX5_meanSize_14 : decode cX5_meanSize 14 = .ok (.iload_n 1, 1) := by decide +kernel
theorem dX5_meanSize_15 : decode cX5_meanSize 15 = .ok (.aload_n 0, 1) := by decide +kernel
theorem dX5_meanSize_16 : decode cX5_meanSize 16 = .ok (.iload_n 2, 1) := by decide +kernel
theorem dX5_meanSize_17 : decode cX5_meanSize 17 = .ok (.invokevirtual 90, 3) := by decide +kernel
theorem dX5_meanSize_20 : decode cX5_meanSize 20 = .ok (.ifCond .eq 12, 3) := by decide +kernel
theorem dX5_meanSize_23 : decode cX5_meanSize 23 = .ok (.aload_n 0, 1) := by decide +kernel
theorem dX5_meanSize_24 : decode cX5_meanSize 24 = .ok (.iload_n 2, 1) := by decide +kernel
theorem dX5_meanSize_25 : decode cX5_meanSize 25 = .ok (.iconst 0, 1) := by decide +kernel
theorem dX5_meanSize_26 : decode cX5_meanSize 26 = .ok (.invokevirtual 63, 3) := by decide +kernel
theorem dX5_meanSize_29 : decode cX5_meanSize 29 = .ok (.goto 4, 3) := by decide +kernel
theorem dX5_meanSize_32 : decode cX5_meanSize 32 = .ok (.iconst 0, 1) := by decide +kernel
theorem dX5_meanSize_33 : decode cX5_meanSize 33 = .ok (.iadd, 1) := by decide +kernel
theorem dX5_meanSize_34 : decode cX5_meanSize 34 = .ok (.istore_n 1, 1) := by decide +kernel
theorem dX5_meanSize_35 : decode cX5_meanSize 35 = .ok (.iinc 2 1, 3) := by decide +kernel
theorem dX5_meanSize_38 : decode cX5_meanSize 38 = .ok (.goto (-34), 3) := by decide +kernel
theorem dX5_meanSize_41 : decode cX5_meanSize 41 = .ok (.aload_n 0, 1) := by decide +kernel
theorem dX5_meanSize_42 : decode cX5_meanSize 42 = .ok (.aload_n 0, 1) := by decide +kernel
theorem dX5_meanSize_43 : decode cX5_meanSize 43 = .ok (.invokevirtual 222, 3) := by decide +kernel
theorem dX5_meanSize_46 : decode cX5_meanSize 46 = .ok (.ifCond .ne 7, 3) := by decide +kernel
theorem dX5_meanSize_49 : decode cX5_meanSize 49 = .ok (.iconst 1, 1) := by decide +kernel
theorem dX5_meanSize_50 : decode cX5_meanSize 50 = .ok (.goto 4, 3) := by decide +kernel
theorem dX5_meanSize_53 : decode cX5_meanSize 53 = .ok (.iconst 0, 1) := by decide +kernel
theorem dX5_meanSize_54 : decode cX5_meanSize 54 = .ok (.invokevirtual 71, 3) := by decide +kernel
theorem dX5_meanSize_57 : decode cX5_meanSize 57 = .ok (.ifCond .eq 7, 3) := by decide +kernel
theorem dX5_meanSize_60 : decode cX5_meanSize 60 = .ok (.dconst 0, 1) := by decide +kernel
theorem dX5_meanSize_61 : decode cX5_meanSize 61 = .ok (.goto 11, 3) := by decide +kernel
theorem dX5_meanSize_64 : decode cX5_meanSize 64 = .ok (.iload_n 1, 1) := by decide +kernel
theorem dX5_meanSize_65 : decode cX5_meanSize 65 = .ok (.i2d, 1) := by decide +kernel
theorem dX5_meanSize_66 : decode cX5_meanSize 66 = .ok (.aload_n 0, 1) := by decide +kernel
theorem dX5_meanSize_67 : decode cX5_meanSize 67 = .ok (.invokevirtual 222, 3) := by decide +kernel
theorem dX5_meanSize_70 : decode cX5_meanSize 70 = .ok (.i2d, 1) := by decide +kernel
theorem dX5_meanSize_71 : decode cX5_meanSize 71 = .ok (.ddiv, 1) := by decide +kernel
theorem dX5_meanSize_72 : decode cX5_meanSize 72 = .ok (.dreturn, 1) := by decide +kernel
theorem dX5_painted_0 : decode cX5_painted 0 = .ok (.aload_n 0, 1) := by decide +kernel
theorem dX5_painted_1 : decode cX5_painted 1 = .ok (.aload_n 0, 1) := by decide +kernel
theorem dX5_painted_2 : decode cX5_painted 2 = .ok (.getfield 7, 3) := by decide +kernel
theorem dX5_painted_5 : decode cX5_painted 5 = .ok (.iconst 0, 1) := by decide +kernel
theorem dX5_painted_6 : decode cX5_painted 6 = .ok (.iaload, 1) := by decide +kernel
theorem dX5_painted_7 : decode cX5_painted 7 = .ok (.ifCond .ne 7, 3) := by decide +kernel
theorem dX5_painted_10 : decode cX5_painted 10 = .ok (.iconst 1, 1) := by decide +kernel
theorem dX5_painted_11 : decode cX5_painted 11 = .ok (.goto 4, 3) := by decide +kernel
theorem dX5_painted_14 : decode cX5_painted 14 = .ok (.iconst 0, 1) := by decide +kernel
theorem dX5_painted_15 : decode cX5_painted 15 = .ok (.invokevirtual 71, 3) := by decide +kernel
theorem dX5_painted_18 : decode cX5_painted 18 = .ok (.ifCond .eq 7, 3) := by decide +kernel
theorem dX5_painted_21 : decode cX5_painted 21 = .ok (.fconst 0, 1) := by decide +kernel
theorem dX5_painted_22 : decode cX5_painted 22 = .ok (.goto 16, 3) := by decide +kernel
theorem dX5_painted_25 : decode cX5_painted 25 = .ok (.aload_n 0, 1) := by decide +kernel
theorem dX5_painted_26 : decode cX5_painted 26 = .ok (.invokevirtual 222, 3) := by decide +kernel
theorem dX5_painted_29 : decode cX5_painted 29 = .ok (.i2f, 1) := by decide +kernel
theorem dX5_painted_30 : decode cX5_painted 30 = .ok (.aload_n 0, 1) := by decide +kernel
theorem dX5_painted_31 : decode cX5_painted 31 = .ok (.getfield 7, 3) := by decide +kernel
theorem dX5_painted_34 : decode cX5_painted 34 = .ok (.iconst 0, 1) := by decide +kernel
theorem dX5_painted_35 : decode cX5_painted 35 = .ok (.iaload, 1) := by decide +kernel
theorem dX5_painted_36 : decode cX5_painted 36 = .ok (.i2f, 1) := by decide +kernel
theorem dX5_painted_37 : decode cX5_painted 37 = .ok (.fdiv, 1) := by decide +kernel
theorem dX5_painted_38 : decode cX5_painted 38 = .ok (.freturn, 1) := by decide +kernel
theorem dX5_undo_0 : decode cX5_undo 0 = .ok (.aload_n 0, 1) := by decide +kernel
theorem dX5_undo_1 : decode cX5_undo 1 = .ok (.aload_n 0, 1) := by decide +kernel
theorem dX5_undo_2 : decode cX5_undo 2 = .ok (.getfield 52, 3) := by decide +kernel
theorem dX5_undo_5 : decode cX5_undo 5 = .ok (.ifCond .ne 7, 3) := by decide +kernel
theorem dX5_undo_8 : decode cX5_undo 8 = .ok (.iconst 1, 1) := by decide +kernel
theorem dX5_undo_9 : decode cX5_undo 9 = .ok (.goto 4, 3) := by decide +kernel
theorem dX5_undo_12 : decode cX5_undo 12 = .ok (.iconst 0, 1) := by decide +kernel
theorem dX5_undo_13 : decode cX5_undo 13 = .ok (.invokevirtual 71, 3) := by decide +kernel
theorem dX5_undo_16 : decode cX5_undo 16 = .ok (.ifCond .eq 5, 3) := by decide +kernel
theorem dX5_undo_19 : decode cX5_undo 19 = .ok (.iconst 0, 1) := by decide +kernel
theorem dX5_undo_20 : decode cX5_undo 20 = .ok (.ireturn, 1) := by decide +kernel
theorem dX5_undo_21 : decode cX5_undo 21 = .ok (.aload_n 0, 1) := by decide +kernel
theorem dX5_undo_22 : decode cX5_undo 22 = .ok (.dup, 1) := by decide +kernel
theorem dX5_undo_23 : decode cX5_undo 23 = .ok (.getfield 52, 3) := by decide +kernel
theorem dX5_undo_26 : decode cX5_undo 26 = .ok (.iconst 1, 1) := by decide +kernel
theorem dX5_undo_27 : decode cX5_undo 27 = .ok (.isub, 1) := by decide +kernel
theorem dX5_undo_28 : decode cX5_undo 28 = .ok (.putfield 52, 3) := by decide +kernel
theorem dX5_undo_31 : decode cX5_undo 31 = .ok (.aload_n 0, 1) := by decide +kernel
theorem dX5_undo_32 : decode cX5_undo 32 = .ok (.getfield 13, 3) := by decide +kernel
theorem dX5_undo_35 : decode cX5_undo 35 = .ok (.bipush 56, 2) := by decide +kernel
theorem dX5_undo_37 : decode cX5_undo 37 = .ok (.aload_n 0, 1) := by decide +kernel
theorem dX5_undo_38 : decode cX5_undo 38 = .ok (.getfield 52, 3) := by decide +kernel
theorem dX5_undo_41 : decode cX5_undo 41 = .ok (.imul, 1) := by decide +kernel
theorem dX5_undo_42 : decode cX5_undo 42 = .ok (.aload_n 0, 1) := by decide +kernel
theorem dX5_undo_43 : decode cX5_undo 43 = .ok (.getfield 7, 3) := by decide +kernel
theorem dX5_undo_46 : decode cX5_undo 46 = .ok (.iconst 0, 1) := by decide +kernel
theorem dX5_undo_47 : decode cX5_undo 47 = .ok (.invokestatic 55, 3) := by decide +kernel
theorem dX5_undo_50 : decode cX5_undo 50 = .ok (.aload_n 0, 1) := by decide +kernel
theorem dX5_undo_51 : decode cX5_undo 51 = .ok (.getfield 52, 3) := by decide +kernel
theorem dX5_undo_54 : decode cX5_undo 54 = .ok (.ireturn, 1) := by decide +kernel
theorem dX5_save_0 : decode cX5_save 0 = .ok (.aload_n 0, 1) := by decide +kernel
theorem dX5_save_1 : decode cX5_save 1 = .ok (.iconst 0, 1) := by decide +kernel
theorem dX5_save_2 : decode cX5_save 2 = .ok (.putfield 39, 3) := by decide +kernel
theorem dX5_save_5 : decode cX5_save 5 = .ok (.aload_n 0, 1) := by decide +kernel
theorem dX5_save_6 : decode cX5_save 6 = .ok (.iconst 1, 1) := by decide +kernel
theorem dX5_save_7 : decode cX5_save 7 = .ok (.putfield 235, 3) := by decide +kernel
theorem dX5_save_10 : decode cX5_save 10 = .ok (.aload_n 0, 1) := by decide +kernel
theorem dX5_save_11 : decode cX5_save 11 = .ok (.getfield 7, 3) := by decide +kernel
theorem dX5_save_14 : decode cX5_save 14 = .ok (.iconst 0, 1) := by decide +kernel
theorem dX5_save_15 : decode cX5_save 15 = .ok (.aload_n 0, 1) := by decide +kernel
theorem dX5_save_16 : decode cX5_save 16 = .ok (.getfield 16, 3) := by decide +kernel
theorem dX5_save_19 : decode cX5_save 19 = .ok (.iconst 0, 1) := by decide +kernel
theorem dX5_save_20 : decode cX5_save 20 = .ok (.invokestatic 55, 3) := by decide +kernel
theorem dX5_save_23 : decode cX5_save 23 = .ok (.aload_n 0, 1) := by decide +kernel
theorem dX5_save_24 : decode cX5_save 24 = .ok (.getfield 7, 3) := by decide +kernel
theorem dX5_save_27 : decode cX5_save 27 = .ok (.iconst 0, 1) := by decide +kernel
theorem dX5_save_28 : decode cX5_save 28 = .ok (.iaload, 1) := by decide +kernel
theorem dX5_save_29 : decode cX5_save 29 = .ok (.ireturn, 1) := by decide +kernel
theorem dX5_restore_0 : decode cX5_restore 0 = .ok (.aload_n 0, 1) := by decide +kernel
theorem dX5_restore_1 : decode cX5_restore 1 = .ok (.aload_n 0, 1) := by decide +kernel
theorem dX5_restore_2 : decode cX5_restore 2 = .ok (.getfield 235, 3) := by decide +kernel
theorem dX5_restore_5 : decode cX5_restore 5 = .ok (.ifCond .eq 7, 3) := by decide +kernel
theorem dX5_restore_8 : decode cX5_restore 8 = .ok (.iconst 0, 1) := by decide +kernel
theorem dX5_restore_9 : decode cX5_restore 9 = .ok (.goto 4, 3) := by decide +kernel
theorem dX5_restore_12 : decode cX5_restore 12 = .ok (.iconst 1, 1) := by decide +kernel
theorem dX5_restore_13 : decode cX5_restore 13 = .ok (.invokevirtual 71, 3) := by decide +kernel
theorem dX5_restore_16 : decode cX5_restore 16 = .ok (.ifCond .eq 5, 3) := by decide +kernel
theorem dX5_restore_19 : decode cX5_restore 19 = .ok (.iconst 0, 1) := by decide +kernel
theorem dX5_restore_20 : decode cX5_restore 20 = .ok (.ireturn, 1) := by decide +kernel
theorem dX5_restore_21 : decode cX5_restore 21 = .ok (.aload_n 0, 1) := by decide +kernel
theorem dX5_restore_22 : decode cX5_restore 22 = .ok (.getfield 16, 3) := by decide +kernel
theorem dX5_restore_25 : decode cX5_restore 25 = .ok (.iconst 0, 1) := by decide +kernel
theorem dX5_restore_26 : decode cX5_restore 26 = .ok (.aload_n 0, 1) := by decide +kernel
theorem dX5_restore_27 : decode cX5_restore 27 = .ok (.getfield 7, 3) := by decide +kernel
theorem dX5_restore_30 : decode cX5_restore 30 = .ok (.iconst 0, 1) := by decide +kernel
theorem dX5_restore_31 : decode cX5_restore 31 = .ok (.invokestatic 55, 3) := by decide +kernel
theorem dX5_restore_34 : decode cX5_restore 34 = .ok (.aload_n 0, 1) := by decide +kernel
theorem dX5_restore_35 : decode cX5_restore 35 = .ok (.iconst 0, 1) := by decide +kernel
theorem dX5_restore_36 : decode cX5_restore 36 = .ok (.putfield 52, 3) := by decide +kernel
theorem dX5_restore_39 : decode cX5_restore 39 = .ok (.aload_n 0, 1) := by decide +kernel
theorem dX5_restore_40 : decode cX5_restore 40 = .ok (.getfield 7, 3) := by decide +kernel
theorem dX5_restore_43 : decode cX5_restore 43 = .ok (.iconst 0, 1) := by decide +kernel
theorem dX5_restore_44 : decode cX5_restore 44 = .ok (.iaload, 1) := by decide +kernel
theorem dX5_restore_45 : decode cX5_restore 45 = .ok (.ireturn, 1) := by decide +kernel
end
section
/-! each instruction, decoded -/
theorem dL_country_0 : decode cL_country 0 = .ok (.aload_n 2, 1) := by decide +kernel
theorem dL_country_1 : decode cL_country 1 = .ok (.iconst 0, 1) := by decide +kernel
theorem dL_country_2 : decode cL_country 2 = .ok (.aload_n 0, 1) := by decide +kernel
theorem dL_country_3 : decode cL_country 3 = .ok (.iload_n 1, 1) := by decide +kernel
theorem dL_country_4 : decode cL_country 4 = .ok (.invokevirtual 7, 3) := by decide +kernel
theorem dL_country_7 : decode cL_country 7 = .ok (.i2l, 1) := by decide +kernel
theorem dL_country_8 : decode cL_country 8 = .ok (.lastore, 1) := by decide +kernel
theorem dL_country_9 : decode cL_country 9 = .ok (.goto 9, 3) := by decide +kernel
theorem dL_country_12 : decode cL_country 12 = .ok (.astore_n 3, 1) := by decide +kernel
theorem dL_country_13 : decode cL_country 13 = .ok (.iconst 1, 1) := by decide +kernel
theorem dL_country_14 : decode cL_country 14 = .ok (.ireturn, 1) := by decide +kernel
theorem dL_country_15 : decode cL_country 15 = .ok (.astore_n 3, 1) := by decide +kernel
theorem dL_country_16 : decode cL_country 16 = .ok (.iconst 2, 1) := by decide +kernel
theorem dL_country_17 : decode cL_country 17 = .ok (.ireturn, 1) := by decide +kernel
theorem dL_country_18 : decode cL_country 18 = .ok (.iconst 0, 1) := by decide +kernel
theorem dL_country_19 : decode cL_country 19 = .ok (.ireturn, 1) := by decide +kernel
theorem dL_border_0 : decode cL_border 0 = .ok (.aload_n 3, 1) := by decide +kernel
theorem dL_border_1 : decode cL_border 1 = .ok (.iconst 0, 1) := by decide +kernel
theorem dL_border_2 : decode cL_border 2 = .ok (.aload_n 0, 1) := by decide +kernel
theorem dL_border_3 : decode cL_border 3 = .ok (.iload_n 1, 1) := by decide +kernel
theorem dL_border_4 : decode cL_border 4 = .ok (.iload_n 2, 1) := by decide +kernel
theorem dL_border_5 : decode cL_border 5 = .ok (.invokevirtual 17, 3) := by decide +kernel
theorem dL_border_8 : decode cL_border 8 = .ok (.i2l, 1) := by decide +kernel
theorem dL_border_9 : decode cL_border 9 = .ok (.lastore, 1) := by decide +kernel
theorem dL_border_10 : decode cL_border 10 = .ok (.goto 11, 3) := by decide +kernel
theorem dL_border_13 : decode cL_border 13 = .ok (.astore 4, 2) := by decide +kernel
theorem dL_border_15 : decode cL_border 15 = .ok (.iconst 1, 1) := by decide +kernel
theorem dL_border_16 : decode cL_border 16 = .ok (.ireturn, 1) := by decide +kernel
theorem dL_border_17 : decode cL_border 17 = .ok (.astore 4, 2) := by decide +kernel
theorem dL_border_19 : decode cL_border 19 = .ok (.iconst 2, 1) := by decide +kernel
theorem dL_border_20 : decode cL_border 20 = .ok (.ireturn, 1) := by decide +kernel
theorem dL_border_21 : decode cL_border 21 = .ok (.iconst 0, 1) := by decide +kernel
theorem dL_border_22 : decode cL_border 22 = .ok (.ireturn, 1) := by decide +kernel
theorem dL_erase_0 : decode cL_erase 0 = .ok (.aload_n 3, 1) := by decide +kernel
theorem dL_erase_1 : decode cL_erase 1 = .ok (.iconst 0, 1) := by decide +kernel
theorem dL_erase_2 : decode cL_erase 2 = .ok (.aload_n 0, 1) := by decide +kernel
theorem dL_erase_3 : decode cL_erase 3 = .ok (.iload_n 1, 1) := by decide +kernel
theorem dL_erase_4 : decode cL_erase 4 = .ok (.iload_n 2, 1) := by decide +kernel
theorem dL_erase_5 : decode cL_erase 5 = .ok (.invokevirtual 23, 3) := by decide +kernel
theorem dL_erase_8 : decode cL_erase 8 = .ok (.i2l, 1) := by decide +kernel
theorem dL_erase_9 : decode cL_erase 9 = .ok (.lastore, 1) := by decide +kernel
theorem dL_erase_10 : decode cL_erase 10 = .ok (.goto 11, 3) := by decide +kernel
theorem dL_erase_13 : decode cL_erase 13 = .ok (.astore 4, 2) := by decide +kernel
theorem dL_erase_15 : decode cL_erase 15 = .ok (.iconst 1, 1) := by decide +kernel
theorem dL_erase_16 : decode cL_erase 16 = .ok (.ireturn, 1) := by decide +kernel
theorem dL_erase_17 : decode cL_erase 17 = .ok (.astore 4, 2) := by decide +kernel
theorem dL_erase_19 : decode cL_erase 19 = .ok (.iconst 2, 1) := by decide +kernel
theorem dL_erase_20 : decode cL_erase 20 = .ok (.ireturn, 1) := by decide +kernel
theorem dL_erase_21 : decode cL_erase 21 = .ok (.iconst 0, 1) := by decide +kernel
theorem dL_erase_22 : decode cL_erase 22 = .ok (.ireturn, 1) := by decide +kernel
theorem dL_hasBorder_0 : decode cL_hasBorder 0 = .ok (.aload_n 3, 1) := by decide +kernel
theorem dL_hasBorder_1 : decode cL_hasBorder 1 = .ok (.iconst 0, 1) := by decide +kernel
theorem dL_hasBorder_2 : decode cL_hasBorder 2 = .ok (.aload_n 0, 1) := by decide +kernel
theorem dL_hasBorder_3 : decode cL_hasBorder 3 = .ok (.iload_n 1, 1) := by decide +kernel
theorem dL_hasBorder_4 : decode cL_hasBorder 4 = .ok (.iload_n 2, 1) := by decide +kernel
theorem dL_hasBorder_5 : decode cL_hasBorder 5 = .ok (.invokevirtual 26, 3) := by decide +kernel
theorem dL_hasBorder_8 : decode cL_hasBorder 8 = .ok (.ifCond .eq 7, 3) := by decide +kernel
theorem dL_hasBorder_11 : decode cL_hasBorder 11 = .ok (.lconst 1, 1) := by decide +kernel
theorem dL_hasBorder_12 : decode cL_hasBorder 12 = .ok (.goto 4, 3) := by decide +kernel
theorem dL_hasBorder_15 : decode cL_hasBorder 15 = .ok (.lconst 0, 1) := by decide +kernel
theorem dL_hasBorder_16 : decode cL_hasBorder 16 = .ok (.lastore, 1) := by decide +kernel
theorem dL_hasBorder_17 : decode cL_hasBorder 17 = .ok (.goto 7, 3) := by decide +kernel
theorem dL_hasBorder_20 : decode cL_hasBorder 20 = .ok (.astore 4, 2) := by decide +kernel
theorem dL_hasBorder_22 : decode cL_hasBorder 22 = .ok (.iconst 1, 1) := by decide +kernel
theorem dL_hasBorder_23 : decode cL_hasBorder 23 = .ok (.ireturn, 1) := by decide +kernel
theorem dL_hasBorder_24 : decode cL_hasBorder 24 = .ok (.iconst 0, 1) := by decide +kernel
theorem dL_hasBorder_25 : decode cL_hasBorder 25 = .ok (.ireturn, 1) := by decide +kernel
theorem dL_countryOf_0 : decode cL_countryOf 0 = .ok (.aload_n 3, 1) := by decide +kernel
theorem dL_countryOf_1 : decode cL_countryOf 1 = .ok (.iconst 0, 1) := by decide +kernel
theorem dL_countryOf_2 : decode cL_countryOf 2 = .ok (.aload_n 0, 1) := by decide +kernel
theorem dL_countryOf_3 : decode cL_countryOf 3 = .ok (.iload_n 1, 1) := by decide +kernel
theorem dL_countryOf_4 : decode cL_countryOf 4 = .ok (.iload_n 2, 1) := by decide +kernel
theorem dL_countryOf_5 : decode cL_countryOf 5 = .ok (.invokevirtual 30, 3) := by decide +kernel
theorem dL_countryOf_8 : decode cL_countryOf 8 = .ok (.i2l, 1) := by decide +kernel
theorem dL_countryOf_9 : decode cL_countryOf 9 = .ok (.lastore, 1) := by decide +kernel
theorem dL_countryOf_10 : decode cL_countryOf 10 = .ok (.goto 11, 3) := by decide +kernel
theorem dL_countryOf_13 : decode cL_countryOf 13 = .ok (.astore 4, 2) := by decide +kernel
theorem dL_countryOf_15 : decode cL_countryOf 15 = .ok (.iconst 1, 1) := by decide +kernel
theorem dL_countryOf_16 : decode cL_countryOf 16 = .ok (.ireturn, 1) := by decide +kernel
theorem dL_countryOf_17 : decode cL_countryOf 17 = .ok (.astore 4, 2) := by decide +kernel
theorem dL_countryOf_19 : decode cL_countryOf 19 = .ok (.iconst 2, 1) := by decide +kernel
theorem dL_countryOf_20 : decode cL_countryOf 20 = .ok (.ireturn, 1) := by decide +kernel
theorem dL_countryOf_21 : decode cL_countryOf 21 = .ok (.iconst 0, 1) := by decide +kernel
theorem dL_countryOf_22 : decode cL_countryOf 22 = .ok (.ireturn, 1) := by decide +kernel
theorem dL_hues_0 : decode cL_hues 0 = .ok (.aload_n 2, 1) := by decide +kernel
theorem dL_hues_1 : decode cL_hues 1 = .ok (.iconst 0, 1) := by decide +kernel
theorem dL_hues_2 : decode cL_hues 2 = .ok (.aload_n 0, 1) := by decide +kernel
theorem dL_hues_3 : decode cL_hues 3 = .ok (.iload_n 1, 1) := by decide +kernel
theorem dL_hues_4 : decode cL_hues 4 = .ok (.invokevirtual 33, 3) := by decide +kernel
theorem dL_hues_7 : decode cL_hues 7 = .ok (.i2l, 1) := by decide +kernel
theorem dL_hues_8 : decode cL_hues 8 = .ok (.lastore, 1) := by decide +kernel
theorem dL_hues_9 : decode cL_hues 9 = .ok (.goto 9, 3) := by decide +kernel
theorem dL_hues_12 : decode cL_hues 12 = .ok (.astore_n 3, 1) := by decide +kernel
theorem dL_hues_13 : decode cL_hues 13 = .ok (.iconst 1, 1) := by decide +kernel
theorem dL_hues_14 : decode cL_hues 14 = .ok (.ireturn, 1) := by decide +kernel
theorem dL_hues_15 : decode cL_hues 15 = .ok (.astore_n 3, 1) := by decide +kernel
theorem dL_hues_16 : decode cL_hues 16 = .ok (.iconst 2, 1) := by decide +kernel
theorem dL_hues_17 : decode cL_hues 17 = .ok (.ireturn, 1) := by decide +kernel
theorem dL_hues_18 : decode cL_hues 18 = .ok (.iconst 0, 1) := by decide +kernel
theorem dL_hues_19 : decode cL_hues 19 = .ok (.ireturn, 1) := by decide +kernel
theorem dL_pots_0 : decode cL_pots 0 = .ok (.aload_n 3, 1) := by decide +kernel
theorem dL_pots_1 : decode cL_pots 1 = .ok (.iconst 0, 1) := by decide +kernel
theorem dL_pots_2 : decode cL_pots 2 = .ok (.aload_n 0, 1) := by decide +kernel
theorem dL_pots_3 : decode cL_pots 3 = .ok (.iload_n 1, 1) := by decide +kernel
theorem dL_pots_4 : decode cL_pots 4 = .ok (.iload_n 2, 1) := by decide +kernel
theorem dL_pots_5 : decode cL_pots 5 = .ok (.invokevirtual 36, 3) := by decide +kernel
theorem dL_pots_8 : decode cL_pots 8 = .ok (.i2l, 1) := by decide +kernel
theorem dL_pots_9 : decode cL_pots 9 = .ok (.lastore, 1) := by decide +kernel
theorem dL_pots_10 : decode cL_pots 10 = .ok (.goto 11, 3) := by decide +kernel
theorem dL_pots_13 : decode cL_pots 13 = .ok (.astore 4, 2) := by decide +kernel
theorem dL_pots_15 : decode cL_pots 15 = .ok (.iconst 1, 1) := by decide +kernel
theorem dL_pots_16 : decode cL_pots 16 = .ok (.ireturn, 1) := by decide +kernel
theorem dL_pots_17 : decode cL_pots 17 = .ok (.astore 4, 2) := by decide +kernel
theorem dL_pots_19 : decode cL_pots 19 = .ok (.iconst 2, 1) := by decide +kernel
theorem dL_pots_20 : decode cL_pots 20 = .ok (.ireturn, 1) := by decide +kernel
theorem dL_pots_21 : decode cL_pots 21 = .ok (.iconst 0, 1) := by decide +kernel
theorem dL_pots_22 : decode cL_pots 22 = .ok (.ireturn, 1) := by decide +kernel
theorem dL_hueOf_0 : decode cL_hueOf 0 = .ok (.aload_n 3, 1) := by decide +kernel
theorem dL_hueOf_1 : decode cL_hueOf 1 = .ok (.iconst 0, 1) := by decide +kernel
theorem dL_hueOf_2 : decode cL_hueOf 2 = .ok (.aload_n 0, 1) := by decide +kernel
theorem dL_hueOf_3 : decode cL_hueOf 3 = .ok (.iload_n 1, 1) := by decide +kernel
theorem dL_hueOf_4 : decode cL_hueOf 4 = .ok (.iload_n 2, 1) := by decide +kernel
theorem dL_hueOf_5 : decode cL_hueOf 5 = .ok (.invokevirtual 39, 3) := by decide +kernel
theorem dL_hueOf_8 : decode cL_hueOf 8 = .ok (.i2l, 1) := by decide +kernel
theorem dL_hueOf_9 : decode cL_hueOf 9 = .ok (.lastore, 1) := by decide +kernel
theorem dL_hueOf_10 : decode cL_hueOf 10 = .ok (.goto 11, 3) := by decide +kernel
theorem dL_hueOf_13 : decode cL_hueOf 13 = .ok (.astore 4, 2) := by decide +kernel
theorem dL_hueOf_15 : decode cL_hueOf 15 = .ok (.iconst 1, 1) := by decide +kernel
theorem dL_hueOf_16 : decode cL_hueOf 16 = .ok (.ireturn, 1) := by decide +kernel
theorem dL_hueOf_17 : decode cL_hueOf 17 = .ok (.astore 4, 2) := by decide +kernel
theorem dL_hueOf_19 : decode cL_hueOf 19 = .ok (.iconst 2, 1) := by decide +kernel
theorem dL_hueOf_20 : decode cL_hueOf 20 = .ok (.ireturn, 1) := by decide +kernel
theorem dL_hueOf_21 : decode cL_hueOf 21 = .ok (.iconst 0, 1) := by decide +kernel
theorem dL_hueOf_22 : decode cL_hueOf 22 = .ok (.ireturn, 1) := by decide +kernel
theorem dL_paint_0 : decode cL_paint 0 = .ok (.aload_n 3, 1) := by decide +kernel
theorem dL_paint_1 : decode cL_paint 1 = .ok (.iconst 0, 1) := by decide +kernel
theorem dL_paint_2 : decode cL_paint 2 = .ok (.aload_n 0, 1) := by decide +kernel
theorem dL_paint_3 : decode cL_paint 3 = .ok (.iload_n 1, 1) := by decide +kernel
theorem dL_paint_4 : decode cL_paint 4 = .ok (.iload_n 2, 1) := by decide +kernel
theorem dL_paint_5 : decode cL_paint 5 = .ok (.invokevirtual 42, 3) := by decide +kernel
theorem dL_paint_8 : decode cL_paint 8 = .ok (.i2l, 1) := by decide +kernel
theorem dL_paint_9 : decode cL_paint 9 = .ok (.lastore, 1) := by decide +kernel
theorem dL_paint_10 : decode cL_paint 10 = .ok (.goto 11, 3) := by decide +kernel
theorem dL_paint_13 : decode cL_paint 13 = .ok (.astore 4, 2) := by decide +kernel
theorem dL_paint_15 : decode cL_paint 15 = .ok (.iconst 1, 1) := by decide +kernel
theorem dL_paint_16 : decode cL_paint 16 = .ok (.ireturn, 1) := by decide +kernel
theorem dL_paint_17 : decode cL_paint 17 = .ok (.astore 4, 2) := by decide +kernel
theorem dL_paint_19 : decode cL_paint 19 = .ok (.iconst 2, 1) := by decide +kernel
theorem dL_paint_20 : decode cL_paint 20 = .ok (.ireturn, 1) := by decide +kernel
theorem dL_paint_21 : decode cL_paint 21 = .ok (.iconst 0, 1) := by decide +kernel
theorem dL_paint_22 : decode cL_paint 22 = .ok (.ireturn, 1) := by decide +kernel
theorem dL_bars_0 : decode cL_bars 0 = .ok (.aload_n 3, 1) := by decide +kernel
theorem dL_bars_1 : decode cL_bars 1 = .ok (.iconst 0, 1) := by decide +kernel
theorem dL_bars_2 : decode cL_bars 2 = .ok (.aload_n 0, 1) := by decide +kernel
theorem dL_bars_3 : decode cL_bars 3 = .ok (.iload_n 1, 1) := by decide +kernel
theorem dL_bars_4 : decode cL_bars 4 = .ok (.iload_n 2, 1) := by decide +kernel
theorem dL_bars_5 : decode cL_bars 5 = .ok (.invokevirtual 45, 3) := by decide +kernel
theorem dL_bars_8 : decode cL_bars 8 = .ok (.i2l, 1) := by decide +kernel
theorem dL_bars_9 : decode cL_bars 9 = .ok (.lastore, 1) := by decide +kernel
theorem dL_bars_10 : decode cL_bars 10 = .ok (.goto 7, 3) := by decide +kernel
theorem dL_bars_13 : decode cL_bars 13 = .ok (.astore 4, 2) := by decide +kernel
theorem dL_bars_15 : decode cL_bars 15 = .ok (.iconst 1, 1) := by decide +kernel
theorem dL_bars_16 : decode cL_bars 16 = .ok (.ireturn, 1) := by decide +kernel
theorem dL_bars_17 : decode cL_bars 17 = .ok (.iconst 0, 1) := by decide +kernel
theorem dL_bars_18 : decode cL_bars 18 = .ok (.ireturn, 1) := by decide +kernel
theorem dL_back_0 : decode cL_back 0 = .ok (.aload_n 1, 1) := by decide +kernel
theorem dL_back_1 : decode cL_back 1 = .ok (.iconst 0, 1) := by decide +kernel
theorem dL_back_2 : decode cL_back 2 = .ok (.aload_n 0, 1) := by decide +kernel
theorem dL_back_3 : decode cL_back 3 = .ok (.invokevirtual 48, 3) := by decide +kernel
theorem dL_back_6 : decode cL_back 6 = .ok (.i2l, 1) := by decide +kernel
theorem dL_back_7 : decode cL_back 7 = .ok (.lastore, 1) := by decide +kernel
theorem dL_back_8 : decode cL_back 8 = .ok (.goto 6, 3) := by decide +kernel
theorem dL_back_11 : decode cL_back 11 = .ok (.astore_n 2, 1) := by decide +kernel
theorem dL_back_12 : decode cL_back 12 = .ok (.iconst 1, 1) := by decide +kernel
theorem dL_back_13 : decode cL_back 13 = .ok (.ireturn, 1) := by decide +kernel
theorem dL_back_14 : decode cL_back 14 = .ok (.iconst 0, 1) := by decide +kernel
theorem dL_back_15 : decode cL_back 15 = .ok (.ireturn, 1) := by decide +kernel
theorem dL_step_0 : decode cL_step 0 = .ok (.aload_n 2, 1) := by decide +kernel
theorem dL_step_1 : decode cL_step 1 = .ok (.iconst 0, 1) := by decide +kernel
theorem dL_step_2 : decode cL_step 2 = .ok (.aload_n 0, 1) := by decide +kernel
theorem dL_step_3 : decode cL_step 3 = .ok (.iload_n 1, 1) := by decide +kernel
theorem dL_step_4 : decode cL_step 4 = .ok (.invokevirtual 52, 3) := by decide +kernel
theorem dL_step_7 : decode cL_step 7 = .ok (.i2l, 1) := by decide +kernel
theorem dL_step_8 : decode cL_step 8 = .ok (.lastore, 1) := by decide +kernel
theorem dL_step_9 : decode cL_step 9 = .ok (.goto 6, 3) := by decide +kernel
theorem dL_step_12 : decode cL_step 12 = .ok (.astore_n 3, 1) := by decide +kernel
theorem dL_step_13 : decode cL_step 13 = .ok (.iconst 1, 1) := by decide +kernel
theorem dL_step_14 : decode cL_step 14 = .ok (.ireturn, 1) := by decide +kernel
theorem dL_step_15 : decode cL_step 15 = .ok (.iconst 0, 1) := by decide +kernel
theorem dL_step_16 : decode cL_step 16 = .ok (.ireturn, 1) := by decide +kernel
theorem dL_stuck_0 : decode cL_stuck 0 = .ok (.aload_n 1, 1) := by decide +kernel
theorem dL_stuck_1 : decode cL_stuck 1 = .ok (.iconst 0, 1) := by decide +kernel
theorem dL_stuck_2 : decode cL_stuck 2 = .ok (.aload_n 0, 1) := by decide +kernel
theorem dL_stuck_3 : decode cL_stuck 3 = .ok (.invokevirtual 57, 3) := by decide +kernel
theorem dL_stuck_6 : decode cL_stuck 6 = .ok (.i2l, 1) := by decide +kernel
theorem dL_stuck_7 : decode cL_stuck 7 = .ok (.lastore, 1) := by decide +kernel
theorem dL_stuck_8 : decode cL_stuck 8 = .ok (.goto 6, 3) := by decide +kernel
theorem dL_stuck_11 : decode cL_stuck 11 = .ok (.astore_n 2, 1) := by decide +kernel
theorem dL_stuck_12 : decode cL_stuck 12 = .ok (.iconst 1, 1) := by decide +kernel
theorem dL_stuck_13 : decode cL_stuck 13 = .ok (.ireturn, 1) := by decide +kernel
theorem dL_stuck_14 : decode cL_stuck 14 = .ok (.iconst 0, 1) := by decide +kernel
theorem dL_stuck_15 : decode cL_stuck 15 = .ok (.ireturn, 1) := by decide +kernel
theorem dL_next_0 : decode cL_next 0 = .ok (.aload_n 1, 1) := by decide +kernel
theorem dL_next_1 : decode cL_next 1 = .ok (.iconst 0, 1) := by decide +kernel
theorem dL_next_2 : decode cL_next 2 = .ok (.aload_n 0, 1) := by decide +kernel
theorem dL_next_3 : decode cL_next 3 = .ok (.invokevirtual 60, 3) := by decide +kernel
theorem dL_next_6 : decode cL_next 6 = .ok (.i2l, 1) := by decide +kernel
theorem dL_next_7 : decode cL_next 7 = .ok (.lastore, 1) := by decide +kernel
theorem dL_next_8 : decode cL_next 8 = .ok (.goto 6, 3) := by decide +kernel
theorem dL_next_11 : decode cL_next 11 = .ok (.astore_n 2, 1) := by decide +kernel
theorem dL_next_12 : decode cL_next 12 = .ok (.iconst 1, 1) := by decide +kernel
theorem dL_next_13 : decode cL_next 13 = .ok (.ireturn, 1) := by decide +kernel
theorem dL_next_14 : decode cL_next 14 = .ok (.iconst 0, 1) := by decide +kernel
theorem dL_next_15 : decode cL_next 15 = .ok (.ireturn, 1) := by decide +kernel
theorem dL_gentle_0 : decode cL_gentle 0 = .ok (.aload_n 2, 1) := by decide +kernel
theorem dL_gentle_1 : decode cL_gentle 1 = .ok (.iconst 0, 1) := by decide +kernel
theorem dL_gentle_2 : decode cL_gentle 2 = .ok (.aload_n 0, 1) := by decide +kernel
theorem dL_gentle_3 : decode cL_gentle 3 = .ok (.iload_n 1, 1) := by decide +kernel
theorem dL_gentle_4 : decode cL_gentle 4 = .ok (.invokevirtual 63, 3) := by decide +kernel
theorem dL_gentle_7 : decode cL_gentle 7 = .ok (.i2l, 1) := by decide +kernel
theorem dL_gentle_8 : decode cL_gentle 8 = .ok (.lastore, 1) := by decide +kernel
theorem dL_gentle_9 : decode cL_gentle 9 = .ok (.goto 9, 3) := by decide +kernel
theorem dL_gentle_12 : decode cL_gentle 12 = .ok (.astore_n 3, 1) := by decide +kernel
theorem dL_gentle_13 : decode cL_gentle 13 = .ok (.iconst 1, 1) := by decide +kernel
theorem dL_gentle_14 : decode cL_gentle 14 = .ok (.ireturn, 1) := by decide +kernel
theorem dL_gentle_15 : decode cL_gentle 15 = .ok (.astore_n 3, 1) := by decide +kernel
theorem dL_gentle_16 : decode cL_gentle 16 = .ok (.iconst 2, 1) := by decide +kernel
theorem dL_gentle_17 : decode cL_gentle 17 = .ok (.ireturn, 1) := by decide +kernel
theorem dL_gentle_18 : decode cL_gentle 18 = .ok (.iconst 0, 1) := by decide +kernel
theorem dL_gentle_19 : decode cL_gentle 19 = .ok (.ireturn, 1) := by decide +kernel
theorem dL_wish_0 : decode cL_wish 0 = .ok (.aload 4, 2) := by decide +kernel
theorem dL_wish_2 : decode cL_wish 2 = .ok (.iconst 0, 1) := by decide +kernel
theorem dL_wish_3 : decode cL_wish 3 = .ok (.aload_n 0, 1) := by decide +kernel
theorem dL_wish_4 : decode cL_wish 4 = .ok (.iload_n 1, 1) := by decide +kernel
theorem dL_wish_5 : decode cL_wish 5 = .ok (.iload_n 2, 1) := by decide +kernel
theorem dL_wish_6 : decode cL_wish 6 = .ok (.iload_n 3, 1) := by decide +kernel
theorem dL_wish_7 : decode cL_wish 7 = .ok (.invokevirtual 66, 3) := by decide +kernel
theorem dL_wish_10 : decode cL_wish 10 = .ok (.i2l, 1) := by decide +kernel
theorem dL_wish_11 : decode cL_wish 11 = .ok (.lastore, 1) := by decide +kernel
theorem dL_wish_12 : decode cL_wish 12 = .ok (.goto 11, 3) := by decide +kernel
theorem dL_wish_15 : decode cL_wish 15 = .ok (.astore 5, 2) := by decide +kernel
theorem dL_wish_17 : decode cL_wish 17 = .ok (.iconst 1, 1) := by decide +kernel
theorem dL_wish_18 : decode cL_wish 18 = .ok (.ireturn, 1) := by decide +kernel
theorem dL_wish_19 : decode cL_wish 19 = .ok (.astore 5, 2) := by decide +kernel
theorem dL_wish_21 : decode cL_wish 21 = .ok (.iconst 2, 1) := by decide +kernel
theorem dL_wish_22 : decode cL_wish 22 = .ok (.ireturn, 1) := by decide +kernel
theorem dL_wish_23 : decode cL_wish 23 = .ok (.iconst 0, 1) := by decide +kernel
theorem dL_wish_24 : decode cL_wish 24 = .ok (.ireturn, 1) := by decide +kernel
theorem dL_waysFor_0 : decode cL_waysFor 0 = .ok (.aload_n 2, 1) := by decide +kernel
theorem dL_waysFor_1 : decode cL_waysFor 1 = .ok (.iconst 0, 1) := by decide +kernel
theorem dL_waysFor_2 : decode cL_waysFor 2 = .ok (.aload_n 0, 1) := by decide +kernel
theorem dL_waysFor_3 : decode cL_waysFor 3 = .ok (.iload_n 1, 1) := by decide +kernel
theorem dL_waysFor_4 : decode cL_waysFor 4 = .ok (.invokevirtual 70, 3) := by decide +kernel
theorem dL_waysFor_7 : decode cL_waysFor 7 = .ok (.i2l, 1) := by decide +kernel
theorem dL_waysFor_8 : decode cL_waysFor 8 = .ok (.lastore, 1) := by decide +kernel
theorem dL_waysFor_9 : decode cL_waysFor 9 = .ok (.goto 9, 3) := by decide +kernel
theorem dL_waysFor_12 : decode cL_waysFor 12 = .ok (.astore_n 3, 1) := by decide +kernel
theorem dL_waysFor_13 : decode cL_waysFor 13 = .ok (.iconst 1, 1) := by decide +kernel
theorem dL_waysFor_14 : decode cL_waysFor 14 = .ok (.ireturn, 1) := by decide +kernel
theorem dL_waysFor_15 : decode cL_waysFor 15 = .ok (.astore_n 3, 1) := by decide +kernel
theorem dL_waysFor_16 : decode cL_waysFor 16 = .ok (.iconst 2, 1) := by decide +kernel
theorem dL_waysFor_17 : decode cL_waysFor 17 = .ok (.ireturn, 1) := by decide +kernel
theorem dL_waysFor_18 : decode cL_waysFor 18 = .ok (.iconst 0, 1) := by decide +kernel
theorem dL_waysFor_19 : decode cL_waysFor 19 = .ok (.ireturn, 1) := by decide +kernel
theorem dL_fewest_0 : decode cL_fewest 0 = .ok (.aload_n 1, 1) := by decide +kernel
theorem dL_fewest_1 : decode cL_fewest 1 = .ok (.iconst 0, 1) := by decide +kernel
theorem dL_fewest_2 : decode cL_fewest 2 = .ok (.aload_n 0, 1) := by decide +kernel
theorem dL_fewest_3 : decode cL_fewest 3 = .ok (.invokevirtual 73, 3) := by decide +kernel
theorem dL_fewest_6 : decode cL_fewest 6 = .ok (.i2l, 1) := by decide +kernel
theorem dL_fewest_7 : decode cL_fewest 7 = .ok (.lastore, 1) := by decide +kernel
theorem dL_fewest_8 : decode cL_fewest 8 = .ok (.goto 6, 3) := by decide +kernel
theorem dL_fewest_11 : decode cL_fewest 11 = .ok (.astore_n 2, 1) := by decide +kernel
theorem dL_fewest_12 : decode cL_fewest 12 = .ok (.iconst 1, 1) := by decide +kernel
theorem dL_fewest_13 : decode cL_fewest 13 = .ok (.ireturn, 1) := by decide +kernel
theorem dL_fewest_14 : decode cL_fewest 14 = .ok (.iconst 0, 1) := by decide +kernel
theorem dL_fewest_15 : decode cL_fewest 15 = .ok (.ireturn, 1) := by decide +kernel
theorem dL_line_0 : decode cL_line 0 = .ok (.aload_n 2, 1) := by decide +kernel
theorem dL_line_1 : decode cL_line 1 = .ok (.iconst 0, 1) := by decide +kernel
theorem dL_line_2 : decode cL_line 2 = .ok (.aload_n 0, 1) := by decide +kernel
theorem dL_line_3 : decode cL_line 3 = .ok (.iload_n 1, 1) := by decide +kernel
theorem dL_line_4 : decode cL_line 4 = .ok (.invokevirtual 76, 3) := by decide +kernel
theorem dL_line_7 : decode cL_line 7 = .ok (.i2l, 1) := by decide +kernel
theorem dL_line_8 : decode cL_line 8 = .ok (.lastore, 1) := by decide +kernel
theorem dL_line_9 : decode cL_line 9 = .ok (.goto 6, 3) := by decide +kernel
theorem dL_line_12 : decode cL_line 12 = .ok (.astore_n 3, 1) := by decide +kernel
theorem dL_line_13 : decode cL_line 13 = .ok (.iconst 1, 1) := by decide +kernel
theorem dL_line_14 : decode cL_line 14 = .ok (.ireturn, 1) := by decide +kernel
theorem dL_line_15 : decode cL_line 15 = .ok (.iconst 0, 1) := by decide +kernel
theorem dL_line_16 : decode cL_line 16 = .ok (.ireturn, 1) := by decide +kernel
theorem dL_character_0 : decode cL_character 0 = .ok (.aload_n 2, 1) := by decide +kernel
theorem dL_character_1 : decode cL_character 1 = .ok (.iconst 0, 1) := by decide +kernel
theorem dL_character_2 : decode cL_character 2 = .ok (.aload_n 0, 1) := by decide +kernel
theorem dL_character_3 : decode cL_character 3 = .ok (.iload_n 1, 1) := by decide +kernel
theorem dL_character_4 : decode cL_character 4 = .ok (.invokevirtual 79, 3) := by decide +kernel
theorem dL_character_7 : decode cL_character 7 = .ok (.i2l, 1) := by decide +kernel
theorem dL_character_8 : decode cL_character 8 = .ok (.lastore, 1) := by decide +kernel
theorem dL_character_9 : decode cL_character 9 = .ok (.goto 6, 3) := by decide +kernel
theorem dL_character_12 : decode cL_character 12 = .ok (.astore_n 3, 1) := by decide +kernel
theorem dL_character_13 : decode cL_character 13 = .ok (.iconst 1, 1) := by decide +kernel
theorem dL_character_14 : decode cL_character 14 = .ok (.ireturn, 1) := by decide +kernel
theorem dL_character_15 : decode cL_character 15 = .ok (.iconst 0, 1) := by decide +kernel
theorem dL_character_16 : decode cL_character 16 = .ok (.ireturn, 1) := by decide +kernel
theorem dL_append_0 : decode cL_append 0 = .ok (.aload_n 2, 1) := by decide +kernel
theorem dL_append_1 : decode cL_append 1 = .ok (.iconst 0, 1) := by decide +kernel
theorem dL_append_2 : decode cL_append 2 = .ok (.aload_n 0, 1) := by decide +kernel
theorem dL_append_3 : decode cL_append 3 = .ok (.iload_n 1, 1) := by decide +kernel
theorem dL_append_4 : decode cL_append 4 = .ok (.invokevirtual 83, 3) := by decide +kernel
theorem dL_append_7 : decode cL_append 7 = .ok (.i2l, 1) := by decide +kernel
theorem dL_append_8 : decode cL_append 8 = .ok (.lastore, 1) := by decide +kernel
theorem dL_append_9 : decode cL_append 9 = .ok (.goto 6, 3) := by decide +kernel
theorem dL_append_12 : decode cL_append 12 = .ok (.astore_n 3, 1) := by decide +kernel
theorem dL_append_13 : decode cL_append 13 = .ok (.iconst 1, 1) := by decide +kernel
theorem dL_append_14 : decode cL_append 14 = .ok (.ireturn, 1) := by decide +kernel
theorem dL_append_15 : decode cL_append 15 = .ok (.iconst 0, 1) := by decide +kernel
theorem dL_append_16 : decode cL_append 16 = .ok (.ireturn, 1) := by decide +kernel
theorem dL_read_0 : decode cL_read 0 = .ok (.aload_n 1, 1) := by decide +kernel
theorem dL_read_1 : decode cL_read 1 = .ok (.iconst 0, 1) := by decide +kernel
theorem dL_read_2 : decode cL_read 2 = .ok (.aload_n 0, 1) := by decide +kernel
theorem dL_read_3 : decode cL_read 3 = .ok (.invokevirtual 89, 3) := by decide +kernel
theorem dL_read_6 : decode cL_read 6 = .ok (.i2l, 1) := by decide +kernel
theorem dL_read_7 : decode cL_read 7 = .ok (.lastore, 1) := by decide +kernel
theorem dL_read_8 : decode cL_read 8 = .ok (.goto 9, 3) := by decide +kernel
theorem dL_read_11 : decode cL_read 11 = .ok (.astore_n 2, 1) := by decide +kernel
theorem dL_read_12 : decode cL_read 12 = .ok (.iconst 1, 1) := by decide +kernel
theorem dL_read_13 : decode cL_read 13 = .ok (.ireturn, 1) := by decide +kernel
theorem dL_read_14 : decode cL_read 14 = .ok (.astore_n 2, 1) := by decide +kernel
theorem dL_read_15 : decode cL_read 15 = .ok (.iconst 2, 1) := by decide +kernel
theorem dL_read_16 : decode cL_read 16 = .ok (.ireturn, 1) := by decide +kernel
theorem dL_read_17 : decode cL_read 17 = .ok (.iconst 0, 1) := by decide +kernel
theorem dL_read_18 : decode cL_read 18 = .ok (.ireturn, 1) := by decide +kernel
theorem dL_refusal_0 : decode cL_refusal 0 = .ok (.aload_n 2, 1) := by decide +kernel
theorem dL_refusal_1 : decode cL_refusal 1 = .ok (.iconst 0, 1) := by decide +kernel
theorem dL_refusal_2 : decode cL_refusal 2 = .ok (.aload_n 0, 1) := by decide +kernel
theorem dL_refusal_3 : decode cL_refusal 3 = .ok (.iload_n 1, 1) := by decide +kernel
theorem dL_refusal_4 : decode cL_refusal 4 = .ok (.invokevirtual 92, 3) := by decide +kernel
theorem dL_refusal_7 : decode cL_refusal 7 = .ok (.i2l, 1) := by decide +kernel
theorem dL_refusal_8 : decode cL_refusal 8 = .ok (.lastore, 1) := by decide +kernel
theorem dL_refusal_9 : decode cL_refusal 9 = .ok (.goto 6, 3) := by decide +kernel
theorem dL_refusal_12 : decode cL_refusal 12 = .ok (.astore_n 3, 1) := by decide +kernel
theorem dL_refusal_13 : decode cL_refusal 13 = .ok (.iconst 1, 1) := by decide +kernel
theorem dL_refusal_14 : decode cL_refusal 14 = .ok (.ireturn, 1) := by decide +kernel
theorem dL_refusal_15 : decode cL_refusal 15 = .ok (.iconst 0, 1) := by decide +kernel
theorem dL_refusal_16 : decode cL_refusal 16 = .ok (.ireturn, 1) := by decide +kernel
theorem dL_account_0 : decode cL_account 0 = .ok (.aload_n 2, 1) := by decide +kernel
theorem dL_account_1 : decode cL_account 1 = .ok (.iconst 0, 1) := by decide +kernel
theorem dL_account_2 : decode cL_account 2 = .ok (.aload_n 0, 1) := by decide +kernel
theorem dL_account_3 : decode cL_account 3 = .ok (.iload_n 1, 1) := by decide +kernel
theorem dL_account_4 : decode cL_account 4 = .ok (.invokevirtual 96, 3) := by decide +kernel
theorem dL_account_7 : decode cL_account 7 = .ok (.i2l, 1) := by decide +kernel
theorem dL_account_8 : decode cL_account 8 = .ok (.lastore, 1) := by decide +kernel
theorem dL_account_9 : decode cL_account 9 = .ok (.goto 6, 3) := by decide +kernel
theorem dL_account_12 : decode cL_account 12 = .ok (.astore_n 3, 1) := by decide +kernel
theorem dL_account_13 : decode cL_account 13 = .ok (.iconst 1, 1) := by decide +kernel
theorem dL_account_14 : decode cL_account 14 = .ok (.ireturn, 1) := by decide +kernel
theorem dL_account_15 : decode cL_account 15 = .ok (.iconst 0, 1) := by decide +kernel
theorem dL_account_16 : decode cL_account 16 = .ok (.ireturn, 1) := by decide +kernel
theorem dL_meanSize_0 : decode cL_meanSize 0 = .ok (.aload_n 1, 1) := by decide +kernel
theorem dL_meanSize_1 : decode cL_meanSize 1 = .ok (.iconst 0, 1) := by decide +kernel
theorem dL_meanSize_2 : decode cL_meanSize 2 = .ok (.aload_n 0, 1) := by decide +kernel
theorem dL_meanSize_3 : decode cL_meanSize 3 = .ok (.invokevirtual 99, 3) := by decide +kernel
theorem dL_meanSize_6 : decode cL_meanSize 6 = .ok (.dastore, 1) := by decide +kernel
theorem dL_meanSize_7 : decode cL_meanSize 7 = .ok (.goto 6, 3) := by decide +kernel
theorem dL_meanSize_10 : decode cL_meanSize 10 = .ok (.astore_n 2, 1) := by decide +kernel
theorem dL_meanSize_11 : decode cL_meanSize 11 = .ok (.iconst 1, 1) := by decide +kernel
theorem dL_meanSize_12 : decode cL_meanSize 12 = .ok (.ireturn, 1) := by decide +kernel
theorem dL_meanSize_13 : decode cL_meanSize 13 = .ok (.iconst 0, 1) := by decide +kernel
theorem dL_meanSize_14 : decode cL_meanSize 14 = .ok (.ireturn, 1) := by decide +kernel
theorem dL_painted_0 : decode cL_painted 0 = .ok (.aload_n 1, 1) := by decide +kernel
theorem dL_painted_1 : decode cL_painted 1 = .ok (.iconst 0, 1) := by decide +kernel
theorem dL_painted_2 : decode cL_painted 2 = .ok (.aload_n 0, 1) := by decide +kernel
theorem dL_painted_3 : decode cL_painted 3 = .ok (.invokevirtual 105, 3) := by decide +kernel
theorem dL_painted_6 : decode cL_painted 6 = .ok (.f2d, 1) := by decide +kernel
theorem dL_painted_7 : decode cL_painted 7 = .ok (.dastore, 1) := by decide +kernel
theorem dL_painted_8 : decode cL_painted 8 = .ok (.goto 6, 3) := by decide +kernel
theorem dL_painted_11 : decode cL_painted 11 = .ok (.astore_n 2, 1) := by decide +kernel
theorem dL_painted_12 : decode cL_painted 12 = .ok (.iconst 1, 1) := by decide +kernel
theorem dL_painted_13 : decode cL_painted 13 = .ok (.ireturn, 1) := by decide +kernel
theorem dL_painted_14 : decode cL_painted 14 = .ok (.iconst 0, 1) := by decide +kernel
theorem dL_painted_15 : decode cL_painted 15 = .ok (.ireturn, 1) := by decide +kernel
theorem dL_undo_0 : decode cL_undo 0 = .ok (.aload_n 1, 1) := by decide +kernel
theorem dL_undo_1 : decode cL_undo 1 = .ok (.iconst 0, 1) := by decide +kernel
theorem dL_undo_2 : decode cL_undo 2 = .ok (.aload_n 0, 1) := by decide +kernel
theorem dL_undo_3 : decode cL_undo 3 = .ok (.invokevirtual 109, 3) := by decide +kernel
theorem dL_undo_6 : decode cL_undo 6 = .ok (.i2l, 1) := by decide +kernel
theorem dL_undo_7 : decode cL_undo 7 = .ok (.lastore, 1) := by decide +kernel
theorem dL_undo_8 : decode cL_undo 8 = .ok (.goto 6, 3) := by decide +kernel
theorem dL_undo_11 : decode cL_undo 11 = .ok (.astore_n 2, 1) := by decide +kernel
theorem dL_undo_12 : decode cL_undo 12 = .ok (.iconst 1, 1) := by decide +kernel
theorem dL_undo_13 : decode cL_undo 13 = .ok (.ireturn, 1) := by decide +kernel
theorem dL_undo_14 : decode cL_undo 14 = .ok (.iconst 0, 1) := by decide +kernel
theorem dL_undo_15 : decode cL_undo 15 = .ok (.ireturn, 1) := by decide +kernel
theorem dL_restore_0 : decode cL_restore 0 = .ok (.aload_n 1, 1) := by decide +kernel
theorem dL_restore_1 : decode cL_restore 1 = .ok (.iconst 0, 1) := by decide +kernel
theorem dL_restore_2 : decode cL_restore 2 = .ok (.aload_n 0, 1) := by decide +kernel
theorem dL_restore_3 : decode cL_restore 3 = .ok (.invokevirtual 112, 3) := by decide +kernel
theorem dL_restore_6 : decode cL_restore 6 = .ok (.i2l, 1) := by decide +kernel
theorem dL_restore_7 : decode cL_restore 7 = .ok (.lastore, 1) := by decide +kernel
theorem dL_restore_8 : decode cL_restore 8 = .ok (.goto 6, 3) := by decide +kernel
theorem dL_restore_11 : decode cL_restore 11 = .ok (.astore_n 2, 1) := by decide +kernel
theorem dL_restore_12 : decode cL_restore 12 = .ok (.iconst 1, 1) := by decide +kernel
theorem dL_restore_13 : decode cL_restore 13 = .ok (.ireturn, 1) := by decide +kernel
theorem dL_restore_14 : decode cL_restore 14 = .ok (.iconst 0, 1) := by decide +kernel
theorem dL_restore_15 : decode cL_restore 15 = .ok (.ireturn, 1) := by decide +kernel
theorem dL_law_0 : decode cL_law 0 = .ok (.new 8, 3) := by decide +kernel
theorem dL_law_3 : decode cL_law 3 = .ok (.dup, 1) := by decide +kernel
theorem dL_law_4 : decode cL_law 4 = .ok (.invokespecial 115, 3) := by decide +kernel
theorem dL_law_7 : decode cL_law 7 = .ok (.astore_n 1, 1) := by decide +kernel
theorem dL_law_8 : decode cL_law 8 = .ok (.new 116, 3) := by decide +kernel
theorem dL_law_11 : decode cL_law 11 = .ok (.dup, 1) := by decide +kernel
theorem dL_law_12 : decode cL_law 12 = .ok (.invokespecial 118, 3) := by decide +kernel
theorem dL_law_15 : decode cL_law 15 = .ok (.astore_n 2, 1) := by decide +kernel
theorem dL_law_16 : decode cL_law 16 = .ok (.iconst 1, 1) := by decide +kernel
theorem dL_law_17 : decode cL_law 17 = .ok (.newarray .long, 2) := by decide +kernel
theorem dL_law_19 : decode cL_law 19 = .ok (.astore_n 3, 1) := by decide +kernel
theorem dL_law_20 : decode cL_law 20 = .ok (.iconst 1, 1) := by decide +kernel
theorem dL_law_21 : decode cL_law 21 = .ok (.newarray .double, 2) := by decide +kernel
theorem dL_law_23 : decode cL_law 23 = .ok (.astore 4, 2) := by decide +kernel
theorem dL_law_25 : decode cL_law 25 = .ok (.iconst 0, 1) := by decide +kernel
theorem dL_law_26 : decode cL_law 26 = .ok (.istore 5, 2) := by decide +kernel
theorem dL_law_28 : decode cL_law 28 = .ok (.iload 5, 2) := by decide +kernel
theorem dL_law_30 : decode cL_law 30 = .ok (.aload_n 0, 1) := by decide +kernel
theorem dL_law_31 : decode cL_law 31 = .ok (.arraylength, 1) := by decide +kernel
theorem dL_law_32 : decode cL_law 32 = .ok (.iconst 4, 1) := by decide +kernel
theorem dL_law_33 : decode cL_law 33 = .ok (.isub, 1) := by decide +kernel
theorem dL_law_34 : decode cL_law 34 = .ok (.if_icmp .gt 1928, 3) := by decide +kernel
theorem dL_law_37 : decode cL_law 37 = .ok (.aload_n 0, 1) := by decide +kernel
theorem dL_law_38 : decode cL_law 38 = .ok (.iload 5, 2) := by decide +kernel
theorem dL_law_40 : decode cL_law 40 = .ok (.iaload, 1) := by decide +kernel
theorem dL_law_41 : decode cL_law 41 = .ok (.bipush 63, 2) := by decide +kernel
theorem dL_law_43 : decode cL_law 43 = .ok (.iand, 1) := by decide +kernel
theorem dL_law_44 : decode cL_law 44 = .ok (.tableswitch 1912 0 35 #[160, 216, 284, 352, 427, 495, 551, 619, 687, 755, 823, 867, 880, 936, 980, 1024, 1080, 1160, 1173, 1186, 1199, 1255, 1299, 1312, 1368, 1424, 1482, 1526, 1539, 1611, 1667, 1680, 1745, 1811, 1855, 1868], 160) := by decide +kernel
theorem dL_law_204 : decode cL_law 204 = .ok (.aload_n 1, 1) := by decide +kernel
theorem dL_law_205 : decode cL_law 205 = .ok (.aload_n 0, 1) := by decide +kernel
theorem dL_law_206 : decode cL_law 206 = .ok (.iload 5, 2) := by decide +kernel
theorem dL_law_208 : decode cL_law 208 = .ok (.iconst 1, 1) := by decide +kernel
theorem dL_law_209 : decode cL_law 209 = .ok (.iadd, 1) := by decide +kernel
theorem dL_law_210 : decode cL_law 210 = .ok (.iaload, 1) := by decide +kernel
theorem dL_law_211 : decode cL_law 211 = .ok (.aload_n 3, 1) := by decide +kernel
theorem dL_law_212 : decode cL_law 212 = .ok (.invokestatic 119, 3) := by decide +kernel
theorem dL_law_215 : decode cL_law 215 = .ok (.istore 6, 2) := by decide +kernel
theorem dL_law_217 : decode cL_law 217 = .ok (.aload_n 2, 1) := by decide +kernel
theorem dL_law_218 : decode cL_law 218 = .ok (.aload_n 0, 1) := by decide +kernel
theorem dL_law_219 : decode cL_law 219 = .ok (.iload 5, 2) := by decide +kernel
theorem dL_law_221 : decode cL_law 221 = .ok (.iconst 1, 1) := by decide +kernel
theorem dL_law_222 : decode cL_law 222 = .ok (.iadd, 1) := by decide +kernel
theorem dL_law_223 : decode cL_law 223 = .ok (.iaload, 1) := by decide +kernel
theorem dL_law_224 : decode cL_law 224 = .ok (.invokevirtual 124, 3) := by decide +kernel
theorem dL_law_227 : decode cL_law 227 = .ok (.istore 7, 2) := by decide +kernel
theorem dL_law_229 : decode cL_law 229 = .ok (.aload_n 2, 1) := by decide +kernel
theorem dL_law_230 : decode cL_law 230 = .ok (.invokevirtual 125, 3) := by decide +kernel
theorem dL_law_233 : decode cL_law 233 = .ok (.iload 6, 2) := by decide +kernel
theorem dL_law_235 : decode cL_law 235 = .ok (.if_icmp .eq 5, 3) := by decide +kernel
theorem dL_law_238 : decode cL_law 238 = .ok (.iconst 0, 1) := by decide +kernel
theorem dL_law_239 : decode cL_law 239 = .ok (.ireturn, 1) := by decide +kernel
theorem dL_law_240 : decode cL_law 240 = .ok (.iload 6, 2) := by decide +kernel
theorem dL_law_242 : decode cL_law 242 = .ok (.ifCond .ne 15, 3) := by decide +kernel
theorem dL_law_245 : decode cL_law 245 = .ok (.aload_n 3, 1) := by decide +kernel
theorem dL_law_246 : decode cL_law 246 = .ok (.iconst 0, 1) := by decide +kernel
theorem dL_law_247 : decode cL_law 247 = .ok (.laload, 1) := by decide +kernel
theorem dL_law_248 : decode cL_law 248 = .ok (.iload 7, 2) := by decide +kernel
theorem dL_law_250 : decode cL_law 250 = .ok (.i2l, 1) := by decide +kernel
theorem dL_law_251 : decode cL_law 251 = .ok (.lcmp, 1) := by decide +kernel
theorem dL_law_252 : decode cL_law 252 = .ok (.ifCond .eq 5, 3) := by decide +kernel
theorem dL_law_255 : decode cL_law 255 = .ok (.iconst 0, 1) := by decide +kernel
theorem dL_law_256 : decode cL_law 256 = .ok (.ireturn, 1) := by decide +kernel
theorem dL_law_257 : decode cL_law 257 = .ok (.goto 1699, 3) := by decide +kernel
theorem dL_law_260 : decode cL_law 260 = .ok (.aload_n 1, 1) := by decide +kernel
theorem dL_law_261 : decode cL_law 261 = .ok (.aload_n 0, 1) := by decide +kernel
theorem dL_law_262 : decode cL_law 262 = .ok (.iload 5, 2) := by decide +kernel
theorem dL_law_264 : decode cL_law 264 = .ok (.iconst 1, 1) := by decide +kernel
theorem dL_law_265 : decode cL_law 265 = .ok (.iadd, 1) := by decide +kernel
theorem dL_law_266 : decode cL_law 266 = .ok (.iaload, 1) := by decide +kernel
theorem dL_law_267 : decode cL_law 267 = .ok (.aload_n 0, 1) := by decide +kernel
theorem dL_law_268 : decode cL_law 268 = .ok (.iload 5, 2) := by decide +kernel
theorem dL_law_270 : decode cL_law 270 = .ok (.iconst 2, 1) := by decide +kernel
theorem dL_law_271 : decode cL_law 271 = .ok (.iadd, 1) := by decide +kernel
theorem dL_law_272 : decode cL_law 272 = .ok (.iaload, 1) := by decide +kernel
theorem dL_law_273 : decode cL_law 273 = .ok (.aload_n 3, 1) := by decide +kernel
theorem dL_law_274 : decode cL_law 274 = .ok (.invokestatic 128, 3) := by decide +kernel
theorem dL_law_277 : decode cL_law 277 = .ok (.istore 6, 2) := by decide +kernel
theorem dL_law_279 : decode cL_law 279 = .ok (.aload_n 2, 1) := by decide +kernel
theorem dL_law_280 : decode cL_law 280 = .ok (.aload_n 0, 1) := by decide +kernel
theorem dL_law_281 : decode cL_law 281 = .ok (.iload 5, 2) := by decide +kernel
theorem dL_law_283 : decode cL_law 283 = .ok (.iconst 1, 1) := by decide +kernel
theorem dL_law_284 : decode cL_law 284 = .ok (.iadd, 1) := by decide +kernel
theorem dL_law_285 : decode cL_law 285 = .ok (.iaload, 1) := by decide +kernel
theorem dL_law_286 : decode cL_law 286 = .ok (.aload_n 0, 1) := by decide +kernel
theorem dL_law_287 : decode cL_law 287 = .ok (.iload 5, 2) := by decide +kernel
theorem dL_law_289 : decode cL_law 289 = .ok (.iconst 2, 1) := by decide +kernel
theorem dL_law_290 : decode cL_law 290 = .ok (.iadd, 1) := by decide +kernel
theorem dL_law_291 : decode cL_law 291 = .ok (.iaload, 1) := by decide +kernel
theorem dL_law_292 : decode cL_law 292 = .ok (.invokevirtual 131, 3) := by decide +kernel
theorem dL_law_295 : decode cL_law 295 = .ok (.istore 7, 2) := by decide +kernel
theorem dL_law_297 : decode cL_law 297 = .ok (.aload_n 2, 1) := by decide +kernel
theorem dL_law_298 : decode cL_law 298 = .ok (.invokevirtual 125, 3) := by decide +kernel
theorem dL_law_301 : decode cL_law 301 = .ok (.iload 6, 2) := by decide +kernel
theorem dL_law_303 : decode cL_law 303 = .ok (.if_icmp .eq 5, 3) := by decide +kernel
theorem dL_law_306 : decode cL_law 306 = .ok (.iconst 0, 1) := by decide +kernel
theorem dL_law_307 : decode cL_law 307 = .ok (.ireturn, 1) := by decide +kernel
theorem dL_law_308 : decode cL_law 308 = .ok (.iload 6, 2) := by decide +kernel
theorem dL_law_310 : decode cL_law 310 = .ok (.ifCond .ne 15, 3) := by decide +kernel
theorem dL_law_313 : decode cL_law 313 = .ok (.aload_n 3, 1) := by decide +kernel
theorem dL_law_314 : decode cL_law 314 = .ok (.iconst 0, 1) := by decide +kernel
theorem dL_law_315 : decode cL_law 315 = .ok (.laload, 1) := by decide +kernel
theorem dL_law_316 : decode cL_law 316 = .ok (.iload 7, 2) := by decide +kernel
theorem dL_law_318 : decode cL_law 318 = .ok (.i2l, 1) := by decide +kernel
theorem dL_law_319 : decode cL_law 319 = .ok (.lcmp, 1) := by decide +kernel
theorem dL_law_320 : decode cL_law 320 = .ok (.ifCond .eq 5, 3) := by decide +kernel
theorem dL_law_323 : decode cL_law 323 = .ok (.iconst 0, 1) := by decide +kernel
theorem dL_law_324 : decode cL_law 324 = .ok (.ireturn, 1) := by decide +kernel
theorem dL_law_325 : decode cL_law 325 = .ok (.goto 1631, 3) := by decide +kernel
theorem dL_law_328 : decode cL_law 328 = .ok (.aload_n 1, 1) := by decide +kernel
theorem dL_law_329 : decode cL_law 329 = .ok (.aload_n 0, 1) := by decide +kernel
theorem dL_law_330 : decode cL_law 330 = .ok (.iload 5, 2) := by decide +kernel
theorem dL_law_332 : decode cL_law 332 = .ok (.iconst 1, 1) := by decide +kernel
theorem dL_law_333 : decode cL_law 333 = .ok (.iadd, 1) := by decide +kernel
theorem dL_law_334 : decode cL_law 334 = .ok (.iaload, 1) := by decide +kernel
theorem dL_law_335 : decode cL_law 335 = .ok (.aload_n 0, 1) := by decide +kernel
theorem dL_law_336 : decode cL_law 336 = .ok (.iload 5, 2) := by decide +kernel
theorem dL_law_338 : decode cL_law 338 = .ok (.iconst 2, 1) := by decide +kernel
theorem dL_law_339 : decode cL_law 339 = .ok (.iadd, 1) := by decide +kernel
theorem dL_law_340 : decode cL_law 340 = .ok (.iaload, 1) := by decide +kernel
theorem dL_law_341 : decode cL_law 341 = .ok (.aload_n 3, 1) := by decide +kernel
theorem dL_law_342 : decode cL_law 342 = .ok (.invokestatic 132, 3) := by decide +kernel
theorem dL_law_345 : decode cL_law 345 = .ok (.istore 6, 2) := by decide +kernel
theorem dL_law_347 : decode cL_law 347 = .ok (.aload_n 2, 1) := by decide +kernel
theorem dL_law_348 : decode cL_law 348 = .ok (.aload_n 0, 1) := by decide +kernel
theorem dL_law_349 : decode cL_law 349 = .ok (.iload 5, 2) := by decide +kernel
theorem dL_law_351 : decode cL_law 351 = .ok (.iconst 1, 1) := by decide +kernel
theorem dL_law_352 : decode cL_law 352 = .ok (.iadd, 1) := by decide +kernel
theorem dL_law_353 : decode cL_law 353 = .ok (.iaload, 1) := by decide +kernel
theorem dL_law_354 : decode cL_law 354 = .ok (.aload_n 0, 1) := by decide +kernel
theorem dL_law_355 : decode cL_law 355 = .ok (.iload 5, 2) := by decide +kernel
theorem dL_law_357 : decode cL_law 357 = .ok (.iconst 2, 1) := by decide +kernel
theorem dL_law_358 : decode cL_law 358 = .ok (.iadd, 1) := by decide +kernel
theorem dL_law_359 : decode cL_law 359 = .ok (.iaload, 1) := by decide +kernel
theorem dL_law_360 : decode cL_law 360 = .ok (.invokevirtual 134, 3) := by decide +kernel
theorem dL_law_363 : decode cL_law 363 = .ok (.istore 7, 2) := by decide +kernel
theorem dL_law_365 : decode cL_law 365 = .ok (.aload_n 2, 1) := by decide +kernel
theorem dL_law_366 : decode cL_law 366 = .ok (.invokevirtual 125, 3) := by decide +kernel
theorem dL_law_369 : decode cL_law 369 = .ok (.iload 6, 2) := by decide +kernel
theorem dL_law_371 : decode cL_law 371 = .ok (.if_icmp .eq 5, 3) := by decide +kernel
theorem dL_law_374 : decode cL_law 374 = .ok (.iconst 0, 1) := by decide +kernel
theorem dL_law_375 : decode cL_law 375 = .ok (.ireturn, 1) := by decide +kernel
theorem dL_law_376 : decode cL_law 376 = .ok (.iload 6, 2) := by decide +kernel
theorem dL_law_378 : decode cL_law 378 = .ok (.ifCond .ne 15, 3) := by decide +kernel
theorem dL_law_381 : decode cL_law 381 = .ok (.aload_n 3, 1) := by decide +kernel
theorem dL_law_382 : decode cL_law 382 = .ok (.iconst 0, 1) := by decide +kernel
theorem dL_law_383 : decode cL_law 383 = .ok (.laload, 1) := by decide +kernel
theorem dL_law_384 : decode cL_law 384 = .ok (.iload 7, 2) := by decide +kernel
theorem dL_law_386 : decode cL_law 386 = .ok (.i2l, 1) := by decide +kernel
theorem dL_law_387 : decode cL_law 387 = .ok (.lcmp, 1) := by decide +kernel
theorem dL_law_388 : decode cL_law 388 = .ok (.ifCond .eq 5, 3) := by decide +kernel
theorem dL_law_391 : decode cL_law 391 = .ok (.iconst 0, 1) := by decide +kernel
theorem dL_law_392 : decode cL_law 392 = .ok (.ireturn, 1) := by decide +kernel
theorem dL_law_393 : decode cL_law 393 = .ok (.goto 1563, 3) := by decide +kernel
theorem dL_law_396 : decode cL_law 396 = .ok (.aload_n 1, 1) := by decide +kernel
theorem dL_law_397 : decode cL_law 397 = .ok (.aload_n 0, 1) := by decide +kernel
theorem dL_law_398 : decode cL_law 398 = .ok (.iload 5, 2) := by decide +kernel
theorem dL_law_400 : decode cL_law 400 = .ok (.iconst 1, 1) := by decide +kernel
theorem dL_law_401 : decode cL_law 401 = .ok (.iadd, 1) := by decide +kernel
theorem dL_law_402 : decode cL_law 402 = .ok (.iaload, 1) := by decide +kernel
theorem dL_law_403 : decode cL_law 403 = .ok (.aload_n 0, 1) := by decide +kernel
theorem dL_law_404 : decode cL_law 404 = .ok (.iload 5, 2) := by decide +kernel
theorem dL_law_406 : decode cL_law 406 = .ok (.iconst 2, 1) := by decide +kernel
theorem dL_law_407 : decode cL_law 407 = .ok (.iadd, 1) := by decide +kernel
theorem dL_law_408 : decode cL_law 408 = .ok (.iaload, 1) := by decide +kernel
theorem dL_law_409 : decode cL_law 409 = .ok (.aload_n 3, 1) := by decide +kernel
theorem dL_law_410 : decode cL_law 410 = .ok (.invokestatic 135, 3) := by decide +kernel
theorem dL_law_413 : decode cL_law 413 = .ok (.istore 6, 2) := by decide +kernel
theorem dL_law_415 : decode cL_law 415 = .ok (.aload_n 2, 1) := by decide +kernel
theorem dL_law_416 : decode cL_law 416 = .ok (.aload_n 0, 1) := by decide +kernel
theorem dL_law_417 : decode cL_law 417 = .ok (.iload 5, 2) := by decide +kernel
theorem dL_law_419 : decode cL_law 419 = .ok (.iconst 1, 1) := by decide +kernel
theorem dL_law_420 : decode cL_law 420 = .ok (.iadd, 1) := by decide +kernel
theorem dL_law_421 : decode cL_law 421 = .ok (.iaload, 1) := by decide +kernel
theorem dL_law_422 : decode cL_law 422 = .ok (.aload_n 0, 1) := by decide +kernel
theorem dL_law_423 : decode cL_law 423 = .ok (.iload 5, 2) := by decide +kernel
theorem dL_law_425 : decode cL_law 425 = .ok (.iconst 2, 1) := by decide +kernel
theorem dL_law_426 : decode cL_law 426 = .ok (.iadd, 1) := by decide +kernel
theorem dL_law_427 : decode cL_law 427 = .ok (.iaload, 1) := by decide +kernel
theorem dL_law_428 : decode cL_law 428 = .ok (.invokevirtual 137, 3) := by decide +kernel
theorem dL_law_431 : decode cL_law 431 = .ok (.istore 7, 2) := by decide +kernel
theorem dL_law_433 : decode cL_law 433 = .ok (.aload_n 2, 1) := by decide +kernel
theorem dL_law_434 : decode cL_law 434 = .ok (.invokevirtual 125, 3) := by decide +kernel
theorem dL_law_437 : decode cL_law 437 = .ok (.iload 6, 2) := by decide +kernel
theorem dL_law_439 : decode cL_law 439 = .ok (.if_icmp .eq 5, 3) := by decide +kernel
theorem dL_law_442 : decode cL_law 442 = .ok (.iconst 0, 1) := by decide +kernel
theorem dL_law_443 : decode cL_law 443 = .ok (.ireturn, 1) := by decide +kernel
theorem dL_law_444 : decode cL_law 444 = .ok (.iload 6, 2) := by decide +kernel
theorem dL_law_446 : decode cL_law 446 = .ok (.ifCond .ne 22, 3) := by decide +kernel
theorem dL_law_449 : decode cL_law 449 = .ok (.aload_n 3, 1) := by decide +kernel
theorem dL_law_450 : decode cL_law 450 = .ok (.iconst 0, 1) := by decide +kernel
theorem dL_law_451 : decode cL_law 451 = .ok (.laload, 1) := by decide +kernel
theorem dL_law_452 : decode cL_law 452 = .ok (.iload 7, 2) := by decide +kernel
theorem dL_law_454 : decode cL_law 454 = .ok (.ifCond .eq 7, 3) := by decide +kernel
theorem dL_law_457 : decode cL_law 457 = .ok (.lconst 1, 1) := by decide +kernel
theorem dL_law_458 : decode cL_law 458 = .ok (.goto 4, 3) := by decide +kernel
theorem dL_law_461 : decode cL_law 461 = .ok (.lconst 0, 1) := by decide +kernel
theorem dL_law_462 : decode cL_law 462 = .ok (.lcmp, 1) := by decide +kernel
theorem dL_law_463 : decode cL_law 463 = .ok (.ifCond .eq 5, 3) := by decide +kernel
theorem dL_law_466 : decode cL_law 466 = .ok (.iconst 0, 1) := by decide +kernel
theorem dL_law_467 : decode cL_law 467 = .ok (.ireturn, 1) := by decide +kernel
theorem dL_law_468 : decode cL_law 468 = .ok (.goto 1488, 3) := by decide +kernel
theorem dL_law_471 : decode cL_law 471 = .ok (.aload_n 1, 1) := by decide +kernel
theorem dL_law_472 : decode cL_law 472 = .ok (.aload_n 0, 1) := by decide +kernel
theorem dL_law_473 : decode cL_law 473 = .ok (.iload 5, 2) := by decide +kernel
theorem dL_law_475 : decode cL_law 475 = .ok (.iconst 1, 1) := by decide +kernel
theorem dL_law_476 : decode cL_law 476 = .ok (.iadd, 1) := by decide +kernel
theorem dL_law_477 : decode cL_law 477 = .ok (.iaload, 1) := by decide +kernel
theorem dL_law_478 : decode cL_law 478 = .ok (.aload_n 0, 1) := by decide +kernel
theorem dL_law_479 : decode cL_law 479 = .ok (.iload 5, 2) := by decide +kernel
theorem dL_law_481 : decode cL_law 481 = .ok (.iconst 2, 1) := by decide +kernel
theorem dL_law_482 : decode cL_law 482 = .ok (.iadd, 1) := by decide +kernel
theorem dL_law_483 : decode cL_law 483 = .ok (.iaload, 1) := by decide +kernel
theorem dL_law_484 : decode cL_law 484 = .ok (.aload_n 3, 1) := by decide +kernel
theorem dL_law_485 : decode cL_law 485 = .ok (.invokestatic 138, 3) := by decide +kernel
theorem dL_law_488 : decode cL_law 488 = .ok (.istore 6, 2) := by decide +kernel
theorem dL_law_490 : decode cL_law 490 = .ok (.aload_n 2, 1) := by decide +kernel
theorem dL_law_491 : decode cL_law 491 = .ok (.aload_n 0, 1) := by decide +kernel
theorem dL_law_492 : decode cL_law 492 = .ok (.iload 5, 2) := by decide +kernel
theorem dL_law_494 : decode cL_law 494 = .ok (.iconst 1, 1) := by decide +kernel
theorem dL_law_495 : decode cL_law 495 = .ok (.iadd, 1) := by decide +kernel
theorem dL_law_496 : decode cL_law 496 = .ok (.iaload, 1) := by decide +kernel
theorem dL_law_497 : decode cL_law 497 = .ok (.aload_n 0, 1) := by decide +kernel
theorem dL_law_498 : decode cL_law 498 = .ok (.iload 5, 2) := by decide +kernel
theorem dL_law_500 : decode cL_law 500 = .ok (.iconst 2, 1) := by decide +kernel
theorem dL_law_501 : decode cL_law 501 = .ok (.iadd, 1) := by decide +kernel
theorem dL_law_502 : decode cL_law 502 = .ok (.iaload, 1) := by decide +kernel
theorem dL_law_503 : decode cL_law 503 = .ok (.invokevirtual 140, 3) := by decide +kernel
theorem dL_law_506 : decode cL_law 506 = .ok (.istore 7, 2) := by decide +kernel
theorem dL_law_508 : decode cL_law 508 = .ok (.aload_n 2, 1) := by decide +kernel
theorem dL_law_509 : decode cL_law 509 = .ok (.invokevirtual 125, 3) := by decide +kernel
theorem dL_law_512 : decode cL_law 512 = .ok (.iload 6, 2) := by decide +kernel
theorem dL_law_514 : decode cL_law 514 = .ok (.if_icmp .eq 5, 3) := by decide +kernel
theorem dL_law_517 : decode cL_law 517 = .ok (.iconst 0, 1) := by decide +kernel
theorem dL_law_518 : decode cL_law 518 = .ok (.ireturn, 1) := by decide +kernel
theorem dL_law_519 : decode cL_law 519 = .ok (.iload 6, 2) := by decide +kernel
theorem dL_law_521 : decode cL_law 521 = .ok (.ifCond .ne 15, 3) := by decide +kernel
theorem dL_law_524 : decode cL_law 524 = .ok (.aload_n 3, 1) := by decide +kernel
theorem dL_law_525 : decode cL_law 525 = .ok (.iconst 0, 1) := by decide +kernel
theorem dL_law_526 : decode cL_law 526 = .ok (.laload, 1) := by decide +kernel
theorem dL_law_527 : decode cL_law 527 = .ok (.iload 7, 2) := by decide +kernel
theorem dL_law_529 : decode cL_law 529 = .ok (.i2l, 1) := by decide +kernel
theorem dL_law_530 : decode cL_law 530 = .ok (.lcmp, 1) := by decide +kernel
theorem dL_law_531 : decode cL_law 531 = .ok (.ifCond .eq 5, 3) := by decide +kernel
theorem dL_law_534 : decode cL_law 534 = .ok (.iconst 0, 1) := by decide +kernel
theorem dL_law_535 : decode cL_law 535 = .ok (.ireturn, 1) := by decide +kernel
theorem dL_law_536 : decode cL_law 536 = .ok (.goto 1420, 3) := by decide +kernel
theorem dL_law_539 : decode cL_law 539 = .ok (.aload_n 1, 1) := by decide +kernel
theorem dL_law_540 : decode cL_law 540 = .ok (.aload_n 0, 1) := by decide +kernel
theorem dL_law_541 : decode cL_law 541 = .ok (.iload 5, 2) := by decide +kernel
theorem dL_law_543 : decode cL_law 543 = .ok (.iconst 1, 1) := by decide +kernel
theorem dL_law_544 : decode cL_law 544 = .ok (.iadd, 1) := by decide +kernel
theorem dL_law_545 : decode cL_law 545 = .ok (.iaload, 1) := by decide +kernel
theorem dL_law_546 : decode cL_law 546 = .ok (.aload_n 3, 1) := by decide +kernel
theorem dL_law_547 : decode cL_law 547 = .ok (.invokestatic 141, 3) := by decide +kernel
theorem dL_law_550 : decode cL_law 550 = .ok (.istore 6, 2) := by decide +kernel
theorem dL_law_552 : decode cL_law 552 = .ok (.aload_n 2, 1) := by decide +kernel
theorem dL_law_553 : decode cL_law 553 = .ok (.aload_n 0, 1) := by decide +kernel
theorem dL_law_554 : decode cL_law 554 = .ok (.iload 5, 2) := by decide +kernel
theorem dL_law_556 : decode cL_law 556 = .ok (.iconst 1, 1) := by decide +kernel
theorem dL_law_557 : decode cL_law 557 = .ok (.iadd, 1) := by decide +kernel
theorem dL_law_558 : decode cL_law 558 = .ok (.iaload, 1) := by decide +kernel
theorem dL_law_559 : decode cL_law 559 = .ok (.invokevirtual 143, 3) := by decide +kernel
theorem dL_law_562 : decode cL_law 562 = .ok (.istore 7, 2) := by decide +kernel
theorem dL_law_564 : decode cL_law 564 = .ok (.aload_n 2, 1) := by decide +kernel
theorem dL_law_565 : decode cL_law 565 = .ok (.invokevirtual 125, 3) := by decide +kernel
theorem dL_law_568 : decode cL_law 568 = .ok (.iload 6, 2) := by decide +kernel
theorem dL_law_570 : decode cL_law 570 = .ok (.if_icmp .eq 5, 3) := by decide +kernel
theorem dL_law_573 : decode cL_law 573 = .ok (.iconst 0, 1) := by decide +kernel
theorem dL_law_574 : decode cL_law 574 = .ok (.ireturn, 1) := by decide +kernel
theorem dL_law_575 : decode cL_law 575 = .ok (.iload 6, 2) := by decide +kernel
theorem dL_law_577 : decode cL_law 577 = .ok (.ifCond .ne 15, 3) := by decide +kernel
theorem dL_law_580 : decode cL_law 580 = .ok (.aload_n 3, 1) := by decide +kernel
theorem dL_law_581 : decode cL_law 581 = .ok (.iconst 0, 1) := by decide +kernel
theorem dL_law_582 : decode cL_law 582 = .ok (.laload, 1) := by decide +kernel
theorem dL_law_583 : decode cL_law 583 = .ok (.iload 7, 2) := by decide +kernel
theorem dL_law_585 : decode cL_law 585 = .ok (.i2l, 1) := by decide +kernel
theorem dL_law_586 : decode cL_law 586 = .ok (.lcmp, 1) := by decide +kernel
theorem dL_law_587 : decode cL_law 587 = .ok (.ifCond .eq 5, 3) := by decide +kernel
theorem dL_law_590 : decode cL_law 590 = .ok (.iconst 0, 1) := by decide +kernel
theorem dL_law_591 : decode cL_law 591 = .ok (.ireturn, 1) := by decide +kernel
theorem dL_law_592 : decode cL_law 592 = .ok (.goto 1364, 3) := by decide +kernel
theorem dL_law_595 : decode cL_law 595 = .ok (.aload_n 1, 1) := by decide +kernel
theorem dL_law_596 : decode cL_law 596 = .ok (.aload_n 0, 1) := by decide +kernel
theorem dL_law_597 : decode cL_law 597 = .ok (.iload 5, 2) := by decide +kernel
theorem dL_law_599 : decode cL_law 599 = .ok (.iconst 1, 1) := by decide +kernel
theorem dL_law_600 : decode cL_law 600 = .ok (.iadd, 1) := by decide +kernel
theorem dL_law_601 : decode cL_law 601 = .ok (.iaload, 1) := by decide +kernel
theorem dL_law_602 : decode cL_law 602 = .ok (.aload_n 0, 1) := by decide +kernel
theorem dL_law_603 : decode cL_law 603 = .ok (.iload 5, 2) := by decide +kernel
theorem dL_law_605 : decode cL_law 605 = .ok (.iconst 2, 1) := by decide +kernel
theorem dL_law_606 : decode cL_law 606 = .ok (.iadd, 1) := by decide +kernel
theorem dL_law_607 : decode cL_law 607 = .ok (.iaload, 1) := by decide +kernel
theorem dL_law_608 : decode cL_law 608 = .ok (.aload_n 3, 1) := by decide +kernel
theorem dL_law_609 : decode cL_law 609 = .ok (.invokestatic 144, 3) := by decide +kernel
theorem dL_law_612 : decode cL_law 612 = .ok (.istore 6, 2) := by decide +kernel
theorem dL_law_614 : decode cL_law 614 = .ok (.aload_n 2, 1) := by decide +kernel
theorem dL_law_615 : decode cL_law 615 = .ok (.aload_n 0, 1) := by decide +kernel
theorem dL_law_616 : decode cL_law 616 = .ok (.iload 5, 2) := by decide +kernel
theorem dL_law_618 : decode cL_law 618 = .ok (.iconst 1, 1) := by decide +kernel
theorem dL_law_619 : decode cL_law 619 = .ok (.iadd, 1) := by decide +kernel
theorem dL_law_620 : decode cL_law 620 = .ok (.iaload, 1) := by decide +kernel
theorem dL_law_621 : decode cL_law 621 = .ok (.aload_n 0, 1) := by decide +kernel
theorem dL_law_622 : decode cL_law 622 = .ok (.iload 5, 2) := by decide +kernel
theorem dL_law_624 : decode cL_law 624 = .ok (.iconst 2, 1) := by decide +kernel
theorem dL_law_625 : decode cL_law 625 = .ok (.iadd, 1) := by decide +kernel
theorem dL_law_626 : decode cL_law 626 = .ok (.iaload, 1) := by decide +kernel
theorem dL_law_627 : decode cL_law 627 = .ok (.invokevirtual 146, 3) := by decide +kernel
theorem dL_law_630 : decode cL_law 630 = .ok (.istore 7, 2) := by decide +kernel
theorem dL_law_632 : decode cL_law 632 = .ok (.aload_n 2, 1) := by decide +kernel
theorem dL_law_633 : decode cL_law 633 = .ok (.invokevirtual 125, 3) := by decide +kernel
theorem dL_law_636 : decode cL_law 636 = .ok (.iload 6, 2) := by decide +kernel
theorem dL_law_638 : decode cL_law 638 = .ok (.if_icmp .eq 5, 3) := by decide +kernel
theorem dL_law_641 : decode cL_law 641 = .ok (.iconst 0, 1) := by decide +kernel
theorem dL_law_642 : decode cL_law 642 = .ok (.ireturn, 1) := by decide +kernel
theorem dL_law_643 : decode cL_law 643 = .ok (.iload 6, 2) := by decide +kernel
theorem dL_law_645 : decode cL_law 645 = .ok (.ifCond .ne 15, 3) := by decide +kernel
theorem dL_law_648 : decode cL_law 648 = .ok (.aload_n 3, 1) := by decide +kernel
theorem dL_law_649 : decode cL_law 649 = .ok (.iconst 0, 1) := by decide +kernel
theorem dL_law_650 : decode cL_law 650 = .ok (.laload, 1) := by decide +kernel
theorem dL_law_651 : decode cL_law 651 = .ok (.iload 7, 2) := by decide +kernel
theorem dL_law_653 : decode cL_law 653 = .ok (.i2l, 1) := by decide +kernel
theorem dL_law_654 : decode cL_law 654 = .ok (.lcmp, 1) := by decide +kernel
theorem dL_law_655 : decode cL_law 655 = .ok (.ifCond .eq 5, 3) := by decide +kernel
theorem dL_law_658 : decode cL_law 658 = .ok (.iconst 0, 1) := by decide +kernel
theorem dL_law_659 : decode cL_law 659 = .ok (.ireturn, 1) := by decide +kernel
theorem dL_law_660 : decode cL_law 660 = .ok (.goto 1296, 3) := by decide +kernel
theorem dL_law_663 : decode cL_law 663 = .ok (.aload_n 1, 1) := by decide +kernel
theorem dL_law_664 : decode cL_law 664 = .ok (.aload_n 0, 1) := by decide +kernel
theorem dL_law_665 : decode cL_law 665 = .ok (.iload 5, 2) := by decide +kernel
theorem dL_law_667 : decode cL_law 667 = .ok (.iconst 1, 1) := by decide +kernel
theorem dL_law_668 : decode cL_law 668 = .ok (.iadd, 1) := by decide +kernel
theorem dL_law_669 : decode cL_law 669 = .ok (.iaload, 1) := by decide +kernel
theorem dL_law_670 : decode cL_law 670 = .ok (.aload_n 0, 1) := by decide +kernel
theorem dL_law_671 : decode cL_law 671 = .ok (.iload 5, 2) := by decide +kernel
theorem dL_law_673 : decode cL_law 673 = .ok (.iconst 2, 1) := by decide +kernel
theorem dL_law_674 : decode cL_law 674 = .ok (.iadd, 1) := by decide +kernel
theorem dL_law_675 : decode cL_law 675 = .ok (.iaload, 1) := by decide +kernel
theorem dL_law_676 : decode cL_law 676 = .ok (.aload_n 3, 1) := by decide +kernel
theorem dL_law_677 : decode cL_law 677 = .ok (.invokestatic 147, 3) := by decide +kernel
theorem dL_law_680 : decode cL_law 680 = .ok (.istore 6, 2) := by decide +kernel
theorem dL_law_682 : decode cL_law 682 = .ok (.aload_n 2, 1) := by decide +kernel
theorem dL_law_683 : decode cL_law 683 = .ok (.aload_n 0, 1) := by decide +kernel
theorem dL_law_684 : decode cL_law 684 = .ok (.iload 5, 2) := by decide +kernel
theorem dL_law_686 : decode cL_law 686 = .ok (.iconst 1, 1) := by decide +kernel
theorem dL_law_687 : decode cL_law 687 = .ok (.iadd, 1) := by decide +kernel
theorem dL_law_688 : decode cL_law 688 = .ok (.iaload, 1) := by decide +kernel
theorem dL_law_689 : decode cL_law 689 = .ok (.aload_n 0, 1) := by decide +kernel
theorem dL_law_690 : decode cL_law 690 = .ok (.iload 5, 2) := by decide +kernel
theorem dL_law_692 : decode cL_law 692 = .ok (.iconst 2, 1) := by decide +kernel
theorem dL_law_693 : decode cL_law 693 = .ok (.iadd, 1) := by decide +kernel
theorem dL_law_694 : decode cL_law 694 = .ok (.iaload, 1) := by decide +kernel
theorem dL_law_695 : decode cL_law 695 = .ok (.invokevirtual 149, 3) := by decide +kernel
theorem dL_law_698 : decode cL_law 698 = .ok (.istore 7, 2) := by decide +kernel
theorem dL_law_700 : decode cL_law 700 = .ok (.aload_n 2, 1) := by decide +kernel
theorem dL_law_701 : decode cL_law 701 = .ok (.invokevirtual 125, 3) := by decide +kernel
theorem dL_law_704 : decode cL_law 704 = .ok (.iload 6, 2) := by decide +kernel
theorem dL_law_706 : decode cL_law 706 = .ok (.if_icmp .eq 5, 3) := by decide +kernel
theorem dL_law_709 : decode cL_law 709 = .ok (.iconst 0, 1) := by decide +kernel
theorem dL_law_710 : decode cL_law 710 = .ok (.ireturn, 1) := by decide +kernel
theorem dL_law_711 : decode cL_law 711 = .ok (.iload 6, 2) := by decide +kernel
theorem dL_law_713 : decode cL_law 713 = .ok (.ifCond .ne 15, 3) := by decide +kernel
theorem dL_law_716 : decode cL_law 716 = .ok (.aload_n 3, 1) := by decide +kernel
theorem dL_law_717 : decode cL_law 717 = .ok (.iconst 0, 1) := by decide +kernel
theorem dL_law_718 : decode cL_law 718 = .ok (.laload, 1) := by decide +kernel
theorem dL_law_719 : decode cL_law 719 = .ok (.iload 7, 2) := by decide +kernel
theorem dL_law_721 : decode cL_law 721 = .ok (.i2l, 1) := by decide +kernel
theorem dL_law_722 : decode cL_law 722 = .ok (.lcmp, 1) := by decide +kernel
theorem dL_law_723 : decode cL_law 723 = .ok (.ifCond .eq 5, 3) := by decide +kernel
theorem dL_law_726 : decode cL_law 726 = .ok (.iconst 0, 1) := by decide +kernel
theorem dL_law_727 : decode cL_law 727 = .ok (.ireturn, 1) := by decide +kernel
theorem dL_law_728 : decode cL_law 728 = .ok (.goto 1228, 3) := by decide +kernel
theorem dL_law_731 : decode cL_law 731 = .ok (.aload_n 1, 1) := by decide +kernel
theorem dL_law_732 : decode cL_law 732 = .ok (.aload_n 0, 1) := by decide +kernel
theorem dL_law_733 : decode cL_law 733 = .ok (.iload 5, 2) := by decide +kernel
theorem dL_law_735 : decode cL_law 735 = .ok (.iconst 1, 1) := by decide +kernel
theorem dL_law_736 : decode cL_law 736 = .ok (.iadd, 1) := by decide +kernel
theorem dL_law_737 : decode cL_law 737 = .ok (.iaload, 1) := by decide +kernel
theorem dL_law_738 : decode cL_law 738 = .ok (.aload_n 0, 1) := by decide +kernel
theorem dL_law_739 : decode cL_law 739 = .ok (.iload 5, 2) := by decide +kernel
theorem dL_law_741 : decode cL_law 741 = .ok (.iconst 2, 1) := by decide +kernel
theorem dL_law_742 : decode cL_law 742 = .ok (.iadd, 1) := by decide +kernel
theorem dL_law_743 : decode cL_law 743 = .ok (.iaload, 1) := by decide +kernel
theorem dL_law_744 : decode cL_law 744 = .ok (.aload_n 3, 1) := by decide +kernel
theorem dL_law_745 : decode cL_law 745 = .ok (.invokestatic 150, 3) := by decide +kernel
theorem dL_law_748 : decode cL_law 748 = .ok (.istore 6, 2) := by decide +kernel
theorem dL_law_750 : decode cL_law 750 = .ok (.aload_n 2, 1) := by decide +kernel
theorem dL_law_751 : decode cL_law 751 = .ok (.aload_n 0, 1) := by decide +kernel
theorem dL_law_752 : decode cL_law 752 = .ok (.iload 5, 2) := by decide +kernel
theorem dL_law_754 : decode cL_law 754 = .ok (.iconst 1, 1) := by decide +kernel
theorem dL_law_755 : decode cL_law 755 = .ok (.iadd, 1) := by decide +kernel
theorem dL_law_756 : decode cL_law 756 = .ok (.iaload, 1) := by decide +kernel
theorem dL_law_757 : decode cL_law 757 = .ok (.aload_n 0, 1) := by decide +kernel
theorem dL_law_758 : decode cL_law 758 = .ok (.iload 5, 2) := by decide +kernel
theorem dL_law_760 : decode cL_law 760 = .ok (.iconst 2, 1) := by decide +kernel
theorem dL_law_761 : decode cL_law 761 = .ok (.iadd, 1) := by decide +kernel
theorem dL_law_762 : decode cL_law 762 = .ok (.iaload, 1) := by decide +kernel
theorem dL_law_763 : decode cL_law 763 = .ok (.invokevirtual 152, 3) := by decide +kernel
theorem dL_law_766 : decode cL_law 766 = .ok (.istore 7, 2) := by decide +kernel
theorem dL_law_768 : decode cL_law 768 = .ok (.aload_n 2, 1) := by decide +kernel
theorem dL_law_769 : decode cL_law 769 = .ok (.invokevirtual 125, 3) := by decide +kernel
theorem dL_law_772 : decode cL_law 772 = .ok (.iload 6, 2) := by decide +kernel
theorem dL_law_774 : decode cL_law 774 = .ok (.if_icmp .eq 5, 3) := by decide +kernel
theorem dL_law_777 : decode cL_law 777 = .ok (.iconst 0, 1) := by decide +kernel
theorem dL_law_778 : decode cL_law 778 = .ok (.ireturn, 1) := by decide +kernel
theorem dL_law_779 : decode cL_law 779 = .ok (.iload 6, 2) := by decide +kernel
theorem dL_law_781 : decode cL_law 781 = .ok (.ifCond .ne 15, 3) := by decide +kernel
theorem dL_law_784 : decode cL_law 784 = .ok (.aload_n 3, 1) := by decide +kernel
theorem dL_law_785 : decode cL_law 785 = .ok (.iconst 0, 1) := by decide +kernel
theorem dL_law_786 : decode cL_law 786 = .ok (.laload, 1) := by decide +kernel
theorem dL_law_787 : decode cL_law 787 = .ok (.iload 7, 2) := by decide +kernel
theorem dL_law_789 : decode cL_law 789 = .ok (.i2l, 1) := by decide +kernel
theorem dL_law_790 : decode cL_law 790 = .ok (.lcmp, 1) := by decide +kernel
theorem dL_law_791 : decode cL_law 791 = .ok (.ifCond .eq 5, 3) := by decide +kernel
theorem dL_law_794 : decode cL_law 794 = .ok (.iconst 0, 1) := by decide +kernel
theorem dL_law_795 : decode cL_law 795 = .ok (.ireturn, 1) := by decide +kernel
theorem dL_law_796 : decode cL_law 796 = .ok (.goto 1160, 3) := by decide +kernel
theorem dL_law_799 : decode cL_law 799 = .ok (.aload_n 1, 1) := by decide +kernel
theorem dL_law_800 : decode cL_law 800 = .ok (.aload_n 0, 1) := by decide +kernel
theorem dL_law_801 : decode cL_law 801 = .ok (.iload 5, 2) := by decide +kernel
theorem dL_law_803 : decode cL_law 803 = .ok (.iconst 1, 1) := by decide +kernel
theorem dL_law_804 : decode cL_law 804 = .ok (.iadd, 1) := by decide +kernel
theorem dL_law_805 : decode cL_law 805 = .ok (.iaload, 1) := by decide +kernel
theorem dL_law_806 : decode cL_law 806 = .ok (.aload_n 0, 1) := by decide +kernel
theorem dL_law_807 : decode cL_law 807 = .ok (.iload 5, 2) := by decide +kernel
theorem dL_law_809 : decode cL_law 809 = .ok (.iconst 2, 1) := by decide +kernel
theorem dL_law_810 : decode cL_law 810 = .ok (.iadd, 1) := by decide +kernel
theorem dL_law_811 : decode cL_law 811 = .ok (.iaload, 1) := by decide +kernel
theorem dL_law_812 : decode cL_law 812 = .ok (.aload_n 3, 1) := by decide +kernel
theorem dL_law_813 : decode cL_law 813 = .ok (.invokestatic 153, 3) := by decide +kernel
theorem dL_law_816 : decode cL_law 816 = .ok (.istore 6, 2) := by decide +kernel
theorem dL_law_818 : decode cL_law 818 = .ok (.aload_n 2, 1) := by decide +kernel
theorem dL_law_819 : decode cL_law 819 = .ok (.aload_n 0, 1) := by decide +kernel
theorem dL_law_820 : decode cL_law 820 = .ok (.iload 5, 2) := by decide +kernel
theorem dL_law_822 : decode cL_law 822 = .ok (.iconst 1, 1) := by decide +kernel
theorem dL_law_823 : decode cL_law 823 = .ok (.iadd, 1) := by decide +kernel
theorem dL_law_824 : decode cL_law 824 = .ok (.iaload, 1) := by decide +kernel
theorem dL_law_825 : decode cL_law 825 = .ok (.aload_n 0, 1) := by decide +kernel
theorem dL_law_826 : decode cL_law 826 = .ok (.iload 5, 2) := by decide +kernel
theorem dL_law_828 : decode cL_law 828 = .ok (.iconst 2, 1) := by decide +kernel
theorem dL_law_829 : decode cL_law 829 = .ok (.iadd, 1) := by decide +kernel
theorem dL_law_830 : decode cL_law 830 = .ok (.iaload, 1) := by decide +kernel
theorem dL_law_831 : decode cL_law 831 = .ok (.invokevirtual 155, 3) := by decide +kernel
theorem dL_law_834 : decode cL_law 834 = .ok (.istore 7, 2) := by decide +kernel
theorem dL_law_836 : decode cL_law 836 = .ok (.aload_n 2, 1) := by decide +kernel
theorem dL_law_837 : decode cL_law 837 = .ok (.invokevirtual 125, 3) := by decide +kernel
theorem dL_law_840 : decode cL_law 840 = .ok (.iload 6, 2) := by decide +kernel
theorem dL_law_842 : decode cL_law 842 = .ok (.if_icmp .eq 5, 3) := by decide +kernel
theorem dL_law_845 : decode cL_law 845 = .ok (.iconst 0, 1) := by decide +kernel
theorem dL_law_846 : decode cL_law 846 = .ok (.ireturn, 1) := by decide +kernel
theorem dL_law_847 : decode cL_law 847 = .ok (.iload 6, 2) := by decide +kernel
theorem dL_law_849 : decode cL_law 849 = .ok (.ifCond .ne 15, 3) := by decide +kernel
theorem dL_law_852 : decode cL_law 852 = .ok (.aload_n 3, 1) := by decide +kernel
theorem dL_law_853 : decode cL_law 853 = .ok (.iconst 0, 1) := by decide +kernel
theorem dL_law_854 : decode cL_law 854 = .ok (.laload, 1) := by decide +kernel
theorem dL_law_855 : decode cL_law 855 = .ok (.iload 7, 2) := by decide +kernel
theorem dL_law_857 : decode cL_law 857 = .ok (.i2l, 1) := by decide +kernel
theorem dL_law_858 : decode cL_law 858 = .ok (.lcmp, 1) := by decide +kernel
theorem dL_law_859 : decode cL_law 859 = .ok (.ifCond .eq 5, 3) := by decide +kernel
theorem dL_law_862 : decode cL_law 862 = .ok (.iconst 0, 1) := by decide +kernel
theorem dL_law_863 : decode cL_law 863 = .ok (.ireturn, 1) := by decide +kernel
theorem dL_law_864 : decode cL_law 864 = .ok (.goto 1092, 3) := by decide +kernel
theorem dL_law_867 : decode cL_law 867 = .ok (.aload_n 1, 1) := by decide +kernel
theorem dL_law_868 : decode cL_law 868 = .ok (.aload_n 3, 1) := by decide +kernel
theorem dL_law_869 : decode cL_law 869 = .ok (.invokestatic 156, 3) := by decide +kernel
theorem dL_law_872 : decode cL_law 872 = .ok (.istore 6, 2) := by decide +kernel
theorem dL_law_874 : decode cL_law 874 = .ok (.aload_n 2, 1) := by decide +kernel
theorem dL_law_875 : decode cL_law 875 = .ok (.invokevirtual 159, 3) := by decide +kernel
theorem dL_law_878 : decode cL_law 878 = .ok (.istore 7, 2) := by decide +kernel
theorem dL_law_880 : decode cL_law 880 = .ok (.aload_n 2, 1) := by decide +kernel
theorem dL_law_881 : decode cL_law 881 = .ok (.invokevirtual 125, 3) := by decide +kernel
theorem dL_law_884 : decode cL_law 884 = .ok (.iload 6, 2) := by decide +kernel
theorem dL_law_886 : decode cL_law 886 = .ok (.if_icmp .eq 5, 3) := by decide +kernel
theorem dL_law_889 : decode cL_law 889 = .ok (.iconst 0, 1) := by decide +kernel
theorem dL_law_890 : decode cL_law 890 = .ok (.ireturn, 1) := by decide +kernel
theorem dL_law_891 : decode cL_law 891 = .ok (.iload 6, 2) := by decide +kernel
theorem dL_law_893 : decode cL_law 893 = .ok (.ifCond .ne 15, 3) := by decide +kernel
theorem dL_law_896 : decode cL_law 896 = .ok (.aload_n 3, 1) := by decide +kernel
theorem dL_law_897 : decode cL_law 897 = .ok (.iconst 0, 1) := by decide +kernel
theorem dL_law_898 : decode cL_law 898 = .ok (.laload, 1) := by decide +kernel
theorem dL_law_899 : decode cL_law 899 = .ok (.iload 7, 2) := by decide +kernel
theorem dL_law_901 : decode cL_law 901 = .ok (.i2l, 1) := by decide +kernel
theorem dL_law_902 : decode cL_law 902 = .ok (.lcmp, 1) := by decide +kernel
theorem dL_law_903 : decode cL_law 903 = .ok (.ifCond .eq 5, 3) := by decide +kernel
theorem dL_law_906 : decode cL_law 906 = .ok (.iconst 0, 1) := by decide +kernel
theorem dL_law_907 : decode cL_law 907 = .ok (.ireturn, 1) := by decide +kernel
theorem dL_law_908 : decode cL_law 908 = .ok (.goto 1048, 3) := by decide +kernel
theorem dL_law_911 : decode cL_law 911 = .ok (.aload_n 1, 1) := by decide +kernel
theorem dL_law_912 : decode cL_law 912 = .ok (.invokevirtual 160, 3) := by decide +kernel
theorem dL_law_915 : decode cL_law 915 = .ok (.aload_n 2, 1) := by decide +kernel
theorem dL_law_916 : decode cL_law 916 = .ok (.invokevirtual 163, 3) := by decide +kernel
theorem dL_law_919 : decode cL_law 919 = .ok (.if_icmp .eq 1037, 3) := by decide +kernel
theorem dL_law_922 : decode cL_law 922 = .ok (.iconst 0, 1) := by decide +kernel
theorem dL_law_923 : decode cL_law 923 = .ok (.ireturn, 1) := by decide +kernel
theorem dL_law_924 : decode cL_law 924 = .ok (.aload_n 1, 1) := by decide +kernel
theorem dL_law_925 : decode cL_law 925 = .ok (.aload_n 0, 1) := by decide +kernel
theorem dL_law_926 : decode cL_law 926 = .ok (.iload 5, 2) := by decide +kernel
theorem dL_law_928 : decode cL_law 928 = .ok (.iconst 1, 1) := by decide +kernel
theorem dL_law_929 : decode cL_law 929 = .ok (.iadd, 1) := by decide +kernel
theorem dL_law_930 : decode cL_law 930 = .ok (.iaload, 1) := by decide +kernel
theorem dL_law_931 : decode cL_law 931 = .ok (.aload_n 3, 1) := by decide +kernel
theorem dL_law_932 : decode cL_law 932 = .ok (.invokestatic 164, 3) := by decide +kernel
theorem dL_law_935 : decode cL_law 935 = .ok (.istore 6, 2) := by decide +kernel
theorem dL_law_937 : decode cL_law 937 = .ok (.aload_n 2, 1) := by decide +kernel
theorem dL_law_938 : decode cL_law 938 = .ok (.aload_n 0, 1) := by decide +kernel
theorem dL_law_939 : decode cL_law 939 = .ok (.iload 5, 2) := by decide +kernel
theorem dL_law_941 : decode cL_law 941 = .ok (.iconst 1, 1) := by decide +kernel
theorem dL_law_942 : decode cL_law 942 = .ok (.iadd, 1) := by decide +kernel
theorem dL_law_943 : decode cL_law 943 = .ok (.iaload, 1) := by decide +kernel
theorem dL_law_944 : decode cL_law 944 = .ok (.invokevirtual 166, 3) := by decide +kernel
theorem dL_law_947 : decode cL_law 947 = .ok (.istore 7, 2) := by decide +kernel
theorem dL_law_949 : decode cL_law 949 = .ok (.aload_n 2, 1) := by decide +kernel
theorem dL_law_950 : decode cL_law 950 = .ok (.invokevirtual 125, 3) := by decide +kernel
theorem dL_law_953 : decode cL_law 953 = .ok (.iload 6, 2) := by decide +kernel
theorem dL_law_955 : decode cL_law 955 = .ok (.if_icmp .eq 5, 3) := by decide +kernel
theorem dL_law_958 : decode cL_law 958 = .ok (.iconst 0, 1) := by decide +kernel
theorem dL_law_959 : decode cL_law 959 = .ok (.ireturn, 1) := by decide +kernel
theorem dL_law_960 : decode cL_law 960 = .ok (.iload 6, 2) := by decide +kernel
theorem dL_law_962 : decode cL_law 962 = .ok (.ifCond .ne 15, 3) := by decide +kernel
theorem dL_law_965 : decode cL_law 965 = .ok (.aload_n 3, 1) := by decide +kernel
theorem dL_law_966 : decode cL_law 966 = .ok (.iconst 0, 1) := by decide +kernel
theorem dL_law_967 : decode cL_law 967 = .ok (.laload, 1) := by decide +kernel
theorem dL_law_968 : decode cL_law 968 = .ok (.iload 7, 2) := by decide +kernel
theorem dL_law_970 : decode cL_law 970 = .ok (.i2l, 1) := by decide +kernel
theorem dL_law_971 : decode cL_law 971 = .ok (.lcmp, 1) := by decide +kernel
theorem dL_law_972 : decode cL_law 972 = .ok (.ifCond .eq 5, 3) := by decide +kernel
theorem dL_law_975 : decode cL_law 975 = .ok (.iconst 0, 1) := by decide +kernel
theorem dL_law_976 : decode cL_law 976 = .ok (.ireturn, 1) := by decide +kernel
theorem dL_law_977 : decode cL_law 977 = .ok (.goto 979, 3) := by decide +kernel
theorem dL_law_980 : decode cL_law 980 = .ok (.aload_n 1, 1) := by decide +kernel
theorem dL_law_981 : decode cL_law 981 = .ok (.aload_n 3, 1) := by decide +kernel
theorem dL_law_982 : decode cL_law 982 = .ok (.invokestatic 167, 3) := by decide +kernel
theorem dL_law_985 : decode cL_law 985 = .ok (.istore 6, 2) := by decide +kernel
theorem dL_law_987 : decode cL_law 987 = .ok (.aload_n 2, 1) := by decide +kernel
theorem dL_law_988 : decode cL_law 988 = .ok (.invokevirtual 169, 3) := by decide +kernel
theorem dL_law_991 : decode cL_law 991 = .ok (.istore 7, 2) := by decide +kernel
theorem dL_law_993 : decode cL_law 993 = .ok (.aload_n 2, 1) := by decide +kernel
theorem dL_law_994 : decode cL_law 994 = .ok (.invokevirtual 125, 3) := by decide +kernel
theorem dL_law_997 : decode cL_law 997 = .ok (.iload 6, 2) := by decide +kernel
theorem dL_law_999 : decode cL_law 999 = .ok (.if_icmp .eq 5, 3) := by decide +kernel
theorem dL_law_1002 : decode cL_law 1002 = .ok (.iconst 0, 1) := by decide +kernel
theorem dL_law_1003 : decode cL_law 1003 = .ok (.ireturn, 1) := by decide +kernel
theorem dL_law_1004 : decode cL_law 1004 = .ok (.iload 6, 2) := by decide +kernel
theorem dL_law_1006 : decode cL_law 1006 = .ok (.ifCond .ne 15, 3) := by decide +kernel
theorem dL_law_1009 : decode cL_law 1009 = .ok (.aload_n 3, 1) := by decide +kernel
theorem dL_law_1010 : decode cL_law 1010 = .ok (.iconst 0, 1) := by decide +kernel
theorem dL_law_1011 : decode cL_law 1011 = .ok (.laload, 1) := by decide +kernel
theorem dL_law_1012 : decode cL_law 1012 = .ok (.iload 7, 2) := by decide +kernel
theorem dL_law_1014 : decode cL_law 1014 = .ok (.i2l, 1) := by decide +kernel
theorem dL_law_1015 : decode cL_law 1015 = .ok (.lcmp, 1) := by decide +kernel
theorem dL_law_1016 : decode cL_law 1016 = .ok (.ifCond .eq 5, 3) := by decide +kernel
theorem dL_law_1019 : decode cL_law 1019 = .ok (.iconst 0, 1) := by decide +kernel
theorem dL_law_1020 : decode cL_law 1020 = .ok (.ireturn, 1) := by decide +kernel
theorem dL_law_1021 : decode cL_law 1021 = .ok (.goto 935, 3) := by decide +kernel
theorem dL_law_1024 : decode cL_law 1024 = .ok (.aload_n 1, 1) := by decide +kernel
theorem dL_law_1025 : decode cL_law 1025 = .ok (.aload_n 3, 1) := by decide +kernel
theorem dL_law_1026 : decode cL_law 1026 = .ok (.invokestatic 170, 3) := by decide +kernel
theorem dL_law_1029 : decode cL_law 1029 = .ok (.istore 6, 2) := by decide +kernel
theorem dL_law_1031 : decode cL_law 1031 = .ok (.aload_n 2, 1) := by decide +kernel
theorem dL_law_1032 : decode cL_law 1032 = .ok (.invokevirtual 172, 3) := by decide +kernel
theorem dL_law_1035 : decode cL_law 1035 = .ok (.istore 7, 2) := by decide +kernel
theorem dL_law_1037 : decode cL_law 1037 = .ok (.aload_n 2, 1) := by decide +kernel
theorem dL_law_1038 : decode cL_law 1038 = .ok (.invokevirtual 125, 3) := by decide +kernel
theorem dL_law_1041 : decode cL_law 1041 = .ok (.iload 6, 2) := by decide +kernel
theorem dL_law_1043 : decode cL_law 1043 = .ok (.if_icmp .eq 5, 3) := by decide +kernel
theorem dL_law_1046 : decode cL_law 1046 = .ok (.iconst 0, 1) := by decide +kernel
theorem dL_law_1047 : decode cL_law 1047 = .ok (.ireturn, 1) := by decide +kernel
theorem dL_law_1048 : decode cL_law 1048 = .ok (.iload 6, 2) := by decide +kernel
theorem dL_law_1050 : decode cL_law 1050 = .ok (.ifCond .ne 15, 3) := by decide +kernel
theorem dL_law_1053 : decode cL_law 1053 = .ok (.aload_n 3, 1) := by decide +kernel
theorem dL_law_1054 : decode cL_law 1054 = .ok (.iconst 0, 1) := by decide +kernel
theorem dL_law_1055 : decode cL_law 1055 = .ok (.laload, 1) := by decide +kernel
theorem dL_law_1056 : decode cL_law 1056 = .ok (.iload 7, 2) := by decide +kernel
theorem dL_law_1058 : decode cL_law 1058 = .ok (.i2l, 1) := by decide +kernel
theorem dL_law_1059 : decode cL_law 1059 = .ok (.lcmp, 1) := by decide +kernel
theorem dL_law_1060 : decode cL_law 1060 = .ok (.ifCond .eq 5, 3) := by decide +kernel
theorem dL_law_1063 : decode cL_law 1063 = .ok (.iconst 0, 1) := by decide +kernel
theorem dL_law_1064 : decode cL_law 1064 = .ok (.ireturn, 1) := by decide +kernel
theorem dL_law_1065 : decode cL_law 1065 = .ok (.goto 891, 3) := by decide +kernel
theorem dL_law_1068 : decode cL_law 1068 = .ok (.aload_n 1, 1) := by decide +kernel
theorem dL_law_1069 : decode cL_law 1069 = .ok (.aload_n 0, 1) := by decide +kernel
theorem dL_law_1070 : decode cL_law 1070 = .ok (.iload 5, 2) := by decide +kernel
theorem dL_law_1072 : decode cL_law 1072 = .ok (.iconst 1, 1) := by decide +kernel
theorem dL_law_1073 : decode cL_law 1073 = .ok (.iadd, 1) := by decide +kernel
theorem dL_law_1074 : decode cL_law 1074 = .ok (.iaload, 1) := by decide +kernel
theorem dL_law_1075 : decode cL_law 1075 = .ok (.aload_n 3, 1) := by decide +kernel
theorem dL_law_1076 : decode cL_law 1076 = .ok (.invokestatic 173, 3) := by decide +kernel
theorem dL_law_1079 : decode cL_law 1079 = .ok (.istore 6, 2) := by decide +kernel
theorem dL_law_1081 : decode cL_law 1081 = .ok (.aload_n 2, 1) := by decide +kernel
theorem dL_law_1082 : decode cL_law 1082 = .ok (.aload_n 0, 1) := by decide +kernel
theorem dL_law_1083 : decode cL_law 1083 = .ok (.iload 5, 2) := by decide +kernel
theorem dL_law_1085 : decode cL_law 1085 = .ok (.iconst 1, 1) := by decide +kernel
theorem dL_law_1086 : decode cL_law 1086 = .ok (.iadd, 1) := by decide +kernel
theorem dL_law_1087 : decode cL_law 1087 = .ok (.iaload, 1) := by decide +kernel
theorem dL_law_1088 : decode cL_law 1088 = .ok (.invokevirtual 175, 3) := by decide +kernel
theorem dL_law_1091 : decode cL_law 1091 = .ok (.istore 7, 2) := by decide +kernel
theorem dL_law_1093 : decode cL_law 1093 = .ok (.aload_n 2, 1) := by decide +kernel
theorem dL_law_1094 : decode cL_law 1094 = .ok (.invokevirtual 125, 3) := by decide +kernel
theorem dL_law_1097 : decode cL_law 1097 = .ok (.iload 6, 2) := by decide +kernel
theorem dL_law_1099 : decode cL_law 1099 = .ok (.if_icmp .eq 5, 3) := by decide +kernel
theorem dL_law_1102 : decode cL_law 1102 = .ok (.iconst 0, 1) := by decide +kernel
theorem dL_law_1103 : decode cL_law 1103 = .ok (.ireturn, 1) := by decide +kernel
theorem dL_law_1104 : decode cL_law 1104 = .ok (.iload 6, 2) := by decide +kernel
theorem dL_law_1106 : decode cL_law 1106 = .ok (.ifCond .ne 15, 3) := by decide +kernel
theorem dL_law_1109 : decode cL_law 1109 = .ok (.aload_n 3, 1) := by decide +kernel
theorem dL_law_1110 : decode cL_law 1110 = .ok (.iconst 0, 1) := by decide +kernel
theorem dL_law_1111 : decode cL_law 1111 = .ok (.laload, 1) := by decide +kernel
theorem dL_law_1112 : decode cL_law 1112 = .ok (.iload 7, 2) := by decide +kernel
theorem dL_law_1114 : decode cL_law 1114 = .ok (.i2l, 1) := by decide +kernel
theorem dL_law_1115 : decode cL_law 1115 = .ok (.lcmp, 1) := by decide +kernel
theorem dL_law_1116 : decode cL_law 1116 = .ok (.ifCond .eq 5, 3) := by decide +kernel
theorem dL_law_1119 : decode cL_law 1119 = .ok (.iconst 0, 1) := by decide +kernel
theorem dL_law_1120 : decode cL_law 1120 = .ok (.ireturn, 1) := by decide +kernel
theorem dL_law_1121 : decode cL_law 1121 = .ok (.goto 835, 3) := by decide +kernel
theorem dL_law_1124 : decode cL_law 1124 = .ok (.aload_n 1, 1) := by decide +kernel
theorem dL_law_1125 : decode cL_law 1125 = .ok (.aload_n 0, 1) := by decide +kernel
theorem dL_law_1126 : decode cL_law 1126 = .ok (.iload 5, 2) := by decide +kernel
theorem dL_law_1128 : decode cL_law 1128 = .ok (.iconst 1, 1) := by decide +kernel
theorem dL_law_1129 : decode cL_law 1129 = .ok (.iadd, 1) := by decide +kernel
theorem dL_law_1130 : decode cL_law 1130 = .ok (.iaload, 1) := by decide +kernel
theorem dL_law_1131 : decode cL_law 1131 = .ok (.aload_n 0, 1) := by decide +kernel
theorem dL_law_1132 : decode cL_law 1132 = .ok (.iload 5, 2) := by decide +kernel
theorem dL_law_1134 : decode cL_law 1134 = .ok (.iconst 2, 1) := by decide +kernel
theorem dL_law_1135 : decode cL_law 1135 = .ok (.iadd, 1) := by decide +kernel
theorem dL_law_1136 : decode cL_law 1136 = .ok (.iaload, 1) := by decide +kernel
theorem dL_law_1137 : decode cL_law 1137 = .ok (.aload_n 0, 1) := by decide +kernel
theorem dL_law_1138 : decode cL_law 1138 = .ok (.iload 5, 2) := by decide +kernel
theorem dL_law_1140 : decode cL_law 1140 = .ok (.iconst 3, 1) := by decide +kernel
theorem dL_law_1141 : decode cL_law 1141 = .ok (.iadd, 1) := by decide +kernel
theorem dL_law_1142 : decode cL_law 1142 = .ok (.iaload, 1) := by decide +kernel
theorem dL_law_1143 : decode cL_law 1143 = .ok (.aload_n 3, 1) := by decide +kernel
theorem dL_law_1144 : decode cL_law 1144 = .ok (.invokestatic 176, 3) := by decide +kernel
theorem dL_law_1147 : decode cL_law 1147 = .ok (.istore 6, 2) := by decide +kernel
theorem dL_law_1149 : decode cL_law 1149 = .ok (.aload_n 2, 1) := by decide +kernel
theorem dL_law_1150 : decode cL_law 1150 = .ok (.aload_n 0, 1) := by decide +kernel
theorem dL_law_1151 : decode cL_law 1151 = .ok (.iload 5, 2) := by decide +kernel
theorem dL_law_1153 : decode cL_law 1153 = .ok (.iconst 1, 1) := by decide +kernel
theorem dL_law_1154 : decode cL_law 1154 = .ok (.iadd, 1) := by decide +kernel
theorem dL_law_1155 : decode cL_law 1155 = .ok (.iaload, 1) := by decide +kernel
theorem dL_law_1156 : decode cL_law 1156 = .ok (.aload_n 0, 1) := by decide +kernel
theorem dL_law_1157 : decode cL_law 1157 = .ok (.iload 5, 2) := by decide +kernel
theorem dL_law_1159 : decode cL_law 1159 = .ok (.iconst 2, 1) := by decide +kernel
theorem dL_law_1160 : decode cL_law 1160 = .ok (.iadd, 1) := by decide +kernel
theorem dL_law_1161 : decode cL_law 1161 = .ok (.iaload, 1) := by decide +kernel
theorem dL_law_1162 : decode cL_law 1162 = .ok (.aload_n 0, 1) := by decide +kernel
theorem dL_law_1163 : decode cL_law 1163 = .ok (.iload 5, 2) := by decide +kernel
theorem dL_law_1165 : decode cL_law 1165 = .ok (.iconst 3, 1) := by decide +kernel
theorem dL_law_1166 : decode cL_law 1166 = .ok (.iadd, 1) := by decide +kernel
theorem dL_law_1167 : decode cL_law 1167 = .ok (.iaload, 1) := by decide +kernel
theorem dL_law_1168 : decode cL_law 1168 = .ok (.invokevirtual 179, 3) := by decide +kernel
theorem dL_law_1171 : decode cL_law 1171 = .ok (.istore 7, 2) := by decide +kernel
theorem dL_law_1173 : decode cL_law 1173 = .ok (.aload_n 2, 1) := by decide +kernel
theorem dL_law_1174 : decode cL_law 1174 = .ok (.invokevirtual 125, 3) := by decide +kernel
theorem dL_law_1177 : decode cL_law 1177 = .ok (.iload 6, 2) := by decide +kernel
theorem dL_law_1179 : decode cL_law 1179 = .ok (.if_icmp .eq 5, 3) := by decide +kernel
theorem dL_law_1182 : decode cL_law 1182 = .ok (.iconst 0, 1) := by decide +kernel
theorem dL_law_1183 : decode cL_law 1183 = .ok (.ireturn, 1) := by decide +kernel
theorem dL_law_1184 : decode cL_law 1184 = .ok (.iload 6, 2) := by decide +kernel
theorem dL_law_1186 : decode cL_law 1186 = .ok (.ifCond .ne 15, 3) := by decide +kernel
theorem dL_law_1189 : decode cL_law 1189 = .ok (.aload_n 3, 1) := by decide +kernel
theorem dL_law_1190 : decode cL_law 1190 = .ok (.iconst 0, 1) := by decide +kernel
theorem dL_law_1191 : decode cL_law 1191 = .ok (.laload, 1) := by decide +kernel
theorem dL_law_1192 : decode cL_law 1192 = .ok (.iload 7, 2) := by decide +kernel
theorem dL_law_1194 : decode cL_law 1194 = .ok (.i2l, 1) := by decide +kernel
theorem dL_law_1195 : decode cL_law 1195 = .ok (.lcmp, 1) := by decide +kernel
theorem dL_law_1196 : decode cL_law 1196 = .ok (.ifCond .eq 5, 3) := by decide +kernel
theorem dL_law_1199 : decode cL_law 1199 = .ok (.iconst 0, 1) := by decide +kernel
theorem dL_law_1200 : decode cL_law 1200 = .ok (.ireturn, 1) := by decide +kernel
theorem dL_law_1201 : decode cL_law 1201 = .ok (.goto 755, 3) := by decide +kernel
theorem dL_law_1204 : decode cL_law 1204 = .ok (.aload_n 1, 1) := by decide +kernel
theorem dL_law_1205 : decode cL_law 1205 = .ok (.invokevirtual 180, 3) := by decide +kernel
theorem dL_law_1208 : decode cL_law 1208 = .ok (.aload_n 2, 1) := by decide +kernel
theorem dL_law_1209 : decode cL_law 1209 = .ok (.invokevirtual 183, 3) := by decide +kernel
theorem dL_law_1212 : decode cL_law 1212 = .ok (.if_icmp .eq 744, 3) := by decide +kernel
theorem dL_law_1215 : decode cL_law 1215 = .ok (.iconst 0, 1) := by decide +kernel
theorem dL_law_1216 : decode cL_law 1216 = .ok (.ireturn, 1) := by decide +kernel
theorem dL_law_1217 : decode cL_law 1217 = .ok (.aload_n 1, 1) := by decide +kernel
theorem dL_law_1218 : decode cL_law 1218 = .ok (.invokevirtual 184, 3) := by decide +kernel
theorem dL_law_1221 : decode cL_law 1221 = .ok (.aload_n 2, 1) := by decide +kernel
theorem dL_law_1222 : decode cL_law 1222 = .ok (.invokevirtual 187, 3) := by decide +kernel
theorem dL_law_1225 : decode cL_law 1225 = .ok (.if_icmp .eq 731, 3) := by decide +kernel
theorem dL_law_1228 : decode cL_law 1228 = .ok (.iconst 0, 1) := by decide +kernel
theorem dL_law_1229 : decode cL_law 1229 = .ok (.ireturn, 1) := by decide +kernel
theorem dL_law_1230 : decode cL_law 1230 = .ok (.aload_n 1, 1) := by decide +kernel
theorem dL_law_1231 : decode cL_law 1231 = .ok (.invokevirtual 188, 3) := by decide +kernel
theorem dL_law_1234 : decode cL_law 1234 = .ok (.aload_n 2, 1) := by decide +kernel
theorem dL_law_1235 : decode cL_law 1235 = .ok (.invokevirtual 191, 3) := by decide +kernel
theorem dL_law_1238 : decode cL_law 1238 = .ok (.if_icmp .eq 718, 3) := by decide +kernel
theorem dL_law_1241 : decode cL_law 1241 = .ok (.iconst 0, 1) := by decide +kernel
theorem dL_law_1242 : decode cL_law 1242 = .ok (.ireturn, 1) := by decide +kernel
theorem dL_law_1243 : decode cL_law 1243 = .ok (.aload_n 1, 1) := by decide +kernel
theorem dL_law_1244 : decode cL_law 1244 = .ok (.aload_n 0, 1) := by decide +kernel
theorem dL_law_1245 : decode cL_law 1245 = .ok (.iload 5, 2) := by decide +kernel
theorem dL_law_1247 : decode cL_law 1247 = .ok (.iconst 1, 1) := by decide +kernel
theorem dL_law_1248 : decode cL_law 1248 = .ok (.iadd, 1) := by decide +kernel
theorem dL_law_1249 : decode cL_law 1249 = .ok (.iaload, 1) := by decide +kernel
theorem dL_law_1250 : decode cL_law 1250 = .ok (.aload_n 3, 1) := by decide +kernel
theorem dL_law_1251 : decode cL_law 1251 = .ok (.invokestatic 192, 3) := by decide +kernel
theorem dL_law_1254 : decode cL_law 1254 = .ok (.istore 6, 2) := by decide +kernel
theorem dL_law_1256 : decode cL_law 1256 = .ok (.aload_n 2, 1) := by decide +kernel
theorem dL_law_1257 : decode cL_law 1257 = .ok (.aload_n 0, 1) := by decide +kernel
theorem dL_law_1258 : decode cL_law 1258 = .ok (.iload 5, 2) := by decide +kernel
theorem dL_law_1260 : decode cL_law 1260 = .ok (.iconst 1, 1) := by decide +kernel
theorem dL_law_1261 : decode cL_law 1261 = .ok (.iadd, 1) := by decide +kernel
theorem dL_law_1262 : decode cL_law 1262 = .ok (.iaload, 1) := by decide +kernel
theorem dL_law_1263 : decode cL_law 1263 = .ok (.invokevirtual 194, 3) := by decide +kernel
theorem dL_law_1266 : decode cL_law 1266 = .ok (.istore 7, 2) := by decide +kernel
theorem dL_law_1268 : decode cL_law 1268 = .ok (.aload_n 2, 1) := by decide +kernel
theorem dL_law_1269 : decode cL_law 1269 = .ok (.invokevirtual 125, 3) := by decide +kernel
theorem dL_law_1272 : decode cL_law 1272 = .ok (.iload 6, 2) := by decide +kernel
theorem dL_law_1274 : decode cL_law 1274 = .ok (.if_icmp .eq 5, 3) := by decide +kernel
theorem dL_law_1277 : decode cL_law 1277 = .ok (.iconst 0, 1) := by decide +kernel
theorem dL_law_1278 : decode cL_law 1278 = .ok (.ireturn, 1) := by decide +kernel
theorem dL_law_1279 : decode cL_law 1279 = .ok (.iload 6, 2) := by decide +kernel
theorem dL_law_1281 : decode cL_law 1281 = .ok (.ifCond .ne 15, 3) := by decide +kernel
theorem dL_law_1284 : decode cL_law 1284 = .ok (.aload_n 3, 1) := by decide +kernel
theorem dL_law_1285 : decode cL_law 1285 = .ok (.iconst 0, 1) := by decide +kernel
theorem dL_law_1286 : decode cL_law 1286 = .ok (.laload, 1) := by decide +kernel
theorem dL_law_1287 : decode cL_law 1287 = .ok (.iload 7, 2) := by decide +kernel
theorem dL_law_1289 : decode cL_law 1289 = .ok (.i2l, 1) := by decide +kernel
theorem dL_law_1290 : decode cL_law 1290 = .ok (.lcmp, 1) := by decide +kernel
theorem dL_law_1291 : decode cL_law 1291 = .ok (.ifCond .eq 5, 3) := by decide +kernel
theorem dL_law_1294 : decode cL_law 1294 = .ok (.iconst 0, 1) := by decide +kernel
theorem dL_law_1295 : decode cL_law 1295 = .ok (.ireturn, 1) := by decide +kernel
theorem dL_law_1296 : decode cL_law 1296 = .ok (.goto 660, 3) := by decide +kernel
theorem dL_law_1299 : decode cL_law 1299 = .ok (.aload_n 1, 1) := by decide +kernel
theorem dL_law_1300 : decode cL_law 1300 = .ok (.aload_n 3, 1) := by decide +kernel
theorem dL_law_1301 : decode cL_law 1301 = .ok (.invokestatic 195, 3) := by decide +kernel
theorem dL_law_1304 : decode cL_law 1304 = .ok (.istore 6, 2) := by decide +kernel
theorem dL_law_1306 : decode cL_law 1306 = .ok (.aload_n 2, 1) := by decide +kernel
theorem dL_law_1307 : decode cL_law 1307 = .ok (.invokevirtual 197, 3) := by decide +kernel
theorem dL_law_1310 : decode cL_law 1310 = .ok (.istore 7, 2) := by decide +kernel
theorem dL_law_1312 : decode cL_law 1312 = .ok (.aload_n 2, 1) := by decide +kernel
theorem dL_law_1313 : decode cL_law 1313 = .ok (.invokevirtual 125, 3) := by decide +kernel
theorem dL_law_1316 : decode cL_law 1316 = .ok (.iload 6, 2) := by decide +kernel
theorem dL_law_1318 : decode cL_law 1318 = .ok (.if_icmp .eq 5, 3) := by decide +kernel
theorem dL_law_1321 : decode cL_law 1321 = .ok (.iconst 0, 1) := by decide +kernel
theorem dL_law_1322 : decode cL_law 1322 = .ok (.ireturn, 1) := by decide +kernel
theorem dL_law_1323 : decode cL_law 1323 = .ok (.iload 6, 2) := by decide +kernel
theorem dL_law_1325 : decode cL_law 1325 = .ok (.ifCond .ne 15, 3) := by decide +kernel
theorem dL_law_1328 : decode cL_law 1328 = .ok (.aload_n 3, 1) := by decide +kernel
theorem dL_law_1329 : decode cL_law 1329 = .ok (.iconst 0, 1) := by decide +kernel
theorem dL_law_1330 : decode cL_law 1330 = .ok (.laload, 1) := by decide +kernel
theorem dL_law_1331 : decode cL_law 1331 = .ok (.iload 7, 2) := by decide +kernel
theorem dL_law_1333 : decode cL_law 1333 = .ok (.i2l, 1) := by decide +kernel
theorem dL_law_1334 : decode cL_law 1334 = .ok (.lcmp, 1) := by decide +kernel
theorem dL_law_1335 : decode cL_law 1335 = .ok (.ifCond .eq 5, 3) := by decide +kernel
theorem dL_law_1338 : decode cL_law 1338 = .ok (.iconst 0, 1) := by decide +kernel
theorem dL_law_1339 : decode cL_law 1339 = .ok (.ireturn, 1) := by decide +kernel
theorem dL_law_1340 : decode cL_law 1340 = .ok (.goto 616, 3) := by decide +kernel
theorem dL_law_1343 : decode cL_law 1343 = .ok (.aload_n 1, 1) := by decide +kernel
theorem dL_law_1344 : decode cL_law 1344 = .ok (.invokevirtual 198, 3) := by decide +kernel
theorem dL_law_1347 : decode cL_law 1347 = .ok (.aload_n 2, 1) := by decide +kernel
theorem dL_law_1348 : decode cL_law 1348 = .ok (.invokevirtual 201, 3) := by decide +kernel
theorem dL_law_1351 : decode cL_law 1351 = .ok (.if_icmp .eq 605, 3) := by decide +kernel
theorem dL_law_1354 : decode cL_law 1354 = .ok (.iconst 0, 1) := by decide +kernel
theorem dL_law_1355 : decode cL_law 1355 = .ok (.ireturn, 1) := by decide +kernel
theorem dL_law_1356 : decode cL_law 1356 = .ok (.aload_n 1, 1) := by decide +kernel
theorem dL_law_1357 : decode cL_law 1357 = .ok (.aload_n 0, 1) := by decide +kernel
theorem dL_law_1358 : decode cL_law 1358 = .ok (.iload 5, 2) := by decide +kernel
theorem dL_law_1360 : decode cL_law 1360 = .ok (.iconst 1, 1) := by decide +kernel
theorem dL_law_1361 : decode cL_law 1361 = .ok (.iadd, 1) := by decide +kernel
theorem dL_law_1362 : decode cL_law 1362 = .ok (.iaload, 1) := by decide +kernel
theorem dL_law_1363 : decode cL_law 1363 = .ok (.aload_n 3, 1) := by decide +kernel
theorem dL_law_1364 : decode cL_law 1364 = .ok (.invokestatic 202, 3) := by decide +kernel
theorem dL_law_1367 : decode cL_law 1367 = .ok (.istore 6, 2) := by decide +kernel
theorem dL_law_1369 : decode cL_law 1369 = .ok (.aload_n 2, 1) := by decide +kernel
theorem dL_law_1370 : decode cL_law 1370 = .ok (.aload_n 0, 1) := by decide +kernel
theorem dL_law_1371 : decode cL_law 1371 = .ok (.iload 5, 2) := by decide +kernel
theorem dL_law_1373 : decode cL_law 1373 = .ok (.iconst 1, 1) := by decide +kernel
theorem dL_law_1374 : decode cL_law 1374 = .ok (.iadd, 1) := by decide +kernel
theorem dL_law_1375 : decode cL_law 1375 = .ok (.iaload, 1) := by decide +kernel
theorem dL_law_1376 : decode cL_law 1376 = .ok (.invokevirtual 204, 3) := by decide +kernel
theorem dL_law_1379 : decode cL_law 1379 = .ok (.istore 7, 2) := by decide +kernel
theorem dL_law_1381 : decode cL_law 1381 = .ok (.aload_n 2, 1) := by decide +kernel
theorem dL_law_1382 : decode cL_law 1382 = .ok (.invokevirtual 125, 3) := by decide +kernel
theorem dL_law_1385 : decode cL_law 1385 = .ok (.iload 6, 2) := by decide +kernel
theorem dL_law_1387 : decode cL_law 1387 = .ok (.if_icmp .eq 5, 3) := by decide +kernel
theorem dL_law_1390 : decode cL_law 1390 = .ok (.iconst 0, 1) := by decide +kernel
theorem dL_law_1391 : decode cL_law 1391 = .ok (.ireturn, 1) := by decide +kernel
theorem dL_law_1392 : decode cL_law 1392 = .ok (.iload 6, 2) := by decide +kernel
theorem dL_law_1394 : decode cL_law 1394 = .ok (.ifCond .ne 15, 3) := by decide +kernel
theorem dL_law_1397 : decode cL_law 1397 = .ok (.aload_n 3, 1) := by decide +kernel
theorem dL_law_1398 : decode cL_law 1398 = .ok (.iconst 0, 1) := by decide +kernel
theorem dL_law_1399 : decode cL_law 1399 = .ok (.laload, 1) := by decide +kernel
theorem dL_law_1400 : decode cL_law 1400 = .ok (.iload 7, 2) := by decide +kernel
theorem dL_law_1402 : decode cL_law 1402 = .ok (.i2l, 1) := by decide +kernel
theorem dL_law_1403 : decode cL_law 1403 = .ok (.lcmp, 1) := by decide +kernel
theorem dL_law_1404 : decode cL_law 1404 = .ok (.ifCond .eq 5, 3) := by decide +kernel
theorem dL_law_1407 : decode cL_law 1407 = .ok (.iconst 0, 1) := by decide +kernel
theorem dL_law_1408 : decode cL_law 1408 = .ok (.ireturn, 1) := by decide +kernel
theorem dL_law_1409 : decode cL_law 1409 = .ok (.goto 547, 3) := by decide +kernel
theorem dL_law_1412 : decode cL_law 1412 = .ok (.aload_n 1, 1) := by decide +kernel
theorem dL_law_1413 : decode cL_law 1413 = .ok (.aload_n 0, 1) := by decide +kernel
theorem dL_law_1414 : decode cL_law 1414 = .ok (.iload 5, 2) := by decide +kernel
theorem dL_law_1416 : decode cL_law 1416 = .ok (.iconst 1, 1) := by decide +kernel
theorem dL_law_1417 : decode cL_law 1417 = .ok (.iadd, 1) := by decide +kernel
theorem dL_law_1418 : decode cL_law 1418 = .ok (.iaload, 1) := by decide +kernel
theorem dL_law_1419 : decode cL_law 1419 = .ok (.aload_n 3, 1) := by decide +kernel
theorem dL_law_1420 : decode cL_law 1420 = .ok (.invokestatic 205, 3) := by decide +kernel
theorem dL_law_1423 : decode cL_law 1423 = .ok (.istore 6, 2) := by decide +kernel
theorem dL_law_1425 : decode cL_law 1425 = .ok (.aload_n 2, 1) := by decide +kernel
theorem dL_law_1426 : decode cL_law 1426 = .ok (.aload_n 0, 1) := by decide +kernel
theorem dL_law_1427 : decode cL_law 1427 = .ok (.iload 5, 2) := by decide +kernel
theorem dL_law_1429 : decode cL_law 1429 = .ok (.iconst 1, 1) := by decide +kernel
theorem dL_law_1430 : decode cL_law 1430 = .ok (.iadd, 1) := by decide +kernel
theorem dL_law_1431 : decode cL_law 1431 = .ok (.iaload, 1) := by decide +kernel
theorem dL_law_1432 : decode cL_law 1432 = .ok (.invokevirtual 207, 3) := by decide +kernel
theorem dL_law_1435 : decode cL_law 1435 = .ok (.istore 7, 2) := by decide +kernel
theorem dL_law_1437 : decode cL_law 1437 = .ok (.aload_n 2, 1) := by decide +kernel
theorem dL_law_1438 : decode cL_law 1438 = .ok (.invokevirtual 125, 3) := by decide +kernel
theorem dL_law_1441 : decode cL_law 1441 = .ok (.iload 6, 2) := by decide +kernel
theorem dL_law_1443 : decode cL_law 1443 = .ok (.if_icmp .eq 5, 3) := by decide +kernel
theorem dL_law_1446 : decode cL_law 1446 = .ok (.iconst 0, 1) := by decide +kernel
theorem dL_law_1447 : decode cL_law 1447 = .ok (.ireturn, 1) := by decide +kernel
theorem dL_law_1448 : decode cL_law 1448 = .ok (.iload 6, 2) := by decide +kernel
theorem dL_law_1450 : decode cL_law 1450 = .ok (.ifCond .ne 15, 3) := by decide +kernel
theorem dL_law_1453 : decode cL_law 1453 = .ok (.aload_n 3, 1) := by decide +kernel
theorem dL_law_1454 : decode cL_law 1454 = .ok (.iconst 0, 1) := by decide +kernel
theorem dL_law_1455 : decode cL_law 1455 = .ok (.laload, 1) := by decide +kernel
theorem dL_law_1456 : decode cL_law 1456 = .ok (.iload 7, 2) := by decide +kernel
theorem dL_law_1458 : decode cL_law 1458 = .ok (.i2l, 1) := by decide +kernel
theorem dL_law_1459 : decode cL_law 1459 = .ok (.lcmp, 1) := by decide +kernel
theorem dL_law_1460 : decode cL_law 1460 = .ok (.ifCond .eq 5, 3) := by decide +kernel
theorem dL_law_1463 : decode cL_law 1463 = .ok (.iconst 0, 1) := by decide +kernel
theorem dL_law_1464 : decode cL_law 1464 = .ok (.ireturn, 1) := by decide +kernel
theorem dL_law_1465 : decode cL_law 1465 = .ok (.goto 491, 3) := by decide +kernel
theorem dL_law_1468 : decode cL_law 1468 = .ok (.aload_n 1, 1) := by decide +kernel
theorem dL_law_1469 : decode cL_law 1469 = .ok (.aload_n 0, 1) := by decide +kernel
theorem dL_law_1470 : decode cL_law 1470 = .ok (.iload 5, 2) := by decide +kernel
theorem dL_law_1472 : decode cL_law 1472 = .ok (.iconst 1, 1) := by decide +kernel
theorem dL_law_1473 : decode cL_law 1473 = .ok (.iadd, 1) := by decide +kernel
theorem dL_law_1474 : decode cL_law 1474 = .ok (.iaload, 1) := by decide +kernel
theorem dL_law_1475 : decode cL_law 1475 = .ok (.i2c, 1) := by decide +kernel
theorem dL_law_1476 : decode cL_law 1476 = .ok (.aload_n 3, 1) := by decide +kernel
theorem dL_law_1477 : decode cL_law 1477 = .ok (.invokestatic 208, 3) := by decide +kernel
theorem dL_law_1480 : decode cL_law 1480 = .ok (.istore 6, 2) := by decide +kernel
theorem dL_law_1482 : decode cL_law 1482 = .ok (.aload_n 2, 1) := by decide +kernel
theorem dL_law_1483 : decode cL_law 1483 = .ok (.aload_n 0, 1) := by decide +kernel
theorem dL_law_1484 : decode cL_law 1484 = .ok (.iload 5, 2) := by decide +kernel
theorem dL_law_1486 : decode cL_law 1486 = .ok (.iconst 1, 1) := by decide +kernel
theorem dL_law_1487 : decode cL_law 1487 = .ok (.iadd, 1) := by decide +kernel
theorem dL_law_1488 : decode cL_law 1488 = .ok (.iaload, 1) := by decide +kernel
theorem dL_law_1489 : decode cL_law 1489 = .ok (.i2c, 1) := by decide +kernel
theorem dL_law_1490 : decode cL_law 1490 = .ok (.invokevirtual 211, 3) := by decide +kernel
theorem dL_law_1493 : decode cL_law 1493 = .ok (.istore 7, 2) := by decide +kernel
theorem dL_law_1495 : decode cL_law 1495 = .ok (.aload_n 2, 1) := by decide +kernel
theorem dL_law_1496 : decode cL_law 1496 = .ok (.invokevirtual 125, 3) := by decide +kernel
theorem dL_law_1499 : decode cL_law 1499 = .ok (.iload 6, 2) := by decide +kernel
theorem dL_law_1501 : decode cL_law 1501 = .ok (.if_icmp .eq 5, 3) := by decide +kernel
theorem dL_law_1504 : decode cL_law 1504 = .ok (.iconst 0, 1) := by decide +kernel
theorem dL_law_1505 : decode cL_law 1505 = .ok (.ireturn, 1) := by decide +kernel
theorem dL_law_1506 : decode cL_law 1506 = .ok (.iload 6, 2) := by decide +kernel
theorem dL_law_1508 : decode cL_law 1508 = .ok (.ifCond .ne 15, 3) := by decide +kernel
theorem dL_law_1511 : decode cL_law 1511 = .ok (.aload_n 3, 1) := by decide +kernel
theorem dL_law_1512 : decode cL_law 1512 = .ok (.iconst 0, 1) := by decide +kernel
theorem dL_law_1513 : decode cL_law 1513 = .ok (.laload, 1) := by decide +kernel
theorem dL_law_1514 : decode cL_law 1514 = .ok (.iload 7, 2) := by decide +kernel
theorem dL_law_1516 : decode cL_law 1516 = .ok (.i2l, 1) := by decide +kernel
theorem dL_law_1517 : decode cL_law 1517 = .ok (.lcmp, 1) := by decide +kernel
theorem dL_law_1518 : decode cL_law 1518 = .ok (.ifCond .eq 5, 3) := by decide +kernel
theorem dL_law_1521 : decode cL_law 1521 = .ok (.iconst 0, 1) := by decide +kernel
theorem dL_law_1522 : decode cL_law 1522 = .ok (.ireturn, 1) := by decide +kernel
theorem dL_law_1523 : decode cL_law 1523 = .ok (.goto 433, 3) := by decide +kernel
theorem dL_law_1526 : decode cL_law 1526 = .ok (.aload_n 1, 1) := by decide +kernel
theorem dL_law_1527 : decode cL_law 1527 = .ok (.aload_n 3, 1) := by decide +kernel
theorem dL_law_1528 : decode cL_law 1528 = .ok (.invokestatic 212, 3) := by decide +kernel
theorem dL_law_1531 : decode cL_law 1531 = .ok (.istore 6, 2) := by decide +kernel
theorem dL_law_1533 : decode cL_law 1533 = .ok (.aload_n 2, 1) := by decide +kernel
theorem dL_law_1534 : decode cL_law 1534 = .ok (.invokevirtual 214, 3) := by decide +kernel
theorem dL_law_1537 : decode cL_law 1537 = .ok (.istore 7, 2) := by decide +kernel
theorem dL_law_1539 : decode cL_law 1539 = .ok (.aload_n 2, 1) := by decide +kernel
theorem dL_law_1540 : decode cL_law 1540 = .ok (.invokevirtual 125, 3) := by decide +kernel
theorem dL_law_1543 : decode cL_law 1543 = .ok (.iload 6, 2) := by decide +kernel
theorem dL_law_1545 : decode cL_law 1545 = .ok (.if_icmp .eq 5, 3) := by decide +kernel
theorem dL_law_1548 : decode cL_law 1548 = .ok (.iconst 0, 1) := by decide +kernel
theorem dL_law_1549 : decode cL_law 1549 = .ok (.ireturn, 1) := by decide +kernel
theorem dL_law_1550 : decode cL_law 1550 = .ok (.iload 6, 2) := by decide +kernel
theorem dL_law_1552 : decode cL_law 1552 = .ok (.ifCond .ne 15, 3) := by decide +kernel
theorem dL_law_1555 : decode cL_law 1555 = .ok (.aload_n 3, 1) := by decide +kernel
theorem dL_law_1556 : decode cL_law 1556 = .ok (.iconst 0, 1) := by decide +kernel
theorem dL_law_1557 : decode cL_law 1557 = .ok (.laload, 1) := by decide +kernel
theorem dL_law_1558 : decode cL_law 1558 = .ok (.iload 7, 2) := by decide +kernel
theorem dL_law_1560 : decode cL_law 1560 = .ok (.i2l, 1) := by decide +kernel
theorem dL_law_1561 : decode cL_law 1561 = .ok (.lcmp, 1) := by decide +kernel
theorem dL_law_1562 : decode cL_law 1562 = .ok (.ifCond .eq 5, 3) := by decide +kernel
theorem dL_law_1565 : decode cL_law 1565 = .ok (.iconst 0, 1) := by decide +kernel
theorem dL_law_1566 : decode cL_law 1566 = .ok (.ireturn, 1) := by decide +kernel
theorem dL_law_1567 : decode cL_law 1567 = .ok (.goto 389, 3) := by decide +kernel
theorem dL_law_1570 : decode cL_law 1570 = .ok (.aload_n 1, 1) := by decide +kernel
theorem dL_law_1571 : decode cL_law 1571 = .ok (.invokevirtual 215, 3) := by decide +kernel
theorem dL_law_1574 : decode cL_law 1574 = .ok (.aload_n 2, 1) := by decide +kernel
theorem dL_law_1575 : decode cL_law 1575 = .ok (.invokevirtual 218, 3) := by decide +kernel
theorem dL_law_1578 : decode cL_law 1578 = .ok (.if_icmp .eq 378, 3) := by decide +kernel
theorem dL_law_1581 : decode cL_law 1581 = .ok (.iconst 0, 1) := by decide +kernel
theorem dL_law_1582 : decode cL_law 1582 = .ok (.ireturn, 1) := by decide +kernel
theorem dL_law_1583 : decode cL_law 1583 = .ok (.aload_n 1, 1) := by decide +kernel
theorem dL_law_1584 : decode cL_law 1584 = .ok (.aload_n 0, 1) := by decide +kernel
theorem dL_law_1585 : decode cL_law 1585 = .ok (.iload 5, 2) := by decide +kernel
theorem dL_law_1587 : decode cL_law 1587 = .ok (.iconst 1, 1) := by decide +kernel
theorem dL_law_1588 : decode cL_law 1588 = .ok (.iadd, 1) := by decide +kernel
theorem dL_law_1589 : decode cL_law 1589 = .ok (.iaload, 1) := by decide +kernel
theorem dL_law_1590 : decode cL_law 1590 = .ok (.ifCond .eq 7, 3) := by decide +kernel
theorem dL_law_1593 : decode cL_law 1593 = .ok (.iconst 1, 1) := by decide +kernel
theorem dL_law_1594 : decode cL_law 1594 = .ok (.goto 4, 3) := by decide +kernel
theorem dL_law_1597 : decode cL_law 1597 = .ok (.iconst 0, 1) := by decide +kernel
theorem dL_law_1598 : decode cL_law 1598 = .ok (.aload_n 3, 1) := by decide +kernel
theorem dL_law_1599 : decode cL_law 1599 = .ok (.invokestatic 219, 3) := by decide +kernel
theorem dL_law_1602 : decode cL_law 1602 = .ok (.istore 6, 2) := by decide +kernel
theorem dL_law_1604 : decode cL_law 1604 = .ok (.aload_n 2, 1) := by decide +kernel
theorem dL_law_1605 : decode cL_law 1605 = .ok (.aload_n 0, 1) := by decide +kernel
theorem dL_law_1606 : decode cL_law 1606 = .ok (.iload 5, 2) := by decide +kernel
theorem dL_law_1608 : decode cL_law 1608 = .ok (.iconst 1, 1) := by decide +kernel
theorem dL_law_1609 : decode cL_law 1609 = .ok (.iadd, 1) := by decide +kernel
theorem dL_law_1610 : decode cL_law 1610 = .ok (.iaload, 1) := by decide +kernel
theorem dL_law_1611 : decode cL_law 1611 = .ok (.ifCond .eq 7, 3) := by decide +kernel
theorem dL_law_1614 : decode cL_law 1614 = .ok (.iconst 1, 1) := by decide +kernel
theorem dL_law_1615 : decode cL_law 1615 = .ok (.goto 4, 3) := by decide +kernel
theorem dL_law_1618 : decode cL_law 1618 = .ok (.iconst 0, 1) := by decide +kernel
theorem dL_law_1619 : decode cL_law 1619 = .ok (.invokevirtual 222, 3) := by decide +kernel
theorem dL_law_1622 : decode cL_law 1622 = .ok (.istore 7, 2) := by decide +kernel
theorem dL_law_1624 : decode cL_law 1624 = .ok (.aload_n 2, 1) := by decide +kernel
theorem dL_law_1625 : decode cL_law 1625 = .ok (.invokevirtual 125, 3) := by decide +kernel
theorem dL_law_1628 : decode cL_law 1628 = .ok (.iload 6, 2) := by decide +kernel
theorem dL_law_1630 : decode cL_law 1630 = .ok (.if_icmp .eq 5, 3) := by decide +kernel
theorem dL_law_1633 : decode cL_law 1633 = .ok (.iconst 0, 1) := by decide +kernel
theorem dL_law_1634 : decode cL_law 1634 = .ok (.ireturn, 1) := by decide +kernel
theorem dL_law_1635 : decode cL_law 1635 = .ok (.iload 6, 2) := by decide +kernel
theorem dL_law_1637 : decode cL_law 1637 = .ok (.ifCond .ne 15, 3) := by decide +kernel
theorem dL_law_1640 : decode cL_law 1640 = .ok (.aload_n 3, 1) := by decide +kernel
theorem dL_law_1641 : decode cL_law 1641 = .ok (.iconst 0, 1) := by decide +kernel
theorem dL_law_1642 : decode cL_law 1642 = .ok (.laload, 1) := by decide +kernel
theorem dL_law_1643 : decode cL_law 1643 = .ok (.iload 7, 2) := by decide +kernel
theorem dL_law_1645 : decode cL_law 1645 = .ok (.i2l, 1) := by decide +kernel
theorem dL_law_1646 : decode cL_law 1646 = .ok (.lcmp, 1) := by decide +kernel
theorem dL_law_1647 : decode cL_law 1647 = .ok (.ifCond .eq 5, 3) := by decide +kernel
theorem dL_law_1650 : decode cL_law 1650 = .ok (.iconst 0, 1) := by decide +kernel
theorem dL_law_1651 : decode cL_law 1651 = .ok (.ireturn, 1) := by decide +kernel
theorem dL_law_1652 : decode cL_law 1652 = .ok (.goto 304, 3) := by decide +kernel
theorem dL_law_1655 : decode cL_law 1655 = .ok (.aload_n 1, 1) := by decide +kernel
theorem dL_law_1656 : decode cL_law 1656 = .ok (.aload_n 0, 1) := by decide +kernel
theorem dL_law_1657 : decode cL_law 1657 = .ok (.iload 5, 2) := by decide +kernel
theorem dL_law_1659 : decode cL_law 1659 = .ok (.iconst 1, 1) := by decide +kernel
theorem dL_law_1660 : decode cL_law 1660 = .ok (.iadd, 1) := by decide +kernel
theorem dL_law_1661 : decode cL_law 1661 = .ok (.iaload, 1) := by decide +kernel
theorem dL_law_1662 : decode cL_law 1662 = .ok (.aload_n 3, 1) := by decide +kernel
theorem dL_law_1663 : decode cL_law 1663 = .ok (.invokestatic 223, 3) := by decide +kernel
theorem dL_law_1666 : decode cL_law 1666 = .ok (.istore 6, 2) := by decide +kernel
theorem dL_law_1668 : decode cL_law 1668 = .ok (.aload_n 2, 1) := by decide +kernel
theorem dL_law_1669 : decode cL_law 1669 = .ok (.aload_n 0, 1) := by decide +kernel
theorem dL_law_1670 : decode cL_law 1670 = .ok (.iload 5, 2) := by decide +kernel
theorem dL_law_1672 : decode cL_law 1672 = .ok (.iconst 1, 1) := by decide +kernel
theorem dL_law_1673 : decode cL_law 1673 = .ok (.iadd, 1) := by decide +kernel
theorem dL_law_1674 : decode cL_law 1674 = .ok (.iaload, 1) := by decide +kernel
theorem dL_law_1675 : decode cL_law 1675 = .ok (.invokevirtual 225, 3) := by decide +kernel
theorem dL_law_1678 : decode cL_law 1678 = .ok (.istore 7, 2) := by decide +kernel
theorem dL_law_1680 : decode cL_law 1680 = .ok (.aload_n 2, 1) := by decide +kernel
theorem dL_law_1681 : decode cL_law 1681 = .ok (.invokevirtual 125, 3) := by decide +kernel
theorem dL_law_1684 : decode cL_law 1684 = .ok (.iload 6, 2) := by decide +kernel
theorem dL_law_1686 : decode cL_law 1686 = .ok (.if_icmp .eq 5, 3) := by decide +kernel
theorem dL_law_1689 : decode cL_law 1689 = .ok (.iconst 0, 1) := by decide +kernel
theorem dL_law_1690 : decode cL_law 1690 = .ok (.ireturn, 1) := by decide +kernel
theorem dL_law_1691 : decode cL_law 1691 = .ok (.iload 6, 2) := by decide +kernel
theorem dL_law_1693 : decode cL_law 1693 = .ok (.ifCond .ne 15, 3) := by decide +kernel
theorem dL_law_1696 : decode cL_law 1696 = .ok (.aload_n 3, 1) := by decide +kernel
theorem dL_law_1697 : decode cL_law 1697 = .ok (.iconst 0, 1) := by decide +kernel
theorem dL_law_1698 : decode cL_law 1698 = .ok (.laload, 1) := by decide +kernel
theorem dL_law_1699 : decode cL_law 1699 = .ok (.iload 7, 2) := by decide +kernel
theorem dL_law_1701 : decode cL_law 1701 = .ok (.i2l, 1) := by decide +kernel
theorem dL_law_1702 : decode cL_law 1702 = .ok (.lcmp, 1) := by decide +kernel
theorem dL_law_1703 : decode cL_law 1703 = .ok (.ifCond .eq 5, 3) := by decide +kernel
theorem dL_law_1706 : decode cL_law 1706 = .ok (.iconst 0, 1) := by decide +kernel
theorem dL_law_1707 : decode cL_law 1707 = .ok (.ireturn, 1) := by decide +kernel
theorem dL_law_1708 : decode cL_law 1708 = .ok (.goto 248, 3) := by decide +kernel
theorem dL_law_1711 : decode cL_law 1711 = .ok (.aload_n 1, 1) := by decide +kernel
theorem dL_law_1712 : decode cL_law 1712 = .ok (.invokevirtual 226, 3) := by decide +kernel
theorem dL_law_1715 : decode cL_law 1715 = .ok (.aload_n 2, 1) := by decide +kernel
theorem dL_law_1716 : decode cL_law 1716 = .ok (.invokevirtual 230, 3) := by decide +kernel
theorem dL_law_1719 : decode cL_law 1719 = .ok (.if_icmp .eq 237, 3) := by decide +kernel
theorem dL_law_1722 : decode cL_law 1722 = .ok (.iconst 0, 1) := by decide +kernel
theorem dL_law_1723 : decode cL_law 1723 = .ok (.ireturn, 1) := by decide +kernel
theorem dL_law_1724 : decode cL_law 1724 = .ok (.aload_n 1, 1) := by decide +kernel
theorem dL_law_1725 : decode cL_law 1725 = .ok (.aload 4, 2) := by decide +kernel
theorem dL_law_1727 : decode cL_law 1727 = .ok (.invokestatic 231, 3) := by decide +kernel
theorem dL_law_1730 : decode cL_law 1730 = .ok (.istore 6, 2) := by decide +kernel
theorem dL_law_1732 : decode cL_law 1732 = .ok (.aload_n 2, 1) := by decide +kernel
theorem dL_law_1733 : decode cL_law 1733 = .ok (.invokevirtual 234, 3) := by decide +kernel
theorem dL_law_1736 : decode cL_law 1736 = .ok (.dstore 7, 2) := by decide +kernel
theorem dL_law_1738 : decode cL_law 1738 = .ok (.aload_n 2, 1) := by decide +kernel
theorem dL_law_1739 : decode cL_law 1739 = .ok (.invokevirtual 125, 3) := by decide +kernel
theorem dL_law_1742 : decode cL_law 1742 = .ok (.iload 6, 2) := by decide +kernel
theorem dL_law_1744 : decode cL_law 1744 = .ok (.if_icmp .eq 5, 3) := by decide +kernel
theorem dL_law_1747 : decode cL_law 1747 = .ok (.iconst 0, 1) := by decide +kernel
theorem dL_law_1748 : decode cL_law 1748 = .ok (.ireturn, 1) := by decide +kernel
theorem dL_law_1749 : decode cL_law 1749 = .ok (.iload 6, 2) := by decide +kernel
theorem dL_law_1751 : decode cL_law 1751 = .ok (.ifCond .ne 35, 3) := by decide +kernel
theorem dL_law_1754 : decode cL_law 1754 = .ok (.aload 4, 2) := by decide +kernel
theorem dL_law_1756 : decode cL_law 1756 = .ok (.iconst 0, 1) := by decide +kernel
theorem dL_law_1757 : decode cL_law 1757 = .ok (.daload, 1) := by decide +kernel
theorem dL_law_1758 : decode cL_law 1758 = .ok (.dload 7, 2) := by decide +kernel
theorem dL_law_1760 : decode cL_law 1760 = .ok (.dcmp .l, 1) := by decide +kernel
theorem dL_law_1761 : decode cL_law 1761 = .ok (.ifCond .eq 25, 3) := by decide +kernel
theorem dL_law_1764 : decode cL_law 1764 = .ok (.aload 4, 2) := by decide +kernel
theorem dL_law_1766 : decode cL_law 1766 = .ok (.iconst 0, 1) := by decide +kernel
theorem dL_law_1767 : decode cL_law 1767 = .ok (.daload, 1) := by decide +kernel
theorem dL_law_1768 : decode cL_law 1768 = .ok (.aload 4, 2) := by decide +kernel
theorem dL_law_1770 : decode cL_law 1770 = .ok (.iconst 0, 1) := by decide +kernel
theorem dL_law_1771 : decode cL_law 1771 = .ok (.daload, 1) := by decide +kernel
theorem dL_law_1772 : decode cL_law 1772 = .ok (.dcmp .l, 1) := by decide +kernel
theorem dL_law_1773 : decode cL_law 1773 = .ok (.ifCond .eq 11, 3) := by decide +kernel
theorem dL_law_1776 : decode cL_law 1776 = .ok (.dload 7, 2) := by decide +kernel
theorem dL_law_1778 : decode cL_law 1778 = .ok (.dload 7, 2) := by decide +kernel
theorem dL_law_1780 : decode cL_law 1780 = .ok (.dcmp .l, 1) := by decide +kernel
theorem dL_law_1781 : decode cL_law 1781 = .ok (.ifCond .ne 5, 3) := by decide +kernel
theorem dL_law_1784 : decode cL_law 1784 = .ok (.iconst 0, 1) := by decide +kernel
theorem dL_law_1785 : decode cL_law 1785 = .ok (.ireturn, 1) := by decide +kernel
theorem dL_law_1786 : decode cL_law 1786 = .ok (.goto 170, 3) := by decide +kernel
theorem dL_law_1789 : decode cL_law 1789 = .ok (.aload_n 1, 1) := by decide +kernel
theorem dL_law_1790 : decode cL_law 1790 = .ok (.aload 4, 2) := by decide +kernel
theorem dL_law_1792 : decode cL_law 1792 = .ok (.invokestatic 235, 3) := by decide +kernel
theorem dL_law_1795 : decode cL_law 1795 = .ok (.istore 6, 2) := by decide +kernel
theorem dL_law_1797 : decode cL_law 1797 = .ok (.aload_n 2, 1) := by decide +kernel
theorem dL_law_1798 : decode cL_law 1798 = .ok (.invokevirtual 237, 3) := by decide +kernel
theorem dL_law_1801 : decode cL_law 1801 = .ok (.fstore 7, 2) := by decide +kernel
theorem dL_law_1803 : decode cL_law 1803 = .ok (.aload_n 2, 1) := by decide +kernel
theorem dL_law_1804 : decode cL_law 1804 = .ok (.invokevirtual 125, 3) := by decide +kernel
theorem dL_law_1807 : decode cL_law 1807 = .ok (.iload 6, 2) := by decide +kernel
theorem dL_law_1809 : decode cL_law 1809 = .ok (.if_icmp .eq 5, 3) := by decide +kernel
theorem dL_law_1812 : decode cL_law 1812 = .ok (.iconst 0, 1) := by decide +kernel
theorem dL_law_1813 : decode cL_law 1813 = .ok (.ireturn, 1) := by decide +kernel
theorem dL_law_1814 : decode cL_law 1814 = .ok (.iload 6, 2) := by decide +kernel
theorem dL_law_1816 : decode cL_law 1816 = .ok (.ifCond .ne 36, 3) := by decide +kernel
theorem dL_law_1819 : decode cL_law 1819 = .ok (.aload 4, 2) := by decide +kernel
theorem dL_law_1821 : decode cL_law 1821 = .ok (.iconst 0, 1) := by decide +kernel
theorem dL_law_1822 : decode cL_law 1822 = .ok (.daload, 1) := by decide +kernel
theorem dL_law_1823 : decode cL_law 1823 = .ok (.fload 7, 2) := by decide +kernel
theorem dL_law_1825 : decode cL_law 1825 = .ok (.f2d, 1) := by decide +kernel
theorem dL_law_1826 : decode cL_law 1826 = .ok (.dcmp .l, 1) := by decide +kernel
theorem dL_law_1827 : decode cL_law 1827 = .ok (.ifCond .eq 25, 3) := by decide +kernel
theorem dL_law_1830 : decode cL_law 1830 = .ok (.aload 4, 2) := by decide +kernel
theorem dL_law_1832 : decode cL_law 1832 = .ok (.iconst 0, 1) := by decide +kernel
theorem dL_law_1833 : decode cL_law 1833 = .ok (.daload, 1) := by decide +kernel
theorem dL_law_1834 : decode cL_law 1834 = .ok (.aload 4, 2) := by decide +kernel
theorem dL_law_1836 : decode cL_law 1836 = .ok (.iconst 0, 1) := by decide +kernel
theorem dL_law_1837 : decode cL_law 1837 = .ok (.daload, 1) := by decide +kernel
theorem dL_law_1838 : decode cL_law 1838 = .ok (.dcmp .l, 1) := by decide +kernel
theorem dL_law_1839 : decode cL_law 1839 = .ok (.ifCond .eq 11, 3) := by decide +kernel
theorem dL_law_1842 : decode cL_law 1842 = .ok (.fload 7, 2) := by decide +kernel
theorem dL_law_1844 : decode cL_law 1844 = .ok (.fload 7, 2) := by decide +kernel
theorem dL_law_1846 : decode cL_law 1846 = .ok (.fcmp .l, 1) := by decide +kernel
theorem dL_law_1847 : decode cL_law 1847 = .ok (.ifCond .ne 5, 3) := by decide +kernel
theorem dL_law_1850 : decode cL_law 1850 = .ok (.iconst 0, 1) := by decide +kernel
theorem dL_law_1851 : decode cL_law 1851 = .ok (.ireturn, 1) := by decide +kernel
theorem dL_law_1852 : decode cL_law 1852 = .ok (.goto 104, 3) := by decide +kernel
theorem dL_law_1855 : decode cL_law 1855 = .ok (.aload_n 1, 1) := by decide +kernel
theorem dL_law_1856 : decode cL_law 1856 = .ok (.aload_n 3, 1) := by decide +kernel
theorem dL_law_1857 : decode cL_law 1857 = .ok (.invokestatic 238, 3) := by decide +kernel
theorem dL_law_1860 : decode cL_law 1860 = .ok (.istore 6, 2) := by decide +kernel
theorem dL_law_1862 : decode cL_law 1862 = .ok (.aload_n 2, 1) := by decide +kernel
theorem dL_law_1863 : decode cL_law 1863 = .ok (.invokevirtual 240, 3) := by decide +kernel
theorem dL_law_1866 : decode cL_law 1866 = .ok (.istore 7, 2) := by decide +kernel
theorem dL_law_1868 : decode cL_law 1868 = .ok (.aload_n 2, 1) := by decide +kernel
theorem dL_law_1869 : decode cL_law 1869 = .ok (.invokevirtual 125, 3) := by decide +kernel
theorem dL_law_1872 : decode cL_law 1872 = .ok (.iload 6, 2) := by decide +kernel
theorem dL_law_1874 : decode cL_law 1874 = .ok (.if_icmp .eq 5, 3) := by decide +kernel
theorem dL_law_1877 : decode cL_law 1877 = .ok (.iconst 0, 1) := by decide +kernel
theorem dL_law_1878 : decode cL_law 1878 = .ok (.ireturn, 1) := by decide +kernel
theorem dL_law_1879 : decode cL_law 1879 = .ok (.iload 6, 2) := by decide +kernel
theorem dL_law_1881 : decode cL_law 1881 = .ok (.ifCond .ne 15, 3) := by decide +kernel
theorem dL_law_1884 : decode cL_law 1884 = .ok (.aload_n 3, 1) := by decide +kernel
theorem dL_law_1885 : decode cL_law 1885 = .ok (.iconst 0, 1) := by decide +kernel
theorem dL_law_1886 : decode cL_law 1886 = .ok (.laload, 1) := by decide +kernel
theorem dL_law_1887 : decode cL_law 1887 = .ok (.iload 7, 2) := by decide +kernel
theorem dL_law_1889 : decode cL_law 1889 = .ok (.i2l, 1) := by decide +kernel
theorem dL_law_1890 : decode cL_law 1890 = .ok (.lcmp, 1) := by decide +kernel
theorem dL_law_1891 : decode cL_law 1891 = .ok (.ifCond .eq 5, 3) := by decide +kernel
theorem dL_law_1894 : decode cL_law 1894 = .ok (.iconst 0, 1) := by decide +kernel
theorem dL_law_1895 : decode cL_law 1895 = .ok (.ireturn, 1) := by decide +kernel
theorem dL_law_1896 : decode cL_law 1896 = .ok (.goto 60, 3) := by decide +kernel
theorem dL_law_1899 : decode cL_law 1899 = .ok (.aload_n 1, 1) := by decide +kernel
theorem dL_law_1900 : decode cL_law 1900 = .ok (.invokevirtual 241, 3) := by decide +kernel
theorem dL_law_1903 : decode cL_law 1903 = .ok (.aload_n 2, 1) := by decide +kernel
theorem dL_law_1904 : decode cL_law 1904 = .ok (.invokevirtual 244, 3) := by decide +kernel
theorem dL_law_1907 : decode cL_law 1907 = .ok (.if_icmp .eq 49, 3) := by decide +kernel
theorem dL_law_1910 : decode cL_law 1910 = .ok (.iconst 0, 1) := by decide +kernel
theorem dL_law_1911 : decode cL_law 1911 = .ok (.ireturn, 1) := by decide +kernel
theorem dL_law_1912 : decode cL_law 1912 = .ok (.aload_n 1, 1) := by decide +kernel
theorem dL_law_1913 : decode cL_law 1913 = .ok (.aload_n 3, 1) := by decide +kernel
theorem dL_law_1914 : decode cL_law 1914 = .ok (.invokestatic 245, 3) := by decide +kernel
theorem dL_law_1917 : decode cL_law 1917 = .ok (.istore 6, 2) := by decide +kernel
theorem dL_law_1919 : decode cL_law 1919 = .ok (.aload_n 2, 1) := by decide +kernel
theorem dL_law_1920 : decode cL_law 1920 = .ok (.invokevirtual 247, 3) := by decide +kernel
theorem dL_law_1923 : decode cL_law 1923 = .ok (.istore 7, 2) := by decide +kernel
theorem dL_law_1925 : decode cL_law 1925 = .ok (.aload_n 2, 1) := by decide +kernel
theorem dL_law_1926 : decode cL_law 1926 = .ok (.invokevirtual 125, 3) := by decide +kernel
theorem dL_law_1929 : decode cL_law 1929 = .ok (.iload 6, 2) := by decide +kernel
theorem dL_law_1931 : decode cL_law 1931 = .ok (.if_icmp .eq 5, 3) := by decide +kernel
theorem dL_law_1934 : decode cL_law 1934 = .ok (.iconst 0, 1) := by decide +kernel
theorem dL_law_1935 : decode cL_law 1935 = .ok (.ireturn, 1) := by decide +kernel
theorem dL_law_1936 : decode cL_law 1936 = .ok (.iload 6, 2) := by decide +kernel
theorem dL_law_1938 : decode cL_law 1938 = .ok (.ifCond .ne 15, 3) := by decide +kernel
theorem dL_law_1941 : decode cL_law 1941 = .ok (.aload_n 3, 1) := by decide +kernel
theorem dL_law_1942 : decode cL_law 1942 = .ok (.iconst 0, 1) := by decide +kernel
theorem dL_law_1943 : decode cL_law 1943 = .ok (.laload, 1) := by decide +kernel
theorem dL_law_1944 : decode cL_law 1944 = .ok (.iload 7, 2) := by decide +kernel
theorem dL_law_1946 : decode cL_law 1946 = .ok (.i2l, 1) := by decide +kernel
theorem dL_law_1947 : decode cL_law 1947 = .ok (.lcmp, 1) := by decide +kernel
theorem dL_law_1948 : decode cL_law 1948 = .ok (.ifCond .eq 5, 3) := by decide +kernel
theorem dL_law_1951 : decode cL_law 1951 = .ok (.iconst 0, 1) := by decide +kernel
theorem dL_law_1952 : decode cL_law 1952 = .ok (.ireturn, 1) := by decide +kernel
theorem dL_law_1953 : decode cL_law 1953 = .ok (.goto 3, 3) := by decide +kernel
theorem dL_law_1956 : decode cL_law 1956 = .ok (.iinc 5 4, 3) := by decide +kernel
theorem dL_law_1959 : decode cL_law 1959 = .ok (.goto (-1931), 3) := by decide +kernel
theorem dL_law_1962 : decode cL_law 1962 = .ok (.iconst 1, 1) := by decide +kernel
theorem dL_law_1963 : decode cL_law 1963 = .ok (.ireturn, 1) := by decide +kernel
end
section
/-! THE ABSTRACT WORLD: the heap's cells by fixed numbers, their contents as ints; one list of words for all methods. -/
def UW : List Cond := lw_tbl.filter goodWord
theorem uw_in {w : Cond} (i : Nat) (h : lw_tbl[i]? = some w) (g : goodWord w = true) : w ∈ UW := List.mem_filter.mpr ⟨List.mem_of_getElem? h, g⟩
theorem uw_good {w : Cond} (h : w ∈ UW) : goodWord w = true := (List.mem_filter.mp h).2
theorem uw_tbl {w : Cond} (h : w ∈ UW) : w ∈ lw_tbl := (List.mem_filter.mp h).1
theorem uw_goodIn {big : List Cond} (h : ∀ w ∈ UW, w ∈ big) : GoodIn big UW := fun w hw => ⟨h w hw, good_of_word (uw_good hw)⟩
theorem uw_all {L : List Cond} (h : L.all (fun w => decide (w ∈ lw_tbl) && goodWord w) = true) : ∀ w ∈ L, w ∈ UW := by
  intro w hw
  have h1 := List.all_eq_true.mp h w hw
  simp only [Bool.and_eq_true, decide_eq_true_eq] at h1
  exact List.mem_filter.mpr h1
/-- words that no list of good words carries, moved by the tables alone -/
def isBW : Cond → Bool
  | .declares _ => true
  | .castable _ _ => true
  | _ => false
def BW : List Cond := lw_tbl.filter isBW
def WB (U : State) : Prop := ∀ w ∈ BW, w.before #[] U = true
theorem isBW_tab {w : Cond} (h : isBW w = true) : w.onTables = true := by
  cases w <;> first | rfl | (simp [isBW] at h)
theorem isBW_moved {w : Cond} (hw : isBW w = true) {u U : State} (hvm : u.vm.Alike U.vm) (h : w.before #[] u = true) : w.before #[] U = true := by
  have tr : ∀ {c : Cond}, c.onTables = true → c.before #[] (u.setVm U.vm) = true → c.before #[] U = true := by
    intro c hc h
    have e := Cond.onTables_vm (A := #[]) (A' := #[]) (U := u) (U' := U) U.vm c hc
    have hU : U.setVm U.vm = U := rfl
    rw [hU] at e
    rw [← e]
    exact h
  cases w with
  | declares x => exact tr rfl (by rw [Cond.declares_setVm hvm]; exact h)
  | castable a b => exact tr rfl (by rw [Cond.castable_setVm hvm]; exact h)
  | _ => simp [isBW] at hw
theorem WB.moved {u U : State} (hvm : u.vm.Alike U.vm) (h : WB u) : WB U := fun w hw => isBW_moved (List.mem_filter.mp hw).2 hvm (h w hw)
theorem WB.use {U : State} (h : WB U) {w : Cond} (hw : w ∈ BW) {A : Array Value} : w.before A U = true := va_tabs (isBW_tab (List.mem_filter.mp hw).2) rfl (h w hw)
/-! the classes, the shapes of the cells -/
abbrev vwC : List vw_C := [(RX0, TX0, 2), (RX1, TX1, 12), (RX2, TX2, 6), (RX3, TX3, 3), (RX4, TX4, 12), (RX5, TX5, 19)]
abbrev Sh : Type := (Nat × List (Option Nat)) ⊕ (Nat × Nat × List Nat)
abbrev VT : Type := Nat → Nat → Int32
def landSh (a : Nat) : List Sh := [.inl (1, [some (a+1), some (a+2), some (a+3), some (a+4), some (a+5), some (a+6), some (a+7), some (a+8), none, none, none, none]), .inr (0, 7, []), .inr (0, 7, []), .inr (0, 7, []), .inr (0, 7, []), .inr (0, 7, []), .inr (0, 7, []), .inr (0, 5, []), .inr (0, 5, [])]
/-- 0: FlagHues; 1, 10, 19: its lands; 28, 29: Past and its row; 30, 39 ..: the lands kept; 102: Counter; 105: Orders; 108: the line; 109: the reference, its rows behind; 118, 119: the law's two rows -/
def shp : List Sh :=
  [.inl (4, [some 1, some 10, some 19, some 28, some 102, some 105, some 108, none, none, none, none, none])] ++
  landSh 1 ++ landSh 10 ++ landSh 19 ++
  [.inl (3, [some 29, none, none]), .inr (4, 8, [30, 39, 48, 57, 66, 75, 84, 93])] ++
  landSh 30 ++ landSh 39 ++ landSh 48 ++ landSh 57 ++ landSh 66 ++ landSh 75 ++ landSh 84 ++ landSh 93 ++
  [.inl (0, [some 103, some 104]), .inr (0, 5, []), .inr (0, 7, [])] ++
  [.inl (2, [some 106, none, none, none, some 107, none]), .inr (1, 60, []), .inr (0, 3, [])] ++
  [.inr (1, 17, [])] ++
  [.inl (5, [some 110, some 111, some 112, some 113, none, none, none, none, none, none, some 114, none, none, some 115, none, some 116, none, some 117, none]),
   .inr (0, 56, []), .inr (0, 448, []), .inr (0, 56, []), .inr (0, 56, []), .inr (0, 60, []), .inr (1, 40, []), .inr (0, 7, []), .inr (0, 128, [])] ++
  [.inr (2, 1, []), .inr (3, 1, [])]
abbrev NC : Nat := 120
theorem shp_len : shp.length = NC := by decide +kernel
theorem shp_lt {k : Nat} {x : Sh} (h : shp[k]? = some x) : k < NC := by
  have := (List.getElem?_eq_some_iff.mp h).1
  rw [shp_len] at this
  exact this
/-- a double of its two halves -/
def u64 (lo hi : Int32) : UInt64 := UInt64.ofNat (lo.toBitVec.toNat + 4294967296 * hi.toBitVec.toNat)
def lo64 (x : UInt64) : Int32 := Int32.ofNat (x.toNat % 4294967296)
def hi64 (x : UInt64) : Int32 := Int32.ofNat (x.toNat / 4294967296)
def fdV (ad : Nat → Nat) (x : Int32) : Option Nat → Value
  | some t => Value.ref (ad t)
  | none => Value.int x
def mkF (ad : Nat → Nat) (v : Nat → Int32) : Nat → List (Option Nat) → List Value
  | _, [] => []
  | j, f :: fs => fdV ad (v j) f :: mkF ad v (j + 1) fs
theorem mkF_get (ad : Nat → Nat) (v : Nat → Int32) : ∀ (fs : List (Option Nat)) (j i : Nat), (mkF ad v j fs)[i]? = (fs[i]?).map (fdV ad (v (j + i)))
  | [], j, i => by simp [mkF]
  | f :: fs, j, 0 => by simp [mkF]
  | f :: fs, j, i + 1 => by
    show (fdV ad (v j) f :: mkF ad v (j + 1) fs)[i + 1]? = _
    rw [List.getElem?_cons_succ, List.getElem?_cons_succ, mkF_get ad v fs (j + 1) i, Nat.add_assoc, Nat.add_comm 1 i]
theorem mkF_len (ad : Nat → Nat) (v : Nat → Int32) : ∀ (fs : List (Option Nat)) (j : Nat), (mkF ad v j fs).length = fs.length
  | [], j => rfl
  | f :: fs, j => by simp [mkF, mkF_len ad v fs (j + 1)]
def cellK (cs : Nat → ClassId) (ad : Nat → Nat) (v : Nat → Int32) : Sh → va_E
  | .inl (ci, fs) => .inr (ci, mkF ad v 0 fs)
  | .inr (kind, len, rf) => .inl (cs kind, len, if kind = 2 then .inr (.inl (fun j => (v j).toInt64)) else if kind = 3 then .inr (.inr (.inr (.inl (fun j => u64 (v (2 * j)) (v (2 * j + 1)))))) else if kind = 4 then .inr (.inr (.inr (.inr (fun j => (rf[j]?).map ad)))) else .inl v)
def cellOf (cs : Nat → ClassId) (ad : Nat → Nat) (V : VT) (k : Nat) : va_E := cellK cs ad (V k) (shp.getD k (.inl (0, [])))
def wsOf (cs : Nat → ClassId) (ad : Nat → Nat) (V : VT) : va_W := (List.range NC).map (fun k => (ad k, cellOf cs ad V k))
theorem cellOf_sh {cs : Nat → ClassId} {ad : Nat → Nat} {V : VT} {k : Nat} {x : Sh} (h : shp[k]? = some x) : cellOf cs ad V k = cellK cs ad (V k) x := by
  unfold cellOf
  rw [List.getD_eq_getElem?_getD, h]
  rfl
theorem ws_at {cs : Nat → ClassId} {ad : Nat → Nat} {V : VT} {k : Nat} {x : Sh} (h : shp[k]? = some x) : (wsOf cs ad V)[k]? = some (ad k, cellK cs ad (V k) x) := by
  have hk := shp_lt h
  rw [← cellOf_sh h]
  simp [wsOf, hk]
theorem ws_set {cs : Nat → ClassId} {ad : Nat → Nat} {V V' : VT} {k : Nat} {e : va_E} (he : cellOf cs ad V' k = e) (ho : ∀ j, j ≠ k → V' j = V j) : (wsOf cs ad V).set k (ad k, e) = wsOf cs ad V' := by
  apply List.ext_getElem?
  intro i
  by_cases hi : i = k
  · subst hi
    by_cases hk : i < NC
    · rw [List.getElem?_set_self (by simpa [wsOf] using hk)]
      simp [wsOf, hk, he]
    · rw [List.getElem?_eq_none (by simpa [wsOf] using hk), List.getElem?_eq_none (by simpa [wsOf] using hk)]
  · rw [List.getElem?_set_ne (fun q => hi q.symm)]
    by_cases hk : i < NC
    · simp [wsOf, hk, cellOf, ho i hi]
    · rw [List.getElem?_eq_none (by simpa [wsOf] using hk), List.getElem?_eq_none (by simpa [wsOf] using hk)]
def up2 (V : VT) (k j : Nat) (x : Int32) : VT := fun a => if a = k then upd (V k) j x else V a
theorem up2_k (V : VT) (k j : Nat) (x : Int32) : up2 V k j x k = upd (V k) j x := by simp [up2]
theorem up2_o (V : VT) {k a : Nat} (j : Nat) (x : Int32) (h : a ≠ k) : up2 V k j x a = V a := by simp [up2, h]
/-- what a copy of cells leaves -/
def cp2 (V : VT) (a0 a sp dp n : Nat) : VT := fun q => if q = a then va_cpy (V a0) (V a) sp dp n else V q
theorem cp2_k (V : VT) (a0 a sp dp n : Nat) : cp2 V a0 a sp dp n a = va_cpy (V a0) (V a) sp dp n := by simp [cp2]
theorem cp2_o (V : VT) {a0 a q : Nat} (sp dp n : Nat) (h : q ≠ a) : cp2 V a0 a sp dp n q = V q := by simp [cp2, h]
/-- a double's halves are kept in one cell -/
def upD (V : VT) (k : Nat) (x : UInt64) : VT := fun a => if a = k then upd (upd (V k) 0 (lo64 x)) 1 (hi64 x) else V a
theorem upD_k (V : VT) (k : Nat) (x : UInt64) : upD V k x k = upd (upd (V k) 0 (lo64 x)) 1 (hi64 x) := by simp [upD]
theorem upD_o (V : VT) {k a : Nat} (x : UInt64) (h : a ≠ k) : upD V k x a = V a := by simp [upD, h]
theorem u64_halves (x : UInt64) : u64 (lo64 x) (hi64 x) = x := by
  have h1 : x.toNat < 18446744073709551616 := x.toNat_lt
  have a1 : (lo64 x).toBitVec.toNat = x.toNat % 4294967296 := by
    unfold lo64
    rw [show (Int32.ofNat (x.toNat % 4294967296)).toBitVec = BitVec.ofNat 32 (x.toNat % 4294967296) from rfl, BitVec.toNat_ofNat]
    omega
  have a2 : (hi64 x).toBitVec.toNat = x.toNat / 4294967296 := by
    unfold hi64
    rw [show (Int32.ofNat (x.toNat / 4294967296)).toBitVec = BitVec.ofNat 32 (x.toNat / 4294967296) from rfl, BitVec.toNat_ofNat]
    omega
  unfold u64
  rw [a1, a2]
  apply UInt64.toNat_inj.mp
  rw [UInt64.toNat_ofNat']
  omega
def AdOk (ad : Nat → Nat) (b0 : Nat) : Prop := (∀ i j : Nat, i < NC → j < NC → ad i = ad j → i = j) ∧ ∀ i : Nat, i < NC → b0 ≤ ad i
theorem ws_D {cs : Nat → ClassId} {ad : Nat → Nat} {b0 : Nat} (h : AdOk ad b0) (V : VT) : va_D (fun q => b0 ≤ q) (wsOf cs ad V) := by
  have at' : ∀ {i : Nat} {p : Nat × va_E}, (wsOf cs ad V)[i]? = some p → i < NC ∧ p.1 = ad i := by
    intro i p hp
    have hi : i < NC := by
      have := (List.getElem?_eq_some_iff.mp hp).1
      simpa [wsOf] using this
    refine ⟨hi, ?_⟩
    simp [wsOf, hi] at hp
    rw [← hp]
  refine ⟨fun i j p q hp hq hpq => ?_, fun k q hq => ?_⟩
  · obtain ⟨h1, h2⟩ := at' hp
    obtain ⟨h3, h4⟩ := at' hq
    exact h.1 i j h1 h3 (by rw [← h2, ← h4, hpq])
  · obtain ⟨h1, h2⟩ := at' hq
    rw [h2]
    exact h.2 k h1
def tysOf (cs : Nat → ClassId) : List (ClassId × FieldType) := [(cs 0, .int), (cs 1, .char), (cs 2, .long), (cs 3, .double), (cs 4, .object RX1)]
/-! the strings: messages; the shapes of orders (places 200 .., their bytes 210 ..) -/
def strM : List (String × Nat × String) := [(RX4, 66, "a size is from 1 to 9"), (RX4, 370, "refused"), (RX4, 360, "there is no such country"), (RX4, 139, "what is from 0 to 6"), (RX4, 145, "from 1 to 5 hues can be used"), (RX4, 365, "there is no such hue"), (RX4, 159, "from 1 to 50 pots are brought"), (RX4, 173, "what is from 0 to 3"), (RX4, 195, "there is no such step"), (RX4, 204, "no country is stuck"), (RX4, 209, "all countries are painted"), (RX4, 214, "no hue is free for the country"), (RX4, 219, "a crown is from 0 to 9"), (RX4, 238, "the country has no wish"), (RX4, 246, "5 hues are not enough"), (RX4, 274, "the line has no such index"), (RX4, 282, "the input contains 60 characters"), (RX4, 294, "the text has an error, or an order has a number out of range"), (RX4, 298, "an order is refused"), (RX4, 301, "nothing was refused"), (RX4, 328, "what is from 0 to 12"), (RX4, 339, "no country is painted"), (RX4, 345, "there are no countries"), (RX4, 347, "no change can be undone"), (RX4, 355, "there is no snapshot")]
def strS : List (Nat × String) := [(53, "d=d"), (55, "d-d"), (57, ""), (59, "d=d*d"), (61, "n"), (63, "d+n")]
def strLen : List Nat := strS.map (fun q => q.2.length)
def strByt : List (List Int32) := strS.map (fun q => q.2.toList.map (fun c => Int32.ofNat c.toNat))
/-- what stands still: classes, words, strings, two statics -/
def ST (D : va_G) (cs : Nat → ClassId) (ad : Nat → Nat) (b0 : Nat) (U : State) (H : Heap) : Prop :=
  va_K D vwC (tysOf cs) U ∧ WB U ∧ (∀ q ∈ strM, ∃ sa, vk_R q.1 q.2.1 q.2.2 sa U) ∧ (∀ i q, strS[i]? = some q → vk_R RX2 q.1 q.2 (ad (200 + i)) U) ∧
  vk_S 6 strLen strByt (fun i => ad (200 + i)) (fun i => ad (210 + i)) (fun q => b0 ≤ q) U H ∧
  vx_Zq Bundle.tN "UNASSIGNED_STACK" Bundle.steD (fun q => b0 ≤ q) U H ∧ vx_Zq Bundle.tN "SUPPRESSED_SENTINEL" Bundle.listD (fun q => b0 ≤ q) U H
theorem ST.warm {D : va_G} {cs : Nat → ClassId} {ad : Nat → Nat} {b0 : Nat} {s U : State} {H : Heap} (hW : s.WarmedH U.vm) (h : ST D cs ad b0 s H) : ST D cs ad b0 U H := by
  obtain ⟨h1, h2, h3, h4, h5, h6, h7⟩ := h
  refine ⟨va_K.moved hW.alike h1, WB.moved hW.alike h2, fun q hq => ?_, fun i q hq => vk_R.warm hW (h4 i q hq), vk_S.moved hW.alike h5, vx_Zq.moved hW.alike h6, vx_Zq.moved hW.alike h7⟩
  obtain ⟨sa, hs⟩ := h3 q hq
  exact ⟨sa, vk_R.warm hW hs⟩
theorem ST.kept {D : va_G} {cs : Nat → ClassId} {ad : Nat → Nat} {b0 : Nat} {U : State} {H H1 : Heap} (h : ST D cs ad b0 U H) (hq : ∀ a : Nat, a < H.size → ¬ b0 ≤ a → H1[a]? = H[a]?) : ST D cs ad b0 U H1 :=
  ⟨h.1, h.2.1, h.2.2.1, h.2.2.2.1, h.2.2.2.2.1.kept hq, h.2.2.2.2.2.1.kept hq, h.2.2.2.2.2.2.kept hq⟩
theorem ST.calling {D : va_G} {cs : Nat → ClassId} {ad : Nat → Nat} {b0 : Nat} {U : State} {H : Heap} (g : JFrame) (mk : MethodId) (a : Array Value) (h : ST D cs ad b0 U H) : ST D cs ad b0 (U.calling g mk a) H :=
  ST.warm (s := U) (U := U.calling g mk a) (State.WarmedH.refl U) h
/-! THE CONTRACT of a method over the abstract world -/
abbrev OutV : Type := (Option Value) ⊕ String
def P0 (D : va_G) (cs : Nat → ClassId) (ad : Nat → Nat) (b0 : Nat) (V : VT) (U : State) : Prop := b0 ≤ U.heap.size ∧ va_P D vwC (wsOf cs ad V) U.heap ∧ ST D cs ad b0 U U.heap
def QR (D : va_G) (cs : Nat → ClassId) (ad : Nat → Nat) (b0 : Nat) (V : VT) (r : OutV) : Array Value → State → Outcome → State → Prop := fun _ st oc t => (∃ v, r = .inl v ∧ oc = .returned v ∧ va_P D vwC (wsOf cs ad V) t.heap) ∧ va_F (fun q => b0 ≤ q) st t
def XR (D : va_G) (cs : Nat → ClassId) (ad : Nat → Nat) (b0 : Nat) (V : VT) (r : OutV) : String → State → State → Prop := fun E st t => r = .inr E ∧ va_P D vwC (wsOf cs ad V) t.heap ∧ va_F (fun q => b0 ≤ q) st t
abbrev rmOf (d k : Nat) : Room := { frames := d, cells := k, slots := 6 * k, locals := 64 * d }
def AM (d k : Nat) (y : MethodName) (hd : Cond) (As : (Nat → Nat) → List Value) (V V' : VT) (r : (Nat → Nat) → OutV) : Prop :=
  ∀ (l : Launch), l.stackTraces = false → ∀ (D : va_G) (cs : Nat → ClassId) (ad : Nat → Nat) (b0 : Nat), AdOk ad b0 →
    vx_Met l y (hd :: UW) (rmOf d k) (va_Pc (As ad) (P0 D cs ad b0 V)) (QR D cs ad b0 V' (r ad)) (XR D cs ad b0 V' (r ad)) k (6 * k) (fun q => b0 ≤ q)
def Ctx (p : Program) (l : Launch) (s : State) (m : MethodId) (args : Array Value) (meth : Method) (c : Code) (D : va_G) (cs : Nat → ClassId) (ad : Nat → Nat) (b0 : Nat) (own : String) (cc : ByteArray) (nL : Nat) (ret : Option FieldType) : Prop :=
  p.tables.exec = Jvm.exec ∧ c.code = cc ∧ c.maxLocals = nL ∧ s.vm.findClass own = some m.cls ∧ (∀ w ∈ UW, w.before args s = true) ∧ l.stackTraces = false ∧ meth.locks = false ∧ meth.sig.returnType = ret ∧ AdOk ad b0 ∧ b0 ≤ s.heap.size ∧ ST D cs ad b0 s s.heap
def AW (p : Program) (l : Launch) (e : Env) (R : Room) (s : State) (m : MethodId) (args : Array Value) (below : List Frame) (meth : Method) (c : Code) (D : va_G) (cs : Nat → ClassId) (ad : Nat → Nat) (b0 : Nat) (Q : State → Prop) (nL k : Nat) (V : VT) (lv : List (Nat × Value)) (st : List Value) (pc : Nat) : Prop :=
  ∀ (H : Heap) (locs : List Loc) (ls : Array Slot), va_P D vwC (wsOf cs ad V) H → va_S (fun q => b0 ≤ q) s.heap H locs → lv_has ls nL lv → W p l e R s m args below meth c H locs k (6 * k) Q (F0 m pc ls st)
/-- a thrown E over the frame at pc -/
def AX (p : Program) (l : Launch) (e : Env) (R : Room) (s : State) (m : MethodId) (args : Array Value) (below : List Frame) (meth : Method) (c : Code) (D : va_G) (cs : Nat → ClassId) (ad : Nat → Nat) (b0 : Nat) (Q : State → Prop) (nL k : Nat) (V : VT) (lv : List (Nat × Value)) (E : String) (pc : Nat) : Prop :=
  ∀ (H : Heap) (locs : List Loc) (ls : Array Slot) (st : List Value) (ce : Cell) (q : Addr), va_P D vwC (wsOf cs ad V) H → va_S (fun q => b0 ≤ q) s.heap H locs → lv_has ls nL lv → H[q]? = some ce → ce.vm = .none → s.vm.findClass E = some ce.cls → vx_W p l e R s m args below meth c H locs k (6 * k) Q (F0 m pc ls st) q
end
section
/-! THE RULES over the abstract world: one an instruction -/
section RU
variable {p : Program} {l : Launch} {e : Env} {R : Room} {s : State} {m : MethodId} {args : Array Value} {below : List Frame} {meth : Method} {c : Code} {D : va_G} {cs : Nat → ClassId} {ad : Nat → Nat} {b0 : Nat} {Q : State → Prop} {nL k : Nat} {V : VT} {lv : List (Nat × Value)} {st : List Value} {pc : Nat} {own : String} {cc : ByteArray} {ret : Option FieldType}
theorem a_sub {lv' : List (Nat × Value)} (ks : List Nat) (hl : lv_pick lv ks = lv') (kk : AW p l e R s m args below meth c D cs ad b0 Q nL k V lv' st pc) : AW p l e R s m args below meth c D cs ad b0 Q nL k V lv st pc :=
  fun H locs ls hP hS h => kk H locs ls hP hS (lv_sub h ks hl)
theorem a_wid {k' : Nat} (h : k ≤ k') (kk : AW p l e R s m args below meth c D cs ad b0 Q nL k' V lv st pc) : AW p l e R s m args below meth c D cs ad b0 Q nL k V lv st pc :=
  fun H locs ls hP hS hl => W.widen h (Nat.mul_le_mul_left 6 h) (kk H locs ls hP hS hl)
theorem a_iconst (C : Ctx p l s m args meth c D cs ad b0 own cc nL ret) {n : Int} {v : Int32} (hdg : decode cc pc = .ok (.iconst n, 1)) (hv : Int32.ofInt n = v)
    (kk : AW p l e R s m args below meth c D cs ad b0 Q nL k V lv (.int v :: st) (pc + 1)) : AW p l e R s m args below meth c D cs ad b0 Q nL k V lv (st) pc :=
  fun H locs ls hP hS hl => lv_iconst C.1 C.2.1 hdg hv (kk H locs ls hP hS hl)
theorem a_bipush (C : Ctx p l s m args meth c D cs ad b0 own cc nL ret) {n : Int} {v : Int32} (hdg : decode cc pc = .ok (.bipush n, 2)) (hv : (Int8.ofInt n).toInt32 = v)
    (kk : AW p l e R s m args below meth c D cs ad b0 Q nL k V lv (.int v :: st) (pc + 2)) : AW p l e R s m args below meth c D cs ad b0 Q nL k V lv (st) pc :=
  fun H locs ls hP hS hl => lv_bipush C.1 C.2.1 hdg hv (kk H locs ls hP hS hl)
theorem a_sipush (C : Ctx p l s m args meth c D cs ad b0 own cc nL ret) {n : Int} {v : Int32} (hdg : decode cc pc = .ok (.sipush n, 3)) (hv : (Int16.ofInt n).toInt32 = v)
    (kk : AW p l e R s m args below meth c D cs ad b0 Q nL k V lv (.int v :: st) (pc + 3)) : AW p l e R s m args below meth c D cs ad b0 Q nL k V lv (st) pc :=
  fun H locs ls hP hS hl => lv_sipush C.1 C.2.1 hdg hv (kk H locs ls hP hS hl)
theorem a_iload_n (C : Ctx p l s m args meth c D cs ad b0 own cc nL ret) {j : Fin 4} {i q : Nat} {x : Int32} (hdg : decode cc pc = .ok (.iload_n j, 1)) (hi : (j : Nat) = i) (hq : lv[q]? = some (i, .int x))
    (kk : AW p l e R s m args below meth c D cs ad b0 Q nL k V lv (.int x :: st) (pc + 1)) : AW p l e R s m args below meth c D cs ad b0 Q nL k V lv (st) pc :=
  fun H locs ls hP hS hl => lv_iload_n C.1 C.2.1 hdg hi (lv_at hl q hq) (kk H locs ls hP hS hl)
theorem a_iload (C : Ctx p l s m args meth c D cs ad b0 own cc nL ret) {i q : Nat} {x : Int32} (hdg : decode cc pc = .ok (.iload i, 2)) (hq : lv[q]? = some (i, .int x))
    (kk : AW p l e R s m args below meth c D cs ad b0 Q nL k V lv (.int x :: st) (pc + 2)) : AW p l e R s m args below meth c D cs ad b0 Q nL k V lv (st) pc :=
  fun H locs ls hP hS hl => lv_iload C.1 C.2.1 hdg (lv_at hl q hq) (kk H locs ls hP hS hl)
theorem a_aload_n (C : Ctx p l s m args meth c D cs ad b0 own cc nL ret) {j : Fin 4} {i q x : Nat} (hdg : decode cc pc = .ok (.aload_n j, 1)) (hi : (j : Nat) = i) (hq : lv[q]? = some (i, .ref x))
    (kk : AW p l e R s m args below meth c D cs ad b0 Q nL k V lv (.ref x :: st) (pc + 1)) : AW p l e R s m args below meth c D cs ad b0 Q nL k V lv (st) pc :=
  fun H locs ls hP hS hl => lv_aload_n C.1 C.2.1 hdg hi (lv_at hl q hq) (kk H locs ls hP hS hl)
theorem a_aload (C : Ctx p l s m args meth c D cs ad b0 own cc nL ret) {i q x : Nat} (hdg : decode cc pc = .ok (.aload i, 2)) (hq : lv[q]? = some (i, .ref x))
    (kk : AW p l e R s m args below meth c D cs ad b0 Q nL k V lv (.ref x :: st) (pc + 2)) : AW p l e R s m args below meth c D cs ad b0 Q nL k V lv (st) pc :=
  fun H locs ls hP hS hl => lv_aload C.1 C.2.1 hdg (lv_at hl q hq) (kk H locs ls hP hS hl)
theorem a_iadd (C : Ctx p l s m args meth c D cs ad b0 own cc nL ret) {x y : Int32} (hdg : decode cc pc = .ok (.iadd, 1)) 
    (kk : AW p l e R s m args below meth c D cs ad b0 Q nL k V lv (.int (x + y) :: st) (pc + 1)) : AW p l e R s m args below meth c D cs ad b0 Q nL k V lv (.int y :: .int x :: st) pc :=
  fun H locs ls hP hS hl => lv_iadd C.1 C.2.1 hdg  (kk H locs ls hP hS hl)
theorem a_isub (C : Ctx p l s m args meth c D cs ad b0 own cc nL ret) {x y : Int32} (hdg : decode cc pc = .ok (.isub, 1)) 
    (kk : AW p l e R s m args below meth c D cs ad b0 Q nL k V lv (.int (x - y) :: st) (pc + 1)) : AW p l e R s m args below meth c D cs ad b0 Q nL k V lv (.int y :: .int x :: st) pc :=
  fun H locs ls hP hS hl => lv_isub C.1 C.2.1 hdg  (kk H locs ls hP hS hl)
theorem a_imul (C : Ctx p l s m args meth c D cs ad b0 own cc nL ret) {x y : Int32} (hdg : decode cc pc = .ok (.imul, 1)) 
    (kk : AW p l e R s m args below meth c D cs ad b0 Q nL k V lv (.int (x * y) :: st) (pc + 1)) : AW p l e R s m args below meth c D cs ad b0 Q nL k V lv (.int y :: .int x :: st) pc :=
  fun H locs ls hP hS hl => lv_imul C.1 C.2.1 hdg  (kk H locs ls hP hS hl)
theorem a_iand (C : Ctx p l s m args meth c D cs ad b0 own cc nL ret) {x y : Int32} (hdg : decode cc pc = .ok (.iand, 1)) 
    (kk : AW p l e R s m args below meth c D cs ad b0 Q nL k V lv (.int (x &&& y) :: st) (pc + 1)) : AW p l e R s m args below meth c D cs ad b0 Q nL k V lv (.int y :: .int x :: st) pc :=
  fun H locs ls hP hS hl => lv_iand C.1 C.2.1 hdg  (kk H locs ls hP hS hl)
theorem a_ior (C : Ctx p l s m args meth c D cs ad b0 own cc nL ret) {x y : Int32} (hdg : decode cc pc = .ok (.ior, 1)) 
    (kk : AW p l e R s m args below meth c D cs ad b0 Q nL k V lv (.int (x ||| y) :: st) (pc + 1)) : AW p l e R s m args below meth c D cs ad b0 Q nL k V lv (.int y :: .int x :: st) pc :=
  fun H locs ls hP hS hl => lv_ior C.1 C.2.1 hdg  (kk H locs ls hP hS hl)
theorem a_ixor (C : Ctx p l s m args meth c D cs ad b0 own cc nL ret) {x y : Int32} (hdg : decode cc pc = .ok (.ixor, 1)) 
    (kk : AW p l e R s m args below meth c D cs ad b0 Q nL k V lv (.int (x ^^^ y) :: st) (pc + 1)) : AW p l e R s m args below meth c D cs ad b0 Q nL k V lv (.int y :: .int x :: st) pc :=
  fun H locs ls hP hS hl => lv_ixor C.1 C.2.1 hdg  (kk H locs ls hP hS hl)
theorem a_ishl (C : Ctx p l s m args meth c D cs ad b0 own cc nL ret) {x y : Int32} (hdg : decode cc pc = .ok (.ishl, 1)) 
    (kk : AW p l e R s m args below meth c D cs ad b0 Q nL k V lv (.int (x <<< (y &&& 31)) :: st) (pc + 1)) : AW p l e R s m args below meth c D cs ad b0 Q nL k V lv (.int y :: .int x :: st) pc :=
  fun H locs ls hP hS hl => lv_ishl C.1 C.2.1 hdg  (kk H locs ls hP hS hl)
theorem a_ishr (C : Ctx p l s m args meth c D cs ad b0 own cc nL ret) {x y : Int32} (hdg : decode cc pc = .ok (.ishr, 1)) 
    (kk : AW p l e R s m args below meth c D cs ad b0 Q nL k V lv (.int (x >>> (y &&& 31)) :: st) (pc + 1)) : AW p l e R s m args below meth c D cs ad b0 Q nL k V lv (.int y :: .int x :: st) pc :=
  fun H locs ls hP hS hl => lv_ishr C.1 C.2.1 hdg  (kk H locs ls hP hS hl)
theorem a_idiv (C : Ctx p l s m args meth c D cs ad b0 own cc nL ret) {x y : Int32} (hdg : decode cc pc = .ok (.idiv, 1)) (hne : ¬ y = 0)
    (kk : AW p l e R s m args below meth c D cs ad b0 Q nL k V lv (.int (x / y) :: st) (pc + 1)) : AW p l e R s m args below meth c D cs ad b0 Q nL k V lv (.int y :: .int x :: st) pc :=
  fun H locs ls hP hS hl => lv_idiv C.1 C.2.1 hdg hne (kk H locs ls hP hS hl)
theorem a_irem (C : Ctx p l s m args meth c D cs ad b0 own cc nL ret) {x y : Int32} (hdg : decode cc pc = .ok (.irem, 1)) (hne : ¬ y = 0)
    (kk : AW p l e R s m args below meth c D cs ad b0 Q nL k V lv (.int (x - x / y * y) :: st) (pc + 1)) : AW p l e R s m args below meth c D cs ad b0 Q nL k V lv (.int y :: .int x :: st) pc :=
  fun H locs ls hP hS hl => lv_irem C.1 C.2.1 hdg hne (kk H locs ls hP hS hl)
theorem a_iushr (C : Ctx p l s m args meth c D cs ad b0 own cc nL ret) {x y v : Int32} (hdg : decode cc pc = .ok (.iushr, 1)) (hv : (x.toUInt32 >>> (y.toUInt32 &&& Int32.toUInt32 31)).toInt32 = v)
    (kk : AW p l e R s m args below meth c D cs ad b0 Q nL k V lv (.int v :: st) (pc + 1)) : AW p l e R s m args below meth c D cs ad b0 Q nL k V lv (.int y :: .int x :: st) pc :=
  fun H locs ls hP hS hl => lv_iushr C.1 C.2.1 hdg hv (kk H locs ls hP hS hl)
theorem a_i2l (C : Ctx p l s m args meth c D cs ad b0 own cc nL ret) {x : Int32} {v : Int64} (hdg : decode cc pc = .ok (.i2l, 1)) (hv : x.toInt64 = v)
    (kk : AW p l e R s m args below meth c D cs ad b0 Q nL k V lv (.long v :: st) (pc + 1)) : AW p l e R s m args below meth c D cs ad b0 Q nL k V lv (.int x :: st) pc :=
  fun H locs ls hP hS hl => lv_i2l C.1 C.2.1 hdg hv (kk H locs ls hP hS hl)
theorem a_i2c (C : Ctx p l s m args meth c D cs ad b0 own cc nL ret) {x v : Int32} (hdg : decode cc pc = .ok (.i2c, 1)) (hv : (x.toUInt32 % 65536).toInt32 = v)
    (kk : AW p l e R s m args below meth c D cs ad b0 Q nL k V lv (.int v :: st) (pc + 1)) : AW p l e R s m args below meth c D cs ad b0 Q nL k V lv (.int x :: st) pc :=
  fun H locs ls hP hS hl => lv_i2c C.1 C.2.1 hdg hv (kk H locs ls hP hS hl)
theorem a_dup (C : Ctx p l s m args meth c D cs ad b0 own cc nL ret) {va : Value} (hdg : decode cc pc = .ok (.dup, 1)) (hva : va.category = 1)
    (kk : AW p l e R s m args below meth c D cs ad b0 Q nL k V lv (va :: va :: st) (pc + 1)) : AW p l e R s m args below meth c D cs ad b0 Q nL k V lv (va :: st) pc :=
  fun H locs ls hP hS hl => lv_dup C.1 C.2.1 hdg hva (kk H locs ls hP hS hl)
theorem a_dup2 (C : Ctx p l s m args meth c D cs ad b0 own cc nL ret) {va vb : Value} (hdg : decode cc pc = .ok (.dup2, 1)) (hva : va.category = 1) (hvb : vb.category = 1)
    (kk : AW p l e R s m args below meth c D cs ad b0 Q nL k V lv (va :: vb :: va :: vb :: st) (pc + 1)) : AW p l e R s m args below meth c D cs ad b0 Q nL k V lv (va :: vb :: st) pc :=
  fun H locs ls hP hS hl => lv_dup2_11 C.1 C.2.1 hdg hva hvb (kk H locs ls hP hS hl)
theorem a_pop (C : Ctx p l s m args meth c D cs ad b0 own cc nL ret) {va : Value} (hdg : decode cc pc = .ok (.pop, 1)) (hva : va.category = 1)
    (kk : AW p l e R s m args below meth c D cs ad b0 Q nL k V lv (st) (pc + 1)) : AW p l e R s m args below meth c D cs ad b0 Q nL k V lv (va :: st) pc :=
  fun H locs ls hP hS hl => lv_pop C.1 C.2.1 hdg hva (kk H locs ls hP hS hl)
theorem a_lconst (C : Ctx p l s m args meth c D cs ad b0 own cc nL ret) {n : Fin 2} {v : Int64} (hdg : decode cc pc = .ok (.lconst n, 1)) (hv : Int64.ofNat (n : Nat) = v)
    (kk : AW p l e R s m args below meth c D cs ad b0 Q nL k V lv (.long v :: st) (pc + 1)) : AW p l e R s m args below meth c D cs ad b0 Q nL k V lv (st) pc :=
  fun H locs ls hP hS hl => lv_lconst C.1 C.2.1 hdg hv (kk H locs ls hP hS hl)
theorem a_null (C : Ctx p l s m args meth c D cs ad b0 own cc nL ret)  (hdg : decode cc pc = .ok (.aconst_null, 1)) 
    (kk : AW p l e R s m args below meth c D cs ad b0 Q nL k V lv (.null :: st) (pc + 1)) : AW p l e R s m args below meth c D cs ad b0 Q nL k V lv (st) pc :=
  fun H locs ls hP hS hl => lv_null C.1 C.2.1 hdg  (kk H locs ls hP hS hl)
theorem a_i2d (C : Ctx p l s m args meth c D cs ad b0 own cc nL ret) {x : Int32} (hdg : decode cc pc = .ok (.i2d, 1)) 
    (kk : AW p l e R s m args below meth c D cs ad b0 Q nL k V lv (.double (FP.i2d x) :: st) (pc + 1)) : AW p l e R s m args below meth c D cs ad b0 Q nL k V lv (.int x :: st) pc :=
  fun H locs ls hP hS hl => lv_i2d C.1 C.2.1 hdg  (kk H locs ls hP hS hl)
theorem a_i2f (C : Ctx p l s m args meth c D cs ad b0 own cc nL ret) {x : Int32} (hdg : decode cc pc = .ok (.i2f, 1)) 
    (kk : AW p l e R s m args below meth c D cs ad b0 Q nL k V lv (.float (FP.i2f x) :: st) (pc + 1)) : AW p l e R s m args below meth c D cs ad b0 Q nL k V lv (.int x :: st) pc :=
  fun H locs ls hP hS hl => lv_i2f C.1 C.2.1 hdg  (kk H locs ls hP hS hl)
theorem a_ddiv (C : Ctx p l s m args meth c D cs ad b0 own cc nL ret) {x y : UInt64} (hdg : decode cc pc = .ok (.ddiv, 1)) (hne : vf_n64 (FP.ddiv x y))
    (kk : AW p l e R s m args below meth c D cs ad b0 Q nL k V lv (.double (FP.ddiv x y) :: st) (pc + 1)) : AW p l e R s m args below meth c D cs ad b0 Q nL k V lv (.double y :: .double x :: st) pc :=
  fun H locs ls hP hS hl => lv_ddiv C.1 C.2.1 hdg hne (kk H locs ls hP hS hl)
theorem a_fdiv (C : Ctx p l s m args meth c D cs ad b0 own cc nL ret) {x y : UInt32} (hdg : decode cc pc = .ok (.fdiv, 1)) (hne : vf_n32 (FP.fdiv x y))
    (kk : AW p l e R s m args below meth c D cs ad b0 Q nL k V lv (.float (FP.fdiv x y) :: st) (pc + 1)) : AW p l e R s m args below meth c D cs ad b0 Q nL k V lv (.float y :: .float x :: st) pc :=
  fun H locs ls hP hS hl => lv_fdiv C.1 C.2.1 hdg hne (kk H locs ls hP hS hl)
theorem a_f2d (C : Ctx p l s m args meth c D cs ad b0 own cc nL ret) {x : UInt32} (hdg : decode cc pc = .ok (.f2d, 1)) (hne : vf_n64 (FP.f2d x))
    (kk : AW p l e R s m args below meth c D cs ad b0 Q nL k V lv (.double (FP.f2d x) :: st) (pc + 1)) : AW p l e R s m args below meth c D cs ad b0 Q nL k V lv (.float x :: st) pc :=
  fun H locs ls hP hS hl => lv_f2d C.1 C.2.1 hdg hne (kk H locs ls hP hS hl)
theorem a_goto (C : Ctx p l s m args meth c D cs ad b0 own cc nL ret) {off : Int} {tgt : Nat} (hdg : decode cc pc = .ok (.goto off, 3)) (ht : (pc : Int) + off = (tgt : Int))
    (kk : AW p l e R s m args below meth c D cs ad b0 Q nL k V lv st tgt) : AW p l e R s m args below meth c D cs ad b0 Q nL k V lv st pc :=
  fun H locs ls hP hS hl => lv_goto C.1 C.2.1 hdg ht (kk H locs ls hP hS hl)
theorem a_icmp_lt (C : Ctx p l s m args meth c D cs ad b0 own cc nL ret) {x y : Int32} {off : Int} {tgt : Nat} (hdg : decode cc pc = .ok (.if_icmp .lt off, 3)) (ht : (pc : Int) + off = (tgt : Int))
    (kt : x < y → AW p l e R s m args below meth c D cs ad b0 Q nL k V lv st tgt) (kf : ¬ x < y → AW p l e R s m args below meth c D cs ad b0 Q nL k V lv st (pc + 3)) : AW p l e R s m args below meth c D cs ad b0 Q nL k V lv (.int y :: .int x :: st) pc :=
  fun H locs ls hP hS hl => lv_icmp_lt C.1 C.2.1 hdg ht (fun q => kt q H locs ls hP hS hl) (fun q => kf q H locs ls hP hS hl)
theorem a_icmp_ge (C : Ctx p l s m args meth c D cs ad b0 own cc nL ret) {x y : Int32} {off : Int} {tgt : Nat} (hdg : decode cc pc = .ok (.if_icmp .ge off, 3)) (ht : (pc : Int) + off = (tgt : Int))
    (kt : y ≤ x → AW p l e R s m args below meth c D cs ad b0 Q nL k V lv st tgt) (kf : ¬ y ≤ x → AW p l e R s m args below meth c D cs ad b0 Q nL k V lv st (pc + 3)) : AW p l e R s m args below meth c D cs ad b0 Q nL k V lv (.int y :: .int x :: st) pc :=
  fun H locs ls hP hS hl => lv_icmp_ge C.1 C.2.1 hdg ht (fun q => kt q H locs ls hP hS hl) (fun q => kf q H locs ls hP hS hl)
theorem a_icmp_gt (C : Ctx p l s m args meth c D cs ad b0 own cc nL ret) {x y : Int32} {off : Int} {tgt : Nat} (hdg : decode cc pc = .ok (.if_icmp .gt off, 3)) (ht : (pc : Int) + off = (tgt : Int))
    (kt : y < x → AW p l e R s m args below meth c D cs ad b0 Q nL k V lv st tgt) (kf : ¬ y < x → AW p l e R s m args below meth c D cs ad b0 Q nL k V lv st (pc + 3)) : AW p l e R s m args below meth c D cs ad b0 Q nL k V lv (.int y :: .int x :: st) pc :=
  fun H locs ls hP hS hl => lv_icmp_gt C.1 C.2.1 hdg ht (fun q => kt q H locs ls hP hS hl) (fun q => kf q H locs ls hP hS hl)
theorem a_icmp_le (C : Ctx p l s m args meth c D cs ad b0 own cc nL ret) {x y : Int32} {off : Int} {tgt : Nat} (hdg : decode cc pc = .ok (.if_icmp .le off, 3)) (ht : (pc : Int) + off = (tgt : Int))
    (kt : x ≤ y → AW p l e R s m args below meth c D cs ad b0 Q nL k V lv st tgt) (kf : ¬ x ≤ y → AW p l e R s m args below meth c D cs ad b0 Q nL k V lv st (pc + 3)) : AW p l e R s m args below meth c D cs ad b0 Q nL k V lv (.int y :: .int x :: st) pc :=
  fun H locs ls hP hS hl => lv_icmp_le C.1 C.2.1 hdg ht (fun q => kt q H locs ls hP hS hl) (fun q => kf q H locs ls hP hS hl)
theorem a_icmp_eq (C : Ctx p l s m args meth c D cs ad b0 own cc nL ret) {x y : Int32} {off : Int} {tgt : Nat} (hdg : decode cc pc = .ok (.if_icmp .eq off, 3)) (ht : (pc : Int) + off = (tgt : Int))
    (kt : x = y → AW p l e R s m args below meth c D cs ad b0 Q nL k V lv st tgt) (kf : ¬ x = y → AW p l e R s m args below meth c D cs ad b0 Q nL k V lv st (pc + 3)) : AW p l e R s m args below meth c D cs ad b0 Q nL k V lv (.int y :: .int x :: st) pc :=
  fun H locs ls hP hS hl => lv_icmp_eq C.1 C.2.1 hdg ht (fun q => kt q H locs ls hP hS hl) (fun q => kf q H locs ls hP hS hl)
theorem a_icmp_ne (C : Ctx p l s m args meth c D cs ad b0 own cc nL ret) {x y : Int32} {off : Int} {tgt : Nat} (hdg : decode cc pc = .ok (.if_icmp .ne off, 3)) (ht : (pc : Int) + off = (tgt : Int))
    (kt : ¬ x = y → AW p l e R s m args below meth c D cs ad b0 Q nL k V lv st tgt) (kf : x = y → AW p l e R s m args below meth c D cs ad b0 Q nL k V lv st (pc + 3)) : AW p l e R s m args below meth c D cs ad b0 Q nL k V lv (.int y :: .int x :: st) pc :=
  fun H locs ls hP hS hl => lv_icmp_ne C.1 C.2.1 hdg ht (fun q => kt q H locs ls hP hS hl) (fun q => kf q H locs ls hP hS hl)
theorem a_if_lt (C : Ctx p l s m args meth c D cs ad b0 own cc nL ret) {x : Int32} {off : Int} {tgt : Nat} (hdg : decode cc pc = .ok (.ifCond .lt off, 3)) (ht : (pc : Int) + off = (tgt : Int))
    (kt : x < 0 → AW p l e R s m args below meth c D cs ad b0 Q nL k V lv st tgt) (kf : ¬ x < 0 → AW p l e R s m args below meth c D cs ad b0 Q nL k V lv st (pc + 3)) : AW p l e R s m args below meth c D cs ad b0 Q nL k V lv (.int x :: st) pc :=
  fun H locs ls hP hS hl => lv_if_lt C.1 C.2.1 hdg ht (fun q => kt q H locs ls hP hS hl) (fun q => kf q H locs ls hP hS hl)
theorem a_if_ge (C : Ctx p l s m args meth c D cs ad b0 own cc nL ret) {x : Int32} {off : Int} {tgt : Nat} (hdg : decode cc pc = .ok (.ifCond .ge off, 3)) (ht : (pc : Int) + off = (tgt : Int))
    (kt : 0 ≤ x → AW p l e R s m args below meth c D cs ad b0 Q nL k V lv st tgt) (kf : ¬ 0 ≤ x → AW p l e R s m args below meth c D cs ad b0 Q nL k V lv st (pc + 3)) : AW p l e R s m args below meth c D cs ad b0 Q nL k V lv (.int x :: st) pc :=
  fun H locs ls hP hS hl => lv_if_ge C.1 C.2.1 hdg ht (fun q => kt q H locs ls hP hS hl) (fun q => kf q H locs ls hP hS hl)
theorem a_if_gt (C : Ctx p l s m args meth c D cs ad b0 own cc nL ret) {x : Int32} {off : Int} {tgt : Nat} (hdg : decode cc pc = .ok (.ifCond .gt off, 3)) (ht : (pc : Int) + off = (tgt : Int))
    (kt : 0 < x → AW p l e R s m args below meth c D cs ad b0 Q nL k V lv st tgt) (kf : ¬ 0 < x → AW p l e R s m args below meth c D cs ad b0 Q nL k V lv st (pc + 3)) : AW p l e R s m args below meth c D cs ad b0 Q nL k V lv (.int x :: st) pc :=
  fun H locs ls hP hS hl => lv_if_gt C.1 C.2.1 hdg ht (fun q => kt q H locs ls hP hS hl) (fun q => kf q H locs ls hP hS hl)
theorem a_if_le (C : Ctx p l s m args meth c D cs ad b0 own cc nL ret) {x : Int32} {off : Int} {tgt : Nat} (hdg : decode cc pc = .ok (.ifCond .le off, 3)) (ht : (pc : Int) + off = (tgt : Int))
    (kt : x ≤ 0 → AW p l e R s m args below meth c D cs ad b0 Q nL k V lv st tgt) (kf : ¬ x ≤ 0 → AW p l e R s m args below meth c D cs ad b0 Q nL k V lv st (pc + 3)) : AW p l e R s m args below meth c D cs ad b0 Q nL k V lv (.int x :: st) pc :=
  fun H locs ls hP hS hl => lv_if_le C.1 C.2.1 hdg ht (fun q => kt q H locs ls hP hS hl) (fun q => kf q H locs ls hP hS hl)
theorem a_if_eq (C : Ctx p l s m args meth c D cs ad b0 own cc nL ret) {x : Int32} {off : Int} {tgt : Nat} (hdg : decode cc pc = .ok (.ifCond .eq off, 3)) (ht : (pc : Int) + off = (tgt : Int))
    (kt : x = 0 → AW p l e R s m args below meth c D cs ad b0 Q nL k V lv st tgt) (kf : ¬ x = 0 → AW p l e R s m args below meth c D cs ad b0 Q nL k V lv st (pc + 3)) : AW p l e R s m args below meth c D cs ad b0 Q nL k V lv (.int x :: st) pc :=
  fun H locs ls hP hS hl => lv_if_eq C.1 C.2.1 hdg ht (fun q => kt q H locs ls hP hS hl) (fun q => kf q H locs ls hP hS hl)
theorem a_if_ne (C : Ctx p l s m args meth c D cs ad b0 own cc nL ret) {x : Int32} {off : Int} {tgt : Nat} (hdg : decode cc pc = .ok (.ifCond .ne off, 3)) (ht : (pc : Int) + off = (tgt : Int))
    (kt : ¬ x = 0 → AW p l e R s m args below meth c D cs ad b0 Q nL k V lv st tgt) (kf : x = 0 → AW p l e R s m args below meth c D cs ad b0 Q nL k V lv st (pc + 3)) : AW p l e R s m args below meth c D cs ad b0 Q nL k V lv (.int x :: st) pc :=
  fun H locs ls hP hS hl => lv_if_ne C.1 C.2.1 hdg ht (fun q => kt q H locs ls hP hS hl) (fun q => kf q H locs ls hP hS hl)
theorem a_tswIn (C : Ctx p l s m args meth c D cs ad b0 own cc nL ret) {dflt lo hi : Int} {offs : Array Int} {len : Nat} {x v : Int32} {off : Int} {tgt : Nat} (hdg : decode cc pc = .ok (.tableswitch dflt lo hi offs, len)) (hx : x = v) (h1 : ¬ v.toInt < lo) (h2 : ¬ hi < v.toInt) (ho : offs[(v.toInt - lo).toNat]? = some off) (ht : (pc : Int) + off = (tgt : Int))
    (kk : AW p l e R s m args below meth c D cs ad b0 Q nL k V lv st tgt) : AW p l e R s m args below meth c D cs ad b0 Q nL k V lv (.int x :: st) pc := by
  subst hx
  exact fun H locs ls hP hS hl => lv_tableIn C.1 C.2.1 hdg h1 h2 ho ht (kk H locs ls hP hS hl)
theorem a_tswOut (C : Ctx p l s m args meth c D cs ad b0 own cc nL ret) {dflt lo hi : Int} {offs : Array Int} {len : Nat} {x : Int32} {tgt : Nat} (hdg : decode cc pc = .ok (.tableswitch dflt lo hi offs, len)) (h : x.toInt < lo ∨ hi < x.toInt) (ht : (pc : Int) + dflt = (tgt : Int))
    (kk : AW p l e R s m args below meth c D cs ad b0 Q nL k V lv st tgt) : AW p l e R s m args below meth c D cs ad b0 Q nL k V lv (.int x :: st) pc :=
  fun H locs ls hP hS hl => lv_tableOut C.1 C.2.1 hdg h ht (kk H locs ls hP hS hl)
theorem a_lsw (C : Ctx p l s m args meth c D cs ad b0 own cc nL ret) {dflt : Int} {ps : Array (Int × Int)} {len : Nat} {x : Int32} {off : Int} {tgt : Nat} (hdg : decode cc pc = .ok (.lookupswitch dflt ps, len)) (hp : (ps.toList.zip (ps.toList.drop 1)).all (fun (a, next) => a.1 < next.1) = true) (ho : Op.lookupswitch.offset ps.toList dflt x.toInt = off) (ht : (pc : Int) + off = (tgt : Int))
    (kk : AW p l e R s m args below meth c D cs ad b0 Q nL k V lv st tgt) : AW p l e R s m args below meth c D cs ad b0 Q nL k V lv (.int x :: st) pc :=
  fun H locs ls hP hS hl => lv_lookup C.1 C.2.1 hdg hp ho ht (kk H locs ls hP hS hl)
theorem a_istore_n (C : Ctx p l s m args meth c D cs ad b0 own cc nL ret) {j : Fin 4} {i : Nat} {x : Int32} {lv' : List (Nat × Value)} (hdg : decode cc pc = .ok (.istore_n j, 1)) (hi : (j : Nat) = i) (hn : i < nL) (hl : (i, Value.int x) :: lv.filter (fun q => !(q.1 == i) && !(q.1 + 1 == i && q.2.category == 2)) = lv')
    (kk : AW p l e R s m args below meth c D cs ad b0 Q nL k V lv' st (pc + 1)) : AW p l e R s m args below meth c D cs ad b0 Q nL k V lv (.int x :: st) pc :=
  fun H locs ls hP hS h => lv_istore_n C.1 C.2.1 hdg hi h hn hl (fun ls' h' => kk H locs ls' hP hS h')
theorem a_istore (C : Ctx p l s m args meth c D cs ad b0 own cc nL ret) {i : Nat} {x : Int32} {lv' : List (Nat × Value)} (hdg : decode cc pc = .ok (.istore i, 2)) (hn : i < nL) (hl : (i, Value.int x) :: lv.filter (fun q => !(q.1 == i) && !(q.1 + 1 == i && q.2.category == 2)) = lv')
    (kk : AW p l e R s m args below meth c D cs ad b0 Q nL k V lv' st (pc + 2)) : AW p l e R s m args below meth c D cs ad b0 Q nL k V lv (.int x :: st) pc :=
  fun H locs ls hP hS h => lv_istore C.1 C.2.1 hdg h hn hl (fun ls' h' => kk H locs ls' hP hS h')
theorem a_astore_n (C : Ctx p l s m args meth c D cs ad b0 own cc nL ret) {j : Fin 4} {i : Nat} {x : Nat} {lv' : List (Nat × Value)} (hdg : decode cc pc = .ok (.astore_n j, 1)) (hi : (j : Nat) = i) (hn : i < nL) (hl : (i, Value.ref x) :: lv.filter (fun q => !(q.1 == i) && !(q.1 + 1 == i && q.2.category == 2)) = lv')
    (kk : AW p l e R s m args below meth c D cs ad b0 Q nL k V lv' st (pc + 1)) : AW p l e R s m args below meth c D cs ad b0 Q nL k V lv (.ref x :: st) pc :=
  fun H locs ls hP hS h => lv_astore_n C.1 C.2.1 hdg hi h hn hl (fun ls' h' => kk H locs ls' hP hS h')
theorem a_astore (C : Ctx p l s m args meth c D cs ad b0 own cc nL ret) {i : Nat} {x : Nat} {lv' : List (Nat × Value)} (hdg : decode cc pc = .ok (.astore i, 2)) (hn : i < nL) (hl : (i, Value.ref x) :: lv.filter (fun q => !(q.1 == i) && !(q.1 + 1 == i && q.2.category == 2)) = lv')
    (kk : AW p l e R s m args below meth c D cs ad b0 Q nL k V lv' st (pc + 2)) : AW p l e R s m args below meth c D cs ad b0 Q nL k V lv (.ref x :: st) pc :=
  fun H locs ls hP hS h => lv_astore C.1 C.2.1 hdg h hn hl (fun ls' h' => kk H locs ls' hP hS h')
theorem a_iinc (C : Ctx p l s m args meth c D cs ad b0 own cc nL ret) {i q : Nat} {n : Int} {x v : Int32} {lv' : List (Nat × Value)} (hdg : decode cc pc = .ok (.iinc i n, 3)) (hk : lv[q]? = some (i, .int x)) (hv : x + Int32.ofInt n = v) (hn : i < nL) (hl : (i, Value.int v) :: lv.filter (fun q => !(q.1 == i) && !(q.1 + 1 == i && q.2.category == 2)) = lv')
    (kk : AW p l e R s m args below meth c D cs ad b0 Q nL k V lv' st (pc + 3)) : AW p l e R s m args below meth c D cs ad b0 Q nL k V lv st pc :=
  fun H locs ls hP hS h => lv_iinc C.1 C.2.1 hdg h hk hv hn hl (fun ls' h' => kk H locs ls' hP hS h')
/-! fields -/
def FL (own : String) (idx ci j : Nat) : Prop := ∃ (C : String) (T : u_T) (N : Nat), vwC[ci]? = some (C, T, N) ∧ j < N ∧ (∀ w ∈ u_ws C T N, w ∈ UW) ∧ Cond.fieldLink own idx (T j).1 (T j).2.1 (T j).2.2.1 ∈ UW
def FP (own : String) (idx ci j : Nat) (ty : FieldType) : Prop := ∃ (C : String) (T : u_T) (N : Nat) (ty0 : Nat → FieldType), vwC[ci]? = some (C, T, N) ∧ j < N ∧ (∀ w ∈ u_ws C T N, w ∈ UW) ∧ Cond.fieldLink own idx (T j).1 (T j).2.1 (T j).2.2.1 ∈ UW ∧ (∀ k, k < N → parseFieldDescriptor (T k).2.2.1 = some (ty0 k)) ∧ (∀ a, a < N → ∀ b, b < N → a ≠ b → (T a).2.1 ≠ (T b).2.1) ∧ (T j).2.2.2 = false ∧ parseFieldDescriptor (T j).2.2.1 = some ty
theorem a_geti (C : Ctx p l s m args meth c D cs ad b0 own cc nL ret) {idx ci j a : Nat} {fs : List (Option Nat)} {x : Int32} (hdg : decode cc pc = .ok (.getfield idx, 3)) (fl : FL own idx ci j) (hs : shp[a]? = some (.inl (ci, fs))) (hf : fs[j]? = some none) (hx : V a j = x)
    (kk : AW p l e R s m args below meth c D cs ad b0 Q nL k V lv (.int x :: st) (pc + 3)) : AW p l e R s m args below meth c D cs ad b0 Q nL k V lv (.ref (ad a) :: st) pc := by
  intro H locs ls hP hS hl
  subst hx
  obtain ⟨hx, hb, -, ho, hts, -, -, -, -, -, hST⟩ := C
  obtain ⟨K, T, N, h1, h2, h3, h4⟩ := fl
  exact va_get hx hb hts h3 ho hST.1 hP a (ws_at hs) h1 j h2 (hts _ h4) (fun _ h => h) (by rw [mkF_get, hf, Nat.zero_add]; rfl) hdg (kk H locs ls hP hS hl)
theorem a_getr (C : Ctx p l s m args meth c D cs ad b0 own cc nL ret) {idx ci j a t : Nat} {fs : List (Option Nat)} (hdg : decode cc pc = .ok (.getfield idx, 3)) (fl : FL own idx ci j) (hs : shp[a]? = some (.inl (ci, fs))) (hf : fs[j]? = some (some t))
    (kk : AW p l e R s m args below meth c D cs ad b0 Q nL k V lv (.ref (ad t) :: st) (pc + 3)) : AW p l e R s m args below meth c D cs ad b0 Q nL k V lv (.ref (ad a) :: st) pc := by
  intro H locs ls hP hS hl
  obtain ⟨hx, hb, -, ho, hts, -, -, -, -, -, hST⟩ := C
  obtain ⟨K, T, N, h1, h2, h3, h4⟩ := fl
  exact va_get hx hb hts h3 ho hST.1 hP a (ws_at hs) h1 j h2 (hts _ h4) (fun _ h => h) (by rw [mkF_get, hf]; rfl) hdg (kk H locs ls hP hS hl)
theorem mkF_up (ad : Nat → Nat) (v : Nat → Int32) (x : Int32) (i : Nat) : ∀ (fs : List (Option Nat)) (j : Nat), i < j → mkF ad (upd v i x) j fs = mkF ad v j fs
  | [], j, _ => rfl
  | f :: fs, j, h => by
    have hne : ¬ j = i := by omega
    show fdV ad (upd v i x j) f :: mkF ad (upd v i x) (j + 1) fs = fdV ad (v j) f :: mkF ad v (j + 1) fs
    rw [mkF_up ad v x i fs (j + 1) (by omega)]
    simp [upd, hne]
theorem mkF_set (ad : Nat → Nat) (v : Nat → Int32) (x : Int32) : ∀ (fs : List (Option Nat)) (j i : Nat), fs[i]? = some none → (mkF ad v j fs).set i (.int x) = mkF ad (upd v (j + i) x) j fs
  | [], j, i, h => by simp at h
  | f :: fs, j, 0, h => by
    simp only [List.getElem?_cons_zero, Option.some.injEq] at h
    subst h
    show Value.int x :: mkF ad v (j + 1) fs = fdV ad (upd v (j + 0) x j) none :: mkF ad (upd v (j + 0) x) (j + 1) fs
    rw [mkF_up ad v x (j + 0) fs (j + 1) (by omega)]
    simp [upd, fdV]
  | f :: fs, j, i + 1, h => by
    rw [List.getElem?_cons_succ] at h
    have hne : ¬ j = j + (i + 1) := by omega
    have e : j + 1 + i = j + (i + 1) := by omega
    show fdV ad (v j) f :: (mkF ad v (j + 1) fs).set i (.int x) = fdV ad (upd v (j + (i + 1)) x j) f :: mkF ad (upd v (j + (i + 1)) x) (j + 1) fs
    rw [mkF_set ad v x fs (j + 1) i h, e]
    simp [upd, hne]
theorem a_puti (C : Ctx p l s m args meth c D cs ad b0 own cc nL ret) {idx ci j a : Nat} {fs : List (Option Nat)} {x : Int32} {ty : FieldType} (hdg : decode cc pc = .ok (.putfield idx, 3)) (fl : FP own idx ci j ty) (hs : shp[a]? = some (.inl (ci, fs))) (hf : fs[j]? = some none) (hn : narrow ty (.int x) = .int x) (hfit : fits ty (.int x) = true)
    (kk : AW p l e R s m args below meth c D cs ad b0 Q nL k (up2 V a j x) lv st (pc + 3)) : AW p l e R s m args below meth c D cs ad b0 Q nL k V lv (.int x :: .ref (ad a) :: st) pc := by
  intro H locs ls hP hS hl
  obtain ⟨hx, hb, -, ho, hts, -, -, -, hAd, -, hST⟩ := C
  obtain ⟨K, T, N, ty0, h1, h2, h3, h4, h5, h6, h7, h8⟩ := fl
  have hj : j < fs.length := (List.getElem?_eq_some_iff.mp hf).1
  refine va_put hx hb hts h3 ty0 h5 h6 ho hST.1 hP (ws_D hAd V) hS a (ws_at hs) h1 j h2 (hts _ h4) (fun _ h => h) h7 h8 hn hfit (by rw [mkF_len]; exact hj) hdg (fun H1 locs1 hP1 _ hS1 => ?_)
  refine kk H1 locs1 ls ?_ hS1 hl
  have e : (wsOf cs ad V).set a (ad a, .inr (ci, (mkF ad (V a) 0 fs).set j (.int x))) = wsOf cs ad (up2 V a j x) := by
    refine ws_set ?_ (fun i hi => up2_o V j x hi)
    rw [cellOf_sh hs, up2_k]
    rw [mkF_set ad (V a) x fs 0 j hf, Nat.zero_add]
    rfl
  rw [← e]
  exact hP1
/-! rows -/
theorem a_iald (C : Ctx p l s m args meth c D cs ad b0 own cc nL ret) {a len : Nat} {rf : List Nat} {i : Int32} (hdg : decode cc pc = .ok (.iaload, 1)) (hs : shp[a]? = some (.inr (0, len, rf))) (hin : vp_in i len)
    (kk : AW p l e R s m args below meth c D cs ad b0 Q nL k V lv (.int (V a i.toNatClampNeg) :: st) (pc + 1)) : AW p l e R s m args below meth c D cs ad b0 Q nL k V lv (.int i :: .ref (ad a) :: st) pc :=
  fun H locs ls hP hS hl => va_iald (f := V a) (n := len) C.1 C.2.1 C.2.2.2.2.2.2.2.2.2.2.1 hP a 0 (ws_at hs) rfl hin hdg (kk H locs ls hP hS hl)
theorem a_cald (C : Ctx p l s m args meth c D cs ad b0 own cc nL ret) {a len : Nat} {rf : List Nat} {i : Int32} (hdg : decode cc pc = .ok (.caload, 1)) (hs : shp[a]? = some (.inr (1, len, rf))) (hin : vp_in i len)
    (kk : AW p l e R s m args below meth c D cs ad b0 Q nL k V lv (.int (V a i.toNatClampNeg) :: st) (pc + 1)) : AW p l e R s m args below meth c D cs ad b0 Q nL k V lv (.int i :: .ref (ad a) :: st) pc :=
  fun H locs ls hP hS hl => va_cald (f := V a) (n := len) C.1 C.2.1 C.2.2.2.2.2.2.2.2.2.2.1 hP a 1 (ws_at hs) rfl hin hdg (kk H locs ls hP hS hl)
theorem a_lald (C : Ctx p l s m args meth c D cs ad b0 own cc nL ret) {a len : Nat} {rf : List Nat} {i : Int32} (hdg : decode cc pc = .ok (.laload, 1)) (hs : shp[a]? = some (.inr (2, len, rf))) (hin : vp_in i len)
    (kk : AW p l e R s m args below meth c D cs ad b0 Q nL k V lv (.long ((V a i.toNatClampNeg).toInt64) :: st) (pc + 1)) : AW p l e R s m args below meth c D cs ad b0 Q nL k V lv (.int i :: .ref (ad a) :: st) pc :=
  fun H locs ls hP hS hl => va_lald (f := fun j => (V a j).toInt64) (n := len) C.1 C.2.1 C.2.2.2.2.2.2.2.2.2.2.1 hP a 2 (ws_at hs) rfl hin hdg (kk H locs ls hP hS hl)
theorem a_dald (C : Ctx p l s m args meth c D cs ad b0 own cc nL ret) {a len : Nat} {rf : List Nat} {i : Int32} (hdg : decode cc pc = .ok (.daload, 1)) (hs : shp[a]? = some (.inr (3, len, rf))) (hin : vp_in i len)
    (kk : AW p l e R s m args below meth c D cs ad b0 Q nL k V lv (.double (u64 (V a (2 * i.toNatClampNeg)) (V a (2 * i.toNatClampNeg + 1))) :: st) (pc + 1)) : AW p l e R s m args below meth c D cs ad b0 Q nL k V lv (.int i :: .ref (ad a) :: st) pc :=
  fun H locs ls hP hS hl => va_dald (f := fun j => u64 (V a (2 * j)) (V a (2 * j + 1))) (n := len) C.1 C.2.1 C.2.2.2.2.2.2.2.2.2.2.1 hP a 3 (ws_at hs) rfl hin hdg (kk H locs ls hP hS hl)
theorem a_aald (C : Ctx p l s m args meth c D cs ad b0 own cc nL ret) {a len t : Nat} {rf : List Nat} {i : Int32} (hdg : decode cc pc = .ok (.aaload, 1)) (hs : shp[a]? = some (.inr (4, len, rf))) (hin : vp_in i len) (hr : rf[i.toNatClampNeg]? = some t)
    (kk : AW p l e R s m args below meth c D cs ad b0 Q nL k V lv (.ref (ad t) :: st) (pc + 1)) : AW p l e R s m args below meth c D cs ad b0 Q nL k V lv (.int i :: .ref (ad a) :: st) pc := by
  intro H locs ls hP hS hl
  refine va_aldq (f := fun j => (rf[j]?).map ad) (n := len) C.1 C.2.1 C.2.2.2.2.2.2.2.2.2.2.1 hP a 4 (ws_at hs) rfl hin hdg ?_
  have e : va_rf ((fun j => (rf[j]?).map ad) i.toNatClampNeg) = .ref (ad t) := by
    show va_rf ((rf[i.toNatClampNeg]?).map ad) = _
    rw [hr]
    rfl
  rw [e]
  exact kk H locs ls hP hS hl
theorem a_alen (C : Ctx p l s m args meth c D cs ad b0 own cc nL ret) {a len : Nat} {rf : List Nat} {v : Int32} (hdg : decode cc pc = .ok (.arraylength, 1)) (hs : shp[a]? = some (.inr (0, len, rf))) (hv : Int32.ofNat len = v)
    (kk : AW p l e R s m args below meth c D cs ad b0 Q nL k V lv (.int v :: st) (pc + 1)) : AW p l e R s m args below meth c D cs ad b0 Q nL k V lv (.ref (ad a) :: st) pc :=
  fun H locs ls hP hS hl => va_alen (x := (len, .inl (V a))) (ty := .int) C.1 C.2.1 C.2.2.2.2.2.2.2.2.2.2.1 hP a 0 (ws_at hs) rfl hv hdg (kk H locs ls hP hS hl)
theorem a_iast (C : Ctx p l s m args meth c D cs ad b0 own cc nL ret) {a len : Nat} {rf : List Nat} {i x : Int32} (hdg : decode cc pc = .ok (.iastore, 1)) (hs : shp[a]? = some (.inr (0, len, rf))) (hin : vp_in i len)
    (kk : AW p l e R s m args below meth c D cs ad b0 Q nL k (up2 V a i.toNatClampNeg x) lv st (pc + 1)) : AW p l e R s m args below meth c D cs ad b0 Q nL k V lv (.int x :: .int i :: .ref (ad a) :: st) pc := by
  intro H locs ls hP hS hl
  refine va_iast (f := V a) (n := len) C.1 C.2.1 C.2.2.2.2.2.2.2.2.2.2.1 hP (ws_D C.2.2.2.2.2.2.2.2.1 V) hS a 0 (ws_at hs) rfl hin hdg (fun H1 locs1 hP1 _ hS1 => ?_)
  refine kk H1 locs1 ls ?_ hS1 hl
  rw [← ws_set (k := a) (by rw [cellOf_sh hs, up2_k]) (fun j hj => up2_o V _ x hj)]
  exact hP1
theorem a_cast (C : Ctx p l s m args meth c D cs ad b0 own cc nL ret) {a len : Nat} {rf : List Nat} {i x : Int32} (hdg : decode cc pc = .ok (.castore, 1)) (hs : shp[a]? = some (.inr (1, len, rf))) (hin : vp_in i len)
    (kk : AW p l e R s m args below meth c D cs ad b0 Q nL k (up2 V a i.toNatClampNeg (vp_nar .char x)) lv st (pc + 1)) : AW p l e R s m args below meth c D cs ad b0 Q nL k V lv (.int x :: .int i :: .ref (ad a) :: st) pc := by
  intro H locs ls hP hS hl
  refine va_cast (f := V a) (n := len) C.1 C.2.1 C.2.2.2.2.2.2.2.2.2.2.1 hP (ws_D C.2.2.2.2.2.2.2.2.1 V) hS a 1 (ws_at hs) rfl hin hdg (fun H1 locs1 hP1 _ hS1 => ?_)
  refine kk H1 locs1 ls ?_ hS1 hl
  rw [← ws_set (k := a) (by rw [cellOf_sh hs, up2_k]) (fun j hj => up2_o V _ _ hj)]
  exact hP1
theorem a_last (C : Ctx p l s m args meth c D cs ad b0 own cc nL ret) {a len : Nat} {rf : List Nat} {i x : Int32} {y : Int64} (hdg : decode cc pc = .ok (.lastore, 1)) (hs : shp[a]? = some (.inr (2, len, rf))) (hin : vp_in i len) (hy : x.toInt64 = y)
    (kk : AW p l e R s m args below meth c D cs ad b0 Q nL k (up2 V a i.toNatClampNeg x) lv st (pc + 1)) : AW p l e R s m args below meth c D cs ad b0 Q nL k V lv (.long y :: .int i :: .ref (ad a) :: st) pc := by
  intro H locs ls hP hS hl
  subst hy
  refine va_last (f := fun j => (V a j).toInt64) (n := len) C.1 C.2.1 C.2.2.2.2.2.2.2.2.2.2.1 hP (ws_D C.2.2.2.2.2.2.2.2.1 V) hS a 2 (ws_at hs) rfl hin hdg (fun H1 locs1 hP1 _ hS1 => ?_)
  refine kk H1 locs1 ls ?_ hS1 hl
  rw [← ws_set (k := a) (V := V) (e := .inl (cs 2, len, .inr (.inl (vp_updL (fun j => (V a j).toInt64) i.toNatClampNeg x.toInt64)))) ?_ (fun j hj => up2_o V _ x hj)]
  · exact hP1
  · rw [cellOf_sh hs, up2_k]
    have e : (fun j => (upd (V a) i.toNatClampNeg x j).toInt64) = vp_updL (fun j => (V a j).toInt64) i.toNatClampNeg x.toInt64 := by
      funext j
      unfold upd vp_updL
      by_cases h : j = i.toNatClampNeg <;> simp [h]
    show (Sum.inl (cs 2, len, _) : va_E) = _
    rw [← e]
    rfl
theorem a_dast (C : Ctx p l s m args meth c D cs ad b0 own cc nL ret) {a : Nat} {rf : List Nat} {x : UInt64} (hdg : decode cc pc = .ok (.dastore, 1)) (hs : shp[a]? = some (.inr (3, 1, rf)))
    (kk : AW p l e R s m args below meth c D cs ad b0 Q nL k (upD V a x) lv st (pc + 1)) : AW p l e R s m args below meth c D cs ad b0 Q nL k V lv (.double x :: .int 0 :: .ref (ad a) :: st) pc := by
  intro H locs ls hP hS hl
  refine va_dast (f := fun j => u64 (V a (2 * j)) (V a (2 * j + 1))) (n := 1) C.1 C.2.1 C.2.2.2.2.2.2.2.2.2.2.1 hP (ws_D C.2.2.2.2.2.2.2.2.1 V) hS a 3 (ws_at hs) rfl (by unfold vp_in; decide) hdg (fun H1 locs1 hP1 _ hS1 => ?_)
  refine kk H1 locs1 ls ?_ hS1 hl
  rw [← ws_set (k := a) (V := V) (e := .inl (cs 3, 1, .inr (.inr (.inr (.inl (vf_upd (fun j => u64 (V a (2 * j)) (V a (2 * j + 1))) (0 : Int32).toNatClampNeg x)))))) ?_ (fun j hj => upD_o V x hj)]
  · exact hP1
  · rw [cellOf_sh hs, upD_k]
    have e : (fun j => u64 (upd (upd (V a) 0 (lo64 x)) 1 (hi64 x) (2 * j)) (upd (upd (V a) 0 (lo64 x)) 1 (hi64 x) (2 * j + 1))) = vf_upd (fun j => u64 (V a (2 * j)) (V a (2 * j + 1))) (0 : Int32).toNatClampNeg x := by
      funext j
      unfold vf_upd
      by_cases h : j = (0 : Int32).toNatClampNeg
      · rw [if_pos h]
        have h0 : j = 0 := h
        subst h0
        exact u64_halves x
      · rw [if_neg h]
        have h0 : ¬ j = 0 := h
        have h1 : ¬ 2 * j = 0 := by omega
        have h2 : ¬ 2 * j = 1 := by omega
        have h3 : ¬ 2 * j + 1 = 0 := by omega
        have h4 : ¬ 2 * j + 1 = 1 := by omega
        simp [upd, h0, h1, h2, h3, h4]
    show (Sum.inl (cs 3, 1, _) : va_E) = _
    rw [← e]
    rfl
end RU
end
section
/-! THE RULES that end a method, throw, call -/
theorem Ctx.exec {p : Program} {l : Launch} {s : State} {m : MethodId} {args : Array Value} {meth : Method} {c : Code} {D : va_G} {cs : Nat → ClassId} {ad : Nat → Nat} {b0 : Nat} {own : String} {cc : ByteArray} {nL : Nat} {ret : Option FieldType} (C : Ctx p l s m args meth c D cs ad b0 own cc nL ret) :
    p.tables.exec = Jvm.exec ∧ c.code = cc ∧ c.maxLocals = nL ∧ s.vm.findClass own = some m.cls ∧ (∀ w ∈ UW, w.before args s = true) := ⟨C.1, C.2.1, C.2.2.1, C.2.2.2.1, C.2.2.2.2.1⟩
section RE
variable {p : Program} {l : Launch} {e : Env} {R : Room} {s : State} {m : MethodId} {args : Array Value} {below : List Frame} {meth : Method} {c : Code} {D : va_G} {cs : Nat → ClassId} {ad : Nat → Nat} {b0 : Nat} {Q : State → Prop} {nL k K : Nat} {V V' : VT} {lv : List (Nat × Value)} {st : List Value} {pc : Nat} {own : String} {cc : ByteArray} {ret : Option FieldType} {r : OutV}
abbrev QF (below : List Frame) (D : va_G) (cs : Nat → ClassId) (ad : Nat → Nat) (b0 : Nat) (V : VT) (r : OutV) (args : Array Value) (s : State) (K : Nat) : State → Prop := vx_MQ below (QR D cs ad b0 V r) (XR D cs ad b0 V r) args s K (6 * K) (fun q => b0 ≤ q)
theorem a_iret (C : Ctx p l s m args meth c D cs ad b0 own cc nL ret) {x : Int32} (hdg : decode cc pc = .ok (.ireturn, 1)) (hret : ret = some .int) (hk : k ≤ K) (hV : V' = V) (hr : r = .inl (some (.int x))) :
    AW p l e R s m args below meth c D cs ad b0 (QF below D cs ad b0 V' r args s K) nL k V lv [.int x] pc := by
  intro H locs ls hP hS hl
  subst hV
  have hr9 : meth.sig.returnType = some .int := by rw [← hret]; exact C.2.2.2.2.2.2.2.1
  exact vx_ret (W.widen hk (Nat.mul_le_mul_left 6 hk) (W.iret C.1 C.2.1 hr9 (fun t ht _ => ⟨⟨_, hr, rfl, by rw [ht]; exact hP⟩, hS.F ht⟩) hS.2.2 hdg (hlocks := C.2.2.2.2.2.2.1)))
theorem a_zret (C : Ctx p l s m args meth c D cs ad b0 own cc nL ret) {x : Int32} {ty : FieldType} (hdg : decode cc pc = .ok (.ireturn, 1)) (hret : ret = some ty) (hn : narrow ty (.int x) = .int x) (hk : k ≤ K) (hV : V' = V) (hr : r = .inl (some (.int x))) :
    AW p l e R s m args below meth c D cs ad b0 (QF below D cs ad b0 V' r args s K) nL k V lv [.int x] pc := by
  intro H locs ls hP hS hl
  subst hV
  have hr9 : meth.sig.returnType = some ty := by rw [← hret]; exact C.2.2.2.2.2.2.2.1
  exact vx_ret (W.widen hk (Nat.mul_le_mul_left 6 hk) (W.zret C.1 C.2.1 hr9 hn (fun t ht _ => ⟨⟨_, hr, rfl, by rw [ht]; exact hP⟩, hS.F ht⟩) hS.2.2 hdg (hlocks := C.2.2.2.2.2.2.1)))
theorem a_vret (C : Ctx p l s m args meth c D cs ad b0 own cc nL ret) (hdg : decode cc pc = .ok (.return_, 1)) (hret : ret = none) (hk : k ≤ K) (hV : V' = V) (hr : r = .inl none) :
    AW p l e R s m args below meth c D cs ad b0 (QF below D cs ad b0 V' r args s K) nL k V lv [] pc := by
  intro H locs ls hP hS hl
  subst hV
  have hr9 : meth.sig.returnType = none := by rw [← hret]; exact C.2.2.2.2.2.2.2.1
  exact vx_ret (W.widen hk (Nat.mul_le_mul_left 6 hk) (W.vret C.1 C.2.1 hr9 (fun t ht _ => ⟨⟨_, hr, rfl, by rw [ht]; exact hP⟩, hS.F ht⟩) hS.2.2 hdg (hlocks := C.2.2.2.2.2.2.1)))
theorem a_dret (C : Ctx p l s m args meth c D cs ad b0 own cc nL ret) {x : UInt64} (hdg : decode cc pc = .ok (.dreturn, 1)) (hret : ret = some .double) (hk : k ≤ K) (hV : V' = V) (hr : r = .inl (some (.double x))) :
    AW p l e R s m args below meth c D cs ad b0 (QF below D cs ad b0 V' r args s K) nL k V lv [.double x] pc := by
  intro H locs ls hP hS hl
  subst hV
  have hr9 : meth.sig.returnType = some .double := by rw [← hret]; exact C.2.2.2.2.2.2.2.1
  exact vx_ret (W.widen hk (Nat.mul_le_mul_left 6 hk) (W.dret C.1 C.2.1 hr9 (fun t ht _ => ⟨⟨_, hr, rfl, by rw [ht]; exact hP⟩, hS.F ht⟩) hS.2.2 hdg (hlocks := C.2.2.2.2.2.2.1)))
theorem a_fret (C : Ctx p l s m args meth c D cs ad b0 own cc nL ret) {x : UInt32} (hdg : decode cc pc = .ok (.freturn, 1)) (hret : ret = some .float) (hk : k ≤ K) (hV : V' = V) (hr : r = .inl (some (.float x))) :
    AW p l e R s m args below meth c D cs ad b0 (QF below D cs ad b0 V' r args s K) nL k V lv [.float x] pc := by
  intro H locs ls hP hS hl
  subst hV
  have hr9 : meth.sig.returnType = some .float := by rw [← hret]; exact C.2.2.2.2.2.2.2.1
  exact vx_ret (W.widen hk (Nat.mul_le_mul_left 6 hk) (W.fret C.1 C.2.1 hr9 (fun t ht _ => ⟨⟨_, hr, rfl, by rw [ht]; exact hP⟩, hS.F ht⟩) hS.2.2 hdg (hlocks := C.2.2.2.2.2.2.1)))
theorem a_aret (C : Ctx p l s m args meth c D cs ad b0 own cc nL ret) {v : Value} {n : String} (hdg : decode cc pc = .ok (.areturn, 1)) (hret : ret = some (.object n)) (hv : v = .null ∨ ∃ a, v = .ref a) (hk : k ≤ K) (hV : V' = V) (hr : r = .inl (some v)) :
    AW p l e R s m args below meth c D cs ad b0 (QF below D cs ad b0 V' r args s K) nL k V lv [v] pc := by
  intro H locs ls hP hS hl
  subst hV
  have hr9 : meth.sig.returnType = some (.object n) := by rw [← hret]; exact C.2.2.2.2.2.2.2.1
  exact vx_ret (W.widen hk (Nat.mul_le_mul_left 6 hk) (W.aret C.1 C.2.1 hr9 (Or.inl ⟨n, rfl⟩) hv (fun t ht _ => ⟨⟨_, hr, rfl, by rw [ht]; exact hP⟩, hS.F ht⟩) hS.2.2 hdg (hlocks := C.2.2.2.2.2.2.1)))
/-- a thrown E goes on to the caller -/
theorem a_xout (C : Ctx p l s m args meth c D cs ad b0 own cc nL ret) (hT : ∀ x ∈ c.exceptionTable.toList, False) {E : String} (hk : k ≤ K) (hV : V' = V) (hr : r = .inr E) :
    AX p l e R s m args below meth c D cs ad b0 (QF below D cs ad b0 V' r args s K) nL k V lv E pc := by
  intro H locs ls st ce q hP hS hl h1 h2 h3
  subst hV
  exact vx_out (fun x hx => (hT x hx).elim) C.2.2.2.2.2.2.1 h1 h2 h3 (fun t ht _ => ⟨hr, by rw [ht]; exact hP, hS.F ht⟩) hS.2.2 hk (Nat.mul_le_mul_left 6 hk)
abbrev exNames : List String := ["java/lang/RuntimeException", "java/lang/Exception"]
/-- the words of 'throw new cls(text)' -/
def TH (own cls : String) (ik ic : Nat) : Prop := Bundle.fit cls = true ∧ Cond.classLink own ik cls ∈ UW ∧ Cond.initialized cls ∈ UW ∧ (∀ w ∈ vx_atS own ic cls exNames, w ∈ UW ∨ w ∈ BW)
theorem TH.of {own cls : String} {ik ic : Nat} (h1 : Bundle.fit cls = true) (h2 : Cond.classLink own ik cls ∈ UW) (h3 : Cond.initialized cls ∈ UW) (h4 : (vx_atS own ic cls exNames).all (fun w => decide (w ∈ lw_tbl) && (goodWord w || isBW w)) = true) : TH own cls ik ic := by
  refine ⟨h1, h2, h3, fun w hw => ?_⟩
  have h := List.all_eq_true.mp h4 w hw
  simp only [Bool.and_eq_true, decide_eq_true_eq, Bool.or_eq_true] at h
  rcases h.2 with g | g
  · exact Or.inl (List.mem_filter.mpr ⟨h.1, g⟩)
  · exact Or.inr (List.mem_filter.mpr ⟨h.1, g⟩)
theorem th_names : ∀ n ∈ exNames, Bundle.fit n = true := by decide +kernel
theorem a_throw (C : Ctx p l s m args meth c D cs ad b0 own cc nL ret) (hT : ∀ x ∈ c.exceptionTable.toList, False) {cls text : String} {ik is ic : Nat} (th : TH own cls ik ic) (hs : (own, is, text) ∈ strM)
    (d0 : decode cc pc = .ok (.new ik, 3)) (d3 : decode cc (pc + 3) = .ok (.dup, 1)) (d4 : decode cc (pc + 4) = .ok (.ldc is, 2)) (d6 : decode cc (pc + 6) = .ok (.invokespecial ic, 3)) (d9 : decode cc (pc + 9) = .ok (.athrow, 1))
    (hR : 6 ≤ R.frames ∧ 90 ≤ R.locals ∧ k + 1 ≤ R.cells ∧ 6 * k + 6 ≤ R.slots) (hk : k + 1 ≤ K) (hV : V' = V) (hr : r = .inr cls) :
    AW p l e R s m args below meth c D cs ad b0 (QF below D cs ad b0 V' r args s K) nL k V lv [] pc := by
  intro H locs ls hP hS hl
  subst hV
  obtain ⟨hx, hb, hml, ho, hts, hfl, hlk, -, hAd, hb0, hST⟩ := C
  obtain ⟨h1, h2, h3, h4⟩ := th
  obtain ⟨hK, hB, hM, -, -, hU, hN⟩ := hST
  obtain ⟨sa, hsa⟩ := hM _ hs
  have hw : ∀ w ∈ vx_atS own ic cls exNames, w.before args s = true := fun w hw => (h4 w hw).elim (fun q => hts w q) (fun q => hB.use q)
  refine vx_throwS (A := fun q => b0 ≤ q) hx hb hfl ho h1 th_names (hts _ h2) (hts _ h3) hsa hw ?_ hU hN hS (by rw [hml]; exact hl.1) d0 d3 d4 d6 d9 (fun x hx => (hT x hx).elim) (by show 2 + 3 < R.frames; omega) (by show 0 + (13 * 3 + 43) ≤ R.locals; omega) hR.2.2.1 hR.2.2.2 hlk ?_ hS.2.2 hk (by omega)
  · intro w hw
    rcases List.mem_cons.mp hw with rfl | hw
    · rfl
    · rcases List.mem_cons.mp hw with rfl | hw
      · rfl
      · rcases h4 w hw with q | q
        · unfold vx_ot; rw [uw_good q, Bool.or_true]
        · unfold vx_ot; rw [isBW_tab (List.mem_filter.mp q).2, Bool.true_or]
  · intro t _ hz hq
    refine ⟨hr, hP.kept (fun j q hj => hq _ (hP j q hj).lt), Nat.le_trans hS.1 hz, fun q h5 h6 => ?_⟩
    rw [hq q (Nat.lt_of_lt_of_le h5 hS.1)]
    exact hS.2.1 q h5 h6
theorem a_throwW (C : Ctx p l s m args meth c D cs ad b0 own cc nL ret) (hT : ∀ x ∈ c.exceptionTable.toList, False) {cls text : String} {ik is ic : Nat} (th : TH own cls ik ic) (hs : (own, is, text) ∈ strM)
    (d0 : decode cc pc = .ok (.new ik, 3)) (d3 : decode cc (pc + 3) = .ok (.dup, 1)) (d4 : decode cc (pc + 4) = .ok (.ldc_w is, 3)) (d7 : decode cc (pc + 7) = .ok (.invokespecial ic, 3)) (d10 : decode cc (pc + 10) = .ok (.athrow, 1))
    (hR : 6 ≤ R.frames ∧ 90 ≤ R.locals ∧ k + 1 ≤ R.cells ∧ 6 * k + 6 ≤ R.slots) (hk : k + 1 ≤ K) (hV : V' = V) (hr : r = .inr cls) :
    AW p l e R s m args below meth c D cs ad b0 (QF below D cs ad b0 V' r args s K) nL k V lv [] pc := by
  intro H locs ls hP hS hl
  subst hV
  obtain ⟨hx, hb, hml, ho, hts, hfl, hlk, -, hAd, hb0, hST⟩ := C
  obtain ⟨h1, h2, h3, h4⟩ := th
  obtain ⟨hK, hB, hM, -, -, hU, hN⟩ := hST
  obtain ⟨sa, hsa⟩ := hM _ hs
  have hw : ∀ w ∈ vx_atS own ic cls exNames, w.before args s = true := fun w hw => (h4 w hw).elim (fun q => hts w q) (fun q => hB.use q)
  refine vx_throwSW (A := fun q => b0 ≤ q) hx hb hfl ho h1 th_names (hts _ h2) (hts _ h3) hsa hw ?_ hU hN hS (by rw [hml]; exact hl.1) d0 d3 d4 d7 d10 (fun x hx => (hT x hx).elim) (by show 2 + 3 < R.frames; omega) (by show 0 + (13 * 3 + 43) ≤ R.locals; omega) hR.2.2.1 hR.2.2.2 hlk ?_ hS.2.2 hk (by omega)
  · intro w hw
    rcases List.mem_cons.mp hw with rfl | hw
    · rfl
    · rcases List.mem_cons.mp hw with rfl | hw
      · rfl
      · rcases h4 w hw with q | q
        · unfold vx_ot; rw [uw_good q, Bool.or_true]
        · unfold vx_ot; rw [isBW_tab (List.mem_filter.mp q).2, Bool.true_or]
  · intro t _ hz hq
    refine ⟨hr, hP.kept (fun j q hj => hq _ (hP j q hj).lt), Nat.le_trans hS.1 hz, fun q h5 h6 => ?_⟩
    rw [hq q (Nat.lt_of_lt_of_le h5 hS.1)]
    exact hS.2.1 q h5 h6
end RE
/-! calls -/
def CV (own : String) (idx : Nat) (y : MethodName) (b : ByteArray) (mL : Nat) (ret : Option FieldType) (n : Nat) : Prop :=
  Cond.methodLink own idx y ∈ UW ∧ Cond.instanceMethod y ∈ UW ∧ Cond.selects y.cls y y ∈ UW ∧ Cond.initialized y.cls ∈ UW ∧ Cond.code y b mL ret ∈ UW ∧ (y.cls ≠ "java/lang/invoke/MethodHandle" ∧ y.cls ≠ "java/lang/invoke/VarHandle" ∧ (parseMethodDescriptor y.desc).map (fun d => d.parameters.length) = some n)
def CSt (own : String) (idx : Nat) (y : MethodName) (b : ByteArray) (mL : Nat) (ret : Option FieldType) (n : Nat) : Prop :=
  Cond.methodLink own idx y ∈ UW ∧ Cond.static y ∈ UW ∧ Cond.initialized y.cls ∈ UW ∧ Cond.code y b mL ret ∈ UW ∧ (y.cls ≠ "java/lang/invoke/MethodHandle" ∧ y.cls ≠ "java/lang/invoke/VarHandle" ∧ (parseMethodDescriptor y.desc).map (fun d => d.parameters.length) = some n)
section RC
variable {p : Program} {l : Launch} {e : Env} {R : Room} {s : State} {m : MethodId} {args : Array Value} {below : List Frame} {meth : Method} {c : Code} {D : va_G} {cs : Nat → ClassId} {ad : Nat → Nat} {b0 : Nat} {Q : State → Prop} {nL k : Nat} {V V' : VT} {lv : List (Nat × Value)} {st st0 : List Value} {pc : Nat} {own : String} {cc : ByteArray} {ret : Option FieldType}
theorem P0_blind {D : va_G} {cs : Nat → ClassId} {ad : Nat → Nat} {b0 : Nat} {V : VT} {av : List Value} : FrameBlind (va_Pc av (P0 D cs ad b0 V)) := fun a U g mk h => ⟨h.1, h.2.1, h.2.2.1, ST.calling g mk a h.2.2.2⟩
theorem P0_at {H : Heap} {locs : List Loc} (C : Ctx p l s m args meth c D cs ad b0 own cc nL ret) (hP : va_P D vwC (wsOf cs ad V) H) (hS : va_S (fun q => b0 ≤ q) s.heap H locs) {U : State} (hU : U.heap = H) (hW : s.WarmedH U.vm) : P0 D cs ad b0 V U := by
  obtain ⟨-, -, -, -, -, -, -, -, -, hb0, hST⟩ := C
  refine ⟨by rw [hU]; exact Nat.le_trans hb0 hS.1, by rw [hU]; exact hP, ?_⟩
  rw [hU]
  exact ST.warm hW (ST.kept hST hS.2.1)
theorem a_after {H : Heap} {locs : List Loc} {ls : Array Slot} {k' : Nat} {r : OutV} {a : Array Value}
    (hr : vx_Run p l e R s m args below meth c H locs k (6 * k) k' (6 * k') (F0 m pc ls st0) st (QR D cs ad b0 V' r a) (XR D cs ad b0 V' r) (fun q => b0 ≤ q)) (hS : va_S (fun q => b0 ≤ q) s.heap H locs) (hl : lv_has ls nL lv)
    (kn : ∀ v : Option Value, r = .inl v → AW p l e R s m args below meth c D cs ad b0 Q nL (k + k') V' lv (v.toList ++ st) (pc + 3))
    (kx : ∀ E : String, r = .inr E → AX p l e R s m args below meth c D cs ad b0 Q nL (k + k') V' lv E pc) : W p l e R s m args below meth c H locs k (6 * k) Q (F0 m pc ls st0) := by
  intro T hT X
  rcases hr T hT X with ⟨v, st₀, t, T', L, h0, X', hL, e1, e2, ⟨⟨v', hv', ho, hP'⟩, hF⟩, st1⟩ | ⟨q, st₀, t, T', L, E, ce, h0, X', hL, e1, e2, ⟨hE, hP', hF⟩, hce, hcv, hcl, st1⟩
  · cases ho
    obtain ⟨k1, k2, k3⟩ := vx_keep h0 e1 hS (fun _ _ h => h) (fun _ h => h) hL hF
    obtain ⟨t2, a1, b1⟩ := kn v hv' T'.heap (locs ++ L) ls (by rw [e1]; exact hP') k3 hl T' rfl (by rw [Nat.mul_add]; exact X')
    exact ⟨t2, st1 t2 a1, b1⟩
  · obtain ⟨k1, k2, k3⟩ := vx_keep h0 e1 hS (fun _ _ h => h) (fun _ h => h) hL hF
    obtain ⟨t2, a1, b1⟩ := kx E hE T'.heap (locs ++ L) ls st ce q (by rw [e1]; exact hP') k3 hl (by rw [e1]; exact hce) hcv hcl T' rfl (by rw [Nat.mul_add]; exact X')
    exact ⟨t2, st1.trans a1, b1⟩
theorem a_callV (C : Ctx p l s m args meth c D cs ad b0 own cc nL ret) {idx ci a n mL d' k' : Nat} {y : MethodName} {b : ByteArray} {ret' : Option FieldType} {T : u_T} {N : Nat} {fs : List (Option Nat)} {As : (Nat → Nat) → List Value} {As1 : List Value} {r : (Nat → Nat) → OutV}
    (hdg : decode cc pc = .ok (.invokevirtual idx, 3)) (cv : CV own idx y b mL ret' n) (hM : AM d' k' y (.code y b mL ret') As V V' r) (hs : shp[a]? = some (.inl (ci, fs))) (hc : vwC[ci]? = some (y.cls, T, N)) (hA : As ad = .ref (ad a) :: As1) (hn : As1.length = n) (hst : st0 = As1.reverse ++ .ref (ad a) :: st)
    (hR : d' + 1 ≤ R.frames ∧ 8 + (mL + 11) + 64 * d' ≤ R.locals ∧ k + k' ≤ R.cells ∧ 6 * k + 6 * k' ≤ R.slots) (hw : (st.map fun v => v.category).sum ≤ 8)
    (kn : ∀ v : Option Value, r ad = .inl v → AW p l e R s m args below meth c D cs ad b0 Q nL (k + k') V' lv (v.toList ++ st) (pc + 3))
    (kx : ∀ E : String, r ad = .inr E → AX p l e R s m args below meth c D cs ad b0 Q nL (k + k') V' lv E pc) : AW p l e R s m args below meth c D cs ad b0 Q nL k V lv st0 pc := by
  intro H locs ls hP hS hl
  obtain ⟨c1, c2, c3, c4, c5, c6, c7, c8⟩ := cv
  obtain ⟨hx, hb, hml, ho, hts, hfl, -, -, hAd, hb0, hST⟩ := id C
  have hM1 := hM l hfl D cs ad b0 hAd
  have hP0 : ∀ U : State, U.heap = H → s.WarmedH U.vm → va_Pc (As ad) (P0 D cs ad b0 V) (Value.ref (ad a) :: As1).toArray U := fun U hU hW => ⟨by rw [hA], P0_at C hP hS hU hW⟩
  have hG : ∀ w ∈ (Cond.code y b mL ret' :: UW), w ∈ UW ∧ ((w.onTables && w.keeps) = true ∨ ∃ ty, w = .arrayClass ty) := by
    intro w hw9
    rcases List.mem_cons.mp hw9 with rfl | h
    · exact ⟨c5, good_of_word (uw_good c5)⟩
    · exact ⟨h, good_of_word (uw_good h)⟩
  have hrun := vx_runV (p := p) (e := e) (R := R) (below := below) (meth := meth) (H := H) (locs := locs) (cells := k) (slots := 6 * k) (b := ad a) (As := As1) (rest := st) (g := F0 m pc ls st0) ⟨hx, hb, hml, ho, hts⟩ hM1
    ⟨⟨rfl, rfl, hR.1, hR.2.1, pay_in hts hG, List.mem_cons_self, hts _ c5, hts _ c4, ⟨c6, c7⟩, fun sig h => by rw [h] at c8; exact (Option.some.inj c8).symm, hts _ c1⟩, hts _ c2, hts _ c3⟩
    ⟨P0_blind, va_recv hST.1 hP hc (ws_at hs), hP0⟩ rfl hn hl.1 hst (lv_room hw) hdg ⟨hR.2.2.1, hR.2.2.2⟩
  exact a_after hrun hS hl kn kx
theorem a_callS (C : Ctx p l s m args meth c D cs ad b0 own cc nL ret) {idx n mL d' k' : Nat} {y : MethodName} {b : ByteArray} {ret' : Option FieldType} {As : (Nat → Nat) → List Value} {As1 : List Value} {r : (Nat → Nat) → OutV}
    (hdg : decode cc pc = .ok (.invokestatic idx, 3)) (cv : CSt own idx y b mL ret' n) (hM : AM d' k' y (.code y b mL ret') As V V' r) (hA : As ad = As1) (hn : As1.length = n) (hst : st0 = As1.reverse ++ st)
    (hR : d' + 1 ≤ R.frames ∧ 8 + (mL + 11) + 64 * d' ≤ R.locals ∧ k + k' ≤ R.cells ∧ 6 * k + 6 * k' ≤ R.slots) (hw : (st.map fun v => v.category).sum ≤ 8)
    (kn : ∀ v : Option Value, r ad = .inl v → AW p l e R s m args below meth c D cs ad b0 Q nL (k + k') V' lv (v.toList ++ st) (pc + 3))
    (kx : ∀ E : String, r ad = .inr E → AX p l e R s m args below meth c D cs ad b0 Q nL (k + k') V' lv E pc) : AW p l e R s m args below meth c D cs ad b0 Q nL k V lv st0 pc := by
  intro H locs ls hP hS hl
  obtain ⟨c1, c2, c4, c5, c6, c7, c8⟩ := cv
  obtain ⟨hx, hb, hml, ho, hts, hfl, -, -, hAd, hb0, hST⟩ := id C
  have hM1 := hM l hfl D cs ad b0 hAd
  have hP0 : ∀ U : State, U.heap = H → s.WarmedH U.vm → va_Pc (As ad) (P0 D cs ad b0 V) As1.toArray U := fun U hU hW => ⟨by rw [hA], P0_at C hP hS hU hW⟩
  have hG : ∀ w ∈ (Cond.code y b mL ret' :: UW), w ∈ UW ∧ ((w.onTables && w.keeps) = true ∨ ∃ ty, w = .arrayClass ty) := by
    intro w hw9
    rcases List.mem_cons.mp hw9 with rfl | h
    · exact ⟨c5, good_of_word (uw_good c5)⟩
    · exact ⟨h, good_of_word (uw_good h)⟩
  have hrun := vx_runS (p := p) (e := e) (R := R) (below := below) (meth := meth) (H := H) (locs := locs) (cells := k) (slots := 6 * k) (As := As1) (rest := st) (g := F0 m pc ls st0) ⟨hx, hb, hml, ho, hts⟩ hM1
    ⟨⟨rfl, rfl, hR.1, hR.2.1, pay_in hts hG, List.mem_cons_self, hts _ c5, hts _ c4, ⟨c6, c7⟩, fun sig h => by rw [h] at c8; exact (Option.some.inj c8).symm, hts _ c1⟩, hts _ c2⟩
    ⟨P0_blind, hP0⟩ rfl hn hl.1 hst (lv_room hw) hdg ⟨hR.2.2.1, hR.2.2.2⟩
  exact a_after hrun hS hl kn kx
/-! .. by what they answer -/
abbrev rI (x : Int32) : (Nat → Nat) → OutV := fun _ => .inl (some (.int x))
abbrev rV : (Nat → Nat) → OutV := fun _ => .inl none
abbrev rD (x : UInt64) : (Nat → Nat) → OutV := fun _ => .inl (some (.double x))
abbrev rF (x : UInt32) : (Nat → Nat) → OutV := fun _ => .inl (some (.float x))
/-- a string's place, or null -/
abbrev rS (o : Option Nat) : (Nat → Nat) → OutV := fun ad => .inl (some (va_rf (o.map (fun i => ad (200 + i)))))
def rX (o : Int32 ⊕ String) : (Nat → Nat) → OutV := fun _ => match o with
  | .inl x => .inl (some (.int x))
  | .inr E => .inr E
def rXV (o : Int32 ⊕ String) : (Nat → Nat) → OutV := fun _ => match o with
  | .inl _ => .inl none
  | .inr E => .inr E
def rXD (o : UInt64 ⊕ String) : (Nat → Nat) → OutV := fun _ => match o with
  | .inl x => .inl (some (.double x))
  | .inr E => .inr E
def rXF (o : UInt32 ⊕ String) : (Nat → Nat) → OutV := fun _ => match o with
  | .inl x => .inl (some (.float x))
  | .inr E => .inr E
theorem a_cVi (C : Ctx p l s m args meth c D cs ad b0 own cc nL ret) {x : Int32} {idx ci a n mL d' : Nat} {y : MethodName} {b : ByteArray} {ret' : Option FieldType} {T : u_T} {N : Nat} {fs : List (Option Nat)} {As : (Nat → Nat) → List Value} {As1 : List Value} (hdg : decode cc pc = .ok (.invokevirtual idx, 3)) (cv : CV own idx y b mL ret' n) (hM : AM d' 0 y (.code y b mL ret') As V V' (rI x)) (hs : shp[a]? = some (.inl (ci, fs))) (hc : vwC[ci]? = some (y.cls, T, N)) (hA : As ad = .ref (ad a) :: As1) (hn : As1.length = n) (hst : st0 = As1.reverse ++ .ref (ad a) :: st)
    (hR : d' + 1 ≤ R.frames ∧ 8 + (mL + 11) + 64 * d' ≤ R.locals ∧ k ≤ R.cells ∧ 6 * k ≤ R.slots) (hw : (st.map fun v => v.category).sum ≤ 8)
    (kk : AW p l e R s m args below meth c D cs ad b0 Q nL (k) V' lv (.int x :: st) (pc + 3)) : AW p l e R s m args below meth c D cs ad b0 Q nL k V lv st0 pc := a_callV C hdg cv hM hs hc hA hn hst hR hw (fun v hv => by cases hv; exact kk) (fun E hE => by cases hE)
theorem a_cVv (C : Ctx p l s m args meth c D cs ad b0 own cc nL ret)  {idx ci a n mL d' : Nat} {y : MethodName} {b : ByteArray} {ret' : Option FieldType} {T : u_T} {N : Nat} {fs : List (Option Nat)} {As : (Nat → Nat) → List Value} {As1 : List Value} (hdg : decode cc pc = .ok (.invokevirtual idx, 3)) (cv : CV own idx y b mL ret' n) (hM : AM d' 0 y (.code y b mL ret') As V V' (rV)) (hs : shp[a]? = some (.inl (ci, fs))) (hc : vwC[ci]? = some (y.cls, T, N)) (hA : As ad = .ref (ad a) :: As1) (hn : As1.length = n) (hst : st0 = As1.reverse ++ .ref (ad a) :: st)
    (hR : d' + 1 ≤ R.frames ∧ 8 + (mL + 11) + 64 * d' ≤ R.locals ∧ k ≤ R.cells ∧ 6 * k ≤ R.slots) (hw : (st.map fun v => v.category).sum ≤ 8)
    (kk : AW p l e R s m args below meth c D cs ad b0 Q nL (k) V' lv (st) (pc + 3)) : AW p l e R s m args below meth c D cs ad b0 Q nL k V lv st0 pc := a_callV C hdg cv hM hs hc hA hn hst hR hw (fun v hv => by cases hv; exact kk) (fun E hE => by cases hE)
theorem a_cVs (C : Ctx p l s m args meth c D cs ad b0 own cc nL ret) {o : Option Nat} {idx ci a n mL d' : Nat} {y : MethodName} {b : ByteArray} {ret' : Option FieldType} {T : u_T} {N : Nat} {fs : List (Option Nat)} {As : (Nat → Nat) → List Value} {As1 : List Value} (hdg : decode cc pc = .ok (.invokevirtual idx, 3)) (cv : CV own idx y b mL ret' n) (hM : AM d' 0 y (.code y b mL ret') As V V' (rS o)) (hs : shp[a]? = some (.inl (ci, fs))) (hc : vwC[ci]? = some (y.cls, T, N)) (hA : As ad = .ref (ad a) :: As1) (hn : As1.length = n) (hst : st0 = As1.reverse ++ .ref (ad a) :: st)
    (hR : d' + 1 ≤ R.frames ∧ 8 + (mL + 11) + 64 * d' ≤ R.locals ∧ k ≤ R.cells ∧ 6 * k ≤ R.slots) (hw : (st.map fun v => v.category).sum ≤ 8)
    (kk : ∀ v, v = va_rf (o.map (fun i => ad (200 + i))) → AW p l e R s m args below meth c D cs ad b0 Q nL (k) V' lv (v :: st) (pc + 3)) : AW p l e R s m args below meth c D cs ad b0 Q nL k V lv st0 pc := a_callV C hdg cv hM hs hc hA hn hst hR hw (fun v hv => by cases hv; exact kk _ rfl) (fun E hE => by cases hE)
theorem a_cVxi (C : Ctx p l s m args meth c D cs ad b0 own cc nL ret) {k' : Nat} {o : Int32 ⊕ String} {idx ci a n mL d' : Nat} {y : MethodName} {b : ByteArray} {ret' : Option FieldType} {T : u_T} {N : Nat} {fs : List (Option Nat)} {As : (Nat → Nat) → List Value} {As1 : List Value} (hdg : decode cc pc = .ok (.invokevirtual idx, 3)) (cv : CV own idx y b mL ret' n) (hM : AM d' k' y (.code y b mL ret') As V V' (rX o)) (hs : shp[a]? = some (.inl (ci, fs))) (hc : vwC[ci]? = some (y.cls, T, N)) (hA : As ad = .ref (ad a) :: As1) (hn : As1.length = n) (hst : st0 = As1.reverse ++ .ref (ad a) :: st)
    (hR : d' + 1 ≤ R.frames ∧ 8 + (mL + 11) + 64 * d' ≤ R.locals ∧ k + k' ≤ R.cells ∧ 6 * k + 6 * k' ≤ R.slots) (hw : (st.map fun v => v.category).sum ≤ 8)
    (kn : ∀ x, o = .inl x → AW p l e R s m args below meth c D cs ad b0 Q nL (k + k') V' lv (.int x :: st) (pc + 3))
    (kx : ∀ E, o = .inr E → AX p l e R s m args below meth c D cs ad b0 Q nL (k + k') V' lv E pc) : AW p l e R s m args below meth c D cs ad b0 Q nL k V lv st0 pc := a_callV C hdg cv hM hs hc hA hn hst hR hw (fun v hv => by cases o with
    | inl x => cases hv; exact kn x rfl
    | inr E => cases hv) (fun E hE => by cases o with
    | inl x => cases hE
    | inr E => cases hE; exact kx E rfl)
theorem a_cVxv (C : Ctx p l s m args meth c D cs ad b0 own cc nL ret) {k' : Nat} {o : Int32 ⊕ String} {idx ci a n mL d' : Nat} {y : MethodName} {b : ByteArray} {ret' : Option FieldType} {T : u_T} {N : Nat} {fs : List (Option Nat)} {As : (Nat → Nat) → List Value} {As1 : List Value} (hdg : decode cc pc = .ok (.invokevirtual idx, 3)) (cv : CV own idx y b mL ret' n) (hM : AM d' k' y (.code y b mL ret') As V V' (rXV o)) (hs : shp[a]? = some (.inl (ci, fs))) (hc : vwC[ci]? = some (y.cls, T, N)) (hA : As ad = .ref (ad a) :: As1) (hn : As1.length = n) (hst : st0 = As1.reverse ++ .ref (ad a) :: st)
    (hR : d' + 1 ≤ R.frames ∧ 8 + (mL + 11) + 64 * d' ≤ R.locals ∧ k + k' ≤ R.cells ∧ 6 * k + 6 * k' ≤ R.slots) (hw : (st.map fun v => v.category).sum ≤ 8)
    (kn : ∀ x, o = .inl x → AW p l e R s m args below meth c D cs ad b0 Q nL (k + k') V' lv (st) (pc + 3))
    (kx : ∀ E, o = .inr E → AX p l e R s m args below meth c D cs ad b0 Q nL (k + k') V' lv E pc) : AW p l e R s m args below meth c D cs ad b0 Q nL k V lv st0 pc := a_callV C hdg cv hM hs hc hA hn hst hR hw (fun v hv => by cases o with
    | inl x => cases hv; exact kn x rfl
    | inr E => cases hv) (fun E hE => by cases o with
    | inl x => cases hE
    | inr E => cases hE; exact kx E rfl)
theorem a_cVd (C : Ctx p l s m args meth c D cs ad b0 own cc nL ret) {x : UInt64} {idx ci a n mL d' : Nat} {y : MethodName} {b : ByteArray} {ret' : Option FieldType} {T : u_T} {N : Nat} {fs : List (Option Nat)} {As : (Nat → Nat) → List Value} {As1 : List Value} (hdg : decode cc pc = .ok (.invokevirtual idx, 3)) (cv : CV own idx y b mL ret' n) (hM : AM d' 0 y (.code y b mL ret') As V V' (rD x)) (hs : shp[a]? = some (.inl (ci, fs))) (hc : vwC[ci]? = some (y.cls, T, N)) (hA : As ad = .ref (ad a) :: As1) (hn : As1.length = n) (hst : st0 = As1.reverse ++ .ref (ad a) :: st)
    (hR : d' + 1 ≤ R.frames ∧ 8 + (mL + 11) + 64 * d' ≤ R.locals ∧ k ≤ R.cells ∧ 6 * k ≤ R.slots) (hw : (st.map fun v => v.category).sum ≤ 8)
    (kk : AW p l e R s m args below meth c D cs ad b0 Q nL (k) V' lv (.double x :: st) (pc + 3)) : AW p l e R s m args below meth c D cs ad b0 Q nL k V lv st0 pc := a_callV C hdg cv hM hs hc hA hn hst hR hw (fun v hv => by cases hv; exact kk) (fun E hE => by cases hE)
theorem a_cVxd (C : Ctx p l s m args meth c D cs ad b0 own cc nL ret) {k' : Nat} {o : UInt64 ⊕ String} {idx ci a n mL d' : Nat} {y : MethodName} {b : ByteArray} {ret' : Option FieldType} {T : u_T} {N : Nat} {fs : List (Option Nat)} {As : (Nat → Nat) → List Value} {As1 : List Value} (hdg : decode cc pc = .ok (.invokevirtual idx, 3)) (cv : CV own idx y b mL ret' n) (hM : AM d' k' y (.code y b mL ret') As V V' (rXD o)) (hs : shp[a]? = some (.inl (ci, fs))) (hc : vwC[ci]? = some (y.cls, T, N)) (hA : As ad = .ref (ad a) :: As1) (hn : As1.length = n) (hst : st0 = As1.reverse ++ .ref (ad a) :: st)
    (hR : d' + 1 ≤ R.frames ∧ 8 + (mL + 11) + 64 * d' ≤ R.locals ∧ k + k' ≤ R.cells ∧ 6 * k + 6 * k' ≤ R.slots) (hw : (st.map fun v => v.category).sum ≤ 8)
    (kn : ∀ x, o = .inl x → AW p l e R s m args below meth c D cs ad b0 Q nL (k + k') V' lv (.double x :: st) (pc + 3))
    (kx : ∀ E, o = .inr E → AX p l e R s m args below meth c D cs ad b0 Q nL (k + k') V' lv E pc) : AW p l e R s m args below meth c D cs ad b0 Q nL k V lv st0 pc := a_callV C hdg cv hM hs hc hA hn hst hR hw (fun v hv => by cases o with
    | inl x => cases hv; exact kn x rfl
    | inr E => cases hv) (fun E hE => by cases o with
    | inl x => cases hE
    | inr E => cases hE; exact kx E rfl)
theorem a_cVf (C : Ctx p l s m args meth c D cs ad b0 own cc nL ret) {x : UInt32} {idx ci a n mL d' : Nat} {y : MethodName} {b : ByteArray} {ret' : Option FieldType} {T : u_T} {N : Nat} {fs : List (Option Nat)} {As : (Nat → Nat) → List Value} {As1 : List Value} (hdg : decode cc pc = .ok (.invokevirtual idx, 3)) (cv : CV own idx y b mL ret' n) (hM : AM d' 0 y (.code y b mL ret') As V V' (rF x)) (hs : shp[a]? = some (.inl (ci, fs))) (hc : vwC[ci]? = some (y.cls, T, N)) (hA : As ad = .ref (ad a) :: As1) (hn : As1.length = n) (hst : st0 = As1.reverse ++ .ref (ad a) :: st)
    (hR : d' + 1 ≤ R.frames ∧ 8 + (mL + 11) + 64 * d' ≤ R.locals ∧ k ≤ R.cells ∧ 6 * k ≤ R.slots) (hw : (st.map fun v => v.category).sum ≤ 8)
    (kk : AW p l e R s m args below meth c D cs ad b0 Q nL (k) V' lv (.float x :: st) (pc + 3)) : AW p l e R s m args below meth c D cs ad b0 Q nL k V lv st0 pc := a_callV C hdg cv hM hs hc hA hn hst hR hw (fun v hv => by cases hv; exact kk) (fun E hE => by cases hE)
theorem a_cVxf (C : Ctx p l s m args meth c D cs ad b0 own cc nL ret) {k' : Nat} {o : UInt32 ⊕ String} {idx ci a n mL d' : Nat} {y : MethodName} {b : ByteArray} {ret' : Option FieldType} {T : u_T} {N : Nat} {fs : List (Option Nat)} {As : (Nat → Nat) → List Value} {As1 : List Value} (hdg : decode cc pc = .ok (.invokevirtual idx, 3)) (cv : CV own idx y b mL ret' n) (hM : AM d' k' y (.code y b mL ret') As V V' (rXF o)) (hs : shp[a]? = some (.inl (ci, fs))) (hc : vwC[ci]? = some (y.cls, T, N)) (hA : As ad = .ref (ad a) :: As1) (hn : As1.length = n) (hst : st0 = As1.reverse ++ .ref (ad a) :: st)
    (hR : d' + 1 ≤ R.frames ∧ 8 + (mL + 11) + 64 * d' ≤ R.locals ∧ k + k' ≤ R.cells ∧ 6 * k + 6 * k' ≤ R.slots) (hw : (st.map fun v => v.category).sum ≤ 8)
    (kn : ∀ x, o = .inl x → AW p l e R s m args below meth c D cs ad b0 Q nL (k + k') V' lv (.float x :: st) (pc + 3))
    (kx : ∀ E, o = .inr E → AX p l e R s m args below meth c D cs ad b0 Q nL (k + k') V' lv E pc) : AW p l e R s m args below meth c D cs ad b0 Q nL k V lv st0 pc := a_callV C hdg cv hM hs hc hA hn hst hR hw (fun v hv => by cases o with
    | inl x => cases hv; exact kn x rfl
    | inr E => cases hv) (fun E hE => by cases o with
    | inl x => cases hE
    | inr E => cases hE; exact kx E rfl)
theorem a_cSi (C : Ctx p l s m args meth c D cs ad b0 own cc nL ret) {x : Int32} {idx n mL d' : Nat} {y : MethodName} {b : ByteArray} {ret' : Option FieldType} {As : (Nat → Nat) → List Value} {As1 : List Value} (hdg : decode cc pc = .ok (.invokestatic idx, 3)) (cv : CSt own idx y b mL ret' n) (hM : AM d' 0 y (.code y b mL ret') As V V' (rI x)) (hA : As ad = As1) (hn : As1.length = n) (hst : st0 = As1.reverse ++ st)
    (hR : d' + 1 ≤ R.frames ∧ 8 + (mL + 11) + 64 * d' ≤ R.locals ∧ k ≤ R.cells ∧ 6 * k ≤ R.slots) (hw : (st.map fun v => v.category).sum ≤ 8)
    (kk : AW p l e R s m args below meth c D cs ad b0 Q nL (k) V' lv (.int x :: st) (pc + 3)) : AW p l e R s m args below meth c D cs ad b0 Q nL k V lv st0 pc := a_callS C hdg cv hM hA hn hst hR hw (fun v hv => by cases hv; exact kk) (fun E hE => by cases hE)
theorem a_cSv (C : Ctx p l s m args meth c D cs ad b0 own cc nL ret)  {idx n mL d' : Nat} {y : MethodName} {b : ByteArray} {ret' : Option FieldType} {As : (Nat → Nat) → List Value} {As1 : List Value} (hdg : decode cc pc = .ok (.invokestatic idx, 3)) (cv : CSt own idx y b mL ret' n) (hM : AM d' 0 y (.code y b mL ret') As V V' (rV)) (hA : As ad = As1) (hn : As1.length = n) (hst : st0 = As1.reverse ++ st)
    (hR : d' + 1 ≤ R.frames ∧ 8 + (mL + 11) + 64 * d' ≤ R.locals ∧ k ≤ R.cells ∧ 6 * k ≤ R.slots) (hw : (st.map fun v => v.category).sum ≤ 8)
    (kk : AW p l e R s m args below meth c D cs ad b0 Q nL (k) V' lv (st) (pc + 3)) : AW p l e R s m args below meth c D cs ad b0 Q nL k V lv st0 pc := a_callS C hdg cv hM hA hn hst hR hw (fun v hv => by cases hv; exact kk) (fun E hE => by cases hE)
theorem a_cSs (C : Ctx p l s m args meth c D cs ad b0 own cc nL ret) {o : Option Nat} {idx n mL d' : Nat} {y : MethodName} {b : ByteArray} {ret' : Option FieldType} {As : (Nat → Nat) → List Value} {As1 : List Value} (hdg : decode cc pc = .ok (.invokestatic idx, 3)) (cv : CSt own idx y b mL ret' n) (hM : AM d' 0 y (.code y b mL ret') As V V' (rS o)) (hA : As ad = As1) (hn : As1.length = n) (hst : st0 = As1.reverse ++ st)
    (hR : d' + 1 ≤ R.frames ∧ 8 + (mL + 11) + 64 * d' ≤ R.locals ∧ k ≤ R.cells ∧ 6 * k ≤ R.slots) (hw : (st.map fun v => v.category).sum ≤ 8)
    (kk : ∀ v, v = va_rf (o.map (fun i => ad (200 + i))) → AW p l e R s m args below meth c D cs ad b0 Q nL (k) V' lv (v :: st) (pc + 3)) : AW p l e R s m args below meth c D cs ad b0 Q nL k V lv st0 pc := a_callS C hdg cv hM hA hn hst hR hw (fun v hv => by cases hv; exact kk _ rfl) (fun E hE => by cases hE)
theorem a_cSxi (C : Ctx p l s m args meth c D cs ad b0 own cc nL ret) {k' : Nat} {o : Int32 ⊕ String} {idx n mL d' : Nat} {y : MethodName} {b : ByteArray} {ret' : Option FieldType} {As : (Nat → Nat) → List Value} {As1 : List Value} (hdg : decode cc pc = .ok (.invokestatic idx, 3)) (cv : CSt own idx y b mL ret' n) (hM : AM d' k' y (.code y b mL ret') As V V' (rX o)) (hA : As ad = As1) (hn : As1.length = n) (hst : st0 = As1.reverse ++ st)
    (hR : d' + 1 ≤ R.frames ∧ 8 + (mL + 11) + 64 * d' ≤ R.locals ∧ k + k' ≤ R.cells ∧ 6 * k + 6 * k' ≤ R.slots) (hw : (st.map fun v => v.category).sum ≤ 8)
    (kn : ∀ x, o = .inl x → AW p l e R s m args below meth c D cs ad b0 Q nL (k + k') V' lv (.int x :: st) (pc + 3))
    (kx : ∀ E, o = .inr E → AX p l e R s m args below meth c D cs ad b0 Q nL (k + k') V' lv E pc) : AW p l e R s m args below meth c D cs ad b0 Q nL k V lv st0 pc := a_callS C hdg cv hM hA hn hst hR hw (fun v hv => by cases o with
    | inl x => cases hv; exact kn x rfl
    | inr E => cases hv) (fun E hE => by cases o with
    | inl x => cases hE
    | inr E => cases hE; exact kx E rfl)
theorem a_cSxv (C : Ctx p l s m args meth c D cs ad b0 own cc nL ret) {k' : Nat} {o : Int32 ⊕ String} {idx n mL d' : Nat} {y : MethodName} {b : ByteArray} {ret' : Option FieldType} {As : (Nat → Nat) → List Value} {As1 : List Value} (hdg : decode cc pc = .ok (.invokestatic idx, 3)) (cv : CSt own idx y b mL ret' n) (hM : AM d' k' y (.code y b mL ret') As V V' (rXV o)) (hA : As ad = As1) (hn : As1.length = n) (hst : st0 = As1.reverse ++ st)
    (hR : d' + 1 ≤ R.frames ∧ 8 + (mL + 11) + 64 * d' ≤ R.locals ∧ k + k' ≤ R.cells ∧ 6 * k + 6 * k' ≤ R.slots) (hw : (st.map fun v => v.category).sum ≤ 8)
    (kn : ∀ x, o = .inl x → AW p l e R s m args below meth c D cs ad b0 Q nL (k + k') V' lv (st) (pc + 3))
    (kx : ∀ E, o = .inr E → AX p l e R s m args below meth c D cs ad b0 Q nL (k + k') V' lv E pc) : AW p l e R s m args below meth c D cs ad b0 Q nL k V lv st0 pc := a_callS C hdg cv hM hA hn hst hR hw (fun v hv => by cases o with
    | inl x => cases hv; exact kn x rfl
    | inr E => cases hv) (fun E hE => by cases o with
    | inl x => cases hE
    | inr E => cases hE; exact kx E rfl)
theorem a_cSd (C : Ctx p l s m args meth c D cs ad b0 own cc nL ret) {x : UInt64} {idx n mL d' : Nat} {y : MethodName} {b : ByteArray} {ret' : Option FieldType} {As : (Nat → Nat) → List Value} {As1 : List Value} (hdg : decode cc pc = .ok (.invokestatic idx, 3)) (cv : CSt own idx y b mL ret' n) (hM : AM d' 0 y (.code y b mL ret') As V V' (rD x)) (hA : As ad = As1) (hn : As1.length = n) (hst : st0 = As1.reverse ++ st)
    (hR : d' + 1 ≤ R.frames ∧ 8 + (mL + 11) + 64 * d' ≤ R.locals ∧ k ≤ R.cells ∧ 6 * k ≤ R.slots) (hw : (st.map fun v => v.category).sum ≤ 8)
    (kk : AW p l e R s m args below meth c D cs ad b0 Q nL (k) V' lv (.double x :: st) (pc + 3)) : AW p l e R s m args below meth c D cs ad b0 Q nL k V lv st0 pc := a_callS C hdg cv hM hA hn hst hR hw (fun v hv => by cases hv; exact kk) (fun E hE => by cases hE)
theorem a_cSxd (C : Ctx p l s m args meth c D cs ad b0 own cc nL ret) {k' : Nat} {o : UInt64 ⊕ String} {idx n mL d' : Nat} {y : MethodName} {b : ByteArray} {ret' : Option FieldType} {As : (Nat → Nat) → List Value} {As1 : List Value} (hdg : decode cc pc = .ok (.invokestatic idx, 3)) (cv : CSt own idx y b mL ret' n) (hM : AM d' k' y (.code y b mL ret') As V V' (rXD o)) (hA : As ad = As1) (hn : As1.length = n) (hst : st0 = As1.reverse ++ st)
    (hR : d' + 1 ≤ R.frames ∧ 8 + (mL + 11) + 64 * d' ≤ R.locals ∧ k + k' ≤ R.cells ∧ 6 * k + 6 * k' ≤ R.slots) (hw : (st.map fun v => v.category).sum ≤ 8)
    (kn : ∀ x, o = .inl x → AW p l e R s m args below meth c D cs ad b0 Q nL (k + k') V' lv (.double x :: st) (pc + 3))
    (kx : ∀ E, o = .inr E → AX p l e R s m args below meth c D cs ad b0 Q nL (k + k') V' lv E pc) : AW p l e R s m args below meth c D cs ad b0 Q nL k V lv st0 pc := a_callS C hdg cv hM hA hn hst hR hw (fun v hv => by cases o with
    | inl x => cases hv; exact kn x rfl
    | inr E => cases hv) (fun E hE => by cases o with
    | inl x => cases hE
    | inr E => cases hE; exact kx E rfl)
theorem a_cSf (C : Ctx p l s m args meth c D cs ad b0 own cc nL ret) {x : UInt32} {idx n mL d' : Nat} {y : MethodName} {b : ByteArray} {ret' : Option FieldType} {As : (Nat → Nat) → List Value} {As1 : List Value} (hdg : decode cc pc = .ok (.invokestatic idx, 3)) (cv : CSt own idx y b mL ret' n) (hM : AM d' 0 y (.code y b mL ret') As V V' (rF x)) (hA : As ad = As1) (hn : As1.length = n) (hst : st0 = As1.reverse ++ st)
    (hR : d' + 1 ≤ R.frames ∧ 8 + (mL + 11) + 64 * d' ≤ R.locals ∧ k ≤ R.cells ∧ 6 * k ≤ R.slots) (hw : (st.map fun v => v.category).sum ≤ 8)
    (kk : AW p l e R s m args below meth c D cs ad b0 Q nL (k) V' lv (.float x :: st) (pc + 3)) : AW p l e R s m args below meth c D cs ad b0 Q nL k V lv st0 pc := a_callS C hdg cv hM hA hn hst hR hw (fun v hv => by cases hv; exact kk) (fun E hE => by cases hE)
theorem a_cSxf (C : Ctx p l s m args meth c D cs ad b0 own cc nL ret) {k' : Nat} {o : UInt32 ⊕ String} {idx n mL d' : Nat} {y : MethodName} {b : ByteArray} {ret' : Option FieldType} {As : (Nat → Nat) → List Value} {As1 : List Value} (hdg : decode cc pc = .ok (.invokestatic idx, 3)) (cv : CSt own idx y b mL ret' n) (hM : AM d' k' y (.code y b mL ret') As V V' (rXF o)) (hA : As ad = As1) (hn : As1.length = n) (hst : st0 = As1.reverse ++ st)
    (hR : d' + 1 ≤ R.frames ∧ 8 + (mL + 11) + 64 * d' ≤ R.locals ∧ k + k' ≤ R.cells ∧ 6 * k + 6 * k' ≤ R.slots) (hw : (st.map fun v => v.category).sum ≤ 8)
    (kn : ∀ x, o = .inl x → AW p l e R s m args below meth c D cs ad b0 Q nL (k + k') V' lv (.float x :: st) (pc + 3))
    (kx : ∀ E, o = .inr E → AX p l e R s m args below meth c D cs ad b0 Q nL (k + k') V' lv E pc) : AW p l e R s m args below meth c D cs ad b0 Q nL k V lv st0 pc := a_callS C hdg cv hM hA hn hst hR hw (fun v hv => by cases o with
    | inl x => cases hv; exact kn x rfl
    | inr E => cases hv) (fun E hE => by cases o with
    | inl x => cases hE
    | inr E => cases hE; exact kx E rfl)
/-- System.arraycopy of ints -/
theorem a_acopy (C : Ctx p l s m args meth c D cs ad b0 own cc nL ret) {idx a0 a n0 n1 : Nat} {r0 r1 : List Nat} {sp dp n : Int32} (hdg : decode cc pc = .ok (.invokestatic idx, 3)) (hlink : Cond.methodLink own idx arraycopyName ∈ UW) (hnat : Cond.native arraycopyName ∈ UW) (hstat : Cond.static arraycopyName ∈ UW) (hini : Cond.initialized "java/lang/System" ∈ UW)
    (hs0 : shp[a0]? = some (.inr (0, n0, r0))) (hs1 : shp[a]? = some (.inr (0, n1, r1))) (h1 : ¬ sp < 0) (h2 : ¬ dp < 0) (h3 : ¬ n < 0) (h4 : sp.toNatClampNeg + n.toNatClampNeg ≤ n0) (h5 : dp.toNatClampNeg + n.toNatClampNeg ≤ n1)
    (hR : 1 ≤ R.frames ∧ (st.map fun v => v.category).sum + (nativeFrameWords "java/lang/System" "arraycopy" 5 + 11) ≤ R.locals)
    (kk : AW p l e R s m args below meth c D cs ad b0 Q nL k (cp2 V a0 a sp.toNatClampNeg dp.toNatClampNeg n.toNatClampNeg) lv st (pc + 3)) : AW p l e R s m args below meth c D cs ad b0 Q nL k V lv (.int n :: .int dp :: .ref (ad a) :: .int sp :: .ref (ad a0) :: st) pc := by
  intro H locs ls hP hS hl
  obtain ⟨hx, hb, hml, ho, hts, hfl, -, -, hAd, hb0, hST⟩ := id C
  refine va_copyi (f := V a0) (g := V a) (n0 := n0) (n1 := n1) (ty := .int) hx hb (by rw [hml]; exact hl.1.symm) ho (hts _ hlink) (hts _ hnat) (hts _ hstat) (hts _ hini) hST.1 hP (ws_D hAd V) hS a0 a 0 0 (ws_at hs0) (ws_at hs1) rfl rfl rfl h1 h2 h3 h4 h5 (fun i _ => rfl) hR.1 hR.2 hdg (fun H1 locs1 hP1 _ hS1 => ?_)
  refine kk H1 locs1 ls ?_ hS1 hl
  rw [← ws_set (k := a) (by rw [cellOf_sh hs1, cp2_k]) (fun j hj => cp2_o V _ _ _ hj)]
  exact hP1
end RC
/-! a method's contract out of its walk -/
theorem AM.of {d K mL : Nat} {y : MethodName} {b : ByteArray} {ret : Option FieldType} {As : (Nat → Nat) → List Value} {V V' : VT} {r : (Nat → Nat) → OutV} (hy : plainName y.cls = true) (hlen : ∀ ad, (lg_sl (As ad)).length ≤ mL)
    (body : ∀ {p : Program} {l : Launch} {e : Env} {s : State} {m : MethodId} {args : Array Value} {below : List Frame} {meth : Method} {c : Code} {D : va_G} {cs : Nat → ClassId} {ad : Nat → Nat} {b0 : Nat}, Ctx p l s m args meth c D cs ad b0 y.cls b mL ret → (∀ x ∈ c.exceptionTable.toList, False) →
      AW p l e (rmOf d K) s m args below meth c D cs ad b0 (QF below D cs ad b0 V' (r ad) args s K) mL 0 V (lv_args 0 (As ad)) [] 0) : AM d K y (.code y b mL ret) As V V' r := by
  intro l hl D cs ad b0 hAd
  refine vx_ofW (cc := b) (maxL := mL) (ret := ret) hy rfl ?_
  intro p e s m args below meth c s₁ B hml ht hv
  obtain ⟨rfl, hb0, hP, hST⟩ := hv
  have C : Ctx p l s m (As ad).toArray meth c D cs ad b0 y.cls b mL ret := ⟨B.exec, B.bytes, hml, findClass_of_methodNamed B.named, fun w hw => atoms_spec (ws := Cond.code y b mL ret :: UW) B.pre w (List.mem_cons_of_mem _ hw), hl, B.notSynchronized, B.returns, hAd, hb0, hST⟩
  have h0 := lv_entry (As ad) (n := mL) (hlen ad)
  rw [lg_entry_eq]
  exact body C ht s.heap [] _ hP va_S.rf h0
theorem AMX.of {d K mL : Nat} {y : MethodName} {b : ByteArray} {ret : Option FieldType} {hh : List (Nat × Nat × Nat × Nat)} {As : (Nat → Nat) → List Value} {V V' : VT} {r : (Nat → Nat) → OutV} (hy : plainName y.cls = true) (hlen : ∀ ad, (lg_sl (As ad)).length ≤ mL)
    (body : ∀ {p : Program} {l : Launch} {e : Env} {s : State} {m : MethodId} {args : Array Value} {below : List Frame} {meth : Method} {c : Code} {D : va_G} {cs : Nat → ClassId} {ad : Nat → Nat} {b0 : Nat}, Ctx p l s m args meth c D cs ad b0 y.cls b mL ret → c.exceptionTable.toList = tableOf hh →
      AW p l e (rmOf d K) s m args below meth c D cs ad b0 (QF below D cs ad b0 V' (r ad) args s K) mL 0 V (lv_args 0 (As ad)) [] 0) : AM d K y (.codeWith y b mL ret hh) As V V' r := by
  intro l hl D cs ad b0 hAd
  refine vx_ofWH (cc := b) (maxL := mL) (ret := ret) (hh := hh) hy rfl ?_
  intro p e s m args below meth c s₁ B hml hv
  obtain ⟨rfl, hb0, hP, hST⟩ := hv
  have hts := atoms_spec (ws := Cond.codeWith y b mL ret hh :: UW) B.pre
  have C : Ctx p l s m (As ad).toArray meth c D cs ad b0 y.cls b mL ret := ⟨B.exec, B.bytes, hml, findClass_of_methodNamed B.named, fun w hw => hts w (List.mem_cons_of_mem _ hw), hl, B.notSynchronized, B.returns, hAd, hb0, hST⟩
  have h0 := lv_entry (As ad) (n := mL) (hlen ad)
  rw [lg_entry_eq]
  exact body C (vx_table (x := y) B (hts _ List.mem_cons_self)) s.heap [] _ hP va_S.rf h0
end
section
theorem zz_last : True := trivial
end

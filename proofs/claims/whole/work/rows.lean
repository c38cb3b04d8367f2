section
-- ===== PART A: goes FIRST, ahead of the names: the tables' words, and 'selects' of the private methods out of them =====
/-- a private method of a class that the tables say can be made, by its rows of tables_1 -/
def lw_okq (q : MethodName × Nat) : Prop := (q.1.cls ≠ "java/lang/invoke/MethodHandle" ∧ q.1.cls ≠ "java/lang/invoke/VarHandle") ∧ Cond.instantiable q.1.cls q.2 ∈ tables_1 ∧ Cond.privateMethod q.1 ∈ tables_1 ∧ Cond.instanceMethod q.1 ∈ tables_1
theorem lw_p0 : lw_okq (⟨"TownForest", "feedNumber", "(I)V"⟩, 12) := ⟨⟨by decide +kernel, by decide +kernel⟩, List.mem_of_getElem? (i := 20) (by decide +kernel), List.mem_of_getElem? (i := 314) (by decide +kernel), List.mem_of_getElem? (i := 315) (by decide +kernel)⟩
theorem lw_p1 : lw_okq (⟨"TownForest", "takeTold", "()V"⟩, 12) := ⟨⟨by decide +kernel, by decide +kernel⟩, List.mem_of_getElem? (i := 20) (by decide +kernel), List.mem_of_getElem? (i := 472) (by decide +kernel), List.mem_of_getElem? (i := 473) (by decide +kernel)⟩
theorem lw_p2 : lw_okq (⟨"TownForest", "canBeLink", "(IIII)Z"⟩, 12) := ⟨⟨by decide +kernel, by decide +kernel⟩, List.mem_of_getElem? (i := 20) (by decide +kernel), List.mem_of_getElem? (i := 521) (by decide +kernel), List.mem_of_getElem? (i := 522) (by decide +kernel)⟩
theorem lw_p3 : lw_okq (⟨"java/lang/Throwable", "fillInStackTrace", "(I)Ljava/lang/Throwable;"⟩, 6) := ⟨⟨by decide +kernel, by decide +kernel⟩, List.mem_of_getElem? (i := 918) (by decide +kernel), List.mem_of_getElem? (i := 916) (by decide +kernel), List.mem_of_getElem? (i := 917) (by decide +kernel)⟩
theorem lw_p4 : lw_okq (⟨"TownForest", "factOfTown", "(II)I"⟩, 12) := ⟨⟨by decide +kernel, by decide +kernel⟩, List.mem_of_getElem? (i := 20) (by decide +kernel), List.mem_of_getElem? (i := 964) (by decide +kernel), List.mem_of_getElem? (i := 965) (by decide +kernel)⟩
theorem lw_p5 : lw_okq (⟨"TownForestModel", "plain", "()V"⟩, 26) := ⟨⟨by decide +kernel, by decide +kernel⟩, List.mem_of_getElem? (i := 980) (by decide +kernel), List.mem_of_getElem? (i := 986) (by decide +kernel), List.mem_of_getElem? (i := 987) (by decide +kernel)⟩
theorem lw_p6 : lw_okq (⟨"TownForestModel", "keepText", "()V"⟩, 26) := ⟨⟨by decide +kernel, by decide +kernel⟩, List.mem_of_getElem? (i := 980) (by decide +kernel), List.mem_of_getElem? (i := 990) (by decide +kernel), List.mem_of_getElem? (i := 991) (by decide +kernel)⟩
theorem lw_p7 : lw_okq (⟨"TownForestModel", "copyBank", "(II)V"⟩, 26) := ⟨⟨by decide +kernel, by decide +kernel⟩, List.mem_of_getElem? (i := 980) (by decide +kernel), List.mem_of_getElem? (i := 994) (by decide +kernel), List.mem_of_getElem? (i := 995) (by decide +kernel)⟩
theorem lw_p8 : lw_okq (⟨"TownForestModel", "lay", "(II)V"⟩, 26) := ⟨⟨by decide +kernel, by decide +kernel⟩, List.mem_of_getElem? (i := 980) (by decide +kernel), List.mem_of_getElem? (i := 998) (by decide +kernel), List.mem_of_getElem? (i := 999) (by decide +kernel)⟩
theorem lw_p9 : lw_okq (⟨"TownForestModel", "trees", "()I"⟩, 26) := ⟨⟨by decide +kernel, by decide +kernel⟩, List.mem_of_getElem? (i := 980) (by decide +kernel), List.mem_of_getElem? (i := 1097) (by decide +kernel), List.mem_of_getElem? (i := 1098) (by decide +kernel)⟩
theorem lw_p10 : lw_okq (⟨"TownForestModel", "partsOf", "(I)I"⟩, 26) := ⟨⟨by decide +kernel, by decide +kernel⟩, List.mem_of_getElem? (i := 980) (by decide +kernel), List.mem_of_getElem? (i := 1101) (by decide +kernel), List.mem_of_getElem? (i := 1102) (by decide +kernel)⟩
theorem lw_p11 : lw_okq (⟨"TownForestModel", "parent", "(I)I"⟩, 26) := ⟨⟨by decide +kernel, by decide +kernel⟩, List.mem_of_getElem? (i := 980) (by decide +kernel), List.mem_of_getElem? (i := 1105) (by decide +kernel), List.mem_of_getElem? (i := 1106) (by decide +kernel)⟩
theorem lw_p12 : lw_okq (⟨"TownForestModel", "of", "(I)I"⟩, 26) := ⟨⟨by decide +kernel, by decide +kernel⟩, List.mem_of_getElem? (i := 980) (by decide +kernel), List.mem_of_getElem? (i := 1109) (by decide +kernel), List.mem_of_getElem? (i := 1110) (by decide +kernel)⟩
theorem lw_p13 : lw_okq (⟨"TownForestModel", "token", "()V"⟩, 26) := ⟨⟨by decide +kernel, by decide +kernel⟩, List.mem_of_getElem? (i := 980) (by decide +kernel), List.mem_of_getElem? (i := 1121) (by decide +kernel), List.mem_of_getElem? (i := 1122) (by decide +kernel)⟩
theorem lw_p14 : lw_okq (⟨"TownForestModel", "isSmall", "(I)Z"⟩, 26) := ⟨⟨by decide +kernel, by decide +kernel⟩, List.mem_of_getElem? (i := 980) (by decide +kernel), List.mem_of_getElem? (i := 1125) (by decide +kernel), List.mem_of_getElem? (i := 1126) (by decide +kernel)⟩
theorem lw_p15 : lw_okq (⟨"TownForestModel", "wordAt", "(II)I"⟩, 26) := ⟨⟨by decide +kernel, by decide +kernel⟩, List.mem_of_getElem? (i := 980) (by decide +kernel), List.mem_of_getElem? (i := 1129) (by decide +kernel), List.mem_of_getElem? (i := 1130) (by decide +kernel)⟩
def lw_privs_1 : List (MethodName × Nat) := [(⟨"TownForest", "feedNumber", "(I)V"⟩, 12), (⟨"TownForest", "takeTold", "()V"⟩, 12), (⟨"TownForest", "canBeLink", "(IIII)Z"⟩, 12), (⟨"java/lang/Throwable", "fillInStackTrace", "(I)Ljava/lang/Throwable;"⟩, 6), (⟨"TownForest", "factOfTown", "(II)I"⟩, 12), (⟨"TownForestModel", "plain", "()V"⟩, 26), (⟨"TownForestModel", "keepText", "()V"⟩, 26), (⟨"TownForestModel", "copyBank", "(II)V"⟩, 26), (⟨"TownForestModel", "lay", "(II)V"⟩, 26), (⟨"TownForestModel", "trees", "()I"⟩, 26), (⟨"TownForestModel", "partsOf", "(I)I"⟩, 26), (⟨"TownForestModel", "parent", "(I)I"⟩, 26), (⟨"TownForestModel", "of", "(I)I"⟩, 26), (⟨"TownForestModel", "token", "()V"⟩, 26), (⟨"TownForestModel", "isSmall", "(I)Z"⟩, 26), (⟨"TownForestModel", "wordAt", "(II)I"⟩, 26)]
theorem lw_r1 : ∀ q ∈ lw_privs_1, lw_okq q := List.forall_mem_cons.mpr ⟨lw_p0, List.forall_mem_cons.mpr ⟨lw_p1, List.forall_mem_cons.mpr ⟨lw_p2, List.forall_mem_cons.mpr ⟨lw_p3, List.forall_mem_cons.mpr ⟨lw_p4, List.forall_mem_cons.mpr ⟨lw_p5, List.forall_mem_cons.mpr ⟨lw_p6, List.forall_mem_cons.mpr ⟨lw_p7, List.forall_mem_cons.mpr ⟨lw_p8, List.forall_mem_cons.mpr ⟨lw_p9, List.forall_mem_cons.mpr ⟨lw_p10, List.forall_mem_cons.mpr ⟨lw_p11, List.forall_mem_cons.mpr ⟨lw_p12, List.forall_mem_cons.mpr ⟨lw_p13, List.forall_mem_cons.mpr ⟨lw_p14, List.forall_mem_cons.mpr ⟨lw_p15, fun _ h => absurd h List.not_mem_nil⟩⟩⟩⟩⟩⟩⟩⟩⟩⟩⟩⟩⟩⟩⟩⟩
theorem lw_p16 : lw_okq (⟨"TownForestModel", "packed", "(II)I"⟩, 26) := ⟨⟨by decide +kernel, by decide +kernel⟩, List.mem_of_getElem? (i := 980) (by decide +kernel), List.mem_of_getElem? (i := 1133) (by decide +kernel), List.mem_of_getElem? (i := 1134) (by decide +kernel)⟩
theorem lw_p17 : lw_okq (⟨"TownForestModel", "isDigit", "(I)Z"⟩, 26) := ⟨⟨by decide +kernel, by decide +kernel⟩, List.mem_of_getElem? (i := 980) (by decide +kernel), List.mem_of_getElem? (i := 1137) (by decide +kernel), List.mem_of_getElem? (i := 1138) (by decide +kernel)⟩
theorem lw_p18 : lw_okq (⟨"TownForestModel", "lineRead", "()Z"⟩, 26) := ⟨⟨by decide +kernel, by decide +kernel⟩, List.mem_of_getElem? (i := 980) (by decide +kernel), List.mem_of_getElem? (i := 1142) (by decide +kernel), List.mem_of_getElem? (i := 1143) (by decide +kernel)⟩
theorem lw_p19 : lw_okq (⟨"TownForestModel", "wrong", "(I)Z"⟩, 26) := ⟨⟨by decide +kernel, by decide +kernel⟩, List.mem_of_getElem? (i := 980) (by decide +kernel), List.mem_of_getElem? (i := 1146) (by decide +kernel), List.mem_of_getElem? (i := 1147) (by decide +kernel)⟩
theorem lw_p20 : lw_okq (⟨"TownForestModel", "townLine", "()Z"⟩, 26) := ⟨⟨by decide +kernel, by decide +kernel⟩, List.mem_of_getElem? (i := 980) (by decide +kernel), List.mem_of_getElem? (i := 1150) (by decide +kernel), List.mem_of_getElem? (i := 1151) (by decide +kernel)⟩
theorem lw_p21 : lw_okq (⟨"TownForestModel", "signed", "(II)Z"⟩, 26) := ⟨⟨by decide +kernel, by decide +kernel⟩, List.mem_of_getElem? (i := 980) (by decide +kernel), List.mem_of_getElem? (i := 1157) (by decide +kernel), List.mem_of_getElem? (i := 1158) (by decide +kernel)⟩
theorem lw_p22 : lw_okq (⟨"TownForestModel", "free", "(I)V"⟩, 26) := ⟨⟨by decide +kernel, by decide +kernel⟩, List.mem_of_getElem? (i := 980) (by decide +kernel), List.mem_of_getElem? (i := 1164) (by decide +kernel), List.mem_of_getElem? (i := 1165) (by decide +kernel)⟩
theorem lw_p23 : lw_okq (⟨"TownForestModel", "linkLine", "()Z"⟩, 26) := ⟨⟨by decide +kernel, by decide +kernel⟩, List.mem_of_getElem? (i := 980) (by decide +kernel), List.mem_of_getElem? (i := 1168) (by decide +kernel), List.mem_of_getElem? (i := 1169) (by decide +kernel)⟩
theorem lw_p24 : lw_okq (⟨"TownForestModel", "townRead", "()Z"⟩, 26) := ⟨⟨by decide +kernel, by decide +kernel⟩, List.mem_of_getElem? (i := 980) (by decide +kernel), List.mem_of_getElem? (i := 1172) (by decide +kernel), List.mem_of_getElem? (i := 1173) (by decide +kernel)⟩
theorem lw_p25 : lw_okq (⟨"TownForestModel", "rootOf", "(I)I"⟩, 26) := ⟨⟨by decide +kernel, by decide +kernel⟩, List.mem_of_getElem? (i := 980) (by decide +kernel), List.mem_of_getElem? (i := 1176) (by decide +kernel), List.mem_of_getElem? (i := 1177) (by decide +kernel)⟩
theorem lw_p26 : lw_okq (⟨"TownForestModel", "number", "(II)Z"⟩, 26) := ⟨⟨by decide +kernel, by decide +kernel⟩, List.mem_of_getElem? (i := 980) (by decide +kernel), List.mem_of_getElem? (i := 1180) (by decide +kernel), List.mem_of_getElem? (i := 1181) (by decide +kernel)⟩
theorem lw_p27 : lw_okq (⟨"TownForestModel", "links", "(IIII)V"⟩, 26) := ⟨⟨by decide +kernel, by decide +kernel⟩, List.mem_of_getElem? (i := 980) (by decide +kernel), List.mem_of_getElem? (i := 1184) (by decide +kernel), List.mem_of_getElem? (i := 1185) (by decide +kernel)⟩
theorem lw_p28 : lw_okq (⟨"TownForestModel", "reroots", "(I)I"⟩, 26) := ⟨⟨by decide +kernel, by decide +kernel⟩, List.mem_of_getElem? (i := 980) (by decide +kernel), List.mem_of_getElem? (i := 1188) (by decide +kernel), List.mem_of_getElem? (i := 1189) (by decide +kernel)⟩
theorem lw_p29 : lw_okq (⟨"TownForestModel", "touches", "(I)I"⟩, 26) := ⟨⟨by decide +kernel, by decide +kernel⟩, List.mem_of_getElem? (i := 980) (by decide +kernel), List.mem_of_getElem? (i := 1192) (by decide +kernel), List.mem_of_getElem? (i := 1193) (by decide +kernel)⟩
theorem lw_p30 : lw_okq (⟨"TownForestModel", "would1", "(I)I"⟩, 26) := ⟨⟨by decide +kernel, by decide +kernel⟩, List.mem_of_getElem? (i := 980) (by decide +kernel), List.mem_of_getElem? (i := 1196) (by decide +kernel), List.mem_of_getElem? (i := 1197) (by decide +kernel)⟩
theorem lw_p31 : lw_okq (⟨"TownForestModel", "prefers", "(I)I"⟩, 26) := ⟨⟨by decide +kernel, by decide +kernel⟩, List.mem_of_getElem? (i := 980) (by decide +kernel), List.mem_of_getElem? (i := 1200) (by decide +kernel), List.mem_of_getElem? (i := 1201) (by decide +kernel)⟩
def lw_privs_2 : List (MethodName × Nat) := [(⟨"TownForestModel", "packed", "(II)I"⟩, 26), (⟨"TownForestModel", "isDigit", "(I)Z"⟩, 26), (⟨"TownForestModel", "lineRead", "()Z"⟩, 26), (⟨"TownForestModel", "wrong", "(I)Z"⟩, 26), (⟨"TownForestModel", "townLine", "()Z"⟩, 26), (⟨"TownForestModel", "signed", "(II)Z"⟩, 26), (⟨"TownForestModel", "free", "(I)V"⟩, 26), (⟨"TownForestModel", "linkLine", "()Z"⟩, 26), (⟨"TownForestModel", "townRead", "()Z"⟩, 26), (⟨"TownForestModel", "rootOf", "(I)I"⟩, 26), (⟨"TownForestModel", "number", "(II)Z"⟩, 26), (⟨"TownForestModel", "links", "(IIII)V"⟩, 26), (⟨"TownForestModel", "reroots", "(I)I"⟩, 26), (⟨"TownForestModel", "touches", "(I)I"⟩, 26), (⟨"TownForestModel", "would1", "(I)I"⟩, 26), (⟨"TownForestModel", "prefers", "(I)I"⟩, 26)]
theorem lw_r2 : ∀ q ∈ lw_privs_2, lw_okq q := List.forall_mem_cons.mpr ⟨lw_p16, List.forall_mem_cons.mpr ⟨lw_p17, List.forall_mem_cons.mpr ⟨lw_p18, List.forall_mem_cons.mpr ⟨lw_p19, List.forall_mem_cons.mpr ⟨lw_p20, List.forall_mem_cons.mpr ⟨lw_p21, List.forall_mem_cons.mpr ⟨lw_p22, List.forall_mem_cons.mpr ⟨lw_p23, List.forall_mem_cons.mpr ⟨lw_p24, List.forall_mem_cons.mpr ⟨lw_p25, List.forall_mem_cons.mpr ⟨lw_p26, List.forall_mem_cons.mpr ⟨lw_p27, List.forall_mem_cons.mpr ⟨lw_p28, List.forall_mem_cons.mpr ⟨lw_p29, List.forall_mem_cons.mpr ⟨lw_p30, List.forall_mem_cons.mpr ⟨lw_p31, fun _ h => absurd h List.not_mem_nil⟩⟩⟩⟩⟩⟩⟩⟩⟩⟩⟩⟩⟩⟩⟩⟩
theorem lw_p32 : lw_okq (⟨"TownForestModel", "wordLine", "()Z"⟩, 26) := ⟨⟨by decide +kernel, by decide +kernel⟩, List.mem_of_getElem? (i := 980) (by decide +kernel), List.mem_of_getElem? (i := 1204) (by decide +kernel), List.mem_of_getElem? (i := 1205) (by decide +kernel)⟩
theorem lw_p33 : lw_okq (⟨"TownForestModel", "settles", "(I)I"⟩, 26) := ⟨⟨by decide +kernel, by decide +kernel⟩, List.mem_of_getElem? (i := 980) (by decide +kernel), List.mem_of_getElem? (i := 1208) (by decide +kernel), List.mem_of_getElem? (i := 1209) (by decide +kernel)⟩
theorem lw_p34 : lw_okq (⟨"TownForestModel", "areTogether", "(II)Z"⟩, 26) := ⟨⟨by decide +kernel, by decide +kernel⟩, List.mem_of_getElem? (i := 980) (by decide +kernel), List.mem_of_getElem? (i := 1212) (by decide +kernel), List.mem_of_getElem? (i := 1213) (by decide +kernel)⟩
theorem lw_p35 : lw_okq (⟨"TownForestModel", "heavyOf", "(I)I"⟩, 26) := ⟨⟨by decide +kernel, by decide +kernel⟩, List.mem_of_getElem? (i := 980) (by decide +kernel), List.mem_of_getElem? (i := 1216) (by decide +kernel), List.mem_of_getElem? (i := 1217) (by decide +kernel)⟩
theorem lw_p36 : lw_okq (⟨"TownForestModel", "size", "(I)I"⟩, 26) := ⟨⟨by decide +kernel, by decide +kernel⟩, List.mem_of_getElem? (i := 980) (by decide +kernel), List.mem_of_getElem? (i := 1220) (by decide +kernel), List.mem_of_getElem? (i := 1221) (by decide +kernel)⟩
theorem lw_p37 : lw_okq (⟨"TownForestModel", "isAbove", "(II)Z"⟩, 26) := ⟨⟨by decide +kernel, by decide +kernel⟩, List.mem_of_getElem? (i := 980) (by decide +kernel), List.mem_of_getElem? (i := 1224) (by decide +kernel), List.mem_of_getElem? (i := 1225) (by decide +kernel)⟩
theorem lw_p38 : lw_okq (⟨"TownForestModel", "isTown", "(I)Z"⟩, 26) := ⟨⟨by decide +kernel, by decide +kernel⟩, List.mem_of_getElem? (i := 980) (by decide +kernel), List.mem_of_getElem? (i := 1240) (by decide +kernel), List.mem_of_getElem? (i := 1241) (by decide +kernel)⟩
theorem lw_p39 : lw_okq (⟨"TownForestModel", "canUndo", "()V"⟩, 26) := ⟨⟨by decide +kernel, by decide +kernel⟩, List.mem_of_getElem? (i := 980) (by decide +kernel), List.mem_of_getElem? (i := 1244) (by decide +kernel), List.mem_of_getElem? (i := 1245) (by decide +kernel)⟩
theorem lw_p40 : lw_okq (⟨"TownForestModel", "areTowns", "(II)Z"⟩, 26) := ⟨⟨by decide +kernel, by decide +kernel⟩, List.mem_of_getElem? (i := 980) (by decide +kernel), List.mem_of_getElem? (i := 1256) (by decide +kernel), List.mem_of_getElem? (i := 1257) (by decide +kernel)⟩
theorem lw_p41 : lw_okq (⟨"TownForestModel", "cuts", "(II)V"⟩, 26) := ⟨⟨by decide +kernel, by decide +kernel⟩, List.mem_of_getElem? (i := 980) (by decide +kernel), List.mem_of_getElem? (i := 1267) (by decide +kernel), List.mem_of_getElem? (i := 1268) (by decide +kernel)⟩
theorem lw_p42 : lw_okq (⟨"TownForestModel", "walks", "(II)I"⟩, 26) := ⟨⟨by decide +kernel, by decide +kernel⟩, List.mem_of_getElem? (i := 980) (by decide +kernel), List.mem_of_getElem? (i := 1271) (by decide +kernel), List.mem_of_getElem? (i := 1272) (by decide +kernel)⟩
theorem lw_p43 : lw_okq (⟨"TownForestModel", "dearestTo", "(I)I"⟩, 26) := ⟨⟨by decide +kernel, by decide +kernel⟩, List.mem_of_getElem? (i := 980) (by decide +kernel), List.mem_of_getElem? (i := 1279) (by decide +kernel), List.mem_of_getElem? (i := 1280) (by decide +kernel)⟩
theorem lw_p44 : lw_okq (⟨"TownForestModel", "meetOf", "(II)I"⟩, 26) := ⟨⟨by decide +kernel, by decide +kernel⟩, List.mem_of_getElem? (i := 980) (by decide +kernel), List.mem_of_getElem? (i := 1291) (by decide +kernel), List.mem_of_getElem? (i := 1292) (by decide +kernel)⟩
theorem lw_p45 : lw_okq (⟨"TownForestModel", "cutsDearest", "(II)I"⟩, 26) := ⟨⟨by decide +kernel, by decide +kernel⟩, List.mem_of_getElem? (i := 980) (by decide +kernel), List.mem_of_getElem? (i := 1311) (by decide +kernel), List.mem_of_getElem? (i := 1312) (by decide +kernel)⟩
theorem lw_p46 : lw_okq (⟨"TownForestModel", "fails", "(I)I"⟩, 26) := ⟨⟨by decide +kernel, by decide +kernel⟩, List.mem_of_getElem? (i := 980) (by decide +kernel), List.mem_of_getElem? (i := 1331) (by decide +kernel), List.mem_of_getElem? (i := 1332) (by decide +kernel)⟩
theorem lw_p47 : lw_okq (⟨"TownForestModel", "depth", "(I)I"⟩, 26) := ⟨⟨by decide +kernel, by decide +kernel⟩, List.mem_of_getElem? (i := 980) (by decide +kernel), List.mem_of_getElem? (i := 1335) (by decide +kernel), List.mem_of_getElem? (i := 1336) (by decide +kernel)⟩
def lw_privs_3 : List (MethodName × Nat) := [(⟨"TownForestModel", "wordLine", "()Z"⟩, 26), (⟨"TownForestModel", "settles", "(I)I"⟩, 26), (⟨"TownForestModel", "areTogether", "(II)Z"⟩, 26), (⟨"TownForestModel", "heavyOf", "(I)I"⟩, 26), (⟨"TownForestModel", "size", "(I)I"⟩, 26), (⟨"TownForestModel", "isAbove", "(II)Z"⟩, 26), (⟨"TownForestModel", "isTown", "(I)Z"⟩, 26), (⟨"TownForestModel", "canUndo", "()V"⟩, 26), (⟨"TownForestModel", "areTowns", "(II)Z"⟩, 26), (⟨"TownForestModel", "cuts", "(II)V"⟩, 26), (⟨"TownForestModel", "walks", "(II)I"⟩, 26), (⟨"TownForestModel", "dearestTo", "(I)I"⟩, 26), (⟨"TownForestModel", "meetOf", "(II)I"⟩, 26), (⟨"TownForestModel", "cutsDearest", "(II)I"⟩, 26), (⟨"TownForestModel", "fails", "(I)I"⟩, 26), (⟨"TownForestModel", "depth", "(I)I"⟩, 26)]
theorem lw_r3 : ∀ q ∈ lw_privs_3, lw_okq q := List.forall_mem_cons.mpr ⟨lw_p32, List.forall_mem_cons.mpr ⟨lw_p33, List.forall_mem_cons.mpr ⟨lw_p34, List.forall_mem_cons.mpr ⟨lw_p35, List.forall_mem_cons.mpr ⟨lw_p36, List.forall_mem_cons.mpr ⟨lw_p37, List.forall_mem_cons.mpr ⟨lw_p38, List.forall_mem_cons.mpr ⟨lw_p39, List.forall_mem_cons.mpr ⟨lw_p40, List.forall_mem_cons.mpr ⟨lw_p41, List.forall_mem_cons.mpr ⟨lw_p42, List.forall_mem_cons.mpr ⟨lw_p43, List.forall_mem_cons.mpr ⟨lw_p44, List.forall_mem_cons.mpr ⟨lw_p45, List.forall_mem_cons.mpr ⟨lw_p46, List.forall_mem_cons.mpr ⟨lw_p47, fun _ h => absurd h List.not_mem_nil⟩⟩⟩⟩⟩⟩⟩⟩⟩⟩⟩⟩⟩⟩⟩⟩
theorem lw_p48 : lw_okq (⟨"TownForestModel", "under", "(I)I"⟩, 26) := ⟨⟨by decide +kernel, by decide +kernel⟩, List.mem_of_getElem? (i := 980) (by decide +kernel), List.mem_of_getElem? (i := 1339) (by decide +kernel), List.mem_of_getElem? (i := 1340) (by decide +kernel)⟩
theorem lw_p49 : lw_okq (⟨"TownForestModel", "children", "(I)I"⟩, 26) := ⟨⟨by decide +kernel, by decide +kernel⟩, List.mem_of_getElem? (i := 980) (by decide +kernel), List.mem_of_getElem? (i := 1343) (by decide +kernel), List.mem_of_getElem? (i := 1344) (by decide +kernel)⟩
theorem lw_p50 : lw_okq (⟨"TownForestModel", "isHead", "(I)Z"⟩, 26) := ⟨⟨by decide +kernel, by decide +kernel⟩, List.mem_of_getElem? (i := 980) (by decide +kernel), List.mem_of_getElem? (i := 1351) (by decide +kernel), List.mem_of_getElem? (i := 1352) (by decide +kernel)⟩
theorem lw_p51 : lw_okq (⟨"TownForestModel", "farOf", "(II)I"⟩, 26) := ⟨⟨by decide +kernel, by decide +kernel⟩, List.mem_of_getElem? (i := 980) (by decide +kernel), List.mem_of_getElem? (i := 1371) (by decide +kernel), List.mem_of_getElem? (i := 1372) (by decide +kernel)⟩
theorem lw_p52 : lw_okq (⟨"TownForestModel", "farUp", "(II)I"⟩, 26) := ⟨⟨by decide +kernel, by decide +kernel⟩, List.mem_of_getElem? (i := 980) (by decide +kernel), List.mem_of_getElem? (i := 1375) (by decide +kernel), List.mem_of_getElem? (i := 1376) (by decide +kernel)⟩
theorem lw_p53 : lw_okq (⟨"TownForestModel", "behind", "(I)I"⟩, 26) := ⟨⟨by decide +kernel, by decide +kernel⟩, List.mem_of_getElem? (i := 980) (by decide +kernel), List.mem_of_getElem? (i := 1391) (by decide +kernel), List.mem_of_getElem? (i := 1392) (by decide +kernel)⟩
theorem lw_p54 : lw_okq (⟨"TownForestModel", "childBehind", "(II)I"⟩, 26) := ⟨⟨by decide +kernel, by decide +kernel⟩, List.mem_of_getElem? (i := 980) (by decide +kernel), List.mem_of_getElem? (i := 1395) (by decide +kernel), List.mem_of_getElem? (i := 1396) (by decide +kernel)⟩
theorem lw_p55 : lw_okq (⟨"TownForestModel", "widestOf", "(I)I"⟩, 26) := ⟨⟨by decide +kernel, by decide +kernel⟩, List.mem_of_getElem? (i := 980) (by decide +kernel), List.mem_of_getElem? (i := 1407) (by decide +kernel), List.mem_of_getElem? (i := 1408) (by decide +kernel)⟩
theorem lw_p56 : lw_okq (⟨"TownForestModel", "farthest", "(I)I"⟩, 26) := ⟨⟨by decide +kernel, by decide +kernel⟩, List.mem_of_getElem? (i := 980) (by decide +kernel), List.mem_of_getElem? (i := 1411) (by decide +kernel), List.mem_of_getElem? (i := 1412) (by decide +kernel)⟩
theorem lw_p57 : lw_okq (⟨"TownForestModel", "potentialNow", "()I"⟩, 26) := ⟨⟨by decide +kernel, by decide +kernel⟩, List.mem_of_getElem? (i := 980) (by decide +kernel), List.mem_of_getElem? (i := 1427) (by decide +kernel), List.mem_of_getElem? (i := 1428) (by decide +kernel)⟩
theorem lw_p58 : lw_okq (⟨"TownForestModel", "greatestWithout", "(I)I"⟩, 26) := ⟨⟨by decide +kernel, by decide +kernel⟩, List.mem_of_getElem? (i := 980) (by decide +kernel), List.mem_of_getElem? (i := 1443) (by decide +kernel), List.mem_of_getElem? (i := 1444) (by decide +kernel)⟩
theorem lw_p59 : lw_okq (⟨"TownForestModel", "byChance", "()V"⟩, 26) := ⟨⟨by decide +kernel, by decide +kernel⟩, List.mem_of_getElem? (i := 980) (by decide +kernel), List.mem_of_getElem? (i := 1463) (by decide +kernel), List.mem_of_getElem? (i := 1464) (by decide +kernel)⟩
theorem lw_p60 : lw_okq (⟨"TownForestModel", "draw", "(I)I"⟩, 26) := ⟨⟨by decide +kernel, by decide +kernel⟩, List.mem_of_getElem? (i := 980) (by decide +kernel), List.mem_of_getElem? (i := 1467) (by decide +kernel), List.mem_of_getElem? (i := 1468) (by decide +kernel)⟩
theorem lw_p61 : lw_okq (⟨"TownForestModel", "dearestFrom", "(II)I"⟩, 26) := ⟨⟨by decide +kernel, by decide +kernel⟩, List.mem_of_getElem? (i := 980) (by decide +kernel), List.mem_of_getElem? (i := 1475) (by decide +kernel), List.mem_of_getElem? (i := 1476) (by decide +kernel)⟩
theorem lw_p62 : lw_okq (⟨"TownForestModel", "nearer", "(II)I"⟩, 26) := ⟨⟨by decide +kernel, by decide +kernel⟩, List.mem_of_getElem? (i := 980) (by decide +kernel), List.mem_of_getElem? (i := 1479) (by decide +kernel), List.mem_of_getElem? (i := 1480) (by decide +kernel)⟩
theorem lw_p63 : lw_okq (⟨"TownForestModel", "further", "(II)I"⟩, 26) := ⟨⟨by decide +kernel, by decide +kernel⟩, List.mem_of_getElem? (i := 980) (by decide +kernel), List.mem_of_getElem? (i := 1483) (by decide +kernel), List.mem_of_getElem? (i := 1484) (by decide +kernel)⟩
def lw_privs_4 : List (MethodName × Nat) := [(⟨"TownForestModel", "under", "(I)I"⟩, 26), (⟨"TownForestModel", "children", "(I)I"⟩, 26), (⟨"TownForestModel", "isHead", "(I)Z"⟩, 26), (⟨"TownForestModel", "farOf", "(II)I"⟩, 26), (⟨"TownForestModel", "farUp", "(II)I"⟩, 26), (⟨"TownForestModel", "behind", "(I)I"⟩, 26), (⟨"TownForestModel", "childBehind", "(II)I"⟩, 26), (⟨"TownForestModel", "widestOf", "(I)I"⟩, 26), (⟨"TownForestModel", "farthest", "(I)I"⟩, 26), (⟨"TownForestModel", "potentialNow", "()I"⟩, 26), (⟨"TownForestModel", "greatestWithout", "(I)I"⟩, 26), (⟨"TownForestModel", "byChance", "()V"⟩, 26), (⟨"TownForestModel", "draw", "(I)I"⟩, 26), (⟨"TownForestModel", "dearestFrom", "(II)I"⟩, 26), (⟨"TownForestModel", "nearer", "(II)I"⟩, 26), (⟨"TownForestModel", "further", "(II)I"⟩, 26)]
theorem lw_r4 : ∀ q ∈ lw_privs_4, lw_okq q := List.forall_mem_cons.mpr ⟨lw_p48, List.forall_mem_cons.mpr ⟨lw_p49, List.forall_mem_cons.mpr ⟨lw_p50, List.forall_mem_cons.mpr ⟨lw_p51, List.forall_mem_cons.mpr ⟨lw_p52, List.forall_mem_cons.mpr ⟨lw_p53, List.forall_mem_cons.mpr ⟨lw_p54, List.forall_mem_cons.mpr ⟨lw_p55, List.forall_mem_cons.mpr ⟨lw_p56, List.forall_mem_cons.mpr ⟨lw_p57, List.forall_mem_cons.mpr ⟨lw_p58, List.forall_mem_cons.mpr ⟨lw_p59, List.forall_mem_cons.mpr ⟨lw_p60, List.forall_mem_cons.mpr ⟨lw_p61, List.forall_mem_cons.mpr ⟨lw_p62, List.forall_mem_cons.mpr ⟨lw_p63, fun _ h => absurd h List.not_mem_nil⟩⟩⟩⟩⟩⟩⟩⟩⟩⟩⟩⟩⟩⟩⟩⟩
def lw_privs : List (MethodName × Nat) := lw_privs_1 ++ (lw_privs_2 ++ (lw_privs_3 ++ (lw_privs_4)))
def lw_tbl : List Cond := k2_sels lw_privs ++ tables_1
theorem lw_privs_ok : ∀ q ∈ lw_privs, lw_okq q := by
  show ∀ q ∈ lw_privs_1 ++ (lw_privs_2 ++ (lw_privs_3 ++ (lw_privs_4))), lw_okq q
  exact List.forall_mem_append.mpr ⟨lw_r1, List.forall_mem_append.mpr ⟨lw_r2, List.forall_mem_append.mpr ⟨lw_r3, lw_r4⟩⟩⟩
end
section
/-! ===== the classes: their fields (begun from the printed names) ===== -/
/-- the words that hold in every later state -/
def am_tb : List Cond := lw_tbl.filter goodWord
theorem am_tb_at {i : Nat} {w : Cond} (h : lw_tbl[i]? = some w) (hg : goodWord w = true) : w ∈ am_tb := List.mem_filter.mpr ⟨List.mem_of_getElem? h, hg⟩
theorem am_lay_good (C : String) (T : u_T) (k : Nat) : goodWord (u_lay C T k) = true := by
  unfold u_lay
  split <;> rfl
def RX0 : String := "TownForest$Forest"
def TX0 : u_T := fun k => match k with
  | 0 => ("TownForest$Forest", "parent", "[I", true)
  | 1 => ("TownForest$Forest", "preferred", "[I", true)
  | 2 => ("TownForest$Forest", "length", "[I", true)
  | 3 => ("TownForest$Forest", "cap", "[I", true)
  | 4 => ("TownForest$Forest", "value", "[I", true)
  | 5 => ("TownForest$Forest", "size", "[I", true)
  | 6 => ("TownForest$Forest", "towns", "I", false)
  | _ => ("TownForest$Forest", "switches", "I", false)
def tyX0 : Nat → FieldType := fun k => match k with
  | 0 => .array .int
  | 1 => .array .int
  | 2 => .array .int
  | 3 => .array .int
  | 4 => .array .int
  | 5 => .array .int
  | 6 => .int
  | _ => .int
theorem nmX0 : ∀ a, a < 8 → ∀ b, b < 8 → a ≠ b → (TX0 a).2.1 ≠ (TX0 b).2.1 := by decide +kernel
theorem tyX0_ok : ∀ k, k < 8 → parseFieldDescriptor (TX0 k).2.2.1 = some (tyX0 k) := by decide +kernel
theorem am_pl0 : (List.range 8).all (fun k => decide (lw_tbl[([123, 125, 127, 129, 131, 133, 135, 137] : List Nat).getD k 0]? = some (u_lay RX0 TX0 k))) = true := by decide +kernel
def RX1 : String := "TownForest$Gamble"
def TX1 : u_T := fun k => match k with
  | 0 => ("TownForest$Gamble", "trial", "LTownForest$Forest;", true)
  | 1 => ("TownForest$Gamble", "way", "LTownForest$Way;", true)
  | _ => ("TownForest$Gamble", "last", "I", false)
def tyX1 : Nat → FieldType := fun k => match k with
  | 0 => .object "TownForest$Forest"
  | 1 => .object "TownForest$Way"
  | _ => .int
theorem nmX1 : ∀ a, a < 3 → ∀ b, b < 3 → a ≠ b → (TX1 a).2.1 ≠ (TX1 b).2.1 := by decide +kernel
theorem tyX1_ok : ∀ k, k < 3 → parseFieldDescriptor (TX1 k).2.2.1 = some (tyX1 k) := by decide +kernel
theorem am_pl1 : (List.range 3).all (fun k => decide (lw_tbl[([329, 331, 333] : List Nat).getD k 0]? = some (u_lay RX1 TX1 k))) = true := by decide +kernel
def RX2 : String := "TownForest$History"
def TX2 : u_T := fun k => match k with
  | 0 => ("TownForest$History", "states", "[LTownForest$Forest;", true)
  | 1 => ("TownForest$History", "oldest", "I", false)
  | _ => ("TownForest$History", "steps", "I", false)
def tyX2 : Nat → FieldType := fun k => match k with
  | 0 => .array (.object "TownForest$Forest")
  | 1 => .int
  | _ => .int
theorem nmX2 : ∀ a, a < 3 → ∀ b, b < 3 → a ≠ b → (TX2 a).2.1 ≠ (TX2 b).2.1 := by decide +kernel
theorem tyX2_ok : ∀ k, k < 3 → parseFieldDescriptor (TX2 k).2.2.1 = some (tyX2 k) := by decide +kernel
theorem am_pl2 : (List.range 3).all (fun k => decide (lw_tbl[([243, 245, 247] : List Nat).getD k 0]? = some (u_lay RX2 TX2 k))) = true := by decide +kernel
def RX3 : String := "TownForest$Names"
def TX3 : u_T := fun k => match k with
  | 0 => ("TownForest$Names", "letters", "[I", true)
  | 1 => ("TownForest$Names", "towns", "I", false)
  | 2 => ("TownForest$Names", "seed", "I", false)
  | _ => ("TownForest$Names", "seedTold", "Z", false)
def tyX3 : Nat → FieldType := fun k => match k with
  | 0 => .array .int
  | 1 => .int
  | 2 => .int
  | _ => .boolean
theorem nmX3 : ∀ a, a < 4 → ∀ b, b < 4 → a ≠ b → (TX3 a).2.1 ≠ (TX3 b).2.1 := by decide +kernel
theorem tyX3_ok : ∀ k, k < 4 → parseFieldDescriptor (TX3 k).2.2.1 = some (tyX3 k) := by decide +kernel
theorem am_pl3 : (List.range 4).all (fun k => decide (lw_tbl[([155, 157, 159, 161] : List Nat).getD k 0]? = some (u_lay RX3 TX3 k))) = true := by decide +kernel
def RX4 : String := "TownForest$Reader"
def TX4 : u_T := fun k => match k with
  | 0 => ("TownForest$Reader", "bytes", "[I", false)
  | 1 => ("TownForest$Reader", "end", "I", false)
  | 2 => ("TownForest$Reader", "next", "I", false)
  | 3 => ("TownForest$Reader", "kind", "I", false)
  | 4 => ("TownForest$Reader", "start", "I", false)
  | 5 => ("TownForest$Reader", "letters", "I", false)
  | _ => ("TownForest$Reader", "number", "I", false)
def tyX4 : Nat → FieldType := fun k => match k with
  | 0 => .array .int
  | 1 => .int
  | 2 => .int
  | 3 => .int
  | 4 => .int
  | 5 => .int
  | _ => .int
theorem nmX4 : ∀ a, a < 7 → ∀ b, b < 7 → a ≠ b → (TX4 a).2.1 ≠ (TX4 b).2.1 := by decide +kernel
theorem tyX4_ok : ∀ k, k < 7 → parseFieldDescriptor (TX4 k).2.2.1 = some (tyX4 k) := by decide +kernel
theorem am_pl4 : (List.range 7).all (fun k => decide (lw_tbl[([187, 189, 191, 193, 195, 197, 199] : List Nat).getD k 0]? = some (u_lay RX4 TX4 k))) = true := by decide +kernel
def RX5 : String := "TownForest$Sight"
def TX5 : u_T := fun k => match k with
  | 0 => ("TownForest$Sight", "facts", "[I", true)
  | _ => ("TownForest$Sight", "some", "Z", false)
def tyX5 : Nat → FieldType := fun k => match k with
  | 0 => .array .int
  | _ => .boolean
theorem nmX5 : ∀ a, a < 2 → ∀ b, b < 2 → a ≠ b → (TX5 a).2.1 ≠ (TX5 b).2.1 := by decide +kernel
theorem tyX5_ok : ∀ k, k < 2 → parseFieldDescriptor (TX5 k).2.2.1 = some (tyX5 k) := by decide +kernel
theorem am_pl5 : (List.range 2).all (fun k => decide (lw_tbl[([260, 262] : List Nat).getD k 0]? = some (u_lay RX5 TX5 k))) = true := by decide +kernel
def RX6 : String := "TownForest$Survey"
def TX6 : u_T := fun k => match k with
  | 0 => ("TownForest$Survey", "row", "[I", true)
  | 1 => ("TownForest$Survey", "towns", "I", false)
  | 2 => ("TownForest$Survey", "open", "[I", true)
  | 3 => ("TownForest$Survey", "home", "[I", true)
  | 4 => ("TownForest$Survey", "between", "[[I", true)
  | 5 => ("TownForest$Survey", "reach", "[I", true)
  | _ => ("TownForest$Survey", "pair", "[I", true)
def tyX6 : Nat → FieldType := fun k => match k with
  | 0 => .array .int
  | 1 => .int
  | 2 => .array .int
  | 3 => .array .int
  | 4 => .array (.array .int)
  | 5 => .array .int
  | _ => .array .int
theorem nmX6 : ∀ a, a < 7 → ∀ b, b < 7 → a ≠ b → (TX6 a).2.1 ≠ (TX6 b).2.1 := by decide +kernel
theorem tyX6_ok : ∀ k, k < 7 → parseFieldDescriptor (TX6 k).2.2.1 = some (tyX6 k) := by decide +kernel
theorem am_pl6 : (List.range 7).all (fun k => decide (lw_tbl[([300, 302, 304, 306, 308, 310, 312] : List Nat).getD k 0]? = some (u_lay RX6 TX6 k))) = true := by decide +kernel
def RX7 : String := "TownForest$Teller"
def TX7 : u_T := fun k => match k with
  | 0 => ("TownForest$Teller", "reader", "LTownForest$Reader;", true)
  | 1 => ("TownForest$Teller", "forest", "LTownForest$Forest;", true)
  | 2 => ("TownForest$Teller", "names", "LTownForest$Names;", true)
  | 3 => ("TownForest$Teller", "lines", "I", false)
  | 4 => ("TownForest$Teller", "fault", "I", false)
  | _ => ("TownForest$Teller", "faultPlace", "I", false)
def tyX7 : Nat → FieldType := fun k => match k with
  | 0 => .object "TownForest$Reader"
  | 1 => .object "TownForest$Forest"
  | 2 => .object "TownForest$Names"
  | 3 => .int
  | 4 => .int
  | _ => .int
theorem nmX7 : ∀ a, a < 6 → ∀ b, b < 6 → a ≠ b → (TX7 a).2.1 ≠ (TX7 b).2.1 := by decide +kernel
theorem tyX7_ok : ∀ k, k < 6 → parseFieldDescriptor (TX7 k).2.2.1 = some (tyX7 k) := by decide +kernel
theorem am_pl7 : (List.range 6).all (fun k => decide (lw_tbl[([217, 219, 221, 223, 225, 227] : List Nat).getD k 0]? = some (u_lay RX7 TX7 k))) = true := by decide +kernel
def RX8 : String := "TownForest$Way"
def TX8 : u_T := fun k => match k with
  | 0 => ("TownForest$Way", "row", "[I", true)
  | _ => ("TownForest$Way", "towns", "I", false)
def tyX8 : Nat → FieldType := fun k => match k with
  | 0 => .array .int
  | _ => .int
theorem nmX8 : ∀ a, a < 2 → ∀ b, b < 2 → a ≠ b → (TX8 a).2.1 ≠ (TX8 b).2.1 := by decide +kernel
theorem tyX8_ok : ∀ k, k < 2 → parseFieldDescriptor (TX8 k).2.2.1 = some (tyX8 k) := by decide +kernel
theorem am_pl8 : (List.range 2).all (fun k => decide (lw_tbl[([277, 279] : List Nat).getD k 0]? = some (u_lay RX8 TX8 k))) = true := by decide +kernel
def RX9 : String := "TownForest"
def TX9 : u_T := fun k => match k with
  | 0 => ("TownForest", "tape", "[I", true)
  | 1 => ("TownForest", "tapeBytes", "I", false)
  | 2 => ("TownForest", "forest", "LTownForest$Forest;", true)
  | 3 => ("TownForest", "names", "LTownForest$Names;", true)
  | 4 => ("TownForest", "teller", "LTownForest$Teller;", true)
  | 5 => ("TownForest", "history", "LTownForest$History;", true)
  | 6 => ("TownForest", "image", "LTownForest$Forest;", true)
  | 7 => ("TownForest", "imageKept", "Z", false)
  | 8 => ("TownForest", "sight", "LTownForest$Sight;", true)
  | 9 => ("TownForest", "way", "LTownForest$Way;", true)
  | 10 => ("TownForest", "survey", "LTownForest$Survey;", true)
  | _ => ("TownForest", "gamble", "LTownForest$Gamble;", true)
def tyX9 : Nat → FieldType := fun k => match k with
  | 0 => .array .int
  | 1 => .int
  | 2 => .object "TownForest$Forest"
  | 3 => .object "TownForest$Names"
  | 4 => .object "TownForest$Teller"
  | 5 => .object "TownForest$History"
  | 6 => .object "TownForest$Forest"
  | 7 => .boolean
  | 8 => .object "TownForest$Sight"
  | 9 => .object "TownForest$Way"
  | 10 => .object "TownForest$Survey"
  | _ => .object "TownForest$Gamble"
theorem nmX9 : ∀ a, a < 12 → ∀ b, b < 12 → a ≠ b → (TX9 a).2.1 ≠ (TX9 b).2.1 := by decide +kernel
theorem tyX9_ok : ∀ k, k < 12 → parseFieldDescriptor (TX9 k).2.2.1 = some (tyX9 k) := by decide +kernel
theorem am_pl9 : (List.range 12).all (fun k => decide (lw_tbl[([348, 350, 352, 354, 356, 358, 360, 362, 364, 366, 368, 370] : List Nat).getD k 0]? = some (u_lay RX9 TX9 k))) = true := by decide +kernel
def RX10 : String := "TownForestModel"
def TX10 : u_T := fun k => match k with
  | 0 => ("TownForestModel", "tape", "[I", true)
  | 1 => ("TownForestModel", "tapeSize", "I", false)
  | 2 => ("TownForestModel", "thrown", "I", false)
  | 3 => ("TownForestModel", "words", "[I", true)
  | 4 => ("TownForestModel", "fault", "I", false)
  | 5 => ("TownForestModel", "faultPlace", "I", false)
  | 6 => ("TownForestModel", "stop", "I", false)
  | 7 => ("TownForestModel", "next", "I", false)
  | 8 => ("TownForestModel", "kind", "I", false)
  | 9 => ("TownForestModel", "which", "I", false)
  | 10 => ("TownForestModel", "at", "I", false)
  | 11 => ("TownForestModel", "all", "[I", true)
  | 12 => ("TownForestModel", "bank", "I", false)
  | 13 => ("TownForestModel", "undos", "I", false)
  | 14 => ("TownForestModel", "isImage", "Z", false)
  | 15 => ("TownForestModel", "towns", "I", false)
  | 16 => ("TownForestModel", "seedTold", "I", false)
  | 17 => ("TownForestModel", "names", "[I", true)
  | 18 => ("TownForestModel", "namesRead", "[I", true)
  | 19 => ("TownForestModel", "townsRead", "I", false)
  | 20 => ("TownForestModel", "seedRead", "I", false)
  | 21 => ("TownForestModel", "isSeed", "Z", false)
  | 22 => ("TownForestModel", "got", "I", false)
  | 23 => ("TownForestModel", "seen", "[I", true)
  | 24 => ("TownForestModel", "isSeen", "Z", false)
  | _ => ("TownForestModel", "drawn", "J", false)
def tyX10 : Nat → FieldType := fun k => match k with
  | 0 => .array .int
  | 1 => .int
  | 2 => .int
  | 3 => .array .int
  | 4 => .int
  | 5 => .int
  | 6 => .int
  | 7 => .int
  | 8 => .int
  | 9 => .int
  | 10 => .int
  | 11 => .array .int
  | 12 => .int
  | 13 => .int
  | 14 => .boolean
  | 15 => .int
  | 16 => .int
  | 17 => .array .int
  | 18 => .array .int
  | 19 => .int
  | 20 => .int
  | 21 => .boolean
  | 22 => .int
  | 23 => .array .int
  | 24 => .boolean
  | _ => .long
theorem nmX10 : ∀ a, a < 26 → ∀ b, b < 26 → a ≠ b → (TX10 a).2.1 ≠ (TX10 b).2.1 := by decide +kernel
theorem tyX10_ok : ∀ k, k < 26 → parseFieldDescriptor (TX10 k).2.2.1 = some (tyX10 k) := by decide +kernel
theorem am_pl10 : (List.range 26).all (fun k => decide (lw_tbl[([1091, 1093, 1095, 1097, 1099, 1101, 1103, 1105, 1107, 1109, 1111, 1113, 1115, 1117, 1119, 1121, 1123, 1125, 1127, 1129, 1131, 1133, 1135, 1137, 1139, 1141] : List Nat).getD k 0]? = some (u_lay RX10 TX10 k))) = true := by decide +kernel
theorem am_pl_of {N : Nat} {C : String} {T : u_T} {ps : List Nat} (h : (List.range N).all (fun k => decide (lw_tbl[ps.getD k 0]? = some (u_lay C T k))) = true) : ∀ w ∈ u_ws C T N, w ∈ am_tb := by
  intro w hw
  obtain ⟨k, hk, rfl⟩ := List.mem_map.mp hw
  exact am_tb_at (of_decide_eq_true (List.all_eq_true.mp h k hk)) (am_lay_good C T k)
abbrev am_cs : List vw_C := [(RX0, TX0, 8), (RX1, TX1, 3), (RX2, TX2, 3), (RX3, TX3, 4), (RX4, TX4, 7), (RX5, TX5, 2), (RX6, TX6, 7), (RX7, TX7, 6), (RX8, TX8, 2), (RX9, TX9, 12), (RX10, TX10, 26)]
def am_ty (ci : Nat) : Nat → FieldType := match ci with
  | 0 => tyX0
  | 1 => tyX1
  | 2 => tyX2
  | 3 => tyX3
  | 4 => tyX4
  | 5 => tyX5
  | 6 => tyX6
  | 7 => tyX7
  | 8 => tyX8
  | 9 => tyX9
  | _ => tyX10
theorem am_cls {ci : Nat} {C : String} {T : u_T} {N : Nat} (h : am_cs[ci]? = some (C, T, N)) : (∀ w ∈ u_ws C T N, w ∈ am_tb) ∧ (∀ k, k < N → parseFieldDescriptor (T k).2.2.1 = some (am_ty ci k)) ∧ (∀ a, a < N → ∀ b, b < N → a ≠ b → (T a).2.1 ≠ (T b).2.1) := by
  match ci, h with
  | 0, h => cases h; exact ⟨am_pl_of am_pl0, tyX0_ok, nmX0⟩
  | 1, h => cases h; exact ⟨am_pl_of am_pl1, tyX1_ok, nmX1⟩
  | 2, h => cases h; exact ⟨am_pl_of am_pl2, tyX2_ok, nmX2⟩
  | 3, h => cases h; exact ⟨am_pl_of am_pl3, tyX3_ok, nmX3⟩
  | 4, h => cases h; exact ⟨am_pl_of am_pl4, tyX4_ok, nmX4⟩
  | 5, h => cases h; exact ⟨am_pl_of am_pl5, tyX5_ok, nmX5⟩
  | 6, h => cases h; exact ⟨am_pl_of am_pl6, tyX6_ok, nmX6⟩
  | 7, h => cases h; exact ⟨am_pl_of am_pl7, tyX7_ok, nmX7⟩
  | 8, h => cases h; exact ⟨am_pl_of am_pl8, tyX8_ok, nmX8⟩
  | 9, h => cases h; exact ⟨am_pl_of am_pl9, tyX9_ok, nmX9⟩
  | 10, h => cases h; exact ⟨am_pl_of am_pl10, tyX10_ok, nmX10⟩
  | _ + 11, h => simp [am_cs] at h
end
section
/-! ===== an abstract machine: a method's run over one memory of ints; cells are named by a code c and a number i ===== -/
/-- a value: an int, a long, a cell -/
abbrev am_V : Type := Int32 ⊕ (Int64 ⊕ (Nat × Nat))
abbrev am_G : Type := Nat → Nat → Nat → Int32
abbrev am_L : Type := List (Option am_V)
abbrev am_R : Type := Option am_V × am_G
/-- an instruction: its byte, itself, its length, places, a constant, a switch -/
abbrev am_E : Type := Nat × Instr × Nat × List Nat × Int32 × List (Int32 × Nat)
abbrev am_T : Type := Nat → List am_V → am_G → Option am_R
def am_nth {α : Type} : List α → Nat → Option α
  | [], _ => none
  | a :: _, 0 => some a
  | _ :: l, n + 1 => am_nth l n
def am_set (g : am_G) (c i : Nat) (f : Nat → Int32) : am_G := fun c' i' => if c' = c ∧ i' = i then f else g c' i'
def am_put (g : am_G) (c i : Nat) (x : Int32) : am_G := am_set g c i (fun _ => x)
def am_sto (g : am_G) (c i k : Nat) (x : Int32) : am_G := am_set g c i (upd (g c i) k x)
def am_in (j : Int32) (n : Nat) : Bool := decide (0 ≤ j.toInt) && decide (j.toInt < n)
def am_01 (x : Int32) : Bool := decide (x = 0) || decide (x = 1)
/-- what a cell is: an object (its class, its fields), an int array (its length), an array of cells (its length, their code, the first one's number).
A field: (0, c) an int at c; (1, c) the cell of code c and the same number; (2, c, b) the cell (c, b); (3, c) a long; (4, c) the reader's bytes; (5, c) a boolean -/
abbrev am_Y : Type := (Nat × List (Nat × Nat × Nat)) ⊕ (Nat ⊕ (Nat × Nat × Nat))
section AM
variable {α : Type}
def am_i1 (st : List am_V) (k : Int32 → List am_V → Option α) : Option α := match st with
  | .inl x :: r => k x r
  | _ => none
def am_i2 (st : List am_V) (k : Int32 → Int32 → List am_V → Option α) : Option α := match st with
  | .inl y :: .inl x :: r => k x y r
  | _ => none
def am_l1 (st : List am_V) (k : Int64 → List am_V → Option α) : Option α := match st with
  | .inr (.inl x) :: r => k x r
  | _ => none
def am_l2 (st : List am_V) (k : Int64 → Int64 → List am_V → Option α) : Option α := match st with
  | .inr (.inl y) :: .inr (.inl x) :: r => k x y r
  | _ => none
def am_r1 (st : List am_V) (k : Nat → Nat → List am_V → Option α) : Option α := match st with
  | .inr (.inr (c, i)) :: r => k c i r
  | _ => none
def am_ldi (ls : am_L) (j : Nat) (k : Int32 → Option α) : Option α := match am_nth ls j with
  | some (some (.inl x)) => k x
  | _ => none
def am_ldr (ls : am_L) (j : Nat) (k : Nat → Nat → Option α) : Option α := match am_nth ls j with
  | some (some (.inr (.inr (c, i)))) => k c i
  | _ => none
def am_stl (ls : am_L) (j : Nat) (v : am_V) (k : am_L → Option α) : Option α := match am_nth ls j with
  | some _ => k (ls.set j (some v))
  | none => none
/-- behind a call that answers an int -/
def am_bi (o : Option am_R) (k : Int32 → am_G → Option α) : Option α := match o with
  | some (some (.inl x), g) => k x g
  | _ => none
def am_bv (o : Option am_R) (k : am_G → Option α) : Option α := match o with
  | some (none, g) => k g
  | _ => none
def am_sw (l : List (Int32 × Nat)) (d : Nat) (x : Int32) (k : Nat → Option α) : Option α := match l with
  | [] => k d
  | (v, t) :: r => if x = v then k t else am_sw r d x k
def am_obj (y : Option am_Y) (ci : Nat) (k : List (Nat × Nat × Nat) → Option α) : Option α := match y with
  | some (.inl (cj, fs)) => bif cj == ci then k fs else none
  | _ => none
def am_arr (y : Option am_Y) (k : Nat → Option α) : Option α := match y with
  | some (.inr (.inl n)) => k n
  | _ => none
def am_rar (y : Option am_Y) (k : Nat → Nat → Nat → Option α) : Option α := match y with
  | some (.inr (.inr (n, c, o))) => k n c o
  | _ => none
def am_gf (g : am_G) (i : Nat) (f : Option (Nat × Nat × Nat)) (k : am_V → Option α) : Option α := match f with
  | some (0, c, _) => k (.inl (g c i 0))
  | some (1, c, _) => k (.inr (.inr (c, i)))
  | some (2, c, b) => k (.inr (.inr (c, b)))
  | some (3, c, _) => k (.inr (.inl (g c i 0).toInt64))
  | some (4, c, _) => if g c i 0 = 0 then none else k (.inr (.inr (13, 0)))
  | some (5, c, _) => k (.inl (g c i 0))
  | _ => none
def am_pi (g : am_G) (i : Nat) (f : Option (Nat × Nat × Nat)) (v : am_V) (k : am_G → Option α) : Option α := match f, v with
  | some (0, c, _), .inl x => k (am_put g c i x)
  | some (3, c, _), .inr (.inl y) => if y.toInt32.toInt64 = y then k (am_put g c i y.toInt32) else none
  | some (4, c, _), .inr (.inr (13, 0)) => k (am_put g c i 1)
  | some (5, c, _), .inl x => bif am_01 x then k (am_put g c i x) else none
  | _, _ => none
/-- the answer of a call: 0 nothing, else an int -/
def am_bk (rt : Nat) (o : Option am_R) (rest : List am_V) (k : List am_V → am_G → Option α) : Option α := match rt with
  | 0 => am_bv o (fun g => k rest g)
  | _ => am_bi o (fun x g => k (.inl x :: rest) g)
def am_nl (v : am_V) : Bool := match v with
  | .inr (.inl _) => false
  | _ => true
/-- a call: aux = [method, how many values, kind of its answer, class of the object + 1 (0: static), ..] -/
def am_cl (lay : Nat → Option am_Y) (ct : am_T) (aux : List Nat) (st : List am_V) (g : am_G) (k : List am_V → am_G → Option α) : Option α := match aux with
  | mi :: n :: rt :: 0 :: _ => bif decide (n ≤ st.length) && (decide ((st.drop n).length ≤ 4) && (st.take n).all am_nl) then am_bk rt (ct mi (st.take n).reverse g) (st.drop n) k else none
  | mi :: (n + 1) :: rt :: (ci + 1) :: _ => bif decide ((st.drop n).length ≤ 5) && (st.take n).all am_nl then am_r1 (st.drop n) (fun c i r => am_obj (lay c) ci (fun _ => am_bk rt (ct mi (.inr (.inr (c, i)) :: (st.take n).reverse) g) r k)) else none
  | _ => none
/-- System.arraycopy over int arrays -/
def am_cp (lay : Nat → Option am_Y) (st : List am_V) (g : am_G) (k : List am_V → am_G → Option α) : Option α := match st with
  | .inl n :: .inl dp :: .inr (.inr (c1, i1)) :: .inl sp :: .inr (.inr (c0, i0)) :: r =>
    am_arr (lay c0) (fun n0 => am_arr (lay c1) (fun n1 => bif decide (¬ sp < 0) && decide (¬ dp < 0) && decide (¬ n < 0) && decide (sp.toNatClampNeg + n.toNatClampNeg ≤ n0) && decide (dp.toNatClampNeg + n.toNatClampNeg ≤ n1) && decide (r.length ≤ 4)
      then k r (am_set g c1 i1 (va_cpy (g c0 i0) (g c1 i1) sp.toNatClampNeg dp.toNatClampNeg n.toNatClampNeg)) else none))
  | _ => none
def am_step (lay : Nat → Option am_Y) (ct : am_T) (ins : Instr) (aux : List Nat) (cst : Int32) (sw : List (Int32 × Nat)) (pc : Nat) (ls : am_L) (st : List am_V) (g : am_G) (K : Nat → am_L → List am_V → am_G → Option α) (ret : Option am_V → am_G → Option α) : Option α := match ins with
  | .iconst _ => K (pc + 1) ls (.inl cst :: st) g
  | .bipush _ => K (pc + 1) ls (.inl cst :: st) g
  | .sipush _ => K (pc + 1) ls (.inl cst :: st) g
  | .ldc _ => match aux with
    | _ :: _ => K (pc + 1) ls (.inl cst :: st) g
    | [] => none
  | .ldc2_w _ => K (pc + 1) ls (.inr (.inl cst.toInt64) :: st) g
  | .iload_n j => am_ldi ls j (fun x => K (pc + 1) ls (.inl x :: st) g)
  | .iload j => am_ldi ls j (fun x => K (pc + 1) ls (.inl x :: st) g)
  | .aload_n j => am_ldr ls j (fun c i => K (pc + 1) ls (.inr (.inr (c, i)) :: st) g)
  | .aload j => am_ldr ls j (fun c i => K (pc + 1) ls (.inr (.inr (c, i)) :: st) g)
  | .istore_n j => am_i1 st (fun x r => am_stl ls j (.inl x) (fun ls => K (pc + 1) ls r g))
  | .istore j => am_i1 st (fun x r => am_stl ls j (.inl x) (fun ls => K (pc + 1) ls r g))
  | .iinc j _ => am_ldi ls j (fun x => am_stl ls j (.inl (x + cst)) (fun ls => K (pc + 1) ls st g))
  | .iadd => am_i2 st (fun x y r => K (pc + 1) ls (.inl (x + y) :: r) g)
  | .isub => am_i2 st (fun x y r => K (pc + 1) ls (.inl (x - y) :: r) g)
  | .imul => am_i2 st (fun x y r => K (pc + 1) ls (.inl (x * y) :: r) g)
  | .irem => am_i2 st (fun x y r => if y = 0 then none else K (pc + 1) ls (.inl (x - x / y * y) :: r) g)
  | .ineg => am_i1 st (fun x r => K (pc + 1) ls (.inl (-x) :: r) g)
  | .ishl => am_i2 st (fun x y r => K (pc + 1) ls (.inl (x <<< (y &&& 31)) :: r) g)
  | .ishr => am_i2 st (fun x y r => K (pc + 1) ls (.inl (x >>> (y &&& 31)) :: r) g)
  | .iand => am_i2 st (fun x y r => K (pc + 1) ls (.inl (x &&& y) :: r) g)
  | .ior => am_i2 st (fun x y r => K (pc + 1) ls (.inl (x ||| y) :: r) g)
  | .i2l => am_i1 st (fun x r => K (pc + 1) ls (.inr (.inl x.toInt64) :: r) g)
  | .l2i => am_l1 st (fun x r => K (pc + 1) ls (.inl x.toInt32 :: r) g)
  | .lmul => am_l2 st (fun x y r => K (pc + 1) ls (.inr (.inl (x * y)) :: r) g)
  | .ladd => am_l2 st (fun x y r => K (pc + 1) ls (.inr (.inl (x + y)) :: r) g)
  | .land => am_l2 st (fun x y r => K (pc + 1) ls (.inr (.inl (x &&& y)) :: r) g)
  | .ldiv => am_l2 st (fun x y r => if y = 0 then none else K (pc + 1) ls (.inr (.inl (x / y)) :: r) g)
  | .lrem => am_l2 st (fun x y r => if y = 0 then none else K (pc + 1) ls (.inr (.inl (x - x / y * y)) :: r) g)
  | .dup => match st with
    | .inl x :: r => K (pc + 1) ls (.inl x :: .inl x :: r) g
    | .inr (.inr x) :: r => K (pc + 1) ls (.inr (.inr x) :: .inr (.inr x) :: r) g
    | _ => none
  | .dup2 => match st with
    | .inl y :: .inr (.inr x) :: r => K (pc + 1) ls (.inl y :: .inr (.inr x) :: .inl y :: .inr (.inr x) :: r) g
    | _ => none
  | .pop => am_i1 st (fun _ r => K (pc + 1) ls r g)
  | .goto _ => match aux with
    | t :: _ => K t ls st g
    | _ => none
  | .ifCond q _ => match aux with
    | t :: _ => am_i1 st (fun x r => match q with
      | .eq => if x = 0 then K t ls r g else K (pc + 1) ls r g
      | .ne => if x = 0 then K (pc + 1) ls r g else K t ls r g
      | .lt => if x < 0 then K t ls r g else K (pc + 1) ls r g
      | .ge => if 0 ≤ x then K t ls r g else K (pc + 1) ls r g
      | .gt => if 0 < x then K t ls r g else K (pc + 1) ls r g
      | .le => if x ≤ 0 then K t ls r g else K (pc + 1) ls r g)
    | _ => none
  | .if_icmp q _ => match aux with
    | t :: _ => am_i2 st (fun x y r => match q with
      | .eq => if x = y then K t ls r g else K (pc + 1) ls r g
      | .ne => if x = y then K (pc + 1) ls r g else K t ls r g
      | .lt => if x < y then K t ls r g else K (pc + 1) ls r g
      | .ge => if y ≤ x then K t ls r g else K (pc + 1) ls r g
      | .gt => if y < x then K t ls r g else K (pc + 1) ls r g
      | .le => if x ≤ y then K t ls r g else K (pc + 1) ls r g)
    | _ => none
  | .tableswitch _ _ _ _ => match aux with
    | t :: _ => am_i1 st (fun x r => am_sw sw t x (fun t => K t ls r g))
    | _ => none
  | .lookupswitch _ _ => match aux with
    | t :: _ => am_i1 st (fun x r => am_sw sw t x (fun t => K t ls r g))
    | _ => none
  | .getfield _ => match aux with
    | ci :: f :: _ => am_r1 st (fun c i r => am_obj (lay c) ci (fun fs => am_gf g i (am_nth fs f) (fun v => K (pc + 1) ls (v :: r) g)))
    | _ => none
  | .putfield _ => match aux with
    | ci :: f :: _ => (match st with
      | v :: r => am_r1 r (fun c i r => am_obj (lay c) ci (fun fs => am_pi g i (am_nth fs f) v (fun g => K (pc + 1) ls r g)))
      | _ => none)
    | _ => none
  | .iaload => am_i1 st (fun j r => am_r1 r (fun c i r => am_arr (lay c) (fun n => bif am_in j n then K (pc + 1) ls (.inl (g c i j.toNatClampNeg) :: r) g else none)))
  | .iastore => am_i2 st (fun j x r => am_r1 r (fun c i r => am_arr (lay c) (fun n => bif am_in j n then K (pc + 1) ls r (am_sto g c i j.toNatClampNeg x) else none)))
  | .aaload => am_i1 st (fun j r => am_r1 r (fun c _ r => am_rar (lay c) (fun n c' o => bif am_in j n then K (pc + 1) ls (.inr (.inr (c', o + j.toNatClampNeg)) :: r) g else none)))
  | .arraylength => am_r1 st (fun c _ r => am_arr (lay c) (fun n => K (pc + 1) ls (.inl (nI n) :: r) g))
  | .invokevirtual _ => am_cl lay ct aux st g (fun st g => K (pc + 1) ls st g)
  | .invokestatic _ => match aux with
    | [_] => am_cp lay st g (fun st g => K (pc + 1) ls st g)
    | [_, 0] => am_i2 st (fun x y r => bif decide (r.length ≤ 8) then K (pc + 1) ls (.inl (if x < y then y else x) :: r) g else none)
    | [_, 1] => am_i2 st (fun x y r => bif decide (r.length ≤ 8) then K (pc + 1) ls (.inl (if y < x then y else x) :: r) g else none)
    | _ => am_cl lay ct aux st g (fun st g => K (pc + 1) ls st g)
  | .ireturn => match st, aux with
    | [.inl x], [_] => bif am_01 x then ret (some (.inl x)) g else none
    | [.inl x], [] => ret (some (.inl x)) g
    | _, _ => none
  | .return_ => match st with
    | [] => ret none g
    | _ => none
  | _ => none
def am_exec (lay : Nat → Option am_Y) (ct : am_T) (code : List am_E) (cut : List Nat) (stop : Nat → am_L → List am_V → am_G → Option α) (ret : Option am_V → am_G → Option α) : Nat → Nat → am_L → List am_V → am_G → Option α
  | 0, _, _, _, _ => none
  | k + 1, pc, ls, st, g => match am_nth code pc with
    | none => none
    | some (_, ins, _, aux, cst, sw) => am_step lay ct ins aux cst sw pc ls st g (fun pc' ls' st' g' => bif cut.elem pc' then stop pc' ls' st' g' else am_exec lay ct code cut stop ret k pc' ls' st' g') ret
end AM
end
section
/-! ===== the programs, out of the class files: by wip/whole/write.py ===== -/
def am_lays : List am_Y := [
  .inl (9, [(2, 13, 0), (0, 100, 0), (2, 1, 0), (2, 8, 0), (2, 10, 0), (2, 14, 0), (2, 1, 2), (5, 101, 0), (2, 18, 0), (2, 16, 0), (2, 20, 0), (2, 28, 0)]),
  .inl (0, [(1, 2, 0), (1, 3, 0), (1, 4, 0), (1, 5, 0), (1, 6, 0), (1, 7, 0), (0, 102, 0), (0, 103, 0)]),
  .inr (.inl 24),
  .inr (.inl 24),
  .inr (.inl 24),
  .inr (.inl 24),
  .inr (.inl 24),
  .inr (.inl 24),
  .inl (3, [(1, 9, 0), (0, 104, 0), (0, 105, 0), (5, 106, 0)]),
  .inr (.inl 24),
  .inl (7, [(2, 11, 0), (2, 1, 1), (2, 8, 1), (0, 107, 0), (0, 108, 0), (0, 109, 0)]),
  .inl (4, [(4, 110, 0), (0, 111, 0), (0, 112, 0), (0, 113, 0), (0, 114, 0), (0, 115, 0), (0, 116, 0)]),
  .inr (.inl 0),
  .inr (.inl 700),
  .inl (2, [(2, 15, 0), (0, 117, 0), (0, 118, 0)]),
  .inr (.inr (20, 1, 4)),
  .inl (8, [(1, 17, 0), (0, 119, 0)]),
  .inr (.inl 24),
  .inl (5, [(2, 19, 0), (5, 120, 0)]),
  .inr (.inl 9),
  .inl (6, [(2, 21, 0), (0, 121, 0), (2, 22, 0), (2, 23, 0), (2, 24, 0), (2, 26, 0), (2, 27, 0)]),
  .inr (.inl 24),
  .inr (.inl 24),
  .inr (.inl 24),
  .inr (.inr (24, 25, 0)),
  .inr (.inl 24),
  .inr (.inl 24),
  .inr (.inl 3),
  .inl (1, [(2, 1, 3), (2, 16, 1), (0, 122, 0)]),
  .inl (10, [(2, 30, 0), (0, 130, 0), (0, 131, 0), (2, 31, 0), (0, 132, 0), (0, 133, 0), (0, 134, 0), (0, 135, 0), (0, 136, 0), (0, 137, 0), (0, 138, 0), (2, 32, 0), (0, 139, 0), (0, 140, 0), (5, 141, 0), (0, 142, 0), (0, 143, 0), (2, 33, 0), (2, 34, 0), (0, 144, 0), (0, 145, 0), (5, 146, 0), (0, 147, 0), (2, 35, 0), (5, 148, 0), (3, 149, 0)]),
  .inr (.inl 700),
  .inr (.inl 33),
  .inr (.inl 2904),
  .inr (.inl 24),
  .inr (.inl 24),
  .inr (.inl 9)]
def am_lay (c : Nat) : Option am_Y := am_nth am_lays c
def kF_clear : List am_E := [(0, .aload_n 0, 1, [], 0, []),
  (1, .iconst 0, 1, [], 0, []),
  (2, .putfield 30, 3, [0, 6, 116], 0, []),
  (5, .aload_n 0, 1, [], 0, []),
  (6, .iconst 0, 1, [], 0, []),
  (7, .putfield 34, 3, [0, 7, 120], 0, []),
  (10, .return_, 1, [], 0, [])]
def kF_copyFrom : List am_E := [(0, .aload_n 1, 1, [], 0, []),
  (1, .getfield 9, 3, [0, 0, 97], 0, []),
  (4, .iconst 0, 1, [], 0, []),
  (5, .aload_n 0, 1, [], 0, []),
  (6, .getfield 9, 3, [0, 0, 97], 0, []),
  (9, .iconst 0, 1, [], 0, []),
  (10, .bipush 24, 2, [], 24, []),
  (12, .invokestatic 37, 3, [543], 0, []),
  (15, .aload_n 1, 1, [], 0, []),
  (16, .getfield 15, 3, [0, 1, 101], 0, []),
  (19, .iconst 0, 1, [], 0, []),
  (20, .aload_n 0, 1, [], 0, []),
  (21, .getfield 15, 3, [0, 1, 101], 0, []),
  (24, .iconst 0, 1, [], 0, []),
  (25, .bipush 24, 2, [], 24, []),
  (27, .invokestatic 37, 3, [543], 0, []),
  (30, .aload_n 1, 1, [], 0, []),
  (31, .getfield 18, 3, [0, 2, 104], 0, []),
  (34, .iconst 0, 1, [], 0, []),
  (35, .aload_n 0, 1, [], 0, []),
  (36, .getfield 18, 3, [0, 2, 104], 0, []),
  (39, .iconst 0, 1, [], 0, []),
  (40, .bipush 24, 2, [], 24, []),
  (42, .invokestatic 37, 3, [543], 0, []),
  (45, .aload_n 1, 1, [], 0, []),
  (46, .getfield 21, 3, [0, 3, 109], 0, []),
  (49, .iconst 0, 1, [], 0, []),
  (50, .aload_n 0, 1, [], 0, []),
  (51, .getfield 21, 3, [0, 3, 109], 0, []),
  (54, .iconst 0, 1, [], 0, []),
  (55, .bipush 24, 2, [], 24, []),
  (57, .invokestatic 37, 3, [543], 0, []),
  (60, .aload_n 1, 1, [], 0, []),
  (61, .getfield 24, 3, [0, 4, 112], 0, []),
  (64, .iconst 0, 1, [], 0, []),
  (65, .aload_n 0, 1, [], 0, []),
  (66, .getfield 24, 3, [0, 4, 112], 0, []),
  (69, .iconst 0, 1, [], 0, []),
  (70, .bipush 24, 2, [], 24, []),
  (72, .invokestatic 37, 3, [543], 0, []),
  (75, .aload_n 0, 1, [], 0, []),
  (76, .aload_n 1, 1, [], 0, []),
  (77, .getfield 30, 3, [0, 6, 116], 0, []),
  (80, .putfield 30, 3, [0, 6, 116], 0, []),
  (83, .aload_n 0, 1, [], 0, []),
  (84, .aload_n 1, 1, [], 0, []),
  (85, .getfield 34, 3, [0, 7, 120], 0, []),
  (88, .putfield 34, 3, [0, 7, 120], 0, []),
  (91, .return_, 1, [], 0, [])]
def kF_addTown : List am_E := [(0, .aload_n 0, 1, [], 0, []),
  (1, .getfield 30, 3, [0, 6, 116], 0, []),
  (4, .bipush 24, 2, [], 24, []),
  (6, .if_icmp .ge 63, 3, [40], 0, []),
  (9, .aload_n 0, 1, [], 0, []),
  (10, .getfield 9, 3, [0, 0, 97], 0, []),
  (13, .aload_n 0, 1, [], 0, []),
  (14, .getfield 30, 3, [0, 6, 116], 0, []),
  (17, .iconst (-1), 1, [], (-1), []),
  (18, .iastore, 1, [], 0, []),
  (19, .aload_n 0, 1, [], 0, []),
  (20, .getfield 15, 3, [0, 1, 101], 0, []),
  (23, .aload_n 0, 1, [], 0, []),
  (24, .getfield 30, 3, [0, 6, 116], 0, []),
  (27, .iconst (-1), 1, [], (-1), []),
  (28, .iastore, 1, [], 0, []),
  (29, .aload_n 0, 1, [], 0, []),
  (30, .getfield 18, 3, [0, 2, 104], 0, []),
  (33, .aload_n 0, 1, [], 0, []),
  (34, .getfield 30, 3, [0, 6, 116], 0, []),
  (37, .iconst 0, 1, [], 0, []),
  (38, .iastore, 1, [], 0, []),
  (39, .aload_n 0, 1, [], 0, []),
  (40, .getfield 21, 3, [0, 3, 109], 0, []),
  (43, .aload_n 0, 1, [], 0, []),
  (44, .getfield 30, 3, [0, 6, 116], 0, []),
  (47, .iconst 0, 1, [], 0, []),
  (48, .iastore, 1, [], 0, []),
  (49, .aload_n 0, 1, [], 0, []),
  (50, .getfield 24, 3, [0, 4, 112], 0, []),
  (53, .aload_n 0, 1, [], 0, []),
  (54, .getfield 30, 3, [0, 6, 116], 0, []),
  (57, .iload_n 1, 1, [], 0, []),
  (58, .iastore, 1, [], 0, []),
  (59, .aload_n 0, 1, [], 0, []),
  (60, .dup, 1, [], 0, []),
  (61, .getfield 30, 3, [0, 6, 116], 0, []),
  (64, .iconst 1, 1, [], 1, []),
  (65, .iadd, 1, [], 0, []),
  (66, .putfield 30, 3, [0, 6, 116], 0, []),
  (69, .return_, 1, [], 0, [])]
def kF_has : List am_E := [(0, .iload_n 1, 1, [], 0, []),
  (1, .ifCond .lt 15, 3, [8], 0, []),
  (4, .iload_n 1, 1, [], 0, []),
  (5, .aload_n 0, 1, [], 0, []),
  (6, .getfield 30, 3, [0, 6, 116], 0, []),
  (9, .if_icmp .ge 7, 3, [8], 0, []),
  (12, .iconst 1, 1, [], 1, []),
  (13, .goto 4, 3, [9], 0, []),
  (16, .iconst 0, 1, [], 0, []),
  (17, .ireturn, 1, [1], 0, [])]
def kF_hasBoth : List am_E := [(0, .aload_n 0, 1, [], 0, []),
  (1, .iload_n 1, 1, [], 0, []),
  (2, .invokevirtual 43, 3, [3, 2, 1, 1, 477], 0, []),
  (5, .ifCond .eq 15, 3, [10], 0, []),
  (8, .aload_n 0, 1, [], 0, []),
  (9, .iload_n 2, 1, [], 0, []),
  (10, .invokevirtual 43, 3, [3, 2, 1, 1, 477], 0, []),
  (13, .ifCond .eq 7, 3, [10], 0, []),
  (16, .iconst 1, 1, [], 1, []),
  (17, .goto 4, 3, [11], 0, []),
  (20, .iconst 0, 1, [], 0, []),
  (21, .ireturn, 1, [1], 0, [])]
def kF_touchAt : List am_E := [(0, .aload_n 0, 1, [], 0, []),
  (1, .getfield 15, 3, [0, 1, 101], 0, []),
  (4, .iload_n 1, 1, [], 0, []),
  (5, .iconst (-1), 1, [], (-1), []),
  (6, .iastore, 1, [], 0, []),
  (7, .iload_n 1, 1, [], 0, []),
  (8, .istore_n 2, 1, [], 0, []),
  (9, .aload_n 0, 1, [], 0, []),
  (10, .getfield 9, 3, [0, 0, 97], 0, []),
  (13, .iload_n 1, 1, [], 0, []),
  (14, .iaload, 1, [], 0, []),
  (15, .istore_n 3, 1, [], 0, []),
  (16, .iconst 0, 1, [], 0, []),
  (17, .istore 4, 2, [], 0, []),
  (19, .iload 4, 2, [], 0, []),
  (21, .bipush 24, 2, [], 24, []),
  (23, .if_icmp .ge 50, 3, [46], 0, []),
  (26, .iload_n 3, 1, [], 0, []),
  (27, .iconst (-1), 1, [], (-1), []),
  (28, .if_icmp .eq 45, 3, [46], 0, []),
  (31, .aload_n 0, 1, [], 0, []),
  (32, .getfield 15, 3, [0, 1, 101], 0, []),
  (35, .iload_n 3, 1, [], 0, []),
  (36, .iaload, 1, [], 0, []),
  (37, .iload_n 2, 1, [], 0, []),
  (38, .if_icmp .eq 20, 3, [37], 0, []),
  (41, .aload_n 0, 1, [], 0, []),
  (42, .getfield 15, 3, [0, 1, 101], 0, []),
  (45, .iload_n 3, 1, [], 0, []),
  (46, .iload_n 2, 1, [], 0, []),
  (47, .iastore, 1, [], 0, []),
  (48, .aload_n 0, 1, [], 0, []),
  (49, .dup, 1, [], 0, []),
  (50, .getfield 34, 3, [0, 7, 120], 0, []),
  (53, .iconst 1, 1, [], 1, []),
  (54, .iadd, 1, [], 0, []),
  (55, .putfield 34, 3, [0, 7, 120], 0, []),
  (58, .iload_n 3, 1, [], 0, []),
  (59, .istore_n 2, 1, [], 0, []),
  (60, .aload_n 0, 1, [], 0, []),
  (61, .getfield 9, 3, [0, 0, 97], 0, []),
  (64, .iload_n 3, 1, [], 0, []),
  (65, .iaload, 1, [], 0, []),
  (66, .istore_n 3, 1, [], 0, []),
  (67, .iinc 4 1, 3, [], 1, []),
  (70, .goto (-51), 3, [14], 0, []),
  (73, .return_, 1, [], 0, [])]
def kF_rerootAt : List am_E := [(0, .aload_n 0, 1, [], 0, []),
  (1, .iload_n 1, 1, [], 0, []),
  (2, .invokevirtual 47, 3, [5, 2, 0, 1, 505], 0, []),
  (5, .iconst (-1), 1, [], (-1), []),
  (6, .istore_n 2, 1, [], 0, []),
  (7, .iload_n 1, 1, [], 0, []),
  (8, .istore_n 3, 1, [], 0, []),
  (9, .iconst 0, 1, [], 0, []),
  (10, .istore 4, 2, [], 0, []),
  (12, .iconst 0, 1, [], 0, []),
  (13, .istore 5, 2, [], 0, []),
  (15, .iconst 0, 1, [], 0, []),
  (16, .istore 6, 2, [], 0, []),
  (18, .iload 6, 2, [], 0, []),
  (20, .bipush 24, 2, [], 24, []),
  (22, .if_icmp .ge 82, 3, [64], 0, []),
  (25, .iload_n 3, 1, [], 0, []),
  (26, .iconst (-1), 1, [], (-1), []),
  (27, .if_icmp .eq 77, 3, [64], 0, []),
  (30, .aload_n 0, 1, [], 0, []),
  (31, .getfield 9, 3, [0, 0, 97], 0, []),
  (34, .iload_n 3, 1, [], 0, []),
  (35, .iaload, 1, [], 0, []),
  (36, .istore 7, 2, [], 0, []),
  (38, .aload_n 0, 1, [], 0, []),
  (39, .getfield 18, 3, [0, 2, 104], 0, []),
  (42, .iload_n 3, 1, [], 0, []),
  (43, .iaload, 1, [], 0, []),
  (44, .istore 8, 2, [], 0, []),
  (46, .aload_n 0, 1, [], 0, []),
  (47, .getfield 21, 3, [0, 3, 109], 0, []),
  (50, .iload_n 3, 1, [], 0, []),
  (51, .iaload, 1, [], 0, []),
  (52, .istore 9, 2, [], 0, []),
  (54, .aload_n 0, 1, [], 0, []),
  (55, .getfield 9, 3, [0, 0, 97], 0, []),
  (58, .iload_n 3, 1, [], 0, []),
  (59, .iload_n 2, 1, [], 0, []),
  (60, .iastore, 1, [], 0, []),
  (61, .aload_n 0, 1, [], 0, []),
  (62, .getfield 18, 3, [0, 2, 104], 0, []),
  (65, .iload_n 3, 1, [], 0, []),
  (66, .iload 4, 2, [], 0, []),
  (68, .iastore, 1, [], 0, []),
  (69, .aload_n 0, 1, [], 0, []),
  (70, .getfield 21, 3, [0, 3, 109], 0, []),
  (73, .iload_n 3, 1, [], 0, []),
  (74, .iload 5, 2, [], 0, []),
  (76, .iastore, 1, [], 0, []),
  (77, .aload_n 0, 1, [], 0, []),
  (78, .getfield 15, 3, [0, 1, 101], 0, []),
  (81, .iload_n 3, 1, [], 0, []),
  (82, .iload 7, 2, [], 0, []),
  (84, .iastore, 1, [], 0, []),
  (85, .iload_n 3, 1, [], 0, []),
  (86, .istore_n 2, 1, [], 0, []),
  (87, .iload 7, 2, [], 0, []),
  (89, .istore_n 3, 1, [], 0, []),
  (90, .iload 8, 2, [], 0, []),
  (92, .istore 4, 2, [], 0, []),
  (94, .iload 9, 2, [], 0, []),
  (96, .istore 5, 2, [], 0, []),
  (98, .iinc 6 1, 3, [], 1, []),
  (101, .goto (-83), 3, [13], 0, []),
  (104, .return_, 1, [], 0, [])]
def kF_walkFrom : List am_E := [(0, .aload_n 0, 1, [], 0, []),
  (1, .iload_n 1, 1, [], 0, []),
  (2, .invokevirtual 51, 3, [6, 2, 0, 1, 501], 0, []),
  (5, .aload_n 0, 1, [], 0, []),
  (6, .iload_n 2, 1, [], 0, []),
  (7, .invokevirtual 47, 3, [5, 2, 0, 1, 505], 0, []),
  (10, .return_, 1, [], 0, [])]
def kF_linkUnder : List am_E := [(0, .aload_n 0, 1, [], 0, []),
  (1, .iload_n 1, 1, [], 0, []),
  (2, .iload_n 2, 1, [], 0, []),
  (3, .invokevirtual 54, 3, [7, 3, 0, 1, 497], 0, []),
  (6, .aload_n 0, 1, [], 0, []),
  (7, .getfield 9, 3, [0, 0, 97], 0, []),
  (10, .iload_n 1, 1, [], 0, []),
  (11, .iload_n 2, 1, [], 0, []),
  (12, .iastore, 1, [], 0, []),
  (13, .aload_n 0, 1, [], 0, []),
  (14, .getfield 18, 3, [0, 2, 104], 0, []),
  (17, .iload_n 1, 1, [], 0, []),
  (18, .iload_n 3, 1, [], 0, []),
  (19, .iastore, 1, [], 0, []),
  (20, .aload_n 0, 1, [], 0, []),
  (21, .getfield 21, 3, [0, 3, 109], 0, []),
  (24, .iload_n 1, 1, [], 0, []),
  (25, .iload 4, 2, [], 0, []),
  (27, .iastore, 1, [], 0, []),
  (28, .return_, 1, [], 0, [])]
def kF_cutBetween : List am_E := [(0, .aload_n 0, 1, [], 0, []),
  (1, .iload_n 1, 1, [], 0, []),
  (2, .iload_n 2, 1, [], 0, []),
  (3, .invokevirtual 54, 3, [7, 3, 0, 1, 497], 0, []),
  (6, .aload_n 0, 1, [], 0, []),
  (7, .getfield 9, 3, [0, 0, 97], 0, []),
  (10, .iload_n 2, 1, [], 0, []),
  (11, .iconst (-1), 1, [], (-1), []),
  (12, .iastore, 1, [], 0, []),
  (13, .aload_n 0, 1, [], 0, []),
  (14, .getfield 18, 3, [0, 2, 104], 0, []),
  (17, .iload_n 2, 1, [], 0, []),
  (18, .iconst 0, 1, [], 0, []),
  (19, .iastore, 1, [], 0, []),
  (20, .aload_n 0, 1, [], 0, []),
  (21, .getfield 21, 3, [0, 3, 109], 0, []),
  (24, .iload_n 2, 1, [], 0, []),
  (25, .iconst 0, 1, [], 0, []),
  (26, .iastore, 1, [], 0, []),
  (27, .aload_n 0, 1, [], 0, []),
  (28, .getfield 15, 3, [0, 1, 101], 0, []),
  (31, .iload_n 1, 1, [], 0, []),
  (32, .iconst (-1), 1, [], (-1), []),
  (33, .iastore, 1, [], 0, []),
  (34, .return_, 1, [], 0, [])]
def kF_settleTreeOf : List am_E := [(0, .aload_n 0, 1, [], 0, []),
  (1, .iload_n 1, 1, [], 0, []),
  (2, .invokevirtual 58, 3, [11, 2, 1, 1, 485], 0, []),
  (5, .istore_n 2, 1, [], 0, []),
  (6, .iconst 0, 1, [], 0, []),
  (7, .istore_n 3, 1, [], 0, []),
  (8, .aload_n 0, 1, [], 0, []),
  (9, .invokevirtual 62, 3, [22, 1, 0, 1, 522], 0, []),
  (12, .iconst 0, 1, [], 0, []),
  (13, .istore 4, 2, [], 0, []),
  (15, .iload 4, 2, [], 0, []),
  (17, .aload_n 0, 1, [], 0, []),
  (18, .getfield 30, 3, [0, 6, 116], 0, []),
  (21, .if_icmp .ge 51, 3, [37], 0, []),
  (24, .aload_n 0, 1, [], 0, []),
  (25, .iload 4, 2, [], 0, []),
  (27, .invokevirtual 58, 3, [11, 2, 1, 1, 485], 0, []),
  (30, .iload_n 2, 1, [], 0, []),
  (31, .if_icmp .ne 35, 3, [35], 0, []),
  (34, .aload_n 0, 1, [], 0, []),
  (35, .iload 4, 2, [], 0, []),
  (37, .invokevirtual 65, 3, [27, 2, 1, 1, 526], 0, []),
  (40, .istore 5, 2, [], 0, []),
  (42, .aload_n 0, 1, [], 0, []),
  (43, .getfield 15, 3, [0, 1, 101], 0, []),
  (46, .iload 4, 2, [], 0, []),
  (48, .iaload, 1, [], 0, []),
  (49, .iload 5, 2, [], 0, []),
  (51, .if_icmp .eq 15, 3, [35], 0, []),
  (54, .aload_n 0, 1, [], 0, []),
  (55, .getfield 15, 3, [0, 1, 101], 0, []),
  (58, .iload 4, 2, [], 0, []),
  (60, .iload 5, 2, [], 0, []),
  (62, .iastore, 1, [], 0, []),
  (63, .iinc 3 1, 3, [], 1, []),
  (66, .iinc 4 1, 3, [], 1, []),
  (69, .goto (-54), 3, [10], 0, []),
  (72, .iload_n 3, 1, [], 0, []),
  (73, .ireturn, 1, [], 0, [])]
def kF_rootOf : List am_E := [(0, .iload_n 1, 1, [], 0, []),
  (1, .istore_n 2, 1, [], 0, []),
  (2, .iconst 0, 1, [], 0, []),
  (3, .istore_n 3, 1, [], 0, []),
  (4, .iload_n 3, 1, [], 0, []),
  (5, .bipush 24, 2, [], 24, []),
  (7, .if_icmp .ge 26, 3, [20], 0, []),
  (10, .aload_n 0, 1, [], 0, []),
  (11, .getfield 9, 3, [0, 0, 97], 0, []),
  (14, .iload_n 2, 1, [], 0, []),
  (15, .iaload, 1, [], 0, []),
  (16, .iconst (-1), 1, [], (-1), []),
  (17, .if_icmp .eq 16, 3, [20], 0, []),
  (20, .aload_n 0, 1, [], 0, []),
  (21, .getfield 9, 3, [0, 0, 97], 0, []),
  (24, .iload_n 2, 1, [], 0, []),
  (25, .iaload, 1, [], 0, []),
  (26, .istore_n 2, 1, [], 0, []),
  (27, .iinc 3 1, 3, [], 1, []),
  (30, .goto (-26), 3, [4], 0, []),
  (33, .iload_n 2, 1, [], 0, []),
  (34, .ireturn, 1, [], 0, [])]
def kF_depthOf : List am_E := [(0, .iload_n 1, 1, [], 0, []),
  (1, .istore_n 2, 1, [], 0, []),
  (2, .iconst 0, 1, [], 0, []),
  (3, .istore_n 3, 1, [], 0, []),
  (4, .iconst 0, 1, [], 0, []),
  (5, .istore 4, 2, [], 0, []),
  (7, .iload 4, 2, [], 0, []),
  (9, .bipush 24, 2, [], 24, []),
  (11, .if_icmp .ge 29, 3, [23], 0, []),
  (14, .aload_n 0, 1, [], 0, []),
  (15, .getfield 9, 3, [0, 0, 97], 0, []),
  (18, .iload_n 2, 1, [], 0, []),
  (19, .iaload, 1, [], 0, []),
  (20, .iconst (-1), 1, [], (-1), []),
  (21, .if_icmp .eq 19, 3, [23], 0, []),
  (24, .aload_n 0, 1, [], 0, []),
  (25, .getfield 9, 3, [0, 0, 97], 0, []),
  (28, .iload_n 2, 1, [], 0, []),
  (29, .iaload, 1, [], 0, []),
  (30, .istore_n 2, 1, [], 0, []),
  (31, .iinc 3 1, 3, [], 1, []),
  (34, .iinc 4 1, 3, [], 1, []),
  (37, .goto (-30), 3, [6], 0, []),
  (40, .iload_n 3, 1, [], 0, []),
  (41, .ireturn, 1, [], 0, [])]
def kF_climb : List am_E := [(0, .iload_n 1, 1, [], 0, []),
  (1, .istore_n 3, 1, [], 0, []),
  (2, .iconst 0, 1, [], 0, []),
  (3, .istore 4, 2, [], 0, []),
  (5, .iload 4, 2, [], 0, []),
  (7, .bipush 24, 2, [], 24, []),
  (9, .if_icmp .ge 32, 3, [23], 0, []),
  (12, .iload 4, 2, [], 0, []),
  (14, .iload_n 2, 1, [], 0, []),
  (15, .if_icmp .ge 26, 3, [23], 0, []),
  (18, .aload_n 0, 1, [], 0, []),
  (19, .getfield 9, 3, [0, 0, 97], 0, []),
  (22, .iload_n 3, 1, [], 0, []),
  (23, .iaload, 1, [], 0, []),
  (24, .iconst (-1), 1, [], (-1), []),
  (25, .if_icmp .eq 16, 3, [23], 0, []),
  (28, .aload_n 0, 1, [], 0, []),
  (29, .getfield 9, 3, [0, 0, 97], 0, []),
  (32, .iload_n 3, 1, [], 0, []),
  (33, .iaload, 1, [], 0, []),
  (34, .istore_n 3, 1, [], 0, []),
  (35, .iinc 4 1, 3, [], 1, []),
  (38, .goto (-33), 3, [4], 0, []),
  (41, .iload_n 3, 1, [], 0, []),
  (42, .ireturn, 1, [], 0, [])]
def kF_isOver : List am_E := [(0, .iload_n 2, 1, [], 0, []),
  (1, .istore_n 3, 1, [], 0, []),
  (2, .iconst 0, 1, [], 0, []),
  (3, .istore 4, 2, [], 0, []),
  (5, .iload 4, 2, [], 0, []),
  (7, .bipush 24, 2, [], 24, []),
  (9, .if_icmp .ge 28, 3, [22], 0, []),
  (12, .iload_n 3, 1, [], 0, []),
  (13, .iconst (-1), 1, [], (-1), []),
  (14, .if_icmp .eq 23, 3, [22], 0, []),
  (17, .iload_n 3, 1, [], 0, []),
  (18, .iload_n 1, 1, [], 0, []),
  (19, .if_icmp .ne 5, 3, [15], 0, []),
  (22, .iconst 1, 1, [], 1, []),
  (23, .ireturn, 1, [1], 0, []),
  (24, .aload_n 0, 1, [], 0, []),
  (25, .getfield 9, 3, [0, 0, 97], 0, []),
  (28, .iload_n 3, 1, [], 0, []),
  (29, .iaload, 1, [], 0, []),
  (30, .istore_n 3, 1, [], 0, []),
  (31, .iinc 4 1, 3, [], 1, []),
  (34, .goto (-29), 3, [4], 0, []),
  (37, .iconst 0, 1, [], 0, []),
  (38, .ireturn, 1, [1], 0, [])]
def kF_hangTogether : List am_E := [(0, .aload_n 0, 1, [], 0, []),
  (1, .iload_n 1, 1, [], 0, []),
  (2, .invokevirtual 58, 3, [11, 2, 1, 1, 485], 0, []),
  (5, .aload_n 0, 1, [], 0, []),
  (6, .iload_n 2, 1, [], 0, []),
  (7, .invokevirtual 58, 3, [11, 2, 1, 1, 485], 0, []),
  (10, .if_icmp .ne 7, 3, [9], 0, []),
  (13, .iconst 1, 1, [], 1, []),
  (14, .goto 4, 3, [10], 0, []),
  (17, .iconst 0, 1, [], 0, []),
  (18, .ireturn, 1, [1], 0, [])]
def kF_meetingOf : List am_E := [(0, .aload_n 0, 1, [], 0, []),
  (1, .iload_n 1, 1, [], 0, []),
  (2, .invokevirtual 68, 3, [12, 2, 1, 1, 621], 0, []),
  (5, .istore_n 3, 1, [], 0, []),
  (6, .aload_n 0, 1, [], 0, []),
  (7, .iload_n 2, 1, [], 0, []),
  (8, .invokevirtual 68, 3, [12, 2, 1, 1, 621], 0, []),
  (11, .istore 4, 2, [], 0, []),
  (13, .aload_n 0, 1, [], 0, []),
  (14, .iload_n 1, 1, [], 0, []),
  (15, .iload_n 3, 1, [], 0, []),
  (16, .iload 4, 2, [], 0, []),
  (18, .isub, 1, [], 0, []),
  (19, .invokevirtual 71, 3, [13, 3, 1, 1, 625], 0, []),
  (22, .istore 5, 2, [], 0, []),
  (24, .aload_n 0, 1, [], 0, []),
  (25, .iload_n 2, 1, [], 0, []),
  (26, .iload 4, 2, [], 0, []),
  (28, .iload_n 3, 1, [], 0, []),
  (29, .isub, 1, [], 0, []),
  (30, .invokevirtual 71, 3, [13, 3, 1, 1, 625], 0, []),
  (33, .istore 6, 2, [], 0, []),
  (35, .iconst 0, 1, [], 0, []),
  (36, .istore 7, 2, [], 0, []),
  (38, .iload 7, 2, [], 0, []),
  (40, .bipush 24, 2, [], 24, []),
  (42, .if_icmp .ge 48, 3, [50], 0, []),
  (45, .iload 5, 2, [], 0, []),
  (47, .iload 6, 2, [], 0, []),
  (49, .if_icmp .eq 41, 3, [50], 0, []),
  (52, .iload 5, 2, [], 0, []),
  (54, .iconst (-1), 1, [], (-1), []),
  (55, .if_icmp .eq 9, 3, [36], 0, []),
  (58, .iload 6, 2, [], 0, []),
  (60, .iconst (-1), 1, [], (-1), []),
  (61, .if_icmp .ne 5, 3, [38], 0, []),
  (64, .iconst (-1), 1, [], (-1), []),
  (65, .ireturn, 1, [], 0, []),
  (66, .aload_n 0, 1, [], 0, []),
  (67, .getfield 9, 3, [0, 0, 97], 0, []),
  (70, .iload 5, 2, [], 0, []),
  (72, .iaload, 1, [], 0, []),
  (73, .istore 5, 2, [], 0, []),
  (75, .aload_n 0, 1, [], 0, []),
  (76, .getfield 9, 3, [0, 0, 97], 0, []),
  (79, .iload 6, 2, [], 0, []),
  (81, .iaload, 1, [], 0, []),
  (82, .istore 6, 2, [], 0, []),
  (84, .iinc 7 1, 3, [], 1, []),
  (87, .goto (-49), 3, [24], 0, []),
  (90, .iload 5, 2, [], 0, []),
  (92, .ireturn, 1, [], 0, [])]
def kF_lowerOf : List am_E := [(0, .aload_n 0, 1, [], 0, []),
  (1, .getfield 9, 3, [0, 0, 97], 0, []),
  (4, .iload_n 1, 1, [], 0, []),
  (5, .iaload, 1, [], 0, []),
  (6, .iload_n 2, 1, [], 0, []),
  (7, .if_icmp .ne 5, 3, [8], 0, []),
  (10, .iload_n 1, 1, [], 0, []),
  (11, .ireturn, 1, [], 0, []),
  (12, .aload_n 0, 1, [], 0, []),
  (13, .getfield 9, 3, [0, 0, 97], 0, []),
  (16, .iload_n 2, 1, [], 0, []),
  (17, .iaload, 1, [], 0, []),
  (18, .iload_n 1, 1, [], 0, []),
  (19, .if_icmp .ne 7, 3, [16], 0, []),
  (22, .iload_n 2, 1, [], 0, []),
  (23, .goto 4, 3, [17], 0, []),
  (26, .iconst (-1), 1, [], (-1), []),
  (27, .ireturn, 1, [], 0, [])]
def kF_headOf : List am_E := [(0, .iload_n 1, 1, [], 0, []),
  (1, .istore_n 2, 1, [], 0, []),
  (2, .iconst 0, 1, [], 0, []),
  (3, .istore_n 3, 1, [], 0, []),
  (4, .iload_n 3, 1, [], 0, []),
  (5, .bipush 24, 2, [], 24, []),
  (7, .if_icmp .ge 39, 3, [27], 0, []),
  (10, .aload_n 0, 1, [], 0, []),
  (11, .getfield 9, 3, [0, 0, 97], 0, []),
  (14, .iload_n 2, 1, [], 0, []),
  (15, .iaload, 1, [], 0, []),
  (16, .istore 4, 2, [], 0, []),
  (18, .iload 4, 2, [], 0, []),
  (20, .iconst (-1), 1, [], (-1), []),
  (21, .if_icmp .eq 14, 3, [21], 0, []),
  (24, .aload_n 0, 1, [], 0, []),
  (25, .getfield 15, 3, [0, 1, 101], 0, []),
  (28, .iload 4, 2, [], 0, []),
  (30, .iaload, 1, [], 0, []),
  (31, .iload_n 2, 1, [], 0, []),
  (32, .if_icmp .eq 5, 3, [23], 0, []),
  (35, .iload_n 2, 1, [], 0, []),
  (36, .ireturn, 1, [], 0, []),
  (37, .iload 4, 2, [], 0, []),
  (39, .istore_n 2, 1, [], 0, []),
  (40, .iinc 3 1, 3, [], 1, []),
  (43, .goto (-39), 3, [4], 0, []),
  (46, .iload_n 2, 1, [], 0, []),
  (47, .ireturn, 1, [], 0, [])]
def kF_tailOf : List am_E := [(0, .iload_n 1, 1, [], 0, []),
  (1, .istore_n 2, 1, [], 0, []),
  (2, .iconst 0, 1, [], 0, []),
  (3, .istore_n 3, 1, [], 0, []),
  (4, .iload_n 3, 1, [], 0, []),
  (5, .bipush 24, 2, [], 24, []),
  (7, .if_icmp .ge 26, 3, [20], 0, []),
  (10, .aload_n 0, 1, [], 0, []),
  (11, .getfield 15, 3, [0, 1, 101], 0, []),
  (14, .iload_n 2, 1, [], 0, []),
  (15, .iaload, 1, [], 0, []),
  (16, .iconst (-1), 1, [], (-1), []),
  (17, .if_icmp .eq 16, 3, [20], 0, []),
  (20, .aload_n 0, 1, [], 0, []),
  (21, .getfield 15, 3, [0, 1, 101], 0, []),
  (24, .iload_n 2, 1, [], 0, []),
  (25, .iaload, 1, [], 0, []),
  (26, .istore_n 2, 1, [], 0, []),
  (27, .iinc 3 1, 3, [], 1, []),
  (30, .goto (-26), 3, [4], 0, []),
  (33, .iload_n 2, 1, [], 0, []),
  (34, .ireturn, 1, [], 0, [])]
def kF_trees : List am_E := [(0, .iconst 0, 1, [], 0, []),
  (1, .istore_n 1, 1, [], 0, []),
  (2, .iconst 0, 1, [], 0, []),
  (3, .istore_n 2, 1, [], 0, []),
  (4, .iload_n 2, 1, [], 0, []),
  (5, .aload_n 0, 1, [], 0, []),
  (6, .getfield 30, 3, [0, 6, 116], 0, []),
  (9, .if_icmp .ge 22, 3, [17], 0, []),
  (12, .aload_n 0, 1, [], 0, []),
  (13, .getfield 9, 3, [0, 0, 97], 0, []),
  (16, .iload_n 2, 1, [], 0, []),
  (17, .iaload, 1, [], 0, []),
  (18, .iconst (-1), 1, [], (-1), []),
  (19, .if_icmp .ne 6, 3, [15], 0, []),
  (22, .iinc 1 1, 3, [], 1, []),
  (25, .iinc 2 1, 3, [], 1, []),
  (28, .goto (-24), 3, [4], 0, []),
  (31, .iload_n 1, 1, [], 0, []),
  (32, .ireturn, 1, [], 0, [])]
def kF_chains : List am_E := [(0, .aload_n 0, 1, [], 0, []),
  (1, .getfield 30, 3, [0, 6, 116], 0, []),
  (4, .istore_n 1, 1, [], 0, []),
  (5, .iconst 0, 1, [], 0, []),
  (6, .istore_n 2, 1, [], 0, []),
  (7, .iload_n 2, 1, [], 0, []),
  (8, .aload_n 0, 1, [], 0, []),
  (9, .getfield 30, 3, [0, 6, 116], 0, []),
  (12, .if_icmp .ge 22, 3, [18], 0, []),
  (15, .aload_n 0, 1, [], 0, []),
  (16, .getfield 15, 3, [0, 1, 101], 0, []),
  (19, .iload_n 2, 1, [], 0, []),
  (20, .iaload, 1, [], 0, []),
  (21, .iconst (-1), 1, [], (-1), []),
  (22, .if_icmp .eq 6, 3, [16], 0, []),
  (25, .iinc 1 (-1), 3, [], (-1), []),
  (28, .iinc 2 1, 3, [], 1, []),
  (31, .goto (-24), 3, [5], 0, []),
  (34, .iload_n 1, 1, [], 0, []),
  (35, .ireturn, 1, [], 0, [])]
def kF_weigh : List am_E := [(0, .iconst 0, 1, [], 0, []),
  (1, .istore_n 1, 1, [], 0, []),
  (2, .iload_n 1, 1, [], 0, []),
  (3, .aload_n 0, 1, [], 0, []),
  (4, .getfield 30, 3, [0, 6, 116], 0, []),
  (7, .if_icmp .ge 16, 3, [13], 0, []),
  (10, .aload_n 0, 1, [], 0, []),
  (11, .getfield 27, 3, [0, 5, 115], 0, []),
  (14, .iload_n 1, 1, [], 0, []),
  (15, .iconst 0, 1, [], 0, []),
  (16, .iastore, 1, [], 0, []),
  (17, .iinc 1 1, 3, [], 1, []),
  (20, .goto (-18), 3, [2], 0, []),
  (23, .iconst 0, 1, [], 0, []),
  (24, .istore_n 1, 1, [], 0, []),
  (25, .iload_n 1, 1, [], 0, []),
  (26, .aload_n 0, 1, [], 0, []),
  (27, .getfield 30, 3, [0, 6, 116], 0, []),
  (30, .if_icmp .ge 47, 3, [46], 0, []),
  (33, .iload_n 1, 1, [], 0, []),
  (34, .istore_n 2, 1, [], 0, []),
  (35, .iconst 0, 1, [], 0, []),
  (36, .istore_n 3, 1, [], 0, []),
  (37, .iload_n 3, 1, [], 0, []),
  (38, .bipush 24, 2, [], 24, []),
  (40, .if_icmp .ge 31, 3, [44], 0, []),
  (43, .iload_n 2, 1, [], 0, []),
  (44, .iconst (-1), 1, [], (-1), []),
  (45, .if_icmp .eq 26, 3, [44], 0, []),
  (48, .aload_n 0, 1, [], 0, []),
  (49, .getfield 27, 3, [0, 5, 115], 0, []),
  (52, .iload_n 2, 1, [], 0, []),
  (53, .dup2, 1, [], 0, []),
  (54, .iaload, 1, [], 0, []),
  (55, .iconst 1, 1, [], 1, []),
  (56, .iadd, 1, [], 0, []),
  (57, .iastore, 1, [], 0, []),
  (58, .aload_n 0, 1, [], 0, []),
  (59, .getfield 9, 3, [0, 0, 97], 0, []),
  (62, .iload_n 2, 1, [], 0, []),
  (63, .iaload, 1, [], 0, []),
  (64, .istore_n 2, 1, [], 0, []),
  (65, .iinc 3 1, 3, [], 1, []),
  (68, .goto (-31), 3, [23], 0, []),
  (71, .iinc 1 1, 3, [], 1, []),
  (74, .goto (-49), 3, [15], 0, []),
  (77, .return_, 1, [], 0, [])]
def kF_sizeOf : List am_E := [(0, .aload_n 0, 1, [], 0, []),
  (1, .invokevirtual 62, 3, [22, 1, 0, 1, 522], 0, []),
  (4, .aload_n 0, 1, [], 0, []),
  (5, .getfield 27, 3, [0, 5, 115], 0, []),
  (8, .iload_n 1, 1, [], 0, []),
  (9, .iaload, 1, [], 0, []),
  (10, .ireturn, 1, [], 0, [])]
def kF_valuesUnder : List am_E := [(0, .iconst 0, 1, [], 0, []),
  (1, .istore_n 2, 1, [], 0, []),
  (2, .iconst 0, 1, [], 0, []),
  (3, .istore_n 3, 1, [], 0, []),
  (4, .iload_n 3, 1, [], 0, []),
  (5, .aload_n 0, 1, [], 0, []),
  (6, .getfield 30, 3, [0, 6, 116], 0, []),
  (9, .if_icmp .ge 27, 3, [22], 0, []),
  (12, .aload_n 0, 1, [], 0, []),
  (13, .iload_n 1, 1, [], 0, []),
  (14, .iload_n 3, 1, [], 0, []),
  (15, .invokevirtual 75, 3, [14, 3, 1, 1, 1035], 0, []),
  (18, .ifCond .eq 12, 3, [20], 0, []),
  (21, .iload_n 2, 1, [], 0, []),
  (22, .aload_n 0, 1, [], 0, []),
  (23, .getfield 24, 3, [0, 4, 112], 0, []),
  (26, .iload_n 3, 1, [], 0, []),
  (27, .iaload, 1, [], 0, []),
  (28, .iadd, 1, [], 0, []),
  (29, .istore_n 2, 1, [], 0, []),
  (30, .iinc 3 1, 3, [], 1, []),
  (33, .goto (-29), 3, [4], 0, []),
  (36, .iload_n 2, 1, [], 0, []),
  (37, .ireturn, 1, [], 0, [])]
def kF_childrenOf : List am_E := [(0, .iconst 0, 1, [], 0, []),
  (1, .istore_n 2, 1, [], 0, []),
  (2, .iconst 0, 1, [], 0, []),
  (3, .istore_n 3, 1, [], 0, []),
  (4, .iload_n 3, 1, [], 0, []),
  (5, .aload_n 0, 1, [], 0, []),
  (6, .getfield 30, 3, [0, 6, 116], 0, []),
  (9, .if_icmp .ge 22, 3, [17], 0, []),
  (12, .aload_n 0, 1, [], 0, []),
  (13, .getfield 9, 3, [0, 0, 97], 0, []),
  (16, .iload_n 3, 1, [], 0, []),
  (17, .iaload, 1, [], 0, []),
  (18, .iload_n 1, 1, [], 0, []),
  (19, .if_icmp .ne 6, 3, [15], 0, []),
  (22, .iinc 2 1, 3, [], 1, []),
  (25, .iinc 3 1, 3, [], 1, []),
  (28, .goto (-24), 3, [4], 0, []),
  (31, .iload_n 2, 1, [], 0, []),
  (32, .ireturn, 1, [], 0, [])]
def kF_heavyChildOf : List am_E := [(0, .aload_n 0, 1, [], 0, []),
  (1, .invokevirtual 62, 3, [22, 1, 0, 1, 522], 0, []),
  (4, .aload_n 0, 1, [], 0, []),
  (5, .iload_n 1, 1, [], 0, []),
  (6, .invokevirtual 65, 3, [27, 2, 1, 1, 526], 0, []),
  (9, .ireturn, 1, [], 0, [])]
def kF_heavyOfWeighed : List am_E := [(0, .iconst 0, 1, [], 0, []),
  (1, .istore_n 2, 1, [], 0, []),
  (2, .iload_n 2, 1, [], 0, []),
  (3, .aload_n 0, 1, [], 0, []),
  (4, .getfield 30, 3, [0, 6, 116], 0, []),
  (7, .if_icmp .ge 38, 3, [27], 0, []),
  (10, .aload_n 0, 1, [], 0, []),
  (11, .getfield 9, 3, [0, 0, 97], 0, []),
  (14, .iload_n 2, 1, [], 0, []),
  (15, .iaload, 1, [], 0, []),
  (16, .iload_n 1, 1, [], 0, []),
  (17, .if_icmp .ne 22, 3, [25], 0, []),
  (20, .iconst 2, 1, [], 2, []),
  (21, .aload_n 0, 1, [], 0, []),
  (22, .getfield 27, 3, [0, 5, 115], 0, []),
  (25, .iload_n 2, 1, [], 0, []),
  (26, .iaload, 1, [], 0, []),
  (27, .imul, 1, [], 0, []),
  (28, .aload_n 0, 1, [], 0, []),
  (29, .getfield 27, 3, [0, 5, 115], 0, []),
  (32, .iload_n 1, 1, [], 0, []),
  (33, .iaload, 1, [], 0, []),
  (34, .if_icmp .le 5, 3, [25], 0, []),
  (37, .iload_n 2, 1, [], 0, []),
  (38, .ireturn, 1, [], 0, []),
  (39, .iinc 2 1, 3, [], 1, []),
  (42, .goto (-40), 3, [2], 0, []),
  (45, .iconst (-1), 1, [], (-1), []),
  (46, .ireturn, 1, [], 0, [])]
def kF_heavyNotPreferred : List am_E := [(0, .iconst 0, 1, [], 0, []),
  (1, .istore_n 1, 1, [], 0, []),
  (2, .aload_n 0, 1, [], 0, []),
  (3, .invokevirtual 62, 3, [22, 1, 0, 1, 522], 0, []),
  (6, .iconst 0, 1, [], 0, []),
  (7, .istore_n 2, 1, [], 0, []),
  (8, .iload_n 2, 1, [], 0, []),
  (9, .aload_n 0, 1, [], 0, []),
  (10, .getfield 30, 3, [0, 6, 116], 0, []),
  (13, .if_icmp .ge 33, 3, [26], 0, []),
  (16, .aload_n 0, 1, [], 0, []),
  (17, .iload_n 2, 1, [], 0, []),
  (18, .invokevirtual 65, 3, [27, 2, 1, 1, 526], 0, []),
  (21, .istore_n 3, 1, [], 0, []),
  (22, .iload_n 3, 1, [], 0, []),
  (23, .iconst (-1), 1, [], (-1), []),
  (24, .if_icmp .eq 16, 3, [24], 0, []),
  (27, .aload_n 0, 1, [], 0, []),
  (28, .getfield 15, 3, [0, 1, 101], 0, []),
  (31, .iload_n 2, 1, [], 0, []),
  (32, .iaload, 1, [], 0, []),
  (33, .iload_n 3, 1, [], 0, []),
  (34, .if_icmp .eq 6, 3, [24], 0, []),
  (37, .iinc 1 1, 3, [], 1, []),
  (40, .iinc 2 1, 3, [], 1, []),
  (43, .goto (-35), 3, [6], 0, []),
  (46, .iload_n 1, 1, [], 0, []),
  (47, .ireturn, 1, [], 0, [])]
def kF_switchesTo : List am_E := [(0, .iconst 0, 1, [], 0, []),
  (1, .istore_n 2, 1, [], 0, []),
  (2, .iload_n 1, 1, [], 0, []),
  (3, .istore_n 3, 1, [], 0, []),
  (4, .aload_n 0, 1, [], 0, []),
  (5, .getfield 9, 3, [0, 0, 97], 0, []),
  (8, .iload_n 1, 1, [], 0, []),
  (9, .iaload, 1, [], 0, []),
  (10, .istore 4, 2, [], 0, []),
  (12, .iconst 0, 1, [], 0, []),
  (13, .istore 5, 2, [], 0, []),
  (15, .iload 5, 2, [], 0, []),
  (17, .bipush 24, 2, [], 24, []),
  (19, .if_icmp .ge 41, 3, [33], 0, []),
  (22, .iload 4, 2, [], 0, []),
  (24, .iconst (-1), 1, [], (-1), []),
  (25, .if_icmp .eq 35, 3, [33], 0, []),
  (28, .aload_n 0, 1, [], 0, []),
  (29, .getfield 15, 3, [0, 1, 101], 0, []),
  (32, .iload 4, 2, [], 0, []),
  (34, .iaload, 1, [], 0, []),
  (35, .iload_n 3, 1, [], 0, []),
  (36, .if_icmp .eq 6, 3, [24], 0, []),
  (39, .iinc 2 1, 3, [], 1, []),
  (42, .iload 4, 2, [], 0, []),
  (44, .istore_n 3, 1, [], 0, []),
  (45, .aload_n 0, 1, [], 0, []),
  (46, .getfield 9, 3, [0, 0, 97], 0, []),
  (49, .iload 4, 2, [], 0, []),
  (51, .iaload, 1, [], 0, []),
  (52, .istore 4, 2, [], 0, []),
  (54, .iinc 5 1, 3, [], 1, []),
  (57, .goto (-42), 3, [11], 0, []),
  (60, .iload_n 2, 1, [], 0, []),
  (61, .ireturn, 1, [], 0, [])]
def kF_lowerOfExtreme : List am_E := [(0, .aload_n 0, 1, [], 0, []),
  (1, .iload_n 1, 1, [], 0, []),
  (2, .invokevirtual 58, 3, [11, 2, 1, 1, 485], 0, []),
  (5, .istore 4, 2, [], 0, []),
  (7, .bipush (-2), 2, [], (-2), []),
  (9, .istore 5, 2, [], 0, []),
  (11, .iconst 0, 1, [], 0, []),
  (12, .istore 6, 2, [], 0, []),
  (14, .iload 6, 2, [], 0, []),
  (16, .aload_n 0, 1, [], 0, []),
  (17, .getfield 30, 3, [0, 6, 116], 0, []),
  (20, .if_icmp .ge 53, 3, [38], 0, []),
  (23, .iload 6, 2, [], 0, []),
  (25, .iload 4, 2, [], 0, []),
  (27, .if_icmp .eq 40, 3, [36], 0, []),
  (30, .aload_n 0, 1, [], 0, []),
  (31, .iload 6, 2, [], 0, []),
  (33, .invokevirtual 58, 3, [11, 2, 1, 1, 485], 0, []),
  (36, .iload 4, 2, [], 0, []),
  (38, .if_icmp .ne 29, 3, [36], 0, []),
  (41, .iload 5, 2, [], 0, []),
  (43, .bipush (-2), 2, [], (-2), []),
  (45, .if_icmp .eq 18, 3, [34], 0, []),
  (48, .iload_n 3, 1, [], 0, []),
  (49, .aload_n 2, 1, [], 0, []),
  (50, .iload 6, 2, [], 0, []),
  (52, .iaload, 1, [], 0, []),
  (53, .imul, 1, [], 0, []),
  (54, .iload_n 3, 1, [], 0, []),
  (55, .aload_n 2, 1, [], 0, []),
  (56, .iload 5, 2, [], 0, []),
  (58, .iaload, 1, [], 0, []),
  (59, .imul, 1, [], 0, []),
  (60, .if_icmp .le 7, 3, [36], 0, []),
  (63, .iload 6, 2, [], 0, []),
  (65, .istore 5, 2, [], 0, []),
  (67, .iinc 6 1, 3, [], 1, []),
  (70, .goto (-56), 3, [8], 0, []),
  (73, .iload 5, 2, [], 0, []),
  (75, .ireturn, 1, [], 0, [])]
def kF_midstOfTreeOf : List am_E := [(0, .aload_n 0, 1, [], 0, []),
  (1, .iload_n 1, 1, [], 0, []),
  (2, .invokevirtual 58, 3, [11, 2, 1, 1, 485], 0, []),
  (5, .istore_n 2, 1, [], 0, []),
  (6, .iconst (-1), 1, [], (-1), []),
  (7, .istore_n 3, 1, [], 0, []),
  (8, .bipush 24, 2, [], 24, []),
  (10, .istore 4, 2, [], 0, []),
  (12, .aload_n 0, 1, [], 0, []),
  (13, .invokevirtual 62, 3, [22, 1, 0, 1, 522], 0, []),
  (16, .iconst 0, 1, [], 0, []),
  (17, .istore 5, 2, [], 0, []),
  (19, .iload 5, 2, [], 0, []),
  (21, .aload_n 0, 1, [], 0, []),
  (22, .getfield 30, 3, [0, 6, 116], 0, []),
  (25, .if_icmp .ge 52, 3, [41], 0, []),
  (28, .aload_n 0, 1, [], 0, []),
  (29, .iload 5, 2, [], 0, []),
  (31, .invokevirtual 58, 3, [11, 2, 1, 1, 485], 0, []),
  (34, .iload_n 2, 1, [], 0, []),
  (35, .if_icmp .ne 36, 3, [39], 0, []),
  (38, .aload_n 0, 1, [], 0, []),
  (39, .iload 5, 2, [], 0, []),
  (41, .aload_n 0, 1, [], 0, []),
  (42, .getfield 27, 3, [0, 5, 115], 0, []),
  (45, .iload_n 2, 1, [], 0, []),
  (46, .iaload, 1, [], 0, []),
  (47, .invokevirtual 79, 3, [32, 3, 1, 1, 856], 0, []),
  (50, .istore 6, 2, [], 0, []),
  (52, .iload_n 3, 1, [], 0, []),
  (53, .iconst (-1), 1, [], (-1), []),
  (54, .if_icmp .eq 10, 3, [35], 0, []),
  (57, .iload 6, 2, [], 0, []),
  (59, .iload 4, 2, [], 0, []),
  (61, .if_icmp .ge 10, 3, [39], 0, []),
  (64, .iload 5, 2, [], 0, []),
  (66, .istore_n 3, 1, [], 0, []),
  (67, .iload 6, 2, [], 0, []),
  (69, .istore 4, 2, [], 0, []),
  (71, .iinc 5 1, 3, [], 1, []),
  (74, .goto (-55), 3, [12], 0, []),
  (77, .iload_n 3, 1, [], 0, []),
  (78, .ireturn, 1, [], 0, [])]
def kF_greatestPartOfWeighed : List am_E := [(0, .iload_n 2, 1, [], 0, []),
  (1, .aload_n 0, 1, [], 0, []),
  (2, .getfield 27, 3, [0, 5, 115], 0, []),
  (5, .iload_n 1, 1, [], 0, []),
  (6, .iaload, 1, [], 0, []),
  (7, .isub, 1, [], 0, []),
  (8, .istore_n 3, 1, [], 0, []),
  (9, .iconst 0, 1, [], 0, []),
  (10, .istore 4, 2, [], 0, []),
  (12, .iload 4, 2, [], 0, []),
  (14, .aload_n 0, 1, [], 0, []),
  (15, .getfield 30, 3, [0, 6, 116], 0, []),
  (18, .if_icmp .ge 32, 3, [28], 0, []),
  (21, .aload_n 0, 1, [], 0, []),
  (22, .getfield 9, 3, [0, 0, 97], 0, []),
  (25, .iload 4, 2, [], 0, []),
  (27, .iaload, 1, [], 0, []),
  (28, .iload_n 1, 1, [], 0, []),
  (29, .if_icmp .ne 15, 3, [26], 0, []),
  (32, .iload_n 3, 1, [], 0, []),
  (33, .aload_n 0, 1, [], 0, []),
  (34, .getfield 27, 3, [0, 5, 115], 0, []),
  (37, .iload 4, 2, [], 0, []),
  (39, .iaload, 1, [], 0, []),
  (40, .invokestatic 82, 3, [860, 0], 0, []),
  (43, .istore_n 3, 1, [], 0, []),
  (44, .iinc 4 1, 3, [], 1, []),
  (47, .goto (-35), 3, [9], 0, []),
  (50, .iload_n 3, 1, [], 0, []),
  (51, .ireturn, 1, [], 0, [])]
def kF_partsBy : List am_E := [(0, .aload_n 0, 1, [], 0, []),
  (1, .getfield 30, 3, [0, 6, 116], 0, []),
  (4, .istore_n 2, 1, [], 0, []),
  (5, .iconst 0, 1, [], 0, []),
  (6, .istore_n 3, 1, [], 0, []),
  (7, .iload_n 3, 1, [], 0, []),
  (8, .aload_n 0, 1, [], 0, []),
  (9, .getfield 30, 3, [0, 6, 116], 0, []),
  (12, .if_icmp .ge 32, 3, [24], 0, []),
  (15, .aload_n 0, 1, [], 0, []),
  (16, .getfield 9, 3, [0, 0, 97], 0, []),
  (19, .iload_n 3, 1, [], 0, []),
  (20, .iaload, 1, [], 0, []),
  (21, .iconst (-1), 1, [], (-1), []),
  (22, .if_icmp .eq 16, 3, [22], 0, []),
  (25, .aload_n 0, 1, [], 0, []),
  (26, .getfield 18, 3, [0, 2, 104], 0, []),
  (29, .iload_n 3, 1, [], 0, []),
  (30, .iaload, 1, [], 0, []),
  (31, .iload_n 1, 1, [], 0, []),
  (32, .if_icmp .gt 6, 3, [22], 0, []),
  (35, .iinc 2 (-1), 3, [], (-1), []),
  (38, .iinc 3 1, 3, [], 1, []),
  (41, .goto (-34), 3, [5], 0, []),
  (44, .iload_n 2, 1, [], 0, []),
  (45, .ireturn, 1, [], 0, [])]
def kF_leastLengthFor : List am_E := [(0, .aload_n 0, 1, [], 0, []),
  (1, .iconst 0, 1, [], 0, []),
  (2, .invokevirtual 87, 3, [33, 2, 1, 1, 881], 0, []),
  (5, .iload_n 1, 1, [], 0, []),
  (6, .if_icmp .gt 5, 3, [7], 0, []),
  (9, .iconst 0, 1, [], 0, []),
  (10, .ireturn, 1, [], 0, []),
  (11, .iconst (-1), 1, [], (-1), []),
  (12, .istore_n 2, 1, [], 0, []),
  (13, .iconst 0, 1, [], 0, []),
  (14, .istore_n 3, 1, [], 0, []),
  (15, .iload_n 3, 1, [], 0, []),
  (16, .aload_n 0, 1, [], 0, []),
  (17, .getfield 30, 3, [0, 6, 116], 0, []),
  (20, .if_icmp .ge 55, 3, [45], 0, []),
  (23, .aload_n 0, 1, [], 0, []),
  (24, .getfield 9, 3, [0, 0, 97], 0, []),
  (27, .iload_n 3, 1, [], 0, []),
  (28, .iaload, 1, [], 0, []),
  (29, .iconst (-1), 1, [], (-1), []),
  (30, .if_icmp .eq 39, 3, [43], 0, []),
  (33, .iload_n 2, 1, [], 0, []),
  (34, .iconst (-1), 1, [], (-1), []),
  (35, .if_icmp .eq 13, 3, [30], 0, []),
  (38, .aload_n 0, 1, [], 0, []),
  (39, .getfield 18, 3, [0, 2, 104], 0, []),
  (42, .iload_n 3, 1, [], 0, []),
  (43, .iaload, 1, [], 0, []),
  (44, .iload_n 2, 1, [], 0, []),
  (45, .if_icmp .ge 24, 3, [43], 0, []),
  (48, .aload_n 0, 1, [], 0, []),
  (49, .aload_n 0, 1, [], 0, []),
  (50, .getfield 18, 3, [0, 2, 104], 0, []),
  (53, .iload_n 3, 1, [], 0, []),
  (54, .iaload, 1, [], 0, []),
  (55, .invokevirtual 87, 3, [33, 2, 1, 1, 881], 0, []),
  (58, .iload_n 1, 1, [], 0, []),
  (59, .if_icmp .gt 10, 3, [43], 0, []),
  (62, .aload_n 0, 1, [], 0, []),
  (63, .getfield 18, 3, [0, 2, 104], 0, []),
  (66, .iload_n 3, 1, [], 0, []),
  (67, .iaload, 1, [], 0, []),
  (68, .istore_n 2, 1, [], 0, []),
  (69, .iinc 3 1, 3, [], 1, []),
  (72, .goto (-57), 3, [11], 0, []),
  (75, .iload_n 2, 1, [], 0, []),
  (76, .ireturn, 1, [], 0, [])]
def kB_start : List am_E := [(0, .aload_n 0, 1, [], 0, []),
  (1, .getfield 10, 3, [1, 0, 325], 0, []),
  (4, .aload_n 1, 1, [], 0, []),
  (5, .invokevirtual 27, 3, [1, 2, 0, 1, 890], 0, []),
  (8, .aload_n 0, 1, [], 0, []),
  (9, .getfield 10, 3, [1, 0, 325], 0, []),
  (12, .iconst 0, 1, [], 0, []),
  (13, .putfield 31, 3, [0, 7, 121], 0, []),
  (16, .aload_n 0, 1, [], 0, []),
  (17, .iload_n 2, 1, [], 0, []),
  (18, .putfield 23, 3, [1, 2, 328], 0, []),
  (21, .return_, 1, [], 0, [])]
def kB_draw : List am_E := [(0, .aload_n 0, 1, [], 0, []),
  (1, .aload_n 0, 1, [], 0, []),
  (2, .getfield 23, 3, [1, 2, 328], 0, []),
  (5, .ldc 34, 2, [899], 1103515245, []),
  (7, .imul, 1, [], 0, []),
  (8, .sipush 12345, 3, [], 12345, []),
  (11, .iadd, 1, [], 0, []),
  (12, .ldc 35, 2, [900], 2147483647, []),
  (14, .iand, 1, [], 0, []),
  (15, .putfield 23, 3, [1, 2, 328], 0, []),
  (18, .iload_n 1, 1, [], 0, []),
  (19, .ifCond .le 15, 3, [19], 0, []),
  (22, .aload_n 0, 1, [], 0, []),
  (23, .getfield 23, 3, [1, 2, 328], 0, []),
  (26, .bipush 16, 2, [], 16, []),
  (28, .ishr, 1, [], 0, []),
  (29, .iload_n 1, 1, [], 0, []),
  (30, .irem, 1, [], 0, []),
  (31, .goto 4, 3, [20], 0, []),
  (34, .iconst 0, 1, [], 0, []),
  (35, .ireturn, 1, [], 0, [])]
def kB_doOne : List am_E := [(0, .aload_n 0, 1, [], 0, []),
  (1, .iconst 4, 1, [], 4, []),
  (2, .invokevirtual 36, 3, [36, 2, 1, 2, 895], 0, []),
  (5, .istore_n 1, 1, [], 0, []),
  (6, .aload_n 0, 1, [], 0, []),
  (7, .aload_n 0, 1, [], 0, []),
  (8, .getfield 10, 3, [1, 0, 325], 0, []),
  (11, .getfield 40, 3, [0, 6, 118], 0, []),
  (14, .invokevirtual 36, 3, [36, 2, 1, 2, 895], 0, []),
  (17, .istore_n 2, 1, [], 0, []),
  (18, .aload_n 0, 1, [], 0, []),
  (19, .aload_n 0, 1, [], 0, []),
  (20, .getfield 10, 3, [1, 0, 325], 0, []),
  (23, .getfield 40, 3, [0, 6, 118], 0, []),
  (26, .invokevirtual 36, 3, [36, 2, 1, 2, 895], 0, []),
  (29, .istore_n 3, 1, [], 0, []),
  (30, .iload_n 1, 1, [], 0, []),
  (31, .tableswitch 80 0 2 #[25, 36, 47], 25, [46], 0, [(0, 18), (1, 23), (2, 28)]),
  (56, .aload_n 0, 1, [], 0, []),
  (57, .getfield 10, 3, [1, 0, 325], 0, []),
  (60, .iload_n 2, 1, [], 0, []),
  (61, .invokevirtual 43, 3, [5, 2, 0, 1, 901], 0, []),
  (64, .goto 71, 3, [58], 0, []),
  (67, .aload_n 0, 1, [], 0, []),
  (68, .getfield 10, 3, [1, 0, 325], 0, []),
  (71, .iload_n 2, 1, [], 0, []),
  (72, .invokevirtual 47, 3, [6, 2, 0, 1, 902], 0, []),
  (75, .goto 60, 3, [58], 0, []),
  (78, .aload_n 0, 1, [], 0, []),
  (79, .getfield 10, 3, [1, 0, 325], 0, []),
  (82, .iload_n 2, 1, [], 0, []),
  (83, .iload_n 3, 1, [], 0, []),
  (84, .invokevirtual 50, 3, [15, 3, 1, 1, 903], 0, []),
  (87, .ifCond .ne 48, 3, [58], 0, []),
  (90, .aload_n 0, 1, [], 0, []),
  (91, .getfield 10, 3, [1, 0, 325], 0, []),
  (94, .iload_n 2, 1, [], 0, []),
  (95, .iload_n 3, 1, [], 0, []),
  (96, .aload_n 0, 1, [], 0, []),
  (97, .bipush 100, 2, [], 100, []),
  (99, .invokevirtual 36, 3, [36, 2, 1, 2, 895], 0, []),
  (102, .iconst 1, 1, [], 1, []),
  (103, .iadd, 1, [], 0, []),
  (104, .iconst 1, 1, [], 1, []),
  (105, .invokevirtual 54, 3, [8, 5, 0, 1, 904], 0, []),
  (108, .goto 27, 3, [58], 0, []),
  (111, .aload_n 0, 1, [], 0, []),
  (112, .getfield 19, 3, [1, 1, 327], 0, []),
  (115, .aload_n 0, 1, [], 0, []),
  (116, .getfield 10, 3, [1, 0, 325], 0, []),
  (119, .iload_n 2, 1, [], 0, []),
  (120, .iload_n 3, 1, [], 0, []),
  (121, .invokevirtual 58, 3, [74, 4, 0, 9, 905], 0, []),
  (124, .aload_n 0, 1, [], 0, []),
  (125, .getfield 19, 3, [1, 1, 327], 0, []),
  (128, .aload_n 0, 1, [], 0, []),
  (129, .getfield 10, 3, [1, 0, 325], 0, []),
  (132, .invokevirtual 62, 3, [80, 2, 0, 9, 906], 0, []),
  (135, .return_, 1, [], 0, [])]
def kH_forget : List am_E := [(0, .aload_n 0, 1, [], 0, []),
  (1, .iconst 0, 1, [], 0, []),
  (2, .putfield 18, 3, [2, 1, 240], 0, []),
  (5, .aload_n 0, 1, [], 0, []),
  (6, .iconst 0, 1, [], 0, []),
  (7, .putfield 22, 3, [2, 2, 241], 0, []),
  (10, .return_, 1, [], 0, [])]
def kH_remember : List am_E := [(0, .aload_n 0, 1, [], 0, []),
  (1, .getfield 11, 3, [2, 0, 239], 0, []),
  (4, .aload_n 0, 1, [], 0, []),
  (5, .getfield 18, 3, [2, 1, 240], 0, []),
  (8, .aload_n 0, 1, [], 0, []),
  (9, .getfield 22, 3, [2, 2, 241], 0, []),
  (12, .iadd, 1, [], 0, []),
  (13, .bipush 20, 2, [], 20, []),
  (15, .irem, 1, [], 0, []),
  (16, .aaload, 1, [], 0, []),
  (17, .aload_n 1, 1, [], 0, []),
  (18, .invokevirtual 25, 3, [1, 2, 0, 1, 573], 0, []),
  (21, .aload_n 0, 1, [], 0, []),
  (22, .getfield 22, 3, [2, 2, 241], 0, []),
  (25, .bipush 20, 2, [], 20, []),
  (27, .if_icmp .ge 16, 3, [23], 0, []),
  (30, .aload_n 0, 1, [], 0, []),
  (31, .dup, 1, [], 0, []),
  (32, .getfield 22, 3, [2, 2, 241], 0, []),
  (35, .iconst 1, 1, [], 1, []),
  (36, .iadd, 1, [], 0, []),
  (37, .putfield 22, 3, [2, 2, 241], 0, []),
  (40, .goto 16, 3, [31], 0, []),
  (43, .aload_n 0, 1, [], 0, []),
  (44, .aload_n 0, 1, [], 0, []),
  (45, .getfield 18, 3, [2, 1, 240], 0, []),
  (48, .iconst 1, 1, [], 1, []),
  (49, .iadd, 1, [], 0, []),
  (50, .bipush 20, 2, [], 20, []),
  (52, .irem, 1, [], 0, []),
  (53, .putfield 18, 3, [2, 1, 240], 0, []),
  (56, .return_, 1, [], 0, [])]
def kH_goBack : List am_E := [(0, .aload_n 0, 1, [], 0, []),
  (1, .getfield 22, 3, [2, 2, 241], 0, []),
  (4, .ifCond .ne 5, 3, [5], 0, []),
  (7, .iconst 0, 1, [], 0, []),
  (8, .ireturn, 1, [1], 0, []),
  (9, .aload_n 0, 1, [], 0, []),
  (10, .dup, 1, [], 0, []),
  (11, .getfield 22, 3, [2, 2, 241], 0, []),
  (14, .iconst 1, 1, [], 1, []),
  (15, .isub, 1, [], 0, []),
  (16, .putfield 22, 3, [2, 2, 241], 0, []),
  (19, .aload_n 1, 1, [], 0, []),
  (20, .aload_n 0, 1, [], 0, []),
  (21, .getfield 11, 3, [2, 0, 239], 0, []),
  (24, .aload_n 0, 1, [], 0, []),
  (25, .getfield 18, 3, [2, 1, 240], 0, []),
  (28, .aload_n 0, 1, [], 0, []),
  (29, .getfield 22, 3, [2, 2, 241], 0, []),
  (32, .iadd, 1, [], 0, []),
  (33, .bipush 20, 2, [], 20, []),
  (35, .irem, 1, [], 0, []),
  (36, .aaload, 1, [], 0, []),
  (37, .invokevirtual 25, 3, [1, 2, 0, 1, 573], 0, []),
  (40, .iconst 1, 1, [], 1, []),
  (41, .ireturn, 1, [1], 0, [])]
def kN_clear : List am_E := [(0, .aload_n 0, 1, [], 0, []),
  (1, .iconst 0, 1, [], 0, []),
  (2, .putfield 15, 3, [3, 1, 148], 0, []),
  (5, .aload_n 0, 1, [], 0, []),
  (6, .iconst 0, 1, [], 0, []),
  (7, .putfield 19, 3, [3, 2, 150], 0, []),
  (10, .aload_n 0, 1, [], 0, []),
  (11, .iconst 0, 1, [], 0, []),
  (12, .putfield 22, 3, [3, 3, 153], 0, []),
  (15, .return_, 1, [], 0, [])]
def kN_copyFrom : List am_E := [(0, .aload_n 1, 1, [], 0, []),
  (1, .getfield 9, 3, [3, 0, 147], 0, []),
  (4, .iconst 0, 1, [], 0, []),
  (5, .aload_n 0, 1, [], 0, []),
  (6, .getfield 9, 3, [3, 0, 147], 0, []),
  (9, .iconst 0, 1, [], 0, []),
  (10, .bipush 24, 2, [], 24, []),
  (12, .invokestatic 26, 3, [550], 0, []),
  (15, .aload_n 0, 1, [], 0, []),
  (16, .aload_n 1, 1, [], 0, []),
  (17, .getfield 15, 3, [3, 1, 148], 0, []),
  (20, .putfield 15, 3, [3, 1, 148], 0, []),
  (23, .aload_n 0, 1, [], 0, []),
  (24, .aload_n 1, 1, [], 0, []),
  (25, .getfield 19, 3, [3, 2, 150], 0, []),
  (28, .putfield 19, 3, [3, 2, 150], 0, []),
  (31, .aload_n 0, 1, [], 0, []),
  (32, .aload_n 1, 1, [], 0, []),
  (33, .getfield 22, 3, [3, 3, 153], 0, []),
  (36, .putfield 22, 3, [3, 3, 153], 0, []),
  (39, .return_, 1, [], 0, [])]
def kN_add : List am_E := [(0, .aload_n 0, 1, [], 0, []),
  (1, .getfield 15, 3, [3, 1, 148], 0, []),
  (4, .bipush 24, 2, [], 24, []),
  (6, .if_icmp .ge 23, 3, [16], 0, []),
  (9, .aload_n 0, 1, [], 0, []),
  (10, .getfield 9, 3, [3, 0, 147], 0, []),
  (13, .aload_n 0, 1, [], 0, []),
  (14, .getfield 15, 3, [3, 1, 148], 0, []),
  (17, .iload_n 1, 1, [], 0, []),
  (18, .iastore, 1, [], 0, []),
  (19, .aload_n 0, 1, [], 0, []),
  (20, .dup, 1, [], 0, []),
  (21, .getfield 15, 3, [3, 1, 148], 0, []),
  (24, .iconst 1, 1, [], 1, []),
  (25, .iadd, 1, [], 0, []),
  (26, .putfield 15, 3, [3, 1, 148], 0, []),
  (29, .return_, 1, [], 0, [])]
def kN_find : List am_E := [(0, .iconst 0, 1, [], 0, []),
  (1, .istore_n 2, 1, [], 0, []),
  (2, .iload_n 2, 1, [], 0, []),
  (3, .aload_n 0, 1, [], 0, []),
  (4, .getfield 15, 3, [3, 1, 148], 0, []),
  (7, .if_icmp .ge 21, 3, [16], 0, []),
  (10, .aload_n 0, 1, [], 0, []),
  (11, .getfield 9, 3, [3, 0, 147], 0, []),
  (14, .iload_n 2, 1, [], 0, []),
  (15, .iaload, 1, [], 0, []),
  (16, .iload_n 1, 1, [], 0, []),
  (17, .if_icmp .ne 5, 3, [14], 0, []),
  (20, .iload_n 2, 1, [], 0, []),
  (21, .ireturn, 1, [], 0, []),
  (22, .iinc 2 1, 3, [], 1, []),
  (25, .goto (-23), 3, [2], 0, []),
  (28, .iconst (-1), 1, [], (-1), []),
  (29, .ireturn, 1, [], 0, [])]
def kR_opn : List am_E := [(0, .aload_n 0, 1, [], 0, []),
  (1, .aload_n 1, 1, [], 0, []),
  (2, .putfield 9, 3, [4, 0, 176], 0, []),
  (5, .aload_n 0, 1, [], 0, []),
  (6, .iload_n 2, 1, [], 0, []),
  (7, .aload_n 1, 1, [], 0, []),
  (8, .arraylength, 1, [], 0, []),
  (9, .invokestatic 34, 3, [401, 1], 0, []),
  (12, .putfield 15, 3, [4, 1, 177], 0, []),
  (15, .aload_n 0, 1, [], 0, []),
  (16, .iconst 0, 1, [], 0, []),
  (17, .putfield 19, 3, [4, 2, 178], 0, []),
  (20, .aload_n 0, 1, [], 0, []),
  (21, .invokevirtual 40, 3, [46, 1, 0, 5, 404], 0, []),
  (24, .return_, 1, [], 0, [])]
def kR_step : List am_E := [(0, .aload_n 0, 1, [], 0, []),
  (1, .getfield 19, 3, [4, 2, 178], 0, []),
  (4, .aload_n 0, 1, [], 0, []),
  (5, .getfield 15, 3, [4, 1, 177], 0, []),
  (8, .if_icmp .ge 44, 3, [26], 0, []),
  (11, .aload_n 0, 1, [], 0, []),
  (12, .getfield 9, 3, [4, 0, 176], 0, []),
  (15, .aload_n 0, 1, [], 0, []),
  (16, .getfield 19, 3, [4, 2, 178], 0, []),
  (19, .iaload, 1, [], 0, []),
  (20, .bipush 10, 2, [], 10, []),
  (22, .if_icmp .eq 17, 3, [19], 0, []),
  (25, .aload_n 0, 1, [], 0, []),
  (26, .getfield 9, 3, [4, 0, 176], 0, []),
  (29, .aload_n 0, 1, [], 0, []),
  (30, .getfield 19, 3, [4, 2, 178], 0, []),
  (33, .iaload, 1, [], 0, []),
  (34, .bipush 32, 2, [], 32, []),
  (36, .if_icmp .ne 16, 3, [26], 0, []),
  (39, .aload_n 0, 1, [], 0, []),
  (40, .dup, 1, [], 0, []),
  (41, .getfield 19, 3, [4, 2, 178], 0, []),
  (44, .iconst 1, 1, [], 1, []),
  (45, .iadd, 1, [], 0, []),
  (46, .putfield 19, 3, [4, 2, 178], 0, []),
  (49, .goto (-49), 3, [0], 0, []),
  (52, .aload_n 0, 1, [], 0, []),
  (53, .aload_n 0, 1, [], 0, []),
  (54, .getfield 19, 3, [4, 2, 178], 0, []),
  (57, .putfield 25, 3, [4, 4, 181], 0, []),
  (60, .aload_n 0, 1, [], 0, []),
  (61, .getfield 19, 3, [4, 2, 178], 0, []),
  (64, .aload_n 0, 1, [], 0, []),
  (65, .getfield 15, 3, [4, 1, 177], 0, []),
  (68, .if_icmp .lt 11, 3, [39], 0, []),
  (71, .aload_n 0, 1, [], 0, []),
  (72, .iconst 0, 1, [], 0, []),
  (73, .putfield 22, 3, [4, 3, 179], 0, []),
  (76, .goto 135, 3, [107], 0, []),
  (79, .aload_n 0, 1, [], 0, []),
  (80, .aload_n 0, 1, [], 0, []),
  (81, .getfield 19, 3, [4, 2, 178], 0, []),
  (84, .invokevirtual 43, 3, [47, 2, 1, 5, 408], 0, []),
  (87, .ifCond .eq 10, 3, [47], 0, []),
  (90, .aload_n 0, 1, [], 0, []),
  (91, .invokevirtual 47, 3, [49, 1, 0, 5, 412], 0, []),
  (94, .goto 117, 3, [107], 0, []),
  (97, .aload_n 0, 1, [], 0, []),
  (98, .aload_n 0, 1, [], 0, []),
  (99, .getfield 19, 3, [4, 2, 178], 0, []),
  (102, .invokevirtual 50, 3, [48, 2, 1, 5, 416], 0, []),
  (105, .ifCond .eq 15, 3, [58], 0, []),
  (108, .aload_n 0, 1, [], 0, []),
  (109, .iconst 2, 1, [], 2, []),
  (110, .putfield 22, 3, [4, 3, 179], 0, []),
  (113, .aload_n 0, 1, [], 0, []),
  (114, .invokevirtual 53, 3, [50, 1, 0, 5, 420], 0, []),
  (117, .goto 94, 3, [107], 0, []),
  (120, .aload_n 0, 1, [], 0, []),
  (121, .getfield 9, 3, [4, 0, 176], 0, []),
  (124, .aload_n 0, 1, [], 0, []),
  (125, .getfield 19, 3, [4, 2, 178], 0, []),
  (128, .iaload, 1, [], 0, []),
  (129, .bipush 45, 2, [], 45, []),
  (131, .if_icmp .ne 47, 3, [89], 0, []),
  (134, .aload_n 0, 1, [], 0, []),
  (135, .aload_n 0, 1, [], 0, []),
  (136, .getfield 19, 3, [4, 2, 178], 0, []),
  (139, .iconst 1, 1, [], 1, []),
  (140, .iadd, 1, [], 0, []),
  (141, .invokevirtual 50, 3, [48, 2, 1, 5, 416], 0, []),
  (144, .ifCond .eq 34, 3, [89], 0, []),
  (147, .aload_n 0, 1, [], 0, []),
  (148, .iconst 3, 1, [], 3, []),
  (149, .putfield 22, 3, [4, 3, 179], 0, []),
  (152, .aload_n 0, 1, [], 0, []),
  (153, .dup, 1, [], 0, []),
  (154, .getfield 19, 3, [4, 2, 178], 0, []),
  (157, .iconst 1, 1, [], 1, []),
  (158, .iadd, 1, [], 0, []),
  (159, .putfield 19, 3, [4, 2, 178], 0, []),
  (162, .aload_n 0, 1, [], 0, []),
  (163, .invokevirtual 53, 3, [50, 1, 0, 5, 420], 0, []),
  (166, .aload_n 0, 1, [], 0, []),
  (167, .aload_n 0, 1, [], 0, []),
  (168, .getfield 31, 3, [4, 6, 185], 0, []),
  (171, .ineg, 1, [], 0, []),
  (172, .putfield 31, 3, [4, 6, 185], 0, []),
  (175, .goto 36, 3, [107], 0, []),
  (178, .aload_n 0, 1, [], 0, []),
  (179, .aload_n 0, 1, [], 0, []),
  (180, .getfield 9, 3, [4, 0, 176], 0, []),
  (183, .aload_n 0, 1, [], 0, []),
  (184, .getfield 19, 3, [4, 2, 178], 0, []),
  (187, .iaload, 1, [], 0, []),
  (188, .bipush 59, 2, [], 59, []),
  (190, .if_icmp .ne 7, 3, [99], 0, []),
  (193, .iconst 4, 1, [], 4, []),
  (194, .goto 4, 3, [100], 0, []),
  (197, .iconst 5, 1, [], 5, []),
  (198, .putfield 22, 3, [4, 3, 179], 0, []),
  (201, .aload_n 0, 1, [], 0, []),
  (202, .dup, 1, [], 0, []),
  (203, .getfield 19, 3, [4, 2, 178], 0, []),
  (206, .iconst 1, 1, [], 1, []),
  (207, .iadd, 1, [], 0, []),
  (208, .putfield 19, 3, [4, 2, 178], 0, []),
  (211, .return_, 1, [], 0, [])]
def kR_isLetterAt : List am_E := [(0, .iload_n 1, 1, [], 0, []),
  (1, .aload_n 0, 1, [], 0, []),
  (2, .getfield 15, 3, [4, 1, 177], 0, []),
  (5, .if_icmp .ge 29, 3, [18], 0, []),
  (8, .aload_n 0, 1, [], 0, []),
  (9, .getfield 9, 3, [4, 0, 176], 0, []),
  (12, .iload_n 1, 1, [], 0, []),
  (13, .iaload, 1, [], 0, []),
  (14, .bipush 97, 2, [], 97, []),
  (16, .if_icmp .lt 18, 3, [18], 0, []),
  (19, .aload_n 0, 1, [], 0, []),
  (20, .getfield 9, 3, [4, 0, 176], 0, []),
  (23, .iload_n 1, 1, [], 0, []),
  (24, .iaload, 1, [], 0, []),
  (25, .bipush 122, 2, [], 122, []),
  (27, .if_icmp .gt 7, 3, [18], 0, []),
  (30, .iconst 1, 1, [], 1, []),
  (31, .goto 4, 3, [19], 0, []),
  (34, .iconst 0, 1, [], 0, []),
  (35, .ireturn, 1, [1], 0, [])]
def kR_isDigitAt : List am_E := [(0, .iload_n 1, 1, [], 0, []),
  (1, .aload_n 0, 1, [], 0, []),
  (2, .getfield 15, 3, [4, 1, 177], 0, []),
  (5, .if_icmp .ge 29, 3, [18], 0, []),
  (8, .aload_n 0, 1, [], 0, []),
  (9, .getfield 9, 3, [4, 0, 176], 0, []),
  (12, .iload_n 1, 1, [], 0, []),
  (13, .iaload, 1, [], 0, []),
  (14, .bipush 48, 2, [], 48, []),
  (16, .if_icmp .lt 18, 3, [18], 0, []),
  (19, .aload_n 0, 1, [], 0, []),
  (20, .getfield 9, 3, [4, 0, 176], 0, []),
  (23, .iload_n 1, 1, [], 0, []),
  (24, .iaload, 1, [], 0, []),
  (25, .bipush 57, 2, [], 57, []),
  (27, .if_icmp .gt 7, 3, [18], 0, []),
  (30, .iconst 1, 1, [], 1, []),
  (31, .goto 4, 3, [19], 0, []),
  (34, .iconst 0, 1, [], 0, []),
  (35, .ireturn, 1, [1], 0, [])]
def kR_readWord : List am_E := [(0, .aload_n 0, 1, [], 0, []),
  (1, .iconst 0, 1, [], 0, []),
  (2, .putfield 28, 3, [4, 5, 183], 0, []),
  (5, .bipush 25, 2, [], 25, []),
  (7, .istore_n 1, 1, [], 0, []),
  (8, .aload_n 0, 1, [], 0, []),
  (9, .getfield 19, 3, [4, 2, 178], 0, []),
  (12, .aload_n 0, 1, [], 0, []),
  (13, .getfield 15, 3, [4, 1, 177], 0, []),
  (16, .if_icmp .ge 57, 3, [39], 0, []),
  (19, .aload_n 0, 1, [], 0, []),
  (20, .aload_n 0, 1, [], 0, []),
  (21, .getfield 19, 3, [4, 2, 178], 0, []),
  (24, .invokevirtual 43, 3, [47, 2, 1, 5, 408], 0, []),
  (27, .ifCond .eq 46, 3, [39], 0, []),
  (30, .iload_n 1, 1, [], 0, []),
  (31, .ifCond .lt 26, 3, [31], 0, []),
  (34, .aload_n 0, 1, [], 0, []),
  (35, .dup, 1, [], 0, []),
  (36, .getfield 28, 3, [4, 5, 183], 0, []),
  (39, .aload_n 0, 1, [], 0, []),
  (40, .getfield 9, 3, [4, 0, 176], 0, []),
  (43, .aload_n 0, 1, [], 0, []),
  (44, .getfield 19, 3, [4, 2, 178], 0, []),
  (47, .iaload, 1, [], 0, []),
  (48, .bipush 96, 2, [], 96, []),
  (50, .isub, 1, [], 0, []),
  (51, .iload_n 1, 1, [], 0, []),
  (52, .ishl, 1, [], 0, []),
  (53, .ior, 1, [], 0, []),
  (54, .putfield 28, 3, [4, 5, 183], 0, []),
  (57, .iinc 1 (-5), 3, [], (-5), []),
  (60, .aload_n 0, 1, [], 0, []),
  (61, .dup, 1, [], 0, []),
  (62, .getfield 19, 3, [4, 2, 178], 0, []),
  (65, .iconst 1, 1, [], 1, []),
  (66, .iadd, 1, [], 0, []),
  (67, .putfield 19, 3, [4, 2, 178], 0, []),
  (70, .goto (-62), 3, [5], 0, []),
  (73, .aload_n 0, 1, [], 0, []),
  (74, .aload_n 0, 1, [], 0, []),
  (75, .getfield 19, 3, [4, 2, 178], 0, []),
  (78, .aload_n 0, 1, [], 0, []),
  (79, .getfield 25, 3, [4, 4, 181], 0, []),
  (82, .isub, 1, [], 0, []),
  (83, .bipush 6, 2, [], 6, []),
  (85, .if_icmp .le 7, 3, [49], 0, []),
  (88, .iconst 5, 1, [], 5, []),
  (89, .goto 4, 3, [50], 0, []),
  (92, .iconst 1, 1, [], 1, []),
  (93, .putfield 22, 3, [4, 3, 179], 0, []),
  (96, .return_, 1, [], 0, [])]
def kR_readDigits : List am_E := [(0, .aload_n 0, 1, [], 0, []),
  (1, .iconst 0, 1, [], 0, []),
  (2, .putfield 31, 3, [4, 6, 185], 0, []),
  (5, .aload_n 0, 1, [], 0, []),
  (6, .getfield 19, 3, [4, 2, 178], 0, []),
  (9, .aload_n 0, 1, [], 0, []),
  (10, .getfield 15, 3, [4, 1, 177], 0, []),
  (13, .if_icmp .ge 60, 3, [38], 0, []),
  (16, .aload_n 0, 1, [], 0, []),
  (17, .aload_n 0, 1, [], 0, []),
  (18, .getfield 19, 3, [4, 2, 178], 0, []),
  (21, .invokevirtual 50, 3, [48, 2, 1, 5, 416], 0, []),
  (24, .ifCond .eq 49, 3, [38], 0, []),
  (27, .aload_n 0, 1, [], 0, []),
  (28, .getfield 31, 3, [4, 6, 185], 0, []),
  (31, .ldc 56, 2, [424], 99999, []),
  (33, .if_icmp .gt 27, 3, [31], 0, []),
  (36, .aload_n 0, 1, [], 0, []),
  (37, .aload_n 0, 1, [], 0, []),
  (38, .getfield 31, 3, [4, 6, 185], 0, []),
  (41, .bipush 10, 2, [], 10, []),
  (43, .imul, 1, [], 0, []),
  (44, .aload_n 0, 1, [], 0, []),
  (45, .getfield 9, 3, [4, 0, 176], 0, []),
  (48, .aload_n 0, 1, [], 0, []),
  (49, .getfield 19, 3, [4, 2, 178], 0, []),
  (52, .iaload, 1, [], 0, []),
  (53, .iadd, 1, [], 0, []),
  (54, .bipush 48, 2, [], 48, []),
  (56, .isub, 1, [], 0, []),
  (57, .putfield 31, 3, [4, 6, 185], 0, []),
  (60, .aload_n 0, 1, [], 0, []),
  (61, .dup, 1, [], 0, []),
  (62, .getfield 19, 3, [4, 2, 178], 0, []),
  (65, .iconst 1, 1, [], 1, []),
  (66, .iadd, 1, [], 0, []),
  (67, .putfield 19, 3, [4, 2, 178], 0, []),
  (70, .goto (-65), 3, [3], 0, []),
  (73, .return_, 1, [], 0, [])]
def kS_look : List am_E := [(0, .aload_n 2, 1, [], 0, []),
  (1, .aload_n 1, 1, [], 0, []),
  (2, .invokevirtual 19, 3, [78, 2, 1, 9, 636], 0, []),
  (5, .istore 4, 2, [], 0, []),
  (7, .aload_n 0, 1, [], 0, []),
  (8, .iconst 1, 1, [], 1, []),
  (9, .putfield 15, 3, [5, 1, 258], 0, []),
  (12, .aload_n 0, 1, [], 0, []),
  (13, .getfield 9, 3, [5, 0, 256], 0, []),
  (16, .iconst 0, 1, [], 0, []),
  (17, .aload_n 2, 1, [], 0, []),
  (18, .aload_n 1, 1, [], 0, []),
  (19, .invokevirtual 25, 3, [76, 2, 1, 9, 645], 0, []),
  (22, .iastore, 1, [], 0, []),
  (23, .aload_n 0, 1, [], 0, []),
  (24, .getfield 9, 3, [5, 0, 256], 0, []),
  (27, .iconst 1, 1, [], 1, []),
  (28, .aload_n 2, 1, [], 0, []),
  (29, .aload_n 1, 1, [], 0, []),
  (30, .invokevirtual 28, 3, [79, 2, 1, 9, 649], 0, []),
  (33, .iastore, 1, [], 0, []),
  (34, .aload_n 0, 1, [], 0, []),
  (35, .getfield 9, 3, [5, 0, 256], 0, []),
  (38, .iconst 2, 1, [], 2, []),
  (39, .iload 4, 2, [], 0, []),
  (41, .iconst (-1), 1, [], (-1), []),
  (42, .if_icmp .ne 8, 3, [29], 0, []),
  (45, .bipush (-2), 2, [], (-2), []),
  (47, .goto 10, 3, [33], 0, []),
  (50, .aload_n 2, 1, [], 0, []),
  (51, .getfield 31, 3, [8, 0, 272], 0, []),
  (54, .iload 4, 2, [], 0, []),
  (56, .iaload, 1, [], 0, []),
  (57, .iastore, 1, [], 0, []),
  (58, .aload_n 0, 1, [], 0, []),
  (59, .getfield 9, 3, [5, 0, 256], 0, []),
  (62, .iconst 3, 1, [], 3, []),
  (63, .iload 4, 2, [], 0, []),
  (65, .iconst (-1), 1, [], (-1), []),
  (66, .if_icmp .ne 8, 3, [42], 0, []),
  (69, .bipush (-2), 2, [], (-2), []),
  (71, .goto 12, 3, [48], 0, []),
  (74, .aload_n 2, 1, [], 0, []),
  (75, .getfield 31, 3, [8, 0, 272], 0, []),
  (78, .iload 4, 2, [], 0, []),
  (80, .iconst 1, 1, [], 1, []),
  (81, .iadd, 1, [], 0, []),
  (82, .iaload, 1, [], 0, []),
  (83, .iastore, 1, [], 0, []),
  (84, .aload_n 0, 1, [], 0, []),
  (85, .getfield 9, 3, [5, 0, 256], 0, []),
  (88, .iconst 4, 1, [], 4, []),
  (89, .aload_n 2, 1, [], 0, []),
  (90, .aload_n 1, 1, [], 0, []),
  (91, .aload_n 1, 1, [], 0, []),
  (92, .getfield 34, 3, [0, 3, 110], 0, []),
  (95, .invokevirtual 39, 3, [81, 3, 1, 9, 654], 0, []),
  (98, .iastore, 1, [], 0, []),
  (99, .aload_n 0, 1, [], 0, []),
  (100, .getfield 9, 3, [5, 0, 256], 0, []),
  (103, .iconst 5, 1, [], 5, []),
  (104, .aload_n 2, 1, [], 0, []),
  (105, .aload_n 1, 1, [], 0, []),
  (106, .invokevirtual 43, 3, [77, 2, 1, 9, 658], 0, []),
  (109, .iastore, 1, [], 0, []),
  (110, .aload_n 0, 1, [], 0, []),
  (111, .getfield 9, 3, [5, 0, 256], 0, []),
  (114, .bipush 6, 2, [], 6, []),
  (116, .aload_n 2, 1, [], 0, []),
  (117, .getfield 46, 3, [8, 1, 275], 0, []),
  (120, .iastore, 1, [], 0, []),
  (121, .aload_n 0, 1, [], 0, []),
  (122, .getfield 9, 3, [5, 0, 256], 0, []),
  (125, .bipush 7, 2, [], 7, []),
  (127, .iload_n 3, 1, [], 0, []),
  (128, .iastore, 1, [], 0, []),
  (129, .aload_n 0, 1, [], 0, []),
  (130, .getfield 9, 3, [5, 0, 256], 0, []),
  (133, .bipush 8, 2, [], 8, []),
  (135, .aload_n 2, 1, [], 0, []),
  (136, .aload_n 1, 1, [], 0, []),
  (137, .aload_n 1, 1, [], 0, []),
  (138, .getfield 50, 3, [0, 2, 105], 0, []),
  (141, .invokevirtual 39, 3, [81, 3, 1, 9, 654], 0, []),
  (144, .iastore, 1, [], 0, []),
  (145, .return_, 1, [], 0, [])]
def kV_lineUp : List am_E := [(0, .aload_n 0, 1, [], 0, []),
  (1, .iconst 0, 1, [], 0, []),
  (2, .putfield 15, 3, [6, 1, 292], 0, []),
  (5, .aload_n 0, 1, [], 0, []),
  (6, .getfield 19, 3, [6, 2, 294], 0, []),
  (9, .iconst 0, 1, [], 0, []),
  (10, .iload_n 2, 1, [], 0, []),
  (11, .iastore, 1, [], 0, []),
  (12, .iconst 1, 1, [], 1, []),
  (13, .istore_n 3, 1, [], 0, []),
  (14, .iconst 0, 1, [], 0, []),
  (15, .istore 4, 2, [], 0, []),
  (17, .iload 4, 2, [], 0, []),
  (19, .bipush 24, 2, [], 24, []),
  (21, .if_icmp .ge 54, 3, [43], 0, []),
  (24, .iload_n 3, 1, [], 0, []),
  (25, .ifCond .le 50, 3, [43], 0, []),
  (28, .iinc 3 (-1), 3, [], (-1), []),
  (31, .aload_n 0, 1, [], 0, []),
  (32, .getfield 19, 3, [6, 2, 294], 0, []),
  (35, .iload_n 3, 1, [], 0, []),
  (36, .iaload, 1, [], 0, []),
  (37, .istore 5, 2, [], 0, []),
  (39, .aload_n 0, 1, [], 0, []),
  (40, .getfield 9, 3, [6, 0, 290], 0, []),
  (43, .aload_n 0, 1, [], 0, []),
  (44, .getfield 15, 3, [6, 1, 292], 0, []),
  (47, .iload 5, 2, [], 0, []),
  (49, .iastore, 1, [], 0, []),
  (50, .aload_n 0, 1, [], 0, []),
  (51, .dup, 1, [], 0, []),
  (52, .getfield 15, 3, [6, 1, 292], 0, []),
  (55, .iconst 1, 1, [], 1, []),
  (56, .iadd, 1, [], 0, []),
  (57, .putfield 15, 3, [6, 1, 292], 0, []),
  (60, .aload_n 0, 1, [], 0, []),
  (61, .aload_n 1, 1, [], 0, []),
  (62, .iload 5, 2, [], 0, []),
  (64, .iload_n 3, 1, [], 0, []),
  (65, .invokevirtual 36, 3, [53, 4, 1, 7, 763], 0, []),
  (68, .istore_n 3, 1, [], 0, []),
  (69, .iinc 4 1, 3, [], 1, []),
  (72, .goto (-55), 3, [12], 0, []),
  (75, .return_, 1, [], 0, [])]
def kV_opnChildren : List am_E := [(0, .iload_n 3, 1, [], 0, []),
  (1, .istore 4, 2, [], 0, []),
  (3, .aload_n 1, 1, [], 0, []),
  (4, .getfield 40, 3, [0, 1, 102], 0, []),
  (7, .iload_n 2, 1, [], 0, []),
  (8, .iaload, 1, [], 0, []),
  (9, .istore 5, 2, [], 0, []),
  (11, .aload_n 1, 1, [], 0, []),
  (12, .getfield 45, 3, [0, 6, 117], 0, []),
  (15, .iconst 1, 1, [], 1, []),
  (16, .isub, 1, [], 0, []),
  (17, .istore 6, 2, [], 0, []),
  (19, .iload 6, 2, [], 0, []),
  (21, .ifCond .lt 46, 3, [34], 0, []),
  (24, .aload_n 1, 1, [], 0, []),
  (25, .getfield 46, 3, [0, 0, 99], 0, []),
  (28, .iload 6, 2, [], 0, []),
  (30, .iaload, 1, [], 0, []),
  (31, .iload_n 2, 1, [], 0, []),
  (32, .if_icmp .ne 29, 3, [32], 0, []),
  (35, .iload 6, 2, [], 0, []),
  (37, .iload 5, 2, [], 0, []),
  (39, .if_icmp .eq 22, 3, [32], 0, []),
  (42, .iload 4, 2, [], 0, []),
  (44, .bipush 24, 2, [], 24, []),
  (46, .if_icmp .ge 15, 3, [32], 0, []),
  (49, .aload_n 0, 1, [], 0, []),
  (50, .getfield 19, 3, [6, 2, 294], 0, []),
  (53, .iload 4, 2, [], 0, []),
  (55, .iload 6, 2, [], 0, []),
  (57, .iastore, 1, [], 0, []),
  (58, .iinc 4 1, 3, [], 1, []),
  (61, .iinc 6 (-1), 3, [], (-1), []),
  (64, .goto (-45), 3, [12], 0, []),
  (67, .iload 5, 2, [], 0, []),
  (69, .iconst (-1), 1, [], (-1), []),
  (70, .if_icmp .eq 22, 3, [46], 0, []),
  (73, .iload 4, 2, [], 0, []),
  (75, .bipush 24, 2, [], 24, []),
  (77, .if_icmp .ge 15, 3, [46], 0, []),
  (80, .aload_n 0, 1, [], 0, []),
  (81, .getfield 19, 3, [6, 2, 294], 0, []),
  (84, .iload 4, 2, [], 0, []),
  (86, .iload 5, 2, [], 0, []),
  (88, .iastore, 1, [], 0, []),
  (89, .iinc 4 1, 3, [], 1, []),
  (92, .iload 4, 2, [], 0, []),
  (94, .ireturn, 1, [], 0, [])]
def kV_placeOf : List am_E := [(0, .iconst 0, 1, [], 0, []),
  (1, .istore_n 2, 1, [], 0, []),
  (2, .iload_n 2, 1, [], 0, []),
  (3, .aload_n 0, 1, [], 0, []),
  (4, .getfield 15, 3, [6, 1, 292], 0, []),
  (7, .if_icmp .ge 21, 3, [16], 0, []),
  (10, .aload_n 0, 1, [], 0, []),
  (11, .getfield 9, 3, [6, 0, 290], 0, []),
  (14, .iload_n 2, 1, [], 0, []),
  (15, .iaload, 1, [], 0, []),
  (16, .iload_n 1, 1, [], 0, []),
  (17, .if_icmp .ne 5, 3, [14], 0, []),
  (20, .iload_n 2, 1, [], 0, []),
  (21, .ireturn, 1, [], 0, []),
  (22, .iinc 2 1, 3, [], 1, []),
  (25, .goto (-23), 3, [2], 0, []),
  (28, .iconst (-1), 1, [], (-1), []),
  (29, .ireturn, 1, [], 0, [])]
def kV_measure : List am_E := [(0, .aload_n 0, 1, [], 0, []),
  (1, .aload_n 1, 1, [], 0, []),
  (2, .iload_n 2, 1, [], 0, []),
  (3, .invokevirtual 49, 3, [52, 3, 0, 7, 792], 0, []),
  (6, .iconst 0, 1, [], 0, []),
  (7, .istore_n 3, 1, [], 0, []),
  (8, .iload_n 3, 1, [], 0, []),
  (9, .aload_n 0, 1, [], 0, []),
  (10, .getfield 15, 3, [6, 1, 292], 0, []),
  (13, .if_icmp .ge 111, 3, [70], 0, []),
  (16, .aload_n 0, 1, [], 0, []),
  (17, .getfield 9, 3, [6, 0, 290], 0, []),
  (20, .iload_n 3, 1, [], 0, []),
  (21, .iaload, 1, [], 0, []),
  (22, .istore 4, 2, [], 0, []),
  (24, .aload_n 1, 1, [], 0, []),
  (25, .getfield 46, 3, [0, 0, 99], 0, []),
  (28, .iload 4, 2, [], 0, []),
  (30, .iaload, 1, [], 0, []),
  (31, .istore 5, 2, [], 0, []),
  (33, .aload_n 0, 1, [], 0, []),
  (34, .getfield 27, 3, [6, 4, 296], 0, []),
  (37, .iload 4, 2, [], 0, []),
  (39, .aaload, 1, [], 0, []),
  (40, .iload 4, 2, [], 0, []),
  (42, .iconst 0, 1, [], 0, []),
  (43, .iastore, 1, [], 0, []),
  (44, .iconst 0, 1, [], 0, []),
  (45, .istore 6, 2, [], 0, []),
  (47, .iload 6, 2, [], 0, []),
  (49, .iload_n 3, 1, [], 0, []),
  (50, .if_icmp .ge 68, 3, [68], 0, []),
  (53, .iload 5, 2, [], 0, []),
  (55, .iconst (-1), 1, [], (-1), []),
  (56, .if_icmp .eq 62, 3, [68], 0, []),
  (59, .aload_n 0, 1, [], 0, []),
  (60, .getfield 9, 3, [6, 0, 290], 0, []),
  (63, .iload 6, 2, [], 0, []),
  (65, .iaload, 1, [], 0, []),
  (66, .istore 7, 2, [], 0, []),
  (68, .aload_n 0, 1, [], 0, []),
  (69, .getfield 27, 3, [6, 4, 296], 0, []),
  (72, .iload 5, 2, [], 0, []),
  (74, .aaload, 1, [], 0, []),
  (75, .iload 7, 2, [], 0, []),
  (77, .iaload, 1, [], 0, []),
  (78, .aload_n 1, 1, [], 0, []),
  (79, .getfield 53, 3, [0, 2, 107], 0, []),
  (82, .iload 4, 2, [], 0, []),
  (84, .iaload, 1, [], 0, []),
  (85, .iadd, 1, [], 0, []),
  (86, .istore 8, 2, [], 0, []),
  (88, .aload_n 0, 1, [], 0, []),
  (89, .getfield 27, 3, [6, 4, 296], 0, []),
  (92, .iload 4, 2, [], 0, []),
  (94, .aaload, 1, [], 0, []),
  (95, .iload 7, 2, [], 0, []),
  (97, .iload 8, 2, [], 0, []),
  (99, .iastore, 1, [], 0, []),
  (100, .aload_n 0, 1, [], 0, []),
  (101, .getfield 27, 3, [6, 4, 296], 0, []),
  (104, .iload 7, 2, [], 0, []),
  (106, .aaload, 1, [], 0, []),
  (107, .iload 4, 2, [], 0, []),
  (109, .iload 8, 2, [], 0, []),
  (111, .iastore, 1, [], 0, []),
  (112, .iinc 6 1, 3, [], 1, []),
  (115, .goto (-68), 3, [29], 0, []),
  (118, .iinc 3 1, 3, [], 1, []),
  (121, .goto (-113), 3, [6], 0, []),
  (124, .iconst 0, 1, [], 0, []),
  (125, .istore_n 3, 1, [], 0, []),
  (126, .iload_n 3, 1, [], 0, []),
  (127, .aload_n 0, 1, [], 0, []),
  (128, .getfield 15, 3, [6, 1, 292], 0, []),
  (131, .if_icmp .ge 30, 3, [91], 0, []),
  (134, .aload_n 0, 1, [], 0, []),
  (135, .getfield 30, 3, [6, 5, 297], 0, []),
  (138, .aload_n 0, 1, [], 0, []),
  (139, .getfield 9, 3, [6, 0, 290], 0, []),
  (142, .iload_n 3, 1, [], 0, []),
  (143, .iaload, 1, [], 0, []),
  (144, .aload_n 0, 1, [], 0, []),
  (145, .aload_n 0, 1, [], 0, []),
  (146, .getfield 9, 3, [6, 0, 290], 0, []),
  (149, .iload_n 3, 1, [], 0, []),
  (150, .iaload, 1, [], 0, []),
  (151, .invokevirtual 56, 3, [56, 2, 1, 7, 793], 0, []),
  (154, .iastore, 1, [], 0, []),
  (155, .iinc 3 1, 3, [], 1, []),
  (158, .goto (-32), 3, [72], 0, []),
  (161, .return_, 1, [], 0, [])]
def kV_farthestFrom : List am_E := [(0, .iconst 0, 1, [], 0, []),
  (1, .istore_n 2, 1, [], 0, []),
  (2, .iconst 0, 1, [], 0, []),
  (3, .istore_n 3, 1, [], 0, []),
  (4, .iload_n 3, 1, [], 0, []),
  (5, .aload_n 0, 1, [], 0, []),
  (6, .getfield 15, 3, [6, 1, 292], 0, []),
  (9, .if_icmp .ge 27, 3, [22], 0, []),
  (12, .iload_n 2, 1, [], 0, []),
  (13, .aload_n 0, 1, [], 0, []),
  (14, .getfield 27, 3, [6, 4, 296], 0, []),
  (17, .iload_n 1, 1, [], 0, []),
  (18, .aaload, 1, [], 0, []),
  (19, .aload_n 0, 1, [], 0, []),
  (20, .getfield 9, 3, [6, 0, 290], 0, []),
  (23, .iload_n 3, 1, [], 0, []),
  (24, .iaload, 1, [], 0, []),
  (25, .iaload, 1, [], 0, []),
  (26, .invokestatic 60, 3, [797, 0], 0, []),
  (29, .istore_n 2, 1, [], 0, []),
  (30, .iinc 3 1, 3, [], 1, []),
  (33, .goto (-29), 3, [4], 0, []),
  (36, .iload_n 2, 1, [], 0, []),
  (37, .ireturn, 1, [], 0, [])]
def kV_widestReach : List am_E := [(0, .iconst 0, 1, [], 0, []),
  (1, .istore_n 1, 1, [], 0, []),
  (2, .iconst 0, 1, [], 0, []),
  (3, .istore_n 2, 1, [], 0, []),
  (4, .iload_n 2, 1, [], 0, []),
  (5, .aload_n 0, 1, [], 0, []),
  (6, .getfield 15, 3, [6, 1, 292], 0, []),
  (9, .if_icmp .ge 25, 3, [20], 0, []),
  (12, .iload_n 1, 1, [], 0, []),
  (13, .aload_n 0, 1, [], 0, []),
  (14, .getfield 30, 3, [6, 5, 297], 0, []),
  (17, .aload_n 0, 1, [], 0, []),
  (18, .getfield 9, 3, [6, 0, 290], 0, []),
  (21, .iload_n 2, 1, [], 0, []),
  (22, .iaload, 1, [], 0, []),
  (23, .iaload, 1, [], 0, []),
  (24, .invokestatic 60, 3, [797, 0], 0, []),
  (27, .istore_n 1, 1, [], 0, []),
  (28, .iinc 2 1, 3, [], 1, []),
  (31, .goto (-27), 3, [4], 0, []),
  (34, .iload_n 1, 1, [], 0, []),
  (35, .ireturn, 1, [], 0, [])]
def kV_findHomes : List am_E := [(0, .iconst 0, 1, [], 0, []),
  (1, .istore_n 2, 1, [], 0, []),
  (2, .iload_n 2, 1, [], 0, []),
  (3, .aload_n 1, 1, [], 0, []),
  (4, .getfield 45, 3, [0, 6, 117], 0, []),
  (7, .if_icmp .ge 20, 3, [15], 0, []),
  (10, .aload_n 0, 1, [], 0, []),
  (11, .getfield 22, 3, [6, 3, 295], 0, []),
  (14, .iload_n 2, 1, [], 0, []),
  (15, .aload_n 1, 1, [], 0, []),
  (16, .iload_n 2, 1, [], 0, []),
  (17, .invokevirtual 66, 3, [11, 2, 1, 1, 783], 0, []),
  (20, .iastore, 1, [], 0, []),
  (21, .iinc 2 1, 3, [], 1, []),
  (24, .goto (-22), 3, [2], 0, []),
  (27, .return_, 1, [], 0, [])]
def kV_setPair : List am_E := [(0, .aload_n 0, 1, [], 0, []),
  (1, .getfield 33, 3, [6, 6, 298], 0, []),
  (4, .iconst 0, 1, [], 0, []),
  (5, .iload_n 1, 1, [], 0, []),
  (6, .iastore, 1, [], 0, []),
  (7, .aload_n 0, 1, [], 0, []),
  (8, .getfield 33, 3, [6, 6, 298], 0, []),
  (11, .iconst 1, 1, [], 1, []),
  (12, .iload_n 2, 1, [], 0, []),
  (13, .iastore, 1, [], 0, []),
  (14, .aload_n 0, 1, [], 0, []),
  (15, .getfield 33, 3, [6, 6, 298], 0, []),
  (18, .iconst 2, 1, [], 2, []),
  (19, .iload_n 3, 1, [], 0, []),
  (20, .iastore, 1, [], 0, []),
  (21, .return_, 1, [], 0, [])]
def kV_findWidest : List am_E := [(0, .aload_n 1, 1, [], 0, []),
  (1, .iload_n 2, 1, [], 0, []),
  (2, .invokevirtual 66, 3, [11, 2, 1, 1, 783], 0, []),
  (5, .istore_n 3, 1, [], 0, []),
  (6, .aload_n 0, 1, [], 0, []),
  (7, .aload_n 1, 1, [], 0, []),
  (8, .invokevirtual 69, 3, [58, 2, 0, 7, 784], 0, []),
  (11, .aload_n 0, 1, [], 0, []),
  (12, .aload_n 1, 1, [], 0, []),
  (13, .iload_n 3, 1, [], 0, []),
  (14, .invokevirtual 73, 3, [55, 3, 0, 7, 788], 0, []),
  (17, .aload_n 0, 1, [], 0, []),
  (18, .iconst 0, 1, [], 0, []),
  (19, .iload_n 2, 1, [], 0, []),
  (20, .iload_n 2, 1, [], 0, []),
  (21, .invokevirtual 76, 3, [59, 4, 0, 7, 804], 0, []),
  (24, .iconst 0, 1, [], 0, []),
  (25, .istore 4, 2, [], 0, []),
  (27, .iload 4, 2, [], 0, []),
  (29, .aload_n 1, 1, [], 0, []),
  (30, .getfield 45, 3, [0, 6, 117], 0, []),
  (33, .if_icmp .ge 89, 3, [67], 0, []),
  (36, .iload 4, 2, [], 0, []),
  (38, .iconst 1, 1, [], 1, []),
  (39, .iadd, 1, [], 0, []),
  (40, .istore 5, 2, [], 0, []),
  (42, .iload 5, 2, [], 0, []),
  (44, .aload_n 1, 1, [], 0, []),
  (45, .getfield 45, 3, [0, 6, 117], 0, []),
  (48, .if_icmp .ge 68, 3, [65], 0, []),
  (51, .aload_n 0, 1, [], 0, []),
  (52, .getfield 22, 3, [6, 3, 295], 0, []),
  (55, .iload 4, 2, [], 0, []),
  (57, .iaload, 1, [], 0, []),
  (58, .iload_n 3, 1, [], 0, []),
  (59, .if_icmp .ne 51, 3, [63], 0, []),
  (62, .aload_n 0, 1, [], 0, []),
  (63, .getfield 22, 3, [6, 3, 295], 0, []),
  (66, .iload 5, 2, [], 0, []),
  (68, .iaload, 1, [], 0, []),
  (69, .iload_n 3, 1, [], 0, []),
  (70, .if_icmp .ne 40, 3, [63], 0, []),
  (73, .aload_n 0, 1, [], 0, []),
  (74, .getfield 27, 3, [6, 4, 296], 0, []),
  (77, .iload 4, 2, [], 0, []),
  (79, .aaload, 1, [], 0, []),
  (80, .iload 5, 2, [], 0, []),
  (82, .iaload, 1, [], 0, []),
  (83, .aload_n 0, 1, [], 0, []),
  (84, .getfield 33, 3, [6, 6, 298], 0, []),
  (87, .iconst 0, 1, [], 0, []),
  (88, .iaload, 1, [], 0, []),
  (89, .if_icmp .le 21, 3, [63], 0, []),
  (92, .aload_n 0, 1, [], 0, []),
  (93, .aload_n 0, 1, [], 0, []),
  (94, .getfield 27, 3, [6, 4, 296], 0, []),
  (97, .iload 4, 2, [], 0, []),
  (99, .aaload, 1, [], 0, []),
  (100, .iload 5, 2, [], 0, []),
  (102, .iaload, 1, [], 0, []),
  (103, .iload 4, 2, [], 0, []),
  (105, .iload 5, 2, [], 0, []),
  (107, .invokevirtual 76, 3, [59, 4, 0, 7, 804], 0, []),
  (110, .iinc 5 1, 3, [], 1, []),
  (113, .goto (-71), 3, [26], 0, []),
  (116, .iinc 4 1, 3, [], 1, []),
  (119, .goto (-92), 3, [18], 0, []),
  (122, .return_, 1, [], 0, [])]
def kV_findJoint : List am_E := [(0, .aload_n 1, 1, [], 0, []),
  (1, .iload_n 2, 1, [], 0, []),
  (2, .invokevirtual 66, 3, [11, 2, 1, 1, 783], 0, []),
  (5, .istore 4, 2, [], 0, []),
  (7, .aload_n 1, 1, [], 0, []),
  (8, .iload_n 3, 1, [], 0, []),
  (9, .invokevirtual 66, 3, [11, 2, 1, 1, 783], 0, []),
  (12, .istore 5, 2, [], 0, []),
  (14, .aload_n 0, 1, [], 0, []),
  (15, .aload_n 1, 1, [], 0, []),
  (16, .invokevirtual 69, 3, [58, 2, 0, 7, 784], 0, []),
  (19, .aload_n 0, 1, [], 0, []),
  (20, .aload_n 1, 1, [], 0, []),
  (21, .iload 4, 2, [], 0, []),
  (23, .invokevirtual 73, 3, [55, 3, 0, 7, 788], 0, []),
  (26, .aload_n 0, 1, [], 0, []),
  (27, .invokevirtual 80, 3, [57, 1, 1, 7, 800], 0, []),
  (30, .istore 6, 2, [], 0, []),
  (32, .aload_n 0, 1, [], 0, []),
  (33, .aload_n 1, 1, [], 0, []),
  (34, .iload 5, 2, [], 0, []),
  (36, .invokevirtual 73, 3, [55, 3, 0, 7, 788], 0, []),
  (39, .iload 6, 2, [], 0, []),
  (41, .aload_n 0, 1, [], 0, []),
  (42, .invokevirtual 80, 3, [57, 1, 1, 7, 800], 0, []),
  (45, .invokestatic 60, 3, [797, 0], 0, []),
  (48, .istore 6, 2, [], 0, []),
  (50, .aload_n 0, 1, [], 0, []),
  (51, .iconst (-1), 1, [], (-1), []),
  (52, .iconst (-1), 1, [], (-1), []),
  (53, .iconst (-1), 1, [], (-1), []),
  (54, .invokevirtual 76, 3, [59, 4, 0, 7, 804], 0, []),
  (57, .iconst 0, 1, [], 0, []),
  (58, .istore 7, 2, [], 0, []),
  (60, .iload 7, 2, [], 0, []),
  (62, .aload_n 1, 1, [], 0, []),
  (63, .getfield 45, 3, [0, 6, 117], 0, []),
  (66, .if_icmp .ge 106, 3, [91], 0, []),
  (69, .iconst 0, 1, [], 0, []),
  (70, .istore 8, 2, [], 0, []),
  (72, .iload 8, 2, [], 0, []),
  (74, .aload_n 1, 1, [], 0, []),
  (75, .getfield 45, 3, [0, 6, 117], 0, []),
  (78, .if_icmp .ge 88, 3, [89], 0, []),
  (81, .aload_n 0, 1, [], 0, []),
  (82, .getfield 22, 3, [6, 3, 295], 0, []),
  (85, .iload 7, 2, [], 0, []),
  (87, .iaload, 1, [], 0, []),
  (88, .iload 4, 2, [], 0, []),
  (90, .if_icmp .ne 70, 3, [87], 0, []),
  (93, .aload_n 0, 1, [], 0, []),
  (94, .getfield 22, 3, [6, 3, 295], 0, []),
  (97, .iload 8, 2, [], 0, []),
  (99, .iaload, 1, [], 0, []),
  (100, .iload 5, 2, [], 0, []),
  (102, .if_icmp .ne 58, 3, [87], 0, []),
  (105, .iload 6, 2, [], 0, []),
  (107, .aload_n 0, 1, [], 0, []),
  (108, .getfield 30, 3, [6, 5, 297], 0, []),
  (111, .iload 7, 2, [], 0, []),
  (113, .iaload, 1, [], 0, []),
  (114, .iconst 1, 1, [], 1, []),
  (115, .iadd, 1, [], 0, []),
  (116, .aload_n 0, 1, [], 0, []),
  (117, .getfield 30, 3, [6, 5, 297], 0, []),
  (120, .iload 8, 2, [], 0, []),
  (122, .iaload, 1, [], 0, []),
  (123, .iadd, 1, [], 0, []),
  (124, .invokestatic 60, 3, [797, 0], 0, []),
  (127, .istore 9, 2, [], 0, []),
  (129, .aload_n 0, 1, [], 0, []),
  (130, .getfield 33, 3, [6, 6, 298], 0, []),
  (133, .iconst 0, 1, [], 0, []),
  (134, .iaload, 1, [], 0, []),
  (135, .iconst (-1), 1, [], (-1), []),
  (136, .if_icmp .eq 14, 3, [82], 0, []),
  (139, .iload 9, 2, [], 0, []),
  (141, .aload_n 0, 1, [], 0, []),
  (142, .getfield 33, 3, [6, 6, 298], 0, []),
  (145, .iconst 0, 1, [], 0, []),
  (146, .iaload, 1, [], 0, []),
  (147, .if_icmp .ge 13, 3, [87], 0, []),
  (150, .aload_n 0, 1, [], 0, []),
  (151, .iload 9, 2, [], 0, []),
  (153, .iload 7, 2, [], 0, []),
  (155, .iload 8, 2, [], 0, []),
  (157, .invokevirtual 76, 3, [59, 4, 0, 7, 804], 0, []),
  (160, .iinc 8 1, 3, [], 1, []),
  (163, .goto (-91), 3, [40], 0, []),
  (166, .iinc 7 1, 3, [], 1, []),
  (169, .goto (-109), 3, [34], 0, []),
  (172, .return_, 1, [], 0, [])]
def kT_tell : List am_E := [(0, .aload_n 0, 1, [], 0, []),
  (1, .getfield 21, 3, [7, 1, 207], 0, []),
  (4, .invokevirtual 42, 3, [0, 1, 0, 1, 389], 0, []),
  (7, .aload_n 0, 1, [], 0, []),
  (8, .getfield 28, 3, [7, 2, 209], 0, []),
  (11, .invokevirtual 45, 3, [41, 1, 0, 4, 393], 0, []),
  (14, .aload_n 0, 1, [], 0, []),
  (15, .iconst 0, 1, [], 0, []),
  (16, .putfield 32, 3, [7, 3, 211], 0, []),
  (19, .aload_n 0, 1, [], 0, []),
  (20, .iconst 0, 1, [], 0, []),
  (21, .putfield 36, 3, [7, 4, 213], 0, []),
  (24, .aload_n 0, 1, [], 0, []),
  (25, .iconst (-1), 1, [], (-1), []),
  (26, .putfield 39, 3, [7, 5, 215], 0, []),
  (29, .aload_n 0, 1, [], 0, []),
  (30, .getfield 12, 3, [7, 0, 206], 0, []),
  (33, .aload_n 1, 1, [], 0, []),
  (34, .iload_n 2, 1, [], 0, []),
  (35, .invokevirtual 46, 3, [45, 3, 0, 5, 397], 0, []),
  (38, .iconst 0, 1, [], 0, []),
  (39, .istore_n 3, 1, [], 0, []),
  (40, .iload_n 3, 1, [], 0, []),
  (41, .sipush 700, 3, [], 700, []),
  (44, .if_icmp .gt 38, 3, [42], 0, []),
  (47, .aload_n 0, 1, [], 0, []),
  (48, .getfield 12, 3, [7, 0, 206], 0, []),
  (51, .getfield 50, 3, [4, 3, 180], 0, []),
  (54, .ifCond .eq 28, 3, [42], 0, []),
  (57, .aload_n 0, 1, [], 0, []),
  (58, .invokevirtual 53, 3, [64, 1, 1, 8, 425], 0, []),
  (61, .ifCond .ne 5, 3, [34], 0, []),
  (64, .iconst 0, 1, [], 0, []),
  (65, .ireturn, 1, [1], 0, []),
  (66, .aload_n 0, 1, [], 0, []),
  (67, .dup, 1, [], 0, []),
  (68, .getfield 32, 3, [7, 3, 211], 0, []),
  (71, .iconst 1, 1, [], 1, []),
  (72, .iadd, 1, [], 0, []),
  (73, .putfield 32, 3, [7, 3, 211], 0, []),
  (76, .iinc 3 1, 3, [], 1, []),
  (79, .goto (-39), 3, [22], 0, []),
  (82, .iconst 1, 1, [], 1, []),
  (83, .ireturn, 1, [1], 0, [])]
def kT_fail : List am_E := [(0, .aload_n 0, 1, [], 0, []),
  (1, .iload_n 1, 1, [], 0, []),
  (2, .putfield 36, 3, [7, 4, 213], 0, []),
  (5, .aload_n 0, 1, [], 0, []),
  (6, .aload_n 0, 1, [], 0, []),
  (7, .getfield 12, 3, [7, 0, 206], 0, []),
  (10, .getfield 57, 3, [4, 4, 182], 0, []),
  (13, .putfield 39, 3, [7, 5, 215], 0, []),
  (16, .iconst 0, 1, [], 0, []),
  (17, .ireturn, 1, [1], 0, [])]
def kT_tellLine : List am_E := [(0, .aload_n 0, 1, [], 0, []),
  (1, .getfield 12, 3, [7, 0, 206], 0, []),
  (4, .getfield 50, 3, [4, 3, 180], 0, []),
  (7, .iconst 1, 1, [], 1, []),
  (8, .if_icmp .eq 9, 3, [9], 0, []),
  (11, .aload_n 0, 1, [], 0, []),
  (12, .iconst 1, 1, [], 1, []),
  (13, .invokevirtual 60, 3, [63, 2, 1, 8, 429], 0, []),
  (16, .ireturn, 1, [1], 0, []),
  (17, .aload_n 0, 1, [], 0, []),
  (18, .getfield 12, 3, [7, 0, 206], 0, []),
  (21, .getfield 64, 3, [4, 5, 184], 0, []),
  (24, .istore_n 1, 1, [], 0, []),
  (25, .iload_n 1, 1, [], 0, []),
  (26, .lookupswitch 79 #[(412560384, 63), (620220416, 68), (642945024, 74), (643453317, 68), (687508736, 68), (687585280, 58)], 58, [28], 0, [(412560384, 18), (620220416, 21), (642945024, 25), (643453317, 21), (687508736, 21), (687585280, 15)]),
  (84, .aload_n 0, 1, [], 0, []),
  (85, .invokevirtual 67, 3, [65, 1, 1, 8, 433], 0, []),
  (88, .ireturn, 1, [1], 0, []),
  (89, .aload_n 0, 1, [], 0, []),
  (90, .invokevirtual 70, 3, [66, 1, 1, 8, 465], 0, []),
  (93, .ireturn, 1, [1], 0, []),
  (94, .aload_n 0, 1, [], 0, []),
  (95, .iload_n 1, 1, [], 0, []),
  (96, .invokevirtual 73, 3, [67, 2, 1, 8, 509], 0, []),
  (99, .ireturn, 1, [1], 0, []),
  (100, .aload_n 0, 1, [], 0, []),
  (101, .invokevirtual 76, 3, [68, 1, 1, 8, 530], 0, []),
  (104, .ireturn, 1, [1], 0, []),
  (105, .aload_n 0, 1, [], 0, []),
  (106, .iconst 1, 1, [], 1, []),
  (107, .invokevirtual 60, 3, [63, 2, 1, 8, 429], 0, []),
  (110, .ireturn, 1, [1], 0, [])]
def kT_tellTown : List am_E := [(0, .aload_n 0, 1, [], 0, []),
  (1, .getfield 28, 3, [7, 2, 209], 0, []),
  (4, .getfield 79, 3, [3, 1, 149], 0, []),
  (7, .bipush 24, 2, [], 24, []),
  (9, .if_icmp .lt 9, 3, [9], 0, []),
  (12, .aload_n 0, 1, [], 0, []),
  (13, .iconst 2, 1, [], 2, []),
  (14, .invokevirtual 60, 3, [63, 2, 1, 8, 429], 0, []),
  (17, .ireturn, 1, [1], 0, []),
  (18, .aload_n 0, 1, [], 0, []),
  (19, .getfield 12, 3, [7, 0, 206], 0, []),
  (22, .invokevirtual 82, 3, [46, 1, 0, 5, 437], 0, []),
  (25, .aload_n 0, 1, [], 0, []),
  (26, .invokevirtual 85, 3, [69, 1, 1, 8, 438], 0, []),
  (29, .ifCond .ne 9, 3, [19], 0, []),
  (32, .aload_n 0, 1, [], 0, []),
  (33, .iconst 1, 1, [], 1, []),
  (34, .invokevirtual 60, 3, [63, 2, 1, 8, 429], 0, []),
  (37, .ireturn, 1, [1], 0, []),
  (38, .aload_n 0, 1, [], 0, []),
  (39, .getfield 12, 3, [7, 0, 206], 0, []),
  (42, .getfield 64, 3, [4, 5, 184], 0, []),
  (45, .istore_n 1, 1, [], 0, []),
  (46, .aload_n 0, 1, [], 0, []),
  (47, .getfield 28, 3, [7, 2, 209], 0, []),
  (50, .iload_n 1, 1, [], 0, []),
  (51, .invokevirtual 88, 3, [44, 2, 1, 4, 442], 0, []),
  (54, .iconst (-1), 1, [], (-1), []),
  (55, .if_icmp .eq 9, 3, [33], 0, []),
  (58, .aload_n 0, 1, [], 0, []),
  (59, .iconst 3, 1, [], 3, []),
  (60, .invokevirtual 60, 3, [63, 2, 1, 8, 429], 0, []),
  (63, .ireturn, 1, [1], 0, []),
  (64, .aload_n 0, 1, [], 0, []),
  (65, .getfield 12, 3, [7, 0, 206], 0, []),
  (68, .invokevirtual 82, 3, [46, 1, 0, 5, 437], 0, []),
  (71, .aload_n 0, 1, [], 0, []),
  (72, .getfield 12, 3, [7, 0, 206], 0, []),
  (75, .getfield 50, 3, [4, 3, 180], 0, []),
  (78, .iconst 3, 1, [], 3, []),
  (79, .if_icmp .eq 12, 3, [46], 0, []),
  (82, .aload_n 0, 1, [], 0, []),
  (83, .invokevirtual 92, 3, [71, 1, 1, 8, 446], 0, []),
  (86, .ifCond .ne 5, 3, [46], 0, []),
  (89, .iconst 0, 1, [], 0, []),
  (90, .ireturn, 1, [1], 0, []),
  (91, .aload_n 0, 1, [], 0, []),
  (92, .getfield 12, 3, [7, 0, 206], 0, []),
  (95, .getfield 95, 3, [4, 6, 186], 0, []),
  (98, .istore_n 2, 1, [], 0, []),
  (99, .iload_n 2, 1, [], 0, []),
  (100, .sipush (-9999), 3, [], (-9999), []),
  (103, .sipush 9999, 3, [], 9999, []),
  (106, .invokestatic 98, 3, [127, 3, 1, 0, 450, 1], 0, []),
  (109, .ifCond .ne 9, 3, [59], 0, []),
  (112, .aload_n 0, 1, [], 0, []),
  (113, .iconst 2, 1, [], 2, []),
  (114, .invokevirtual 60, 3, [63, 2, 1, 8, 429], 0, []),
  (117, .ireturn, 1, [1], 0, []),
  (118, .aload_n 0, 1, [], 0, []),
  (119, .invokevirtual 102, 3, [73, 1, 1, 8, 453], 0, []),
  (122, .ifCond .ne 5, 3, [64], 0, []),
  (125, .iconst 0, 1, [], 0, []),
  (126, .ireturn, 1, [1], 0, []),
  (127, .aload_n 0, 1, [], 0, []),
  (128, .getfield 28, 3, [7, 2, 209], 0, []),
  (131, .iload_n 1, 1, [], 0, []),
  (132, .invokevirtual 105, 3, [43, 2, 0, 4, 457], 0, []),
  (135, .aload_n 0, 1, [], 0, []),
  (136, .getfield 21, 3, [7, 1, 207], 0, []),
  (139, .iload_n 2, 1, [], 0, []),
  (140, .invokevirtual 109, 3, [2, 2, 0, 1, 461], 0, []),
  (143, .iconst 1, 1, [], 1, []),
  (144, .ireturn, 1, [1], 0, [])]
def kT_tellLink : List am_E := [(0, .aload_n 0, 1, [], 0, []),
  (1, .getfield 12, 3, [7, 0, 206], 0, []),
  (4, .invokevirtual 82, 3, [46, 1, 0, 5, 437], 0, []),
  (7, .aload_n 0, 1, [], 0, []),
  (8, .invokevirtual 112, 3, [70, 1, 1, 8, 469], 0, []),
  (11, .ifCond .ne 5, 3, [8], 0, []),
  (14, .iconst 0, 1, [], 0, []),
  (15, .ireturn, 1, [1], 0, []),
  (16, .aload_n 0, 1, [], 0, []),
  (17, .getfield 28, 3, [7, 2, 209], 0, []),
  (20, .aload_n 0, 1, [], 0, []),
  (21, .getfield 12, 3, [7, 0, 206], 0, []),
  (24, .getfield 64, 3, [4, 5, 184], 0, []),
  (27, .invokevirtual 88, 3, [44, 2, 1, 4, 442], 0, []),
  (30, .istore_n 1, 1, [], 0, []),
  (31, .aload_n 0, 1, [], 0, []),
  (32, .getfield 12, 3, [7, 0, 206], 0, []),
  (35, .invokevirtual 82, 3, [46, 1, 0, 5, 437], 0, []),
  (38, .aload_n 0, 1, [], 0, []),
  (39, .invokevirtual 112, 3, [70, 1, 1, 8, 469], 0, []),
  (42, .ifCond .ne 5, 3, [23], 0, []),
  (45, .iconst 0, 1, [], 0, []),
  (46, .ireturn, 1, [1], 0, []),
  (47, .aload_n 0, 1, [], 0, []),
  (48, .getfield 28, 3, [7, 2, 209], 0, []),
  (51, .aload_n 0, 1, [], 0, []),
  (52, .getfield 12, 3, [7, 0, 206], 0, []),
  (55, .getfield 64, 3, [4, 5, 184], 0, []),
  (58, .invokevirtual 88, 3, [44, 2, 1, 4, 442], 0, []),
  (61, .istore_n 2, 1, [], 0, []),
  (62, .aload_n 0, 1, [], 0, []),
  (63, .getfield 21, 3, [7, 1, 207], 0, []),
  (66, .iload_n 1, 1, [], 0, []),
  (67, .iload_n 2, 1, [], 0, []),
  (68, .invokevirtual 115, 3, [4, 3, 1, 1, 473], 0, []),
  (71, .ifCond .eq 15, 3, [42], 0, []),
  (74, .aload_n 0, 1, [], 0, []),
  (75, .getfield 21, 3, [7, 1, 207], 0, []),
  (78, .iload_n 1, 1, [], 0, []),
  (79, .iload_n 2, 1, [], 0, []),
  (80, .invokevirtual 119, 3, [15, 3, 1, 1, 481], 0, []),
  (83, .ifCond .eq 9, 3, [46], 0, []),
  (86, .aload_n 0, 1, [], 0, []),
  (87, .iconst 3, 1, [], 3, []),
  (88, .invokevirtual 60, 3, [63, 2, 1, 8, 429], 0, []),
  (91, .ireturn, 1, [1], 0, []),
  (92, .aload_n 0, 1, [], 0, []),
  (93, .getfield 12, 3, [7, 0, 206], 0, []),
  (96, .invokevirtual 82, 3, [46, 1, 0, 5, 437], 0, []),
  (99, .aload_n 0, 1, [], 0, []),
  (100, .iconst 1, 1, [], 1, []),
  (101, .sipush 9999, 3, [], 9999, []),
  (104, .invokevirtual 122, 3, [72, 3, 1, 8, 489], 0, []),
  (107, .ifCond .ne 5, 3, [56], 0, []),
  (110, .iconst 0, 1, [], 0, []),
  (111, .ireturn, 1, [1], 0, []),
  (112, .aload_n 0, 1, [], 0, []),
  (113, .getfield 12, 3, [7, 0, 206], 0, []),
  (116, .getfield 95, 3, [4, 6, 186], 0, []),
  (119, .istore_n 3, 1, [], 0, []),
  (120, .aload_n 0, 1, [], 0, []),
  (121, .getfield 12, 3, [7, 0, 206], 0, []),
  (124, .invokevirtual 82, 3, [46, 1, 0, 5, 437], 0, []),
  (127, .aload_n 0, 1, [], 0, []),
  (128, .iconst 1, 1, [], 1, []),
  (129, .sipush 9999, 3, [], 9999, []),
  (132, .invokevirtual 122, 3, [72, 3, 1, 8, 489], 0, []),
  (135, .ifCond .ne 5, 3, [70], 0, []),
  (138, .iconst 0, 1, [], 0, []),
  (139, .ireturn, 1, [1], 0, []),
  (140, .aload_n 0, 1, [], 0, []),
  (141, .getfield 12, 3, [7, 0, 206], 0, []),
  (144, .getfield 95, 3, [4, 6, 186], 0, []),
  (147, .istore 4, 2, [], 0, []),
  (149, .aload_n 0, 1, [], 0, []),
  (150, .invokevirtual 102, 3, [73, 1, 1, 8, 453], 0, []),
  (153, .ifCond .ne 5, 3, [79], 0, []),
  (156, .iconst 0, 1, [], 0, []),
  (157, .ireturn, 1, [1], 0, []),
  (158, .aload_n 0, 1, [], 0, []),
  (159, .getfield 21, 3, [7, 1, 207], 0, []),
  (162, .iload_n 1, 1, [], 0, []),
  (163, .iload_n 2, 1, [], 0, []),
  (164, .iload_n 3, 1, [], 0, []),
  (165, .iload 4, 2, [], 0, []),
  (167, .invokevirtual 125, 3, [8, 5, 0, 1, 493], 0, []),
  (170, .iconst 1, 1, [], 1, []),
  (171, .ireturn, 1, [1], 0, [])]
def kT_tellDeed : List am_E := [(0, .aload_n 0, 1, [], 0, []),
  (1, .getfield 12, 3, [7, 0, 206], 0, []),
  (4, .invokevirtual 82, 3, [46, 1, 0, 5, 437], 0, []),
  (7, .aload_n 0, 1, [], 0, []),
  (8, .invokevirtual 112, 3, [70, 1, 1, 8, 469], 0, []),
  (11, .ifCond .ne 5, 3, [8], 0, []),
  (14, .iconst 0, 1, [], 0, []),
  (15, .ireturn, 1, [1], 0, []),
  (16, .aload_n 0, 1, [], 0, []),
  (17, .getfield 28, 3, [7, 2, 209], 0, []),
  (20, .aload_n 0, 1, [], 0, []),
  (21, .getfield 12, 3, [7, 0, 206], 0, []),
  (24, .getfield 64, 3, [4, 5, 184], 0, []),
  (27, .invokevirtual 88, 3, [44, 2, 1, 4, 442], 0, []),
  (30, .istore_n 2, 1, [], 0, []),
  (31, .aload_n 0, 1, [], 0, []),
  (32, .invokevirtual 102, 3, [73, 1, 1, 8, 453], 0, []),
  (35, .ifCond .eq 14, 3, [23], 0, []),
  (38, .aload_n 0, 1, [], 0, []),
  (39, .getfield 21, 3, [7, 1, 207], 0, []),
  (42, .iload_n 2, 1, [], 0, []),
  (43, .invokevirtual 129, 3, [3, 2, 1, 1, 513], 0, []),
  (46, .ifCond .ne 5, 3, [25], 0, []),
  (49, .iconst 0, 1, [], 0, []),
  (50, .ireturn, 1, [1], 0, []),
  (51, .iload_n 1, 1, [], 0, []),
  (52, .ldc 132, 2, [514], 620220416, []),
  (54, .if_icmp .ne 14, 3, [33], 0, []),
  (57, .aload_n 0, 1, [], 0, []),
  (58, .getfield 21, 3, [7, 1, 207], 0, []),
  (61, .iload_n 2, 1, [], 0, []),
  (62, .invokevirtual 133, 3, [6, 2, 0, 1, 515], 0, []),
  (65, .goto 29, 3, [46], 0, []),
  (68, .iload_n 1, 1, [], 0, []),
  (69, .ldc 136, 2, [516], 687508736, []),
  (71, .if_icmp .ne 14, 3, [41], 0, []),
  (74, .aload_n 0, 1, [], 0, []),
  (75, .getfield 21, 3, [7, 1, 207], 0, []),
  (78, .iload_n 2, 1, [], 0, []),
  (79, .invokevirtual 137, 3, [5, 2, 0, 1, 517], 0, []),
  (82, .goto 12, 3, [46], 0, []),
  (85, .aload_n 0, 1, [], 0, []),
  (86, .getfield 21, 3, [7, 1, 207], 0, []),
  (89, .iload_n 2, 1, [], 0, []),
  (90, .invokevirtual 140, 3, [10, 2, 1, 1, 518], 0, []),
  (93, .pop, 1, [], 0, []),
  (94, .iconst 1, 1, [], 1, []),
  (95, .ireturn, 1, [1], 0, [])]
def kT_tellSeed : List am_E := [(0, .aload_n 0, 1, [], 0, []),
  (1, .getfield 28, 3, [7, 2, 209], 0, []),
  (4, .getfield 143, 3, [3, 3, 154], 0, []),
  (7, .ifCond .eq 9, 3, [8], 0, []),
  (10, .aload_n 0, 1, [], 0, []),
  (11, .iconst 3, 1, [], 3, []),
  (12, .invokevirtual 60, 3, [63, 2, 1, 8, 429], 0, []),
  (15, .ireturn, 1, [1], 0, []),
  (16, .aload_n 0, 1, [], 0, []),
  (17, .getfield 12, 3, [7, 0, 206], 0, []),
  (20, .invokevirtual 82, 3, [46, 1, 0, 5, 437], 0, []),
  (23, .aload_n 0, 1, [], 0, []),
  (24, .iconst 0, 1, [], 0, []),
  (25, .ldc 147, 2, [534], 99999, []),
  (27, .invokevirtual 122, 3, [72, 3, 1, 8, 489], 0, []),
  (30, .ifCond .ne 5, 3, [18], 0, []),
  (33, .iconst 0, 1, [], 0, []),
  (34, .ireturn, 1, [1], 0, []),
  (35, .aload_n 0, 1, [], 0, []),
  (36, .getfield 28, 3, [7, 2, 209], 0, []),
  (39, .aload_n 0, 1, [], 0, []),
  (40, .getfield 12, 3, [7, 0, 206], 0, []),
  (43, .getfield 95, 3, [4, 6, 186], 0, []),
  (46, .putfield 148, 3, [3, 2, 151], 0, []),
  (49, .aload_n 0, 1, [], 0, []),
  (50, .getfield 28, 3, [7, 2, 209], 0, []),
  (53, .iconst 1, 1, [], 1, []),
  (54, .putfield 143, 3, [3, 3, 154], 0, []),
  (57, .aload_n 0, 1, [], 0, []),
  (58, .invokevirtual 102, 3, [73, 1, 1, 8, 453], 0, []),
  (61, .ireturn, 1, [1], 0, [])]
def kT_isAtName : List am_E := [(0, .aload_n 0, 1, [], 0, []),
  (1, .getfield 12, 3, [7, 0, 206], 0, []),
  (4, .getfield 50, 3, [4, 3, 180], 0, []),
  (7, .iconst 1, 1, [], 1, []),
  (8, .if_icmp .eq 5, 3, [7], 0, []),
  (11, .iconst 0, 1, [], 0, []),
  (12, .ireturn, 1, [1], 0, []),
  (13, .aload_n 0, 1, [], 0, []),
  (14, .getfield 12, 3, [7, 0, 206], 0, []),
  (17, .getfield 64, 3, [4, 5, 184], 0, []),
  (20, .lookupswitch 62 #[(412560384, 60), (620220416, 60), (642945024, 60), (643453317, 60), (687508736, 60), (687585280, 60)], 60, [13], 0, [(412560384, 11), (620220416, 11), (642945024, 11), (643453317, 11), (687508736, 11), (687585280, 11)]),
  (80, .iconst 0, 1, [], 0, []),
  (81, .ireturn, 1, [1], 0, []),
  (82, .iconst 1, 1, [], 1, []),
  (83, .ireturn, 1, [1], 0, [])]
def kT_takesTown : List am_E := [(0, .aload_n 0, 1, [], 0, []),
  (1, .invokevirtual 85, 3, [69, 1, 1, 8, 438], 0, []),
  (4, .ifCond .ne 9, 3, [7], 0, []),
  (7, .aload_n 0, 1, [], 0, []),
  (8, .iconst 1, 1, [], 1, []),
  (9, .invokevirtual 60, 3, [63, 2, 1, 8, 429], 0, []),
  (12, .ireturn, 1, [1], 0, []),
  (13, .aload_n 0, 1, [], 0, []),
  (14, .getfield 28, 3, [7, 2, 209], 0, []),
  (17, .aload_n 0, 1, [], 0, []),
  (18, .getfield 12, 3, [7, 0, 206], 0, []),
  (21, .getfield 64, 3, [4, 5, 184], 0, []),
  (24, .invokevirtual 88, 3, [44, 2, 1, 4, 442], 0, []),
  (27, .iconst (-1), 1, [], (-1), []),
  (28, .if_icmp .ne 11, 3, [19], 0, []),
  (31, .aload_n 0, 1, [], 0, []),
  (32, .iconst 4, 1, [], 4, []),
  (33, .invokevirtual 60, 3, [63, 2, 1, 8, 429], 0, []),
  (36, .ifCond .eq 7, 3, [21], 0, []),
  (39, .iconst 1, 1, [], 1, []),
  (40, .goto 4, 3, [22], 0, []),
  (43, .iconst 0, 1, [], 0, []),
  (44, .ireturn, 1, [1], 0, [])]
def kT_takesNumber : List am_E := [(0, .aload_n 0, 1, [], 0, []),
  (1, .getfield 12, 3, [7, 0, 206], 0, []),
  (4, .getfield 50, 3, [4, 3, 180], 0, []),
  (7, .iconst 2, 1, [], 2, []),
  (8, .if_icmp .eq 11, 3, [9], 0, []),
  (11, .aload_n 0, 1, [], 0, []),
  (12, .iconst 1, 1, [], 1, []),
  (13, .invokevirtual 60, 3, [63, 2, 1, 8, 429], 0, []),
  (16, .ifCond .eq 7, 3, [11], 0, []),
  (19, .iconst 1, 1, [], 1, []),
  (20, .goto 4, 3, [12], 0, []),
  (23, .iconst 0, 1, [], 0, []),
  (24, .ireturn, 1, [1], 0, [])]
def kT_takesNumberWithin : List am_E := [(0, .aload_n 0, 1, [], 0, []),
  (1, .invokevirtual 92, 3, [71, 1, 1, 8, 446], 0, []),
  (4, .ifCond .ne 5, 3, [5], 0, []),
  (7, .iconst 0, 1, [], 0, []),
  (8, .ireturn, 1, [1], 0, []),
  (9, .aload_n 0, 1, [], 0, []),
  (10, .getfield 12, 3, [7, 0, 206], 0, []),
  (13, .getfield 95, 3, [4, 6, 186], 0, []),
  (16, .iload_n 1, 1, [], 0, []),
  (17, .iload_n 2, 1, [], 0, []),
  (18, .invokestatic 98, 3, [127, 3, 1, 0, 450, 1], 0, []),
  (21, .ifCond .ne 11, 3, [16], 0, []),
  (24, .aload_n 0, 1, [], 0, []),
  (25, .iconst 2, 1, [], 2, []),
  (26, .invokevirtual 60, 3, [63, 2, 1, 8, 429], 0, []),
  (29, .ifCond .eq 7, 3, [18], 0, []),
  (32, .iconst 1, 1, [], 1, []),
  (33, .goto 4, 3, [19], 0, []),
  (36, .iconst 0, 1, [], 0, []),
  (37, .ireturn, 1, [1], 0, [])]
def kT_endsLine : List am_E := [(0, .aload_n 0, 1, [], 0, []),
  (1, .getfield 12, 3, [7, 0, 206], 0, []),
  (4, .invokevirtual 82, 3, [46, 1, 0, 5, 437], 0, []),
  (7, .aload_n 0, 1, [], 0, []),
  (8, .getfield 12, 3, [7, 0, 206], 0, []),
  (11, .getfield 50, 3, [4, 3, 180], 0, []),
  (14, .iconst 4, 1, [], 4, []),
  (15, .if_icmp .eq 9, 3, [12], 0, []),
  (18, .aload_n 0, 1, [], 0, []),
  (19, .iconst 1, 1, [], 1, []),
  (20, .invokevirtual 60, 3, [63, 2, 1, 8, 429], 0, []),
  (23, .ireturn, 1, [1], 0, []),
  (24, .aload_n 0, 1, [], 0, []),
  (25, .getfield 12, 3, [7, 0, 206], 0, []),
  (28, .invokevirtual 82, 3, [46, 1, 0, 5, 437], 0, []),
  (31, .iconst 1, 1, [], 1, []),
  (32, .ireturn, 1, [1], 0, [])]
def kY_lay : List am_E := [(0, .aload_n 0, 1, [], 0, []),
  (1, .iconst 0, 1, [], 0, []),
  (2, .putfield 15, 3, [8, 1, 274], 0, []),
  (5, .aload_n 1, 1, [], 0, []),
  (6, .iload_n 2, 1, [], 0, []),
  (7, .iload_n 3, 1, [], 0, []),
  (8, .invokevirtual 19, 3, [16, 3, 1, 1, 617], 0, []),
  (11, .istore 4, 2, [], 0, []),
  (13, .iload 4, 2, [], 0, []),
  (15, .iconst (-1), 1, [], (-1), []),
  (16, .if_icmp .ne 4, 3, [12], 0, []),
  (19, .return_, 1, [], 0, []),
  (20, .aload_n 1, 1, [], 0, []),
  (21, .iload_n 2, 1, [], 0, []),
  (22, .invokevirtual 25, 3, [12, 2, 1, 1, 629], 0, []),
  (25, .aload_n 1, 1, [], 0, []),
  (26, .iload 4, 2, [], 0, []),
  (28, .invokevirtual 25, 3, [12, 2, 1, 1, 629], 0, []),
  (31, .isub, 1, [], 0, []),
  (32, .istore 5, 2, [], 0, []),
  (34, .aload_n 1, 1, [], 0, []),
  (35, .iload_n 3, 1, [], 0, []),
  (36, .invokevirtual 25, 3, [12, 2, 1, 1, 629], 0, []),
  (39, .aload_n 1, 1, [], 0, []),
  (40, .iload 4, 2, [], 0, []),
  (42, .invokevirtual 25, 3, [12, 2, 1, 1, 629], 0, []),
  (45, .isub, 1, [], 0, []),
  (46, .istore 6, 2, [], 0, []),
  (48, .aload_n 0, 1, [], 0, []),
  (49, .iload 5, 2, [], 0, []),
  (51, .iconst 1, 1, [], 1, []),
  (52, .iadd, 1, [], 0, []),
  (53, .iload 6, 2, [], 0, []),
  (55, .iadd, 1, [], 0, []),
  (56, .bipush 24, 2, [], 24, []),
  (58, .invokestatic 29, 3, [630, 1], 0, []),
  (61, .putfield 15, 3, [8, 1, 274], 0, []),
  (64, .iload_n 2, 1, [], 0, []),
  (65, .istore 7, 2, [], 0, []),
  (67, .iconst 0, 1, [], 0, []),
  (68, .istore 8, 2, [], 0, []),
  (70, .iload 8, 2, [], 0, []),
  (72, .iload 5, 2, [], 0, []),
  (74, .if_icmp .gt 42, 3, [63], 0, []),
  (77, .iload 8, 2, [], 0, []),
  (79, .aload_n 0, 1, [], 0, []),
  (80, .getfield 15, 3, [8, 1, 274], 0, []),
  (83, .if_icmp .ge 33, 3, [63], 0, []),
  (86, .iload 7, 2, [], 0, []),
  (88, .iconst (-1), 1, [], (-1), []),
  (89, .if_icmp .eq 27, 3, [63], 0, []),
  (92, .aload_n 0, 1, [], 0, []),
  (93, .getfield 9, 3, [8, 0, 271], 0, []),
  (96, .iload 8, 2, [], 0, []),
  (98, .iload 7, 2, [], 0, []),
  (100, .iastore, 1, [], 0, []),
  (101, .aload_n 1, 1, [], 0, []),
  (102, .getfield 34, 3, [0, 0, 98], 0, []),
  (105, .iload 7, 2, [], 0, []),
  (107, .iaload, 1, [], 0, []),
  (108, .istore 7, 2, [], 0, []),
  (110, .iinc 8 1, 3, [], 1, []),
  (113, .goto (-43), 3, [41], 0, []),
  (116, .iload_n 3, 1, [], 0, []),
  (117, .istore 7, 2, [], 0, []),
  (119, .aload_n 0, 1, [], 0, []),
  (120, .getfield 15, 3, [8, 1, 274], 0, []),
  (123, .iconst 1, 1, [], 1, []),
  (124, .isub, 1, [], 0, []),
  (125, .istore 8, 2, [], 0, []),
  (127, .iload 8, 2, [], 0, []),
  (129, .iload 5, 2, [], 0, []),
  (131, .if_icmp .le 33, 3, [88], 0, []),
  (134, .iload 7, 2, [], 0, []),
  (136, .iconst (-1), 1, [], (-1), []),
  (137, .if_icmp .eq 27, 3, [88], 0, []),
  (140, .aload_n 0, 1, [], 0, []),
  (141, .getfield 9, 3, [8, 0, 271], 0, []),
  (144, .iload 8, 2, [], 0, []),
  (146, .iload 7, 2, [], 0, []),
  (148, .iastore, 1, [], 0, []),
  (149, .aload_n 1, 1, [], 0, []),
  (150, .getfield 34, 3, [0, 0, 98], 0, []),
  (153, .iload 7, 2, [], 0, []),
  (155, .iaload, 1, [], 0, []),
  (156, .istore 7, 2, [], 0, []),
  (158, .iinc 8 (-1), 3, [], (-1), []),
  (161, .goto (-34), 3, [70], 0, []),
  (164, .return_, 1, [], 0, [])]
def kY_lowerOfLink : List am_E := [(0, .aload_n 1, 1, [], 0, []),
  (1, .aload_n 0, 1, [], 0, []),
  (2, .getfield 9, 3, [8, 0, 271], 0, []),
  (5, .iload_n 2, 1, [], 0, []),
  (6, .iaload, 1, [], 0, []),
  (7, .aload_n 0, 1, [], 0, []),
  (8, .getfield 9, 3, [8, 0, 271], 0, []),
  (11, .iload_n 2, 1, [], 0, []),
  (12, .iconst 1, 1, [], 1, []),
  (13, .iadd, 1, [], 0, []),
  (14, .iaload, 1, [], 0, []),
  (15, .invokevirtual 37, 3, [17, 3, 1, 1, 644], 0, []),
  (18, .istore_n 3, 1, [], 0, []),
  (19, .iload_n 3, 1, [], 0, []),
  (20, .iconst (-1), 1, [], (-1), []),
  (21, .if_icmp .ne 12, 3, [21], 0, []),
  (24, .aload_n 0, 1, [], 0, []),
  (25, .getfield 9, 3, [8, 0, 271], 0, []),
  (28, .iload_n 2, 1, [], 0, []),
  (29, .iaload, 1, [], 0, []),
  (30, .goto 4, 3, [22], 0, []),
  (33, .iload_n 3, 1, [], 0, []),
  (34, .ireturn, 1, [], 0, [])]
def kY_lengths : List am_E := [(0, .iconst 0, 1, [], 0, []),
  (1, .istore_n 2, 1, [], 0, []),
  (2, .iconst 0, 1, [], 0, []),
  (3, .istore_n 3, 1, [], 0, []),
  (4, .iload_n 3, 1, [], 0, []),
  (5, .iconst 1, 1, [], 1, []),
  (6, .iadd, 1, [], 0, []),
  (7, .aload_n 0, 1, [], 0, []),
  (8, .getfield 15, 3, [8, 1, 274], 0, []),
  (11, .if_icmp .ge 23, 3, [22], 0, []),
  (14, .iload_n 2, 1, [], 0, []),
  (15, .aload_n 1, 1, [], 0, []),
  (16, .getfield 40, 3, [0, 2, 106], 0, []),
  (19, .aload_n 0, 1, [], 0, []),
  (20, .aload_n 1, 1, [], 0, []),
  (21, .iload_n 3, 1, [], 0, []),
  (22, .invokevirtual 43, 3, [75, 3, 1, 9, 640], 0, []),
  (25, .iaload, 1, [], 0, []),
  (26, .iadd, 1, [], 0, []),
  (27, .istore_n 2, 1, [], 0, []),
  (28, .iinc 3 1, 3, [], 1, []),
  (31, .goto (-27), 3, [4], 0, []),
  (34, .iload_n 2, 1, [], 0, []),
  (35, .ireturn, 1, [], 0, [])]
def kY_values : List am_E := [(0, .iconst 0, 1, [], 0, []),
  (1, .istore_n 2, 1, [], 0, []),
  (2, .iconst 0, 1, [], 0, []),
  (3, .istore_n 3, 1, [], 0, []),
  (4, .iload_n 3, 1, [], 0, []),
  (5, .aload_n 0, 1, [], 0, []),
  (6, .getfield 15, 3, [8, 1, 274], 0, []),
  (9, .if_icmp .ge 23, 3, [20], 0, []),
  (12, .iload_n 2, 1, [], 0, []),
  (13, .aload_n 1, 1, [], 0, []),
  (14, .getfield 47, 3, [0, 4, 113], 0, []),
  (17, .aload_n 0, 1, [], 0, []),
  (18, .getfield 9, 3, [8, 0, 271], 0, []),
  (21, .iload_n 3, 1, [], 0, []),
  (22, .iaload, 1, [], 0, []),
  (23, .iaload, 1, [], 0, []),
  (24, .iadd, 1, [], 0, []),
  (25, .istore_n 2, 1, [], 0, []),
  (26, .iinc 3 1, 3, [], 1, []),
  (29, .goto (-25), 3, [4], 0, []),
  (32, .iload_n 2, 1, [], 0, []),
  (33, .ireturn, 1, [], 0, [])]
def kY_dearestLink : List am_E := [(0, .iconst (-1), 1, [], (-1), []),
  (1, .istore_n 2, 1, [], 0, []),
  (2, .iconst 0, 1, [], 0, []),
  (3, .istore_n 3, 1, [], 0, []),
  (4, .iconst 0, 1, [], 0, []),
  (5, .istore 4, 2, [], 0, []),
  (7, .iload 4, 2, [], 0, []),
  (9, .iconst 1, 1, [], 1, []),
  (10, .iadd, 1, [], 0, []),
  (11, .aload_n 0, 1, [], 0, []),
  (12, .getfield 15, 3, [8, 1, 274], 0, []),
  (15, .if_icmp .ge 35, 3, [29], 0, []),
  (18, .aload_n 1, 1, [], 0, []),
  (19, .getfield 40, 3, [0, 2, 106], 0, []),
  (22, .aload_n 0, 1, [], 0, []),
  (23, .aload_n 1, 1, [], 0, []),
  (24, .iload 4, 2, [], 0, []),
  (26, .invokevirtual 43, 3, [75, 3, 1, 9, 640], 0, []),
  (29, .iaload, 1, [], 0, []),
  (30, .istore 5, 2, [], 0, []),
  (32, .iload 5, 2, [], 0, []),
  (34, .iload_n 3, 1, [], 0, []),
  (35, .if_icmp .le 9, 3, [27], 0, []),
  (38, .iload 4, 2, [], 0, []),
  (40, .istore_n 2, 1, [], 0, []),
  (41, .iload 5, 2, [], 0, []),
  (43, .istore_n 3, 1, [], 0, []),
  (44, .iinc 4 1, 3, [], 1, []),
  (47, .goto (-40), 3, [6], 0, []),
  (50, .iload_n 2, 1, [], 0, []),
  (51, .ireturn, 1, [], 0, [])]
def kY_dearestLength : List am_E := [(0, .aload_n 0, 1, [], 0, []),
  (1, .aload_n 1, 1, [], 0, []),
  (2, .invokevirtual 50, 3, [78, 2, 1, 9, 653], 0, []),
  (5, .istore_n 2, 1, [], 0, []),
  (6, .iload_n 2, 1, [], 0, []),
  (7, .iconst (-1), 1, [], (-1), []),
  (8, .if_icmp .ne 8, 3, [9], 0, []),
  (11, .bipush (-2), 2, [], (-2), []),
  (13, .goto 14, 3, [16], 0, []),
  (16, .aload_n 1, 1, [], 0, []),
  (17, .getfield 40, 3, [0, 2, 106], 0, []),
  (20, .aload_n 0, 1, [], 0, []),
  (21, .aload_n 1, 1, [], 0, []),
  (22, .iload_n 2, 1, [], 0, []),
  (23, .invokevirtual 43, 3, [75, 3, 1, 9, 640], 0, []),
  (26, .iaload, 1, [], 0, []),
  (27, .ireturn, 1, [], 0, [])]
def kY_cutDearestLink : List am_E := [(0, .aload_n 0, 1, [], 0, []),
  (1, .aload_n 1, 1, [], 0, []),
  (2, .invokevirtual 50, 3, [78, 2, 1, 9, 653], 0, []),
  (5, .istore_n 2, 1, [], 0, []),
  (6, .iload_n 2, 1, [], 0, []),
  (7, .iconst (-1), 1, [], (-1), []),
  (8, .if_icmp .eq 21, 3, [19], 0, []),
  (11, .aload_n 1, 1, [], 0, []),
  (12, .aload_n 0, 1, [], 0, []),
  (13, .getfield 9, 3, [8, 0, 271], 0, []),
  (16, .iload_n 2, 1, [], 0, []),
  (17, .iaload, 1, [], 0, []),
  (18, .aload_n 0, 1, [], 0, []),
  (19, .getfield 9, 3, [8, 0, 271], 0, []),
  (22, .iload_n 2, 1, [], 0, []),
  (23, .iconst 1, 1, [], 1, []),
  (24, .iadd, 1, [], 0, []),
  (25, .iaload, 1, [], 0, []),
  (26, .invokevirtual 54, 3, [9, 3, 0, 1, 694], 0, []),
  (29, .return_, 1, [], 0, [])]
def kY_leastOf : List am_E := [(0, .bipush (-2), 2, [], (-2), []),
  (2, .istore_n 3, 1, [], 0, []),
  (3, .iconst 0, 1, [], 0, []),
  (4, .istore 4, 2, [], 0, []),
  (6, .iload 4, 2, [], 0, []),
  (8, .iconst 1, 1, [], 1, []),
  (9, .iadd, 1, [], 0, []),
  (10, .aload_n 0, 1, [], 0, []),
  (11, .getfield 15, 3, [8, 1, 274], 0, []),
  (14, .if_icmp .ge 34, 3, [26], 0, []),
  (17, .aload_n 2, 1, [], 0, []),
  (18, .aload_n 0, 1, [], 0, []),
  (19, .aload_n 1, 1, [], 0, []),
  (20, .iload 4, 2, [], 0, []),
  (22, .invokevirtual 43, 3, [75, 3, 1, 9, 640], 0, []),
  (25, .iaload, 1, [], 0, []),
  (26, .istore 5, 2, [], 0, []),
  (28, .iload 4, 2, [], 0, []),
  (30, .ifCond .eq 9, 3, [22], 0, []),
  (33, .iload 5, 2, [], 0, []),
  (35, .iload_n 3, 1, [], 0, []),
  (36, .if_icmp .ge 6, 3, [24], 0, []),
  (39, .iload 5, 2, [], 0, []),
  (41, .istore_n 3, 1, [], 0, []),
  (42, .iinc 4 1, 3, [], 1, []),
  (45, .goto (-39), 3, [4], 0, []),
  (48, .iload_n 3, 1, [], 0, []),
  (49, .ireturn, 1, [], 0, [])]
def kY_keepsWithin : List am_E := [(0, .iconst 0, 1, [], 0, []),
  (1, .istore 5, 2, [], 0, []),
  (3, .iload 5, 2, [], 0, []),
  (5, .iconst 1, 1, [], 1, []),
  (6, .iadd, 1, [], 0, []),
  (7, .aload_n 0, 1, [], 0, []),
  (8, .getfield 15, 3, [8, 1, 274], 0, []),
  (11, .if_icmp .ge 33, 3, [24], 0, []),
  (14, .aload_n 2, 1, [], 0, []),
  (15, .aload_n 0, 1, [], 0, []),
  (16, .aload_n 1, 1, [], 0, []),
  (17, .iload 5, 2, [], 0, []),
  (19, .invokevirtual 43, 3, [75, 3, 1, 9, 640], 0, []),
  (22, .iaload, 1, [], 0, []),
  (23, .iload_n 3, 1, [], 0, []),
  (24, .iadd, 1, [], 0, []),
  (25, .iload 4, 2, [], 0, []),
  (27, .sipush 9999, 3, [], 9999, []),
  (30, .invokestatic 58, 3, [127, 3, 1, 0, 680, 1], 0, []),
  (33, .ifCond .ne 5, 3, [22], 0, []),
  (36, .iconst 0, 1, [], 0, []),
  (37, .ireturn, 1, [1], 0, []),
  (38, .iinc 5 1, 3, [], 1, []),
  (41, .goto (-38), 3, [2], 0, []),
  (44, .iconst 1, 1, [], 1, []),
  (45, .ireturn, 1, [1], 0, [])]
def kY_addToAll : List am_E := [(0, .iconst 0, 1, [], 0, []),
  (1, .istore 4, 2, [], 0, []),
  (3, .iload 4, 2, [], 0, []),
  (5, .iconst 1, 1, [], 1, []),
  (6, .iadd, 1, [], 0, []),
  (7, .aload_n 0, 1, [], 0, []),
  (8, .getfield 15, 3, [8, 1, 274], 0, []),
  (11, .if_icmp .ge 22, 3, [20], 0, []),
  (14, .aload_n 2, 1, [], 0, []),
  (15, .aload_n 0, 1, [], 0, []),
  (16, .aload_n 1, 1, [], 0, []),
  (17, .iload 4, 2, [], 0, []),
  (19, .invokevirtual 43, 3, [75, 3, 1, 9, 640], 0, []),
  (22, .dup2, 1, [], 0, []),
  (23, .iaload, 1, [], 0, []),
  (24, .iload_n 3, 1, [], 0, []),
  (25, .iadd, 1, [], 0, []),
  (26, .iastore, 1, [], 0, []),
  (27, .iinc 4 1, 3, [], 1, []),
  (30, .goto (-27), 3, [2], 0, []),
  (33, .return_, 1, [], 0, [])]
def kC_feed : List am_E := [(0, .aload_n 0, 1, [], 0, []),
  (1, .getfield 13, 3, [9, 1, 337], 0, []),
  (4, .bipush 20, 2, [], 20, []),
  (6, .iadd, 1, [], 0, []),
  (7, .sipush 700, 3, [], 700, []),
  (10, .if_icmp .le 5, 3, [8], 0, []),
  (13, .iconst (-1), 1, [], (-1), []),
  (14, .ireturn, 1, [], 0, []),
  (15, .aload_n 0, 1, [], 0, []),
  (16, .iload_n 1, 1, [], 0, []),
  (17, .invokevirtual 80, 3, [129, 2, 0, 10, 377], 0, []),
  (20, .aload_n 0, 1, [], 0, []),
  (21, .iload_n 2, 1, [], 0, []),
  (22, .invokevirtual 80, 3, [129, 2, 0, 10, 377], 0, []),
  (25, .aload_n 0, 1, [], 0, []),
  (26, .iload_n 3, 1, [], 0, []),
  (27, .invokevirtual 80, 3, [129, 2, 0, 10, 377], 0, []),
  (30, .aload_n 0, 1, [], 0, []),
  (31, .iload 4, 2, [], 0, []),
  (33, .invokevirtual 80, 3, [129, 2, 0, 10, 377], 0, []),
  (36, .aload_n 0, 1, [], 0, []),
  (37, .iload 5, 2, [], 0, []),
  (39, .invokevirtual 80, 3, [129, 2, 0, 10, 377], 0, []),
  (42, .aload_n 0, 1, [], 0, []),
  (43, .getfield 13, 3, [9, 1, 337], 0, []),
  (46, .ireturn, 1, [], 0, [])]
def kC_text : List am_E := [(0, .iload_n 1, 1, [], 0, []),
  (1, .ifCond .lt 11, 3, [6], 0, []),
  (4, .iload_n 1, 1, [], 0, []),
  (5, .aload_n 0, 1, [], 0, []),
  (6, .getfield 13, 3, [9, 1, 337], 0, []),
  (9, .if_icmp .le 6, 3, [8], 0, []),
  (12, .bipush (-2), 2, [], (-2), []),
  (14, .ireturn, 1, [], 0, []),
  (15, .aload_n 0, 1, [], 0, []),
  (16, .iconst 0, 1, [], 0, []),
  (17, .putfield 13, 3, [9, 1, 337], 0, []),
  (20, .aload_n 0, 1, [], 0, []),
  (21, .getfield 34, 3, [9, 4, 340], 0, []),
  (24, .aload_n 0, 1, [], 0, []),
  (25, .getfield 9, 3, [9, 0, 336], 0, []),
  (28, .iload_n 1, 1, [], 0, []),
  (29, .invokevirtual 84, 3, [62, 3, 1, 8, 385], 0, []),
  (32, .ifCond .ne 5, 3, [20], 0, []),
  (35, .iconst (-1), 1, [], (-1), []),
  (36, .ireturn, 1, [], 0, []),
  (37, .aload_n 0, 1, [], 0, []),
  (38, .invokevirtual 88, 3, [130, 1, 0, 10, 535], 0, []),
  (41, .aload_n 0, 1, [], 0, []),
  (42, .getfield 34, 3, [9, 4, 340], 0, []),
  (45, .getfield 91, 3, [7, 3, 212], 0, []),
  (48, .ireturn, 1, [], 0, [])]
def kC_fault : List am_E := [(0, .iload_n 1, 1, [], 0, []),
  (1, .lookupswitch 43 #[(0, 27), (1, 35)], 27, [10], 0, [(0, 2), (1, 6)]),
  (28, .aload_n 0, 1, [], 0, []),
  (29, .getfield 34, 3, [9, 4, 340], 0, []),
  (32, .getfield 94, 3, [7, 4, 214], 0, []),
  (35, .ireturn, 1, [], 0, []),
  (36, .aload_n 0, 1, [], 0, []),
  (37, .getfield 34, 3, [9, 4, 340], 0, []),
  (40, .getfield 97, 3, [7, 5, 216], 0, []),
  (43, .ireturn, 1, [], 0, []),
  (44, .iconst (-1), 1, [], (-1), []),
  (45, .ireturn, 1, [], 0, [])]
def kC_named : List am_E := [(0, .aload_n 0, 1, [], 0, []),
  (1, .getfield 27, 3, [9, 3, 339], 0, []),
  (4, .iload_n 1, 1, [], 0, []),
  (5, .invokevirtual 100, 3, [44, 2, 1, 4, 563], 0, []),
  (8, .ireturn, 1, [], 0, [])]
def kC_touch : List am_E := [(0, .aload_n 0, 1, [], 0, []),
  (1, .getfield 20, 3, [9, 2, 338], 0, []),
  (4, .iload_n 1, 1, [], 0, []),
  (5, .invokevirtual 104, 3, [3, 2, 1, 1, 568], 0, []),
  (8, .ifCond .ne 5, 3, [7], 0, []),
  (11, .iconst (-1), 1, [], (-1), []),
  (12, .ireturn, 1, [], 0, []),
  (13, .aload_n 0, 1, [], 0, []),
  (14, .getfield 41, 3, [9, 5, 341], 0, []),
  (17, .aload_n 0, 1, [], 0, []),
  (18, .getfield 20, 3, [9, 2, 338], 0, []),
  (21, .invokevirtual 108, 3, [39, 2, 0, 3, 569], 0, []),
  (24, .aload_n 0, 1, [], 0, []),
  (25, .getfield 20, 3, [9, 2, 338], 0, []),
  (28, .getfield 112, 3, [0, 7, 122], 0, []),
  (31, .istore_n 2, 1, [], 0, []),
  (32, .aload_n 0, 1, [], 0, []),
  (33, .getfield 20, 3, [9, 2, 338], 0, []),
  (36, .iload_n 1, 1, [], 0, []),
  (37, .invokevirtual 115, 3, [5, 2, 0, 1, 574], 0, []),
  (40, .aload_n 0, 1, [], 0, []),
  (41, .getfield 20, 3, [9, 2, 338], 0, []),
  (44, .getfield 112, 3, [0, 7, 122], 0, []),
  (47, .iload_n 2, 1, [], 0, []),
  (48, .isub, 1, [], 0, []),
  (49, .ireturn, 1, [], 0, [])]
def kC_reroot : List am_E := [(0, .aload_n 0, 1, [], 0, []),
  (1, .getfield 20, 3, [9, 2, 338], 0, []),
  (4, .iload_n 1, 1, [], 0, []),
  (5, .invokevirtual 104, 3, [3, 2, 1, 1, 568], 0, []),
  (8, .ifCond .ne 5, 3, [7], 0, []),
  (11, .iconst (-1), 1, [], (-1), []),
  (12, .ireturn, 1, [], 0, []),
  (13, .aload_n 0, 1, [], 0, []),
  (14, .getfield 41, 3, [9, 5, 341], 0, []),
  (17, .aload_n 0, 1, [], 0, []),
  (18, .getfield 20, 3, [9, 2, 338], 0, []),
  (21, .invokevirtual 108, 3, [39, 2, 0, 3, 569], 0, []),
  (24, .aload_n 0, 1, [], 0, []),
  (25, .getfield 20, 3, [9, 2, 338], 0, []),
  (28, .getfield 112, 3, [0, 7, 122], 0, []),
  (31, .istore_n 2, 1, [], 0, []),
  (32, .aload_n 0, 1, [], 0, []),
  (33, .getfield 20, 3, [9, 2, 338], 0, []),
  (36, .iload_n 1, 1, [], 0, []),
  (37, .invokevirtual 118, 3, [6, 2, 0, 1, 579], 0, []),
  (40, .aload_n 0, 1, [], 0, []),
  (41, .getfield 20, 3, [9, 2, 338], 0, []),
  (44, .getfield 112, 3, [0, 7, 122], 0, []),
  (47, .iload_n 2, 1, [], 0, []),
  (48, .isub, 1, [], 0, []),
  (49, .ireturn, 1, [], 0, [])]
def kC_link : List am_E := [(0, .aload_n 0, 1, [], 0, []),
  (1, .iload_n 1, 1, [], 0, []),
  (2, .iload_n 2, 1, [], 0, []),
  (3, .iload_n 3, 1, [], 0, []),
  (4, .iload 4, 2, [], 0, []),
  (6, .invokevirtual 121, 3, [128, 5, 1, 10, 584], 0, []),
  (9, .ifCond .ne 5, 3, [9], 0, []),
  (12, .iconst (-1), 1, [], (-1), []),
  (13, .ireturn, 1, [], 0, []),
  (14, .aload_n 0, 1, [], 0, []),
  (15, .getfield 20, 3, [9, 2, 338], 0, []),
  (18, .iload_n 1, 1, [], 0, []),
  (19, .iload_n 2, 1, [], 0, []),
  (20, .invokevirtual 125, 3, [15, 3, 1, 1, 590], 0, []),
  (23, .ifCond .eq 6, 3, [17], 0, []),
  (26, .bipush (-2), 2, [], (-2), []),
  (28, .ireturn, 1, [], 0, []),
  (29, .aload_n 0, 1, [], 0, []),
  (30, .getfield 41, 3, [9, 5, 341], 0, []),
  (33, .aload_n 0, 1, [], 0, []),
  (34, .getfield 20, 3, [9, 2, 338], 0, []),
  (37, .invokevirtual 108, 3, [39, 2, 0, 3, 569], 0, []),
  (40, .aload_n 0, 1, [], 0, []),
  (41, .getfield 20, 3, [9, 2, 338], 0, []),
  (44, .iload_n 1, 1, [], 0, []),
  (45, .iload_n 2, 1, [], 0, []),
  (46, .iload_n 3, 1, [], 0, []),
  (47, .iload 4, 2, [], 0, []),
  (49, .invokevirtual 129, 3, [8, 5, 0, 1, 591], 0, []),
  (52, .aload_n 0, 1, [], 0, []),
  (53, .getfield 20, 3, [9, 2, 338], 0, []),
  (56, .aload_n 0, 1, [], 0, []),
  (57, .getfield 20, 3, [9, 2, 338], 0, []),
  (60, .iload_n 1, 1, [], 0, []),
  (61, .invokevirtual 133, 3, [11, 2, 1, 1, 592], 0, []),
  (64, .invokevirtual 136, 3, [23, 2, 1, 1, 593], 0, []),
  (67, .ireturn, 1, [], 0, [])]
def kC_cut : List am_E := [(0, .aload_n 0, 1, [], 0, []),
  (1, .getfield 20, 3, [9, 2, 338], 0, []),
  (4, .iload_n 1, 1, [], 0, []),
  (5, .iload_n 2, 1, [], 0, []),
  (6, .invokevirtual 139, 3, [4, 3, 1, 1, 588], 0, []),
  (9, .ifCond .ne 5, 3, [8], 0, []),
  (12, .iconst (-1), 1, [], (-1), []),
  (13, .ireturn, 1, [], 0, []),
  (14, .aload_n 0, 1, [], 0, []),
  (15, .getfield 20, 3, [9, 2, 338], 0, []),
  (18, .iload_n 1, 1, [], 0, []),
  (19, .iload_n 2, 1, [], 0, []),
  (20, .invokevirtual 142, 3, [17, 3, 1, 1, 601], 0, []),
  (23, .istore_n 3, 1, [], 0, []),
  (24, .iload_n 3, 1, [], 0, []),
  (25, .iconst (-1), 1, [], (-1), []),
  (26, .if_icmp .ne 6, 3, [19], 0, []),
  (29, .bipush (-2), 2, [], (-2), []),
  (31, .ireturn, 1, [], 0, []),
  (32, .aload_n 0, 1, [], 0, []),
  (33, .getfield 20, 3, [9, 2, 338], 0, []),
  (36, .getfield 146, 3, [0, 2, 108], 0, []),
  (39, .iload_n 3, 1, [], 0, []),
  (40, .iaload, 1, [], 0, []),
  (41, .istore 4, 2, [], 0, []),
  (43, .aload_n 0, 1, [], 0, []),
  (44, .getfield 41, 3, [9, 5, 341], 0, []),
  (47, .aload_n 0, 1, [], 0, []),
  (48, .getfield 20, 3, [9, 2, 338], 0, []),
  (51, .invokevirtual 108, 3, [39, 2, 0, 3, 569], 0, []),
  (54, .aload_n 0, 1, [], 0, []),
  (55, .getfield 20, 3, [9, 2, 338], 0, []),
  (58, .iload_n 1, 1, [], 0, []),
  (59, .iload_n 2, 1, [], 0, []),
  (60, .invokevirtual 149, 3, [9, 3, 0, 1, 605], 0, []),
  (63, .iload 4, 2, [], 0, []),
  (65, .ireturn, 1, [], 0, [])]
def kC_walk : List am_E := [(0, .aload_n 0, 1, [], 0, []),
  (1, .getfield 20, 3, [9, 2, 338], 0, []),
  (4, .iload_n 1, 1, [], 0, []),
  (5, .iload_n 2, 1, [], 0, []),
  (6, .invokevirtual 139, 3, [4, 3, 1, 1, 588], 0, []),
  (9, .ifCond .ne 5, 3, [8], 0, []),
  (12, .iconst (-1), 1, [], (-1), []),
  (13, .ireturn, 1, [], 0, []),
  (14, .aload_n 0, 1, [], 0, []),
  (15, .getfield 62, 3, [9, 9, 345], 0, []),
  (18, .aload_n 0, 1, [], 0, []),
  (19, .getfield 20, 3, [9, 2, 338], 0, []),
  (22, .iload_n 1, 1, [], 0, []),
  (23, .iload_n 2, 1, [], 0, []),
  (24, .invokevirtual 153, 3, [74, 4, 0, 9, 613], 0, []),
  (27, .aload_n 0, 1, [], 0, []),
  (28, .getfield 62, 3, [9, 9, 345], 0, []),
  (31, .getfield 157, 3, [8, 1, 276], 0, []),
  (34, .ifCond .ne 6, 3, [21], 0, []),
  (37, .bipush (-2), 2, [], (-2), []),
  (39, .ireturn, 1, [], 0, []),
  (40, .aload_n 0, 1, [], 0, []),
  (41, .getfield 41, 3, [9, 5, 341], 0, []),
  (44, .aload_n 0, 1, [], 0, []),
  (45, .getfield 20, 3, [9, 2, 338], 0, []),
  (48, .invokevirtual 108, 3, [39, 2, 0, 3, 569], 0, []),
  (51, .aload_n 0, 1, [], 0, []),
  (52, .getfield 20, 3, [9, 2, 338], 0, []),
  (55, .getfield 112, 3, [0, 7, 122], 0, []),
  (58, .istore_n 3, 1, [], 0, []),
  (59, .aload_n 0, 1, [], 0, []),
  (60, .getfield 20, 3, [9, 2, 338], 0, []),
  (63, .iload_n 1, 1, [], 0, []),
  (64, .iload_n 2, 1, [], 0, []),
  (65, .invokevirtual 160, 3, [7, 3, 0, 1, 631], 0, []),
  (68, .aload_n 0, 1, [], 0, []),
  (69, .getfield 55, 3, [9, 8, 344], 0, []),
  (72, .aload_n 0, 1, [], 0, []),
  (73, .getfield 20, 3, [9, 2, 338], 0, []),
  (76, .aload_n 0, 1, [], 0, []),
  (77, .getfield 62, 3, [9, 9, 345], 0, []),
  (80, .aload_n 0, 1, [], 0, []),
  (81, .getfield 20, 3, [9, 2, 338], 0, []),
  (84, .getfield 112, 3, [0, 7, 122], 0, []),
  (87, .iload_n 3, 1, [], 0, []),
  (88, .isub, 1, [], 0, []),
  (89, .invokevirtual 163, 3, [51, 4, 0, 6, 632], 0, []),
  (92, .aload_n 0, 1, [], 0, []),
  (93, .getfield 62, 3, [9, 9, 345], 0, []),
  (96, .aload_n 0, 1, [], 0, []),
  (97, .getfield 20, 3, [9, 2, 338], 0, []),
  (100, .invokevirtual 167, 3, [76, 2, 1, 9, 662], 0, []),
  (103, .ireturn, 1, [], 0, [])]
def kC_seen : List am_E := [(0, .iload_n 1, 1, [], 0, []),
  (1, .ifCond .lt 9, 3, [5], 0, []),
  (4, .iload_n 1, 1, [], 0, []),
  (5, .bipush 9, 2, [], 9, []),
  (7, .if_icmp .lt 5, 3, [7], 0, []),
  (10, .iconst (-1), 1, [], (-1), []),
  (11, .ireturn, 1, [], 0, []),
  (12, .aload_n 0, 1, [], 0, []),
  (13, .getfield 55, 3, [9, 8, 344], 0, []),
  (16, .getfield 171, 3, [5, 1, 259], 0, []),
  (19, .ifCond .eq 15, 3, [17], 0, []),
  (22, .aload_n 0, 1, [], 0, []),
  (23, .getfield 55, 3, [9, 8, 344], 0, []),
  (26, .getfield 174, 3, [5, 0, 257], 0, []),
  (29, .iload_n 1, 1, [], 0, []),
  (30, .iaload, 1, [], 0, []),
  (31, .goto 5, 3, [18], 0, []),
  (34, .bipush (-3), 2, [], (-3), []),
  (36, .ireturn, 1, [], 0, [])]
def kC_meet : List am_E := [(0, .aload_n 0, 1, [], 0, []),
  (1, .getfield 20, 3, [9, 2, 338], 0, []),
  (4, .iload_n 1, 1, [], 0, []),
  (5, .iload_n 2, 1, [], 0, []),
  (6, .invokevirtual 139, 3, [4, 3, 1, 1, 588], 0, []),
  (9, .ifCond .ne 5, 3, [8], 0, []),
  (12, .iconst (-1), 1, [], (-1), []),
  (13, .ireturn, 1, [], 0, []),
  (14, .aload_n 0, 1, [], 0, []),
  (15, .getfield 20, 3, [9, 2, 338], 0, []),
  (18, .iload_n 1, 1, [], 0, []),
  (19, .iload_n 2, 1, [], 0, []),
  (20, .invokevirtual 177, 3, [16, 3, 1, 1, 671], 0, []),
  (23, .istore_n 3, 1, [], 0, []),
  (24, .iload_n 3, 1, [], 0, []),
  (25, .iconst (-1), 1, [], (-1), []),
  (26, .if_icmp .ne 6, 3, [19], 0, []),
  (29, .bipush (-2), 2, [], (-2), []),
  (31, .ireturn, 1, [], 0, []),
  (32, .aload_n 0, 1, [], 0, []),
  (33, .getfield 41, 3, [9, 5, 341], 0, []),
  (36, .aload_n 0, 1, [], 0, []),
  (37, .getfield 20, 3, [9, 2, 338], 0, []),
  (40, .invokevirtual 108, 3, [39, 2, 0, 3, 569], 0, []),
  (43, .aload_n 0, 1, [], 0, []),
  (44, .getfield 20, 3, [9, 2, 338], 0, []),
  (47, .iload_n 1, 1, [], 0, []),
  (48, .invokevirtual 115, 3, [5, 2, 0, 1, 574], 0, []),
  (51, .aload_n 0, 1, [], 0, []),
  (52, .getfield 20, 3, [9, 2, 338], 0, []),
  (55, .iload_n 2, 1, [], 0, []),
  (56, .invokevirtual 115, 3, [5, 2, 0, 1, 574], 0, []),
  (59, .iload_n 3, 1, [], 0, []),
  (60, .ireturn, 1, [], 0, [])]
def kC_raise : List am_E := [(0, .aload_n 0, 1, [], 0, []),
  (1, .getfield 20, 3, [9, 2, 338], 0, []),
  (4, .iload_n 1, 1, [], 0, []),
  (5, .iload_n 2, 1, [], 0, []),
  (6, .invokevirtual 139, 3, [4, 3, 1, 1, 588], 0, []),
  (9, .ifCond .eq 16, 3, [11], 0, []),
  (12, .iload_n 3, 1, [], 0, []),
  (13, .sipush (-9999), 3, [], (-9999), []),
  (16, .sipush 9999, 3, [], 9999, []),
  (19, .invokestatic 180, 3, [127, 3, 1, 0, 589], 0, []),
  (22, .ifCond .ne 5, 3, [13], 0, []),
  (25, .iconst (-1), 1, [], (-1), []),
  (26, .ireturn, 1, [], 0, []),
  (27, .aload_n 0, 1, [], 0, []),
  (28, .getfield 62, 3, [9, 9, 345], 0, []),
  (31, .aload_n 0, 1, [], 0, []),
  (32, .getfield 20, 3, [9, 2, 338], 0, []),
  (35, .iload_n 1, 1, [], 0, []),
  (36, .iload_n 2, 1, [], 0, []),
  (37, .invokevirtual 153, 3, [74, 4, 0, 9, 613], 0, []),
  (40, .aload_n 0, 1, [], 0, []),
  (41, .getfield 62, 3, [9, 9, 345], 0, []),
  (44, .getfield 157, 3, [8, 1, 276], 0, []),
  (47, .ifCond .ne 6, 3, [26], 0, []),
  (50, .bipush (-2), 2, [], (-2), []),
  (52, .ireturn, 1, [], 0, []),
  (53, .aload_n 0, 1, [], 0, []),
  (54, .getfield 62, 3, [9, 9, 345], 0, []),
  (57, .aload_n 0, 1, [], 0, []),
  (58, .getfield 20, 3, [9, 2, 338], 0, []),
  (61, .aload_n 0, 1, [], 0, []),
  (62, .getfield 20, 3, [9, 2, 338], 0, []),
  (65, .getfield 146, 3, [0, 2, 108], 0, []),
  (68, .iload_n 3, 1, [], 0, []),
  (69, .iconst 1, 1, [], 1, []),
  (70, .invokevirtual 184, 3, [82, 5, 1, 9, 676], 0, []),
  (73, .ifCond .ne 6, 3, [39], 0, []),
  (76, .bipush (-3), 2, [], (-3), []),
  (78, .ireturn, 1, [], 0, []),
  (79, .aload_n 0, 1, [], 0, []),
  (80, .getfield 41, 3, [9, 5, 341], 0, []),
  (83, .aload_n 0, 1, [], 0, []),
  (84, .getfield 20, 3, [9, 2, 338], 0, []),
  (87, .invokevirtual 108, 3, [39, 2, 0, 3, 569], 0, []),
  (90, .aload_n 0, 1, [], 0, []),
  (91, .getfield 20, 3, [9, 2, 338], 0, []),
  (94, .iload_n 1, 1, [], 0, []),
  (95, .iload_n 2, 1, [], 0, []),
  (96, .invokevirtual 160, 3, [7, 3, 0, 1, 631], 0, []),
  (99, .aload_n 0, 1, [], 0, []),
  (100, .getfield 62, 3, [9, 9, 345], 0, []),
  (103, .aload_n 0, 1, [], 0, []),
  (104, .getfield 20, 3, [9, 2, 338], 0, []),
  (107, .aload_n 0, 1, [], 0, []),
  (108, .getfield 20, 3, [9, 2, 338], 0, []),
  (111, .getfield 146, 3, [0, 2, 108], 0, []),
  (114, .iload_n 3, 1, [], 0, []),
  (115, .invokevirtual 188, 3, [83, 4, 0, 9, 681], 0, []),
  (118, .aload_n 0, 1, [], 0, []),
  (119, .getfield 62, 3, [9, 9, 345], 0, []),
  (122, .getfield 157, 3, [8, 1, 276], 0, []),
  (125, .iconst 1, 1, [], 1, []),
  (126, .isub, 1, [], 0, []),
  (127, .ireturn, 1, [], 0, [])]
def kC_cutDearest : List am_E := [(0, .aload_n 0, 1, [], 0, []),
  (1, .getfield 20, 3, [9, 2, 338], 0, []),
  (4, .iload_n 1, 1, [], 0, []),
  (5, .iload_n 2, 1, [], 0, []),
  (6, .invokevirtual 139, 3, [4, 3, 1, 1, 588], 0, []),
  (9, .ifCond .ne 5, 3, [8], 0, []),
  (12, .iconst (-1), 1, [], (-1), []),
  (13, .ireturn, 1, [], 0, []),
  (14, .aload_n 0, 1, [], 0, []),
  (15, .getfield 62, 3, [9, 9, 345], 0, []),
  (18, .aload_n 0, 1, [], 0, []),
  (19, .getfield 20, 3, [9, 2, 338], 0, []),
  (22, .iload_n 1, 1, [], 0, []),
  (23, .iload_n 2, 1, [], 0, []),
  (24, .invokevirtual 153, 3, [74, 4, 0, 9, 613], 0, []),
  (27, .aload_n 0, 1, [], 0, []),
  (28, .getfield 62, 3, [9, 9, 345], 0, []),
  (31, .getfield 157, 3, [8, 1, 276], 0, []),
  (34, .iconst 2, 1, [], 2, []),
  (35, .if_icmp .ge 6, 3, [22], 0, []),
  (38, .bipush (-2), 2, [], (-2), []),
  (40, .ireturn, 1, [], 0, []),
  (41, .aload_n 0, 1, [], 0, []),
  (42, .getfield 62, 3, [9, 9, 345], 0, []),
  (45, .aload_n 0, 1, [], 0, []),
  (46, .getfield 20, 3, [9, 2, 338], 0, []),
  (49, .invokevirtual 192, 3, [79, 2, 1, 9, 689], 0, []),
  (52, .istore_n 3, 1, [], 0, []),
  (53, .aload_n 0, 1, [], 0, []),
  (54, .getfield 41, 3, [9, 5, 341], 0, []),
  (57, .aload_n 0, 1, [], 0, []),
  (58, .getfield 20, 3, [9, 2, 338], 0, []),
  (61, .invokevirtual 108, 3, [39, 2, 0, 3, 569], 0, []),
  (64, .aload_n 0, 1, [], 0, []),
  (65, .getfield 20, 3, [9, 2, 338], 0, []),
  (68, .iload_n 1, 1, [], 0, []),
  (69, .iload_n 2, 1, [], 0, []),
  (70, .invokevirtual 160, 3, [7, 3, 0, 1, 631], 0, []),
  (73, .aload_n 0, 1, [], 0, []),
  (74, .getfield 62, 3, [9, 9, 345], 0, []),
  (77, .aload_n 0, 1, [], 0, []),
  (78, .getfield 20, 3, [9, 2, 338], 0, []),
  (81, .invokevirtual 195, 3, [80, 2, 0, 9, 690], 0, []),
  (84, .iload_n 3, 1, [], 0, []),
  (85, .ireturn, 1, [], 0, [])]
def kC_send : List am_E := [(0, .aload_n 0, 1, [], 0, []),
  (1, .getfield 20, 3, [9, 2, 338], 0, []),
  (4, .iload_n 1, 1, [], 0, []),
  (5, .iload_n 2, 1, [], 0, []),
  (6, .invokevirtual 139, 3, [4, 3, 1, 1, 588], 0, []),
  (9, .ifCond .eq 16, 3, [11], 0, []),
  (12, .iload_n 3, 1, [], 0, []),
  (13, .sipush (-9999), 3, [], (-9999), []),
  (16, .sipush 9999, 3, [], 9999, []),
  (19, .invokestatic 180, 3, [127, 3, 1, 0, 589], 0, []),
  (22, .ifCond .ne 5, 3, [13], 0, []),
  (25, .iconst (-1), 1, [], (-1), []),
  (26, .ireturn, 1, [], 0, []),
  (27, .aload_n 0, 1, [], 0, []),
  (28, .getfield 62, 3, [9, 9, 345], 0, []),
  (31, .aload_n 0, 1, [], 0, []),
  (32, .getfield 20, 3, [9, 2, 338], 0, []),
  (35, .iload_n 1, 1, [], 0, []),
  (36, .iload_n 2, 1, [], 0, []),
  (37, .invokevirtual 153, 3, [74, 4, 0, 9, 613], 0, []),
  (40, .aload_n 0, 1, [], 0, []),
  (41, .getfield 62, 3, [9, 9, 345], 0, []),
  (44, .getfield 157, 3, [8, 1, 276], 0, []),
  (47, .ifCond .ne 6, 3, [26], 0, []),
  (50, .bipush (-2), 2, [], (-2), []),
  (52, .ireturn, 1, [], 0, []),
  (53, .aload_n 0, 1, [], 0, []),
  (54, .getfield 62, 3, [9, 9, 345], 0, []),
  (57, .aload_n 0, 1, [], 0, []),
  (58, .getfield 20, 3, [9, 2, 338], 0, []),
  (61, .aload_n 0, 1, [], 0, []),
  (62, .getfield 20, 3, [9, 2, 338], 0, []),
  (65, .getfield 198, 3, [0, 3, 111], 0, []),
  (68, .iload_n 3, 1, [], 0, []),
  (69, .ineg, 1, [], 0, []),
  (70, .iconst 0, 1, [], 0, []),
  (71, .invokevirtual 184, 3, [82, 5, 1, 9, 676], 0, []),
  (74, .ifCond .ne 6, 3, [40], 0, []),
  (77, .bipush (-3), 2, [], (-3), []),
  (79, .ireturn, 1, [], 0, []),
  (80, .aload_n 0, 1, [], 0, []),
  (81, .getfield 41, 3, [9, 5, 341], 0, []),
  (84, .aload_n 0, 1, [], 0, []),
  (85, .getfield 20, 3, [9, 2, 338], 0, []),
  (88, .invokevirtual 108, 3, [39, 2, 0, 3, 569], 0, []),
  (91, .aload_n 0, 1, [], 0, []),
  (92, .getfield 20, 3, [9, 2, 338], 0, []),
  (95, .iload_n 1, 1, [], 0, []),
  (96, .iload_n 2, 1, [], 0, []),
  (97, .invokevirtual 160, 3, [7, 3, 0, 1, 631], 0, []),
  (100, .aload_n 0, 1, [], 0, []),
  (101, .getfield 62, 3, [9, 9, 345], 0, []),
  (104, .aload_n 0, 1, [], 0, []),
  (105, .getfield 20, 3, [9, 2, 338], 0, []),
  (108, .aload_n 0, 1, [], 0, []),
  (109, .getfield 20, 3, [9, 2, 338], 0, []),
  (112, .getfield 198, 3, [0, 3, 111], 0, []),
  (115, .iload_n 3, 1, [], 0, []),
  (116, .ineg, 1, [], 0, []),
  (117, .invokevirtual 188, 3, [83, 4, 0, 9, 681], 0, []),
  (120, .aload_n 0, 1, [], 0, []),
  (121, .getfield 62, 3, [9, 9, 345], 0, []),
  (124, .getfield 157, 3, [8, 1, 276], 0, []),
  (127, .iconst 1, 1, [], 1, []),
  (128, .isub, 1, [], 0, []),
  (129, .ireturn, 1, [], 0, [])]
def kC_settle : List am_E := [(0, .aload_n 0, 1, [], 0, []),
  (1, .getfield 20, 3, [9, 2, 338], 0, []),
  (4, .iload_n 1, 1, [], 0, []),
  (5, .invokevirtual 104, 3, [3, 2, 1, 1, 568], 0, []),
  (8, .ifCond .ne 5, 3, [7], 0, []),
  (11, .iconst (-1), 1, [], (-1), []),
  (12, .ireturn, 1, [], 0, []),
  (13, .aload_n 0, 1, [], 0, []),
  (14, .getfield 41, 3, [9, 5, 341], 0, []),
  (17, .aload_n 0, 1, [], 0, []),
  (18, .getfield 20, 3, [9, 2, 338], 0, []),
  (21, .invokevirtual 108, 3, [39, 2, 0, 3, 569], 0, []),
  (24, .aload_n 0, 1, [], 0, []),
  (25, .getfield 20, 3, [9, 2, 338], 0, []),
  (28, .iload_n 1, 1, [], 0, []),
  (29, .invokevirtual 201, 3, [10, 2, 1, 1, 703], 0, []),
  (32, .ireturn, 1, [], 0, [])]
def kC_exchange : List am_E := [(0, .aload_n 0, 1, [], 0, []),
  (1, .iload_n 1, 1, [], 0, []),
  (2, .iload_n 2, 1, [], 0, []),
  (3, .iload_n 3, 1, [], 0, []),
  (4, .iload 4, 2, [], 0, []),
  (6, .invokevirtual 121, 3, [128, 5, 1, 10, 584], 0, []),
  (9, .ifCond .ne 5, 3, [9], 0, []),
  (12, .iconst (-1), 1, [], (-1), []),
  (13, .ireturn, 1, [], 0, []),
  (14, .aload_n 0, 1, [], 0, []),
  (15, .getfield 62, 3, [9, 9, 345], 0, []),
  (18, .aload_n 0, 1, [], 0, []),
  (19, .getfield 20, 3, [9, 2, 338], 0, []),
  (22, .iload_n 1, 1, [], 0, []),
  (23, .iload_n 2, 1, [], 0, []),
  (24, .invokevirtual 153, 3, [74, 4, 0, 9, 613], 0, []),
  (27, .aload_n 0, 1, [], 0, []),
  (28, .getfield 62, 3, [9, 9, 345], 0, []),
  (31, .getfield 157, 3, [8, 1, 276], 0, []),
  (34, .iconst 1, 1, [], 1, []),
  (35, .if_icmp .eq 29, 3, [33], 0, []),
  (38, .aload_n 0, 1, [], 0, []),
  (39, .getfield 62, 3, [9, 9, 345], 0, []),
  (42, .getfield 157, 3, [8, 1, 276], 0, []),
  (45, .iconst 1, 1, [], 1, []),
  (46, .if_icmp .le 21, 3, [35], 0, []),
  (49, .aload_n 0, 1, [], 0, []),
  (50, .getfield 62, 3, [9, 9, 345], 0, []),
  (53, .aload_n 0, 1, [], 0, []),
  (54, .getfield 20, 3, [9, 2, 338], 0, []),
  (57, .invokevirtual 192, 3, [79, 2, 1, 9, 689], 0, []),
  (60, .iload_n 3, 1, [], 0, []),
  (61, .if_icmp .gt 6, 3, [35], 0, []),
  (64, .bipush (-2), 2, [], (-2), []),
  (66, .ireturn, 1, [], 0, []),
  (67, .aload_n 0, 1, [], 0, []),
  (68, .getfield 41, 3, [9, 5, 341], 0, []),
  (71, .aload_n 0, 1, [], 0, []),
  (72, .getfield 20, 3, [9, 2, 338], 0, []),
  (75, .invokevirtual 108, 3, [39, 2, 0, 3, 569], 0, []),
  (78, .iconst 0, 1, [], 0, []),
  (79, .istore 5, 2, [], 0, []),
  (81, .aload_n 0, 1, [], 0, []),
  (82, .getfield 62, 3, [9, 9, 345], 0, []),
  (85, .getfield 157, 3, [8, 1, 276], 0, []),
  (88, .iconst 1, 1, [], 1, []),
  (89, .if_icmp .le 36, 3, [63], 0, []),
  (92, .aload_n 0, 1, [], 0, []),
  (93, .getfield 62, 3, [9, 9, 345], 0, []),
  (96, .aload_n 0, 1, [], 0, []),
  (97, .getfield 20, 3, [9, 2, 338], 0, []),
  (100, .invokevirtual 192, 3, [79, 2, 1, 9, 689], 0, []),
  (103, .istore 5, 2, [], 0, []),
  (105, .aload_n 0, 1, [], 0, []),
  (106, .getfield 20, 3, [9, 2, 338], 0, []),
  (109, .iload_n 1, 1, [], 0, []),
  (110, .iload_n 2, 1, [], 0, []),
  (111, .invokevirtual 160, 3, [7, 3, 0, 1, 631], 0, []),
  (114, .aload_n 0, 1, [], 0, []),
  (115, .getfield 62, 3, [9, 9, 345], 0, []),
  (118, .aload_n 0, 1, [], 0, []),
  (119, .getfield 20, 3, [9, 2, 338], 0, []),
  (122, .invokevirtual 195, 3, [80, 2, 0, 9, 690], 0, []),
  (125, .aload_n 0, 1, [], 0, []),
  (126, .getfield 20, 3, [9, 2, 338], 0, []),
  (129, .iload_n 1, 1, [], 0, []),
  (130, .iload_n 2, 1, [], 0, []),
  (131, .iload_n 3, 1, [], 0, []),
  (132, .iload 4, 2, [], 0, []),
  (134, .invokevirtual 129, 3, [8, 5, 0, 1, 591], 0, []),
  (137, .iload 5, 2, [], 0, []),
  (139, .ireturn, 1, [], 0, [])]
def kC_shed : List am_E := [(0, .aload_n 0, 1, [], 0, []),
  (1, .getfield 20, 3, [9, 2, 338], 0, []),
  (4, .iload_n 1, 1, [], 0, []),
  (5, .invokevirtual 104, 3, [3, 2, 1, 1, 568], 0, []),
  (8, .ifCond .ne 5, 3, [7], 0, []),
  (11, .iconst (-1), 1, [], (-1), []),
  (12, .ireturn, 1, [], 0, []),
  (13, .aload_n 0, 1, [], 0, []),
  (14, .getfield 20, 3, [9, 2, 338], 0, []),
  (17, .getfield 204, 3, [0, 0, 100], 0, []),
  (20, .iload_n 1, 1, [], 0, []),
  (21, .iaload, 1, [], 0, []),
  (22, .istore_n 2, 1, [], 0, []),
  (23, .iload_n 2, 1, [], 0, []),
  (24, .iconst (-1), 1, [], (-1), []),
  (25, .if_icmp .ne 6, 3, [18], 0, []),
  (28, .bipush (-2), 2, [], (-2), []),
  (30, .ireturn, 1, [], 0, []),
  (31, .aload_n 0, 1, [], 0, []),
  (32, .getfield 20, 3, [9, 2, 338], 0, []),
  (35, .getfield 146, 3, [0, 2, 108], 0, []),
  (38, .iload_n 1, 1, [], 0, []),
  (39, .iaload, 1, [], 0, []),
  (40, .istore_n 3, 1, [], 0, []),
  (41, .aload_n 0, 1, [], 0, []),
  (42, .getfield 41, 3, [9, 5, 341], 0, []),
  (45, .aload_n 0, 1, [], 0, []),
  (46, .getfield 20, 3, [9, 2, 338], 0, []),
  (49, .invokevirtual 108, 3, [39, 2, 0, 3, 569], 0, []),
  (52, .aload_n 0, 1, [], 0, []),
  (53, .getfield 20, 3, [9, 2, 338], 0, []),
  (56, .iload_n 2, 1, [], 0, []),
  (57, .iload_n 1, 1, [], 0, []),
  (58, .invokevirtual 149, 3, [9, 3, 0, 1, 605], 0, []),
  (61, .iload_n 3, 1, [], 0, []),
  (62, .ireturn, 1, [], 0, [])]
def kC_value : List am_E := [(0, .aload_n 0, 1, [], 0, []),
  (1, .getfield 20, 3, [9, 2, 338], 0, []),
  (4, .iload_n 1, 1, [], 0, []),
  (5, .invokevirtual 104, 3, [3, 2, 1, 1, 568], 0, []),
  (8, .ifCond .eq 16, 3, [10], 0, []),
  (11, .iload_n 2, 1, [], 0, []),
  (12, .sipush (-9999), 3, [], (-9999), []),
  (15, .sipush 9999, 3, [], 9999, []),
  (18, .invokestatic 180, 3, [127, 3, 1, 0, 589], 0, []),
  (21, .ifCond .ne 7, 3, [12], 0, []),
  (24, .sipush (-20000), 3, [], (-20000), []),
  (27, .ireturn, 1, [], 0, []),
  (28, .aload_n 0, 1, [], 0, []),
  (29, .getfield 41, 3, [9, 5, 341], 0, []),
  (32, .aload_n 0, 1, [], 0, []),
  (33, .getfield 20, 3, [9, 2, 338], 0, []),
  (36, .invokevirtual 108, 3, [39, 2, 0, 3, 569], 0, []),
  (39, .aload_n 0, 1, [], 0, []),
  (40, .getfield 20, 3, [9, 2, 338], 0, []),
  (43, .getfield 207, 3, [0, 4, 114], 0, []),
  (46, .iload_n 1, 1, [], 0, []),
  (47, .iaload, 1, [], 0, []),
  (48, .istore_n 3, 1, [], 0, []),
  (49, .aload_n 0, 1, [], 0, []),
  (50, .getfield 20, 3, [9, 2, 338], 0, []),
  (53, .getfield 207, 3, [0, 4, 114], 0, []),
  (56, .iload_n 1, 1, [], 0, []),
  (57, .iload_n 2, 1, [], 0, []),
  (58, .iastore, 1, [], 0, []),
  (59, .iload_n 3, 1, [], 0, []),
  (60, .ireturn, 1, [], 0, [])]
def kC_town : List am_E := [(0, .aload_n 0, 1, [], 0, []),
  (1, .getfield 20, 3, [9, 2, 338], 0, []),
  (4, .iload_n 1, 1, [], 0, []),
  (5, .invokevirtual 104, 3, [3, 2, 1, 1, 568], 0, []),
  (8, .ifCond .ne 13, 3, [10], 0, []),
  (11, .new 210, 3, [], 0, []),
  (14, .dup, 1, [], 0, []),
  (15, .ldc 212, 2, [], 0, []),
  (17, .invokespecial 214, 3, [], 0, []),
  (20, .athrow, 1, [], 0, []),
  (21, .iload_n 2, 1, [], 0, []),
  (22, .ifCond .lt 9, 3, [15], 0, []),
  (25, .iload_n 2, 1, [], 0, []),
  (26, .bipush 10, 2, [], 10, []),
  (28, .if_icmp .lt 13, 3, [20], 0, []),
  (31, .new 217, 3, [], 0, []),
  (34, .dup, 1, [], 0, []),
  (35, .ldc 219, 2, [], 0, []),
  (37, .invokespecial 221, 3, [], 0, []),
  (40, .athrow, 1, [], 0, []),
  (41, .aload_n 0, 1, [], 0, []),
  (42, .iload_n 1, 1, [], 0, []),
  (43, .iload_n 2, 1, [], 0, []),
  (44, .invokevirtual 222, 3, [131, 3, 1, 10, 1027], 0, []),
  (47, .ireturn, 1, [], 0, [])]
def kC_chain : List am_E := [(0, .aload_n 0, 1, [], 0, []),
  (1, .getfield 20, 3, [9, 2, 338], 0, []),
  (4, .iload_n 1, 1, [], 0, []),
  (5, .invokevirtual 104, 3, [3, 2, 1, 1, 568], 0, []),
  (8, .ifCond .eq 12, 3, [10], 0, []),
  (11, .iload_n 2, 1, [], 0, []),
  (12, .ifCond .lt 8, 3, [10], 0, []),
  (15, .iload_n 2, 1, [], 0, []),
  (16, .iconst 5, 1, [], 5, []),
  (17, .if_icmp .lt 5, 3, [12], 0, []),
  (20, .iconst (-1), 1, [], (-1), []),
  (21, .ireturn, 1, [], 0, []),
  (22, .aload_n 0, 1, [], 0, []),
  (23, .getfield 20, 3, [9, 2, 338], 0, []),
  (26, .iload_n 1, 1, [], 0, []),
  (27, .invokevirtual 225, 3, [18, 2, 1, 1, 720], 0, []),
  (30, .istore_n 3, 1, [], 0, []),
  (31, .aload_n 0, 1, [], 0, []),
  (32, .getfield 20, 3, [9, 2, 338], 0, []),
  (35, .iload_n 1, 1, [], 0, []),
  (36, .invokevirtual 228, 3, [19, 2, 1, 1, 724], 0, []),
  (39, .istore 4, 2, [], 0, []),
  (41, .iload_n 2, 1, [], 0, []),
  (42, .tableswitch 74 0 3 #[30, 32, 35, 56], 30, [50], 0, [(0, 24), (1, 26), (2, 28), (3, 40)]),
  (72, .iload_n 3, 1, [], 0, []),
  (73, .ireturn, 1, [], 0, []),
  (74, .iload 4, 2, [], 0, []),
  (76, .ireturn, 1, [], 0, []),
  (77, .aload_n 0, 1, [], 0, []),
  (78, .getfield 20, 3, [9, 2, 338], 0, []),
  (81, .iload 4, 2, [], 0, []),
  (83, .invokevirtual 231, 3, [12, 2, 1, 1, 728], 0, []),
  (86, .aload_n 0, 1, [], 0, []),
  (87, .getfield 20, 3, [9, 2, 338], 0, []),
  (90, .iload_n 3, 1, [], 0, []),
  (91, .invokevirtual 231, 3, [12, 2, 1, 1, 728], 0, []),
  (94, .isub, 1, [], 0, []),
  (95, .iconst 1, 1, [], 1, []),
  (96, .iadd, 1, [], 0, []),
  (97, .ireturn, 1, [], 0, []),
  (98, .aload_n 0, 1, [], 0, []),
  (99, .getfield 20, 3, [9, 2, 338], 0, []),
  (102, .iload_n 1, 1, [], 0, []),
  (103, .invokevirtual 231, 3, [12, 2, 1, 1, 728], 0, []),
  (106, .aload_n 0, 1, [], 0, []),
  (107, .getfield 20, 3, [9, 2, 338], 0, []),
  (110, .iload_n 3, 1, [], 0, []),
  (111, .invokevirtual 231, 3, [12, 2, 1, 1, 728], 0, []),
  (114, .isub, 1, [], 0, []),
  (115, .ireturn, 1, [], 0, []),
  (116, .aload_n 0, 1, [], 0, []),
  (117, .getfield 62, 3, [9, 9, 345], 0, []),
  (120, .aload_n 0, 1, [], 0, []),
  (121, .getfield 20, 3, [9, 2, 338], 0, []),
  (124, .iload_n 3, 1, [], 0, []),
  (125, .iload 4, 2, [], 0, []),
  (127, .invokevirtual 153, 3, [74, 4, 0, 9, 613], 0, []),
  (130, .aload_n 0, 1, [], 0, []),
  (131, .getfield 62, 3, [9, 9, 345], 0, []),
  (134, .aload_n 0, 1, [], 0, []),
  (135, .getfield 20, 3, [9, 2, 338], 0, []),
  (138, .invokevirtual 167, 3, [76, 2, 1, 9, 662], 0, []),
  (141, .ireturn, 1, [], 0, [])]
def kC_above : List am_E := [(0, .aload_n 0, 1, [], 0, []),
  (1, .getfield 20, 3, [9, 2, 338], 0, []),
  (4, .iload_n 1, 1, [], 0, []),
  (5, .invokevirtual 104, 3, [3, 2, 1, 1, 568], 0, []),
  (8, .ifCond .eq 7, 3, [7], 0, []),
  (11, .iload_n 2, 1, [], 0, []),
  (12, .ifCond .ge 5, 3, [9], 0, []),
  (15, .iconst (-1), 1, [], (-1), []),
  (16, .ireturn, 1, [], 0, []),
  (17, .iload_n 2, 1, [], 0, []),
  (18, .aload_n 0, 1, [], 0, []),
  (19, .getfield 20, 3, [9, 2, 338], 0, []),
  (22, .iload_n 1, 1, [], 0, []),
  (23, .invokevirtual 231, 3, [12, 2, 1, 1, 728], 0, []),
  (26, .if_icmp .le 6, 3, [17], 0, []),
  (29, .bipush (-2), 2, [], (-2), []),
  (31, .ireturn, 1, [], 0, []),
  (32, .aload_n 0, 1, [], 0, []),
  (33, .getfield 20, 3, [9, 2, 338], 0, []),
  (36, .iload_n 1, 1, [], 0, []),
  (37, .iload_n 2, 1, [], 0, []),
  (38, .invokevirtual 234, 3, [13, 3, 1, 1, 733], 0, []),
  (41, .ireturn, 1, [], 0, [])]
def kC_along : List am_E := [(0, .aload_n 0, 1, [], 0, []),
  (1, .getfield 20, 3, [9, 2, 338], 0, []),
  (4, .iload_n 1, 1, [], 0, []),
  (5, .iload_n 2, 1, [], 0, []),
  (6, .invokevirtual 139, 3, [4, 3, 1, 1, 588], 0, []),
  (9, .ifCond .eq 7, 3, [8], 0, []),
  (12, .iload_n 3, 1, [], 0, []),
  (13, .ifCond .ge 5, 3, [10], 0, []),
  (16, .iconst (-1), 1, [], (-1), []),
  (17, .ireturn, 1, [], 0, []),
  (18, .aload_n 0, 1, [], 0, []),
  (19, .getfield 62, 3, [9, 9, 345], 0, []),
  (22, .aload_n 0, 1, [], 0, []),
  (23, .getfield 20, 3, [9, 2, 338], 0, []),
  (26, .iload_n 1, 1, [], 0, []),
  (27, .iload_n 2, 1, [], 0, []),
  (28, .invokevirtual 153, 3, [74, 4, 0, 9, 613], 0, []),
  (31, .iload_n 3, 1, [], 0, []),
  (32, .aload_n 0, 1, [], 0, []),
  (33, .getfield 62, 3, [9, 9, 345], 0, []),
  (36, .getfield 157, 3, [8, 1, 276], 0, []),
  (39, .if_icmp .ge 15, 3, [28], 0, []),
  (42, .aload_n 0, 1, [], 0, []),
  (43, .getfield 62, 3, [9, 9, 345], 0, []),
  (46, .getfield 237, 3, [8, 0, 273], 0, []),
  (49, .iload_n 3, 1, [], 0, []),
  (50, .iaload, 1, [], 0, []),
  (51, .goto 5, 3, [29], 0, []),
  (54, .bipush (-2), 2, [], (-2), []),
  (56, .ireturn, 1, [], 0, [])]
def kC_together : List am_E := [(0, .aload_n 0, 1, [], 0, []),
  (1, .getfield 20, 3, [9, 2, 338], 0, []),
  (4, .iload_n 1, 1, [], 0, []),
  (5, .iload_n 2, 1, [], 0, []),
  (6, .invokevirtual 139, 3, [4, 3, 1, 1, 588], 0, []),
  (9, .ifCond .ne 5, 3, [8], 0, []),
  (12, .iconst (-1), 1, [], (-1), []),
  (13, .ireturn, 1, [], 0, []),
  (14, .aload_n 0, 1, [], 0, []),
  (15, .getfield 20, 3, [9, 2, 338], 0, []),
  (18, .iload_n 1, 1, [], 0, []),
  (19, .iload_n 2, 1, [], 0, []),
  (20, .invokevirtual 125, 3, [15, 3, 1, 1, 590], 0, []),
  (23, .ifCond .eq 7, 3, [16], 0, []),
  (26, .iconst 1, 1, [], 1, []),
  (27, .goto 4, 3, [17], 0, []),
  (30, .iconst 0, 1, [], 0, []),
  (31, .ireturn, 1, [], 0, [])]
def kC_far : List am_E := [(0, .aload_n 0, 1, [], 0, []),
  (1, .getfield 20, 3, [9, 2, 338], 0, []),
  (4, .iload_n 1, 1, [], 0, []),
  (5, .iload_n 2, 1, [], 0, []),
  (6, .invokevirtual 139, 3, [4, 3, 1, 1, 588], 0, []),
  (9, .ifCond .ne 5, 3, [8], 0, []),
  (12, .iconst (-1), 1, [], (-1), []),
  (13, .ireturn, 1, [], 0, []),
  (14, .aload_n 0, 1, [], 0, []),
  (15, .getfield 62, 3, [9, 9, 345], 0, []),
  (18, .aload_n 0, 1, [], 0, []),
  (19, .getfield 20, 3, [9, 2, 338], 0, []),
  (22, .iload_n 1, 1, [], 0, []),
  (23, .iload_n 2, 1, [], 0, []),
  (24, .invokevirtual 153, 3, [74, 4, 0, 9, 613], 0, []),
  (27, .aload_n 0, 1, [], 0, []),
  (28, .getfield 62, 3, [9, 9, 345], 0, []),
  (31, .getfield 157, 3, [8, 1, 276], 0, []),
  (34, .ifCond .ne 8, 3, [21], 0, []),
  (37, .bipush (-2), 2, [], (-2), []),
  (39, .goto 14, 3, [26], 0, []),
  (42, .aload_n 0, 1, [], 0, []),
  (43, .getfield 62, 3, [9, 9, 345], 0, []),
  (46, .aload_n 0, 1, [], 0, []),
  (47, .getfield 20, 3, [9, 2, 338], 0, []),
  (50, .invokevirtual 167, 3, [76, 2, 1, 9, 662], 0, []),
  (53, .ireturn, 1, [], 0, [])]
def kC_meets : List am_E := [(0, .aload_n 0, 1, [], 0, []),
  (1, .getfield 20, 3, [9, 2, 338], 0, []),
  (4, .iload_n 1, 1, [], 0, []),
  (5, .iload_n 2, 1, [], 0, []),
  (6, .invokevirtual 139, 3, [4, 3, 1, 1, 588], 0, []),
  (9, .ifCond .ne 5, 3, [8], 0, []),
  (12, .iconst (-1), 1, [], (-1), []),
  (13, .ireturn, 1, [], 0, []),
  (14, .aload_n 0, 1, [], 0, []),
  (15, .getfield 20, 3, [9, 2, 338], 0, []),
  (18, .iload_n 1, 1, [], 0, []),
  (19, .iload_n 2, 1, [], 0, []),
  (20, .invokevirtual 177, 3, [16, 3, 1, 1, 671], 0, []),
  (23, .istore_n 3, 1, [], 0, []),
  (24, .iload_n 3, 1, [], 0, []),
  (25, .iconst (-1), 1, [], (-1), []),
  (26, .if_icmp .ne 8, 3, [19], 0, []),
  (29, .bipush (-2), 2, [], (-2), []),
  (31, .goto 4, 3, [20], 0, []),
  (34, .iload_n 3, 1, [], 0, []),
  (35, .ireturn, 1, [], 0, [])]
def kC_room : List am_E := [(0, .aload_n 0, 1, [], 0, []),
  (1, .getfield 20, 3, [9, 2, 338], 0, []),
  (4, .iload_n 1, 1, [], 0, []),
  (5, .iload_n 2, 1, [], 0, []),
  (6, .invokevirtual 139, 3, [4, 3, 1, 1, 588], 0, []),
  (9, .ifCond .ne 5, 3, [8], 0, []),
  (12, .iconst (-1), 1, [], (-1), []),
  (13, .ireturn, 1, [], 0, []),
  (14, .aload_n 0, 1, [], 0, []),
  (15, .getfield 62, 3, [9, 9, 345], 0, []),
  (18, .aload_n 0, 1, [], 0, []),
  (19, .getfield 20, 3, [9, 2, 338], 0, []),
  (22, .iload_n 1, 1, [], 0, []),
  (23, .iload_n 2, 1, [], 0, []),
  (24, .invokevirtual 153, 3, [74, 4, 0, 9, 613], 0, []),
  (27, .aload_n 0, 1, [], 0, []),
  (28, .getfield 62, 3, [9, 9, 345], 0, []),
  (31, .aload_n 0, 1, [], 0, []),
  (32, .getfield 20, 3, [9, 2, 338], 0, []),
  (35, .aload_n 0, 1, [], 0, []),
  (36, .getfield 20, 3, [9, 2, 338], 0, []),
  (39, .getfield 198, 3, [0, 3, 111], 0, []),
  (42, .invokevirtual 240, 3, [81, 3, 1, 9, 754], 0, []),
  (45, .ireturn, 1, [], 0, [])]
def kC_order : List am_E := [(0, .aload_n 0, 1, [], 0, []),
  (1, .getfield 20, 3, [9, 2, 338], 0, []),
  (4, .iload_n 1, 1, [], 0, []),
  (5, .invokevirtual 104, 3, [3, 2, 1, 1, 568], 0, []),
  (8, .ifCond .eq 7, 3, [7], 0, []),
  (11, .iload_n 2, 1, [], 0, []),
  (12, .ifCond .ge 5, 3, [9], 0, []),
  (15, .iconst (-1), 1, [], (-1), []),
  (16, .ireturn, 1, [], 0, []),
  (17, .aload_n 0, 1, [], 0, []),
  (18, .getfield 69, 3, [9, 10, 346], 0, []),
  (21, .aload_n 0, 1, [], 0, []),
  (22, .getfield 20, 3, [9, 2, 338], 0, []),
  (25, .aload_n 0, 1, [], 0, []),
  (26, .getfield 20, 3, [9, 2, 338], 0, []),
  (29, .iload_n 1, 1, [], 0, []),
  (30, .invokevirtual 133, 3, [11, 2, 1, 1, 592], 0, []),
  (33, .invokevirtual 244, 3, [52, 3, 0, 7, 759], 0, []),
  (36, .iload_n 2, 1, [], 0, []),
  (37, .aload_n 0, 1, [], 0, []),
  (38, .getfield 69, 3, [9, 10, 346], 0, []),
  (41, .getfield 248, 3, [6, 1, 293], 0, []),
  (44, .if_icmp .ge 15, 3, [29], 0, []),
  (47, .aload_n 0, 1, [], 0, []),
  (48, .getfield 69, 3, [9, 10, 346], 0, []),
  (51, .getfield 249, 3, [6, 0, 291], 0, []),
  (54, .iload_n 2, 1, [], 0, []),
  (55, .iaload, 1, [], 0, []),
  (56, .goto 5, 3, [30], 0, []),
  (59, .bipush (-2), 2, [], (-2), []),
  (61, .ireturn, 1, [], 0, [])]
def kC_place : List am_E := [(0, .aload_n 0, 1, [], 0, []),
  (1, .getfield 20, 3, [9, 2, 338], 0, []),
  (4, .iload_n 1, 1, [], 0, []),
  (5, .invokevirtual 104, 3, [3, 2, 1, 1, 568], 0, []),
  (8, .ifCond .ne 5, 3, [7], 0, []),
  (11, .iconst (-1), 1, [], (-1), []),
  (12, .ireturn, 1, [], 0, []),
  (13, .aload_n 0, 1, [], 0, []),
  (14, .getfield 69, 3, [9, 10, 346], 0, []),
  (17, .aload_n 0, 1, [], 0, []),
  (18, .getfield 20, 3, [9, 2, 338], 0, []),
  (21, .aload_n 0, 1, [], 0, []),
  (22, .getfield 20, 3, [9, 2, 338], 0, []),
  (25, .iload_n 1, 1, [], 0, []),
  (26, .invokevirtual 133, 3, [11, 2, 1, 1, 592], 0, []),
  (29, .invokevirtual 244, 3, [52, 3, 0, 7, 759], 0, []),
  (32, .aload_n 0, 1, [], 0, []),
  (33, .getfield 69, 3, [9, 10, 346], 0, []),
  (36, .iload_n 1, 1, [], 0, []),
  (37, .invokevirtual 250, 3, [54, 2, 1, 7, 771], 0, []),
  (40, .ireturn, 1, [], 0, [])]
def kC_joint : List am_E := [(0, .aload_n 0, 1, [], 0, []),
  (1, .getfield 20, 3, [9, 2, 338], 0, []),
  (4, .iload_n 1, 1, [], 0, []),
  (5, .iload_n 2, 1, [], 0, []),
  (6, .invokevirtual 139, 3, [4, 3, 1, 1, 588], 0, []),
  (9, .ifCond .eq 12, 3, [11], 0, []),
  (12, .iload_n 3, 1, [], 0, []),
  (13, .ifCond .lt 8, 3, [11], 0, []),
  (16, .iload_n 3, 1, [], 0, []),
  (17, .iconst 3, 1, [], 3, []),
  (18, .if_icmp .lt 5, 3, [13], 0, []),
  (21, .iconst (-1), 1, [], (-1), []),
  (22, .ireturn, 1, [], 0, []),
  (23, .aload_n 0, 1, [], 0, []),
  (24, .getfield 20, 3, [9, 2, 338], 0, []),
  (27, .iload_n 1, 1, [], 0, []),
  (28, .iload_n 2, 1, [], 0, []),
  (29, .invokevirtual 125, 3, [15, 3, 1, 1, 590], 0, []),
  (32, .ifCond .eq 6, 3, [21], 0, []),
  (35, .bipush (-2), 2, [], (-2), []),
  (37, .ireturn, 1, [], 0, []),
  (38, .aload_n 0, 1, [], 0, []),
  (39, .getfield 69, 3, [9, 10, 346], 0, []),
  (42, .aload_n 0, 1, [], 0, []),
  (43, .getfield 20, 3, [9, 2, 338], 0, []),
  (46, .iload_n 1, 1, [], 0, []),
  (47, .iload_n 2, 1, [], 0, []),
  (48, .invokevirtual 253, 3, [61, 4, 0, 7, 779], 0, []),
  (51, .aload_n 0, 1, [], 0, []),
  (52, .getfield 69, 3, [9, 10, 346], 0, []),
  (55, .getfield 256, 3, [6, 6, 299], 0, []),
  (58, .iload_n 3, 1, [], 0, []),
  (59, .iaload, 1, [], 0, []),
  (60, .ireturn, 1, [], 0, [])]
def kC_tightest : List am_E := [(0, .aload_n 0, 1, [], 0, []),
  (1, .getfield 20, 3, [9, 2, 338], 0, []),
  (4, .iload_n 1, 1, [], 0, []),
  (5, .invokevirtual 104, 3, [3, 2, 1, 1, 568], 0, []),
  (8, .ifCond .ne 5, 3, [7], 0, []),
  (11, .iconst (-1), 1, [], (-1), []),
  (12, .ireturn, 1, [], 0, []),
  (13, .aload_n 0, 1, [], 0, []),
  (14, .getfield 20, 3, [9, 2, 338], 0, []),
  (17, .iload_n 1, 1, [], 0, []),
  (18, .aload_n 0, 1, [], 0, []),
  (19, .getfield 20, 3, [9, 2, 338], 0, []),
  (22, .getfield 198, 3, [0, 3, 111], 0, []),
  (25, .iconst (-1), 1, [], (-1), []),
  (26, .invokevirtual 259, 3, [30, 4, 1, 1, 812], 0, []),
  (29, .ireturn, 1, [], 0, [])]
def kC_heavy : List am_E := [(0, .aload_n 0, 1, [], 0, []),
  (1, .getfield 20, 3, [9, 2, 338], 0, []),
  (4, .iload_n 1, 1, [], 0, []),
  (5, .invokevirtual 104, 3, [3, 2, 1, 1, 568], 0, []),
  (8, .ifCond .ne 5, 3, [7], 0, []),
  (11, .iconst (-1), 1, [], (-1), []),
  (12, .ireturn, 1, [], 0, []),
  (13, .aload_n 0, 1, [], 0, []),
  (14, .getfield 20, 3, [9, 2, 338], 0, []),
  (17, .iload_n 1, 1, [], 0, []),
  (18, .invokevirtual 263, 3, [26, 2, 1, 1, 820], 0, []),
  (21, .istore_n 2, 1, [], 0, []),
  (22, .iload_n 2, 1, [], 0, []),
  (23, .iconst (-1), 1, [], (-1), []),
  (24, .if_icmp .ne 8, 3, [17], 0, []),
  (27, .bipush (-2), 2, [], (-2), []),
  (29, .goto 4, 3, [18], 0, []),
  (32, .iload_n 2, 1, [], 0, []),
  (33, .ireturn, 1, [], 0, [])]
def kC_potential : List am_E := [(0, .aload_n 0, 1, [], 0, []),
  (1, .getfield 20, 3, [9, 2, 338], 0, []),
  (4, .invokevirtual 266, 3, [28, 1, 1, 1, 828], 0, []),
  (7, .ireturn, 1, [], 0, [])]
def kC_would : List am_E := [(0, .aload_n 0, 1, [], 0, []),
  (1, .getfield 20, 3, [9, 2, 338], 0, []),
  (4, .iload_n 1, 1, [], 0, []),
  (5, .invokevirtual 104, 3, [3, 2, 1, 1, 568], 0, []),
  (8, .ifCond .ne 5, 3, [7], 0, []),
  (11, .iconst (-1), 1, [], (-1), []),
  (12, .ireturn, 1, [], 0, []),
  (13, .aload_n 0, 1, [], 0, []),
  (14, .getfield 20, 3, [9, 2, 338], 0, []),
  (17, .iload_n 1, 1, [], 0, []),
  (18, .invokevirtual 270, 3, [29, 2, 1, 1, 836], 0, []),
  (21, .ireturn, 1, [], 0, [])]
def kC_widest : List am_E := [(0, .aload_n 0, 1, [], 0, []),
  (1, .getfield 20, 3, [9, 2, 338], 0, []),
  (4, .iload_n 1, 1, [], 0, []),
  (5, .invokevirtual 104, 3, [3, 2, 1, 1, 568], 0, []),
  (8, .ifCond .eq 12, 3, [10], 0, []),
  (11, .iload_n 2, 1, [], 0, []),
  (12, .ifCond .lt 8, 3, [10], 0, []),
  (15, .iload_n 2, 1, [], 0, []),
  (16, .iconst 3, 1, [], 3, []),
  (17, .if_icmp .lt 5, 3, [12], 0, []),
  (20, .iconst (-1), 1, [], (-1), []),
  (21, .ireturn, 1, [], 0, []),
  (22, .aload_n 0, 1, [], 0, []),
  (23, .getfield 69, 3, [9, 10, 346], 0, []),
  (26, .aload_n 0, 1, [], 0, []),
  (27, .getfield 20, 3, [9, 2, 338], 0, []),
  (30, .iload_n 1, 1, [], 0, []),
  (31, .invokevirtual 273, 3, [60, 3, 0, 7, 844], 0, []),
  (34, .aload_n 0, 1, [], 0, []),
  (35, .getfield 69, 3, [9, 10, 346], 0, []),
  (38, .getfield 256, 3, [6, 6, 299], 0, []),
  (41, .iload_n 2, 1, [], 0, []),
  (42, .iaload, 1, [], 0, []),
  (43, .ireturn, 1, [], 0, [])]
def kC_midst : List am_E := [(0, .aload_n 0, 1, [], 0, []),
  (1, .getfield 20, 3, [9, 2, 338], 0, []),
  (4, .iload_n 1, 1, [], 0, []),
  (5, .invokevirtual 104, 3, [3, 2, 1, 1, 568], 0, []),
  (8, .ifCond .ne 5, 3, [7], 0, []),
  (11, .iconst (-1), 1, [], (-1), []),
  (12, .ireturn, 1, [], 0, []),
  (13, .aload_n 0, 1, [], 0, []),
  (14, .getfield 20, 3, [9, 2, 338], 0, []),
  (17, .iload_n 1, 1, [], 0, []),
  (18, .invokevirtual 276, 3, [31, 2, 1, 1, 852], 0, []),
  (21, .ireturn, 1, [], 0, [])]
def kC_parts : List am_E := [(0, .iload_n 1, 1, [], 0, []),
  (1, .iconst 0, 1, [], 0, []),
  (2, .sipush 9999, 3, [], 9999, []),
  (5, .invokestatic 180, 3, [127, 3, 1, 0, 589], 0, []),
  (8, .ifCond .ne 5, 3, [7], 0, []),
  (11, .iconst (-1), 1, [], (-1), []),
  (12, .ireturn, 1, [], 0, []),
  (13, .aload_n 0, 1, [], 0, []),
  (14, .getfield 20, 3, [9, 2, 338], 0, []),
  (17, .iload_n 1, 1, [], 0, []),
  (18, .invokevirtual 279, 3, [33, 2, 1, 1, 865], 0, []),
  (21, .ireturn, 1, [], 0, [])]
def kC_dearest : List am_E := [(0, .aload_n 0, 1, [], 0, []),
  (1, .getfield 20, 3, [9, 2, 338], 0, []),
  (4, .iload_n 1, 1, [], 0, []),
  (5, .invokevirtual 104, 3, [3, 2, 1, 1, 568], 0, []),
  (8, .ifCond .ne 5, 3, [7], 0, []),
  (11, .iconst (-1), 1, [], (-1), []),
  (12, .ireturn, 1, [], 0, []),
  (13, .aload_n 0, 1, [], 0, []),
  (14, .getfield 20, 3, [9, 2, 338], 0, []),
  (17, .iload_n 1, 1, [], 0, []),
  (18, .aload_n 0, 1, [], 0, []),
  (19, .getfield 20, 3, [9, 2, 338], 0, []),
  (22, .getfield 146, 3, [0, 2, 108], 0, []),
  (25, .iconst 1, 1, [], 1, []),
  (26, .invokevirtual 259, 3, [30, 4, 1, 1, 812], 0, []),
  (29, .ireturn, 1, [], 0, [])]
def kC_leastFor : List am_E := [(0, .iload_n 1, 1, [], 0, []),
  (1, .iconst 1, 1, [], 1, []),
  (2, .bipush 24, 2, [], 24, []),
  (4, .invokestatic 180, 3, [127, 3, 1, 0, 589], 0, []),
  (7, .ifCond .ne 5, 3, [7], 0, []),
  (10, .iconst (-1), 1, [], (-1), []),
  (11, .ireturn, 1, [], 0, []),
  (12, .aload_n 0, 1, [], 0, []),
  (13, .getfield 20, 3, [9, 2, 338], 0, []),
  (16, .iload_n 1, 1, [], 0, []),
  (17, .invokevirtual 282, 3, [34, 2, 1, 1, 877], 0, []),
  (20, .istore_n 2, 1, [], 0, []),
  (21, .iload_n 2, 1, [], 0, []),
  (22, .iconst (-1), 1, [], (-1), []),
  (23, .if_icmp .ne 8, 3, [17], 0, []),
  (26, .bipush (-2), 2, [], (-2), []),
  (28, .goto 4, 3, [18], 0, []),
  (31, .iload_n 2, 1, [], 0, []),
  (32, .ireturn, 1, [], 0, [])]
def kC_chance : List am_E := [(0, .iload_n 1, 1, [], 0, []),
  (1, .iconst (-1), 1, [], (-1), []),
  (2, .if_icmp .lt 13, 3, [8], 0, []),
  (5, .iload_n 2, 1, [], 0, []),
  (6, .iconst 1, 1, [], 1, []),
  (7, .bipush 60, 2, [], 60, []),
  (9, .invokestatic 180, 3, [127, 3, 1, 0, 589], 0, []),
  (12, .ifCond .ne 5, 3, [10], 0, []),
  (15, .iconst (-1), 1, [], (-1), []),
  (16, .ireturn, 1, [], 0, []),
  (17, .iload_n 3, 1, [], 0, []),
  (18, .ifCond .lt 18, 3, [19], 0, []),
  (21, .iload_n 3, 1, [], 0, []),
  (22, .iconst 4, 1, [], 4, []),
  (23, .if_icmp .ge 13, 3, [19], 0, []),
  (26, .aload_n 0, 1, [], 0, []),
  (27, .getfield 20, 3, [9, 2, 338], 0, []),
  (30, .getfield 285, 3, [0, 6, 119], 0, []),
  (33, .ifCond .ne 5, 3, [21], 0, []),
  (36, .iconst (-1), 1, [], (-1), []),
  (37, .ireturn, 1, [], 0, []),
  (38, .aload_n 0, 1, [], 0, []),
  (39, .getfield 76, 3, [9, 11, 347], 0, []),
  (42, .aload_n 0, 1, [], 0, []),
  (43, .getfield 20, 3, [9, 2, 338], 0, []),
  (46, .iload_n 1, 1, [], 0, []),
  (47, .iconst (-1), 1, [], (-1), []),
  (48, .if_icmp .ne 13, 3, [32], 0, []),
  (51, .aload_n 0, 1, [], 0, []),
  (52, .getfield 27, 3, [9, 3, 339], 0, []),
  (55, .getfield 286, 3, [3, 2, 152], 0, []),
  (58, .goto 4, 3, [33], 0, []),
  (61, .iload_n 1, 1, [], 0, []),
  (62, .invokevirtual 289, 3, [35, 3, 0, 2, 886], 0, []),
  (65, .iconst 0, 1, [], 0, []),
  (66, .istore 4, 2, [], 0, []),
  (68, .iload 4, 2, [], 0, []),
  (70, .iload_n 2, 1, [], 0, []),
  (71, .if_icmp .ge 16, 3, [44], 0, []),
  (74, .aload_n 0, 1, [], 0, []),
  (75, .getfield 76, 3, [9, 11, 347], 0, []),
  (78, .invokevirtual 292, 3, [37, 1, 0, 2, 891], 0, []),
  (81, .iinc 4 1, 3, [], 1, []),
  (84, .goto (-16), 3, [36], 0, []),
  (87, .iload_n 3, 1, [], 0, []),
  (88, .tableswitch 61 0 2 #[28, 39, 50], 28, [61], 0, [(0, 46), (1, 51), (2, 56)]),
  (116, .aload_n 0, 1, [], 0, []),
  (117, .getfield 76, 3, [9, 11, 347], 0, []),
  (120, .getfield 295, 3, [1, 0, 326], 0, []),
  (123, .invokevirtual 298, 3, [20, 1, 1, 1, 907], 0, []),
  (126, .ireturn, 1, [], 0, []),
  (127, .aload_n 0, 1, [], 0, []),
  (128, .getfield 76, 3, [9, 11, 347], 0, []),
  (131, .getfield 295, 3, [1, 0, 326], 0, []),
  (134, .getfield 112, 3, [0, 7, 122], 0, []),
  (137, .ireturn, 1, [], 0, []),
  (138, .aload_n 0, 1, [], 0, []),
  (139, .getfield 76, 3, [9, 11, 347], 0, []),
  (142, .getfield 295, 3, [1, 0, 326], 0, []),
  (145, .invokevirtual 266, 3, [28, 1, 1, 1, 828], 0, []),
  (148, .ireturn, 1, [], 0, []),
  (149, .aload_n 0, 1, [], 0, []),
  (150, .getfield 76, 3, [9, 11, 347], 0, []),
  (153, .getfield 295, 3, [1, 0, 326], 0, []),
  (156, .iconst 0, 1, [], 0, []),
  (157, .invokevirtual 133, 3, [11, 2, 1, 1, 592], 0, []),
  (160, .ireturn, 1, [], 0, [])]
def kC_undo : List am_E := [(0, .aload_n 0, 1, [], 0, []),
  (1, .getfield 41, 3, [9, 5, 341], 0, []),
  (4, .aload_n 0, 1, [], 0, []),
  (5, .getfield 20, 3, [9, 2, 338], 0, []),
  (8, .invokevirtual 301, 3, [40, 2, 1, 3, 915], 0, []),
  (11, .ifCond .eq 13, 3, [10], 0, []),
  (14, .aload_n 0, 1, [], 0, []),
  (15, .getfield 41, 3, [9, 5, 341], 0, []),
  (18, .getfield 305, 3, [2, 2, 242], 0, []),
  (21, .goto 4, 3, [11], 0, []),
  (24, .iconst (-1), 1, [], (-1), []),
  (25, .ireturn, 1, [], 0, [])]
def kC_keep : List am_E := [(0, .aload_n 0, 1, [], 0, []),
  (1, .getfield 45, 3, [9, 6, 342], 0, []),
  (4, .aload_n 0, 1, [], 0, []),
  (5, .getfield 20, 3, [9, 2, 338], 0, []),
  (8, .invokevirtual 308, 3, [1, 2, 0, 1, 539], 0, []),
  (11, .aload_n 0, 1, [], 0, []),
  (12, .iconst 1, 1, [], 1, []),
  (13, .putfield 48, 3, [9, 7, 343], 0, []),
  (16, .aload_n 0, 1, [], 0, []),
  (17, .getfield 20, 3, [9, 2, 338], 0, []),
  (20, .invokevirtual 298, 3, [20, 1, 1, 1, 907], 0, []),
  (23, .ireturn, 1, [], 0, [])]
def kC_back : List am_E := [(0, .aload_n 0, 1, [], 0, []),
  (1, .getfield 48, 3, [9, 7, 343], 0, []),
  (4, .ifCond .ne 5, 3, [5], 0, []),
  (7, .iconst (-1), 1, [], (-1), []),
  (8, .ireturn, 1, [], 0, []),
  (9, .aload_n 0, 1, [], 0, []),
  (10, .getfield 20, 3, [9, 2, 338], 0, []),
  (13, .aload_n 0, 1, [], 0, []),
  (14, .getfield 45, 3, [9, 6, 342], 0, []),
  (17, .invokevirtual 308, 3, [1, 2, 0, 1, 539], 0, []),
  (20, .aload_n 0, 1, [], 0, []),
  (21, .getfield 41, 3, [9, 5, 341], 0, []),
  (24, .invokevirtual 311, 3, [38, 1, 0, 3, 551], 0, []),
  (27, .aload_n 0, 1, [], 0, []),
  (28, .getfield 20, 3, [9, 2, 338], 0, []),
  (31, .invokevirtual 298, 3, [20, 1, 1, 1, 907], 0, []),
  (34, .ireturn, 1, [], 0, [])]
def kC_count : List am_E := [(0, .iload_n 1, 1, [], 0, []),
  (1, .tableswitch 104 0 6 #[43, 51, 67, 75, 83, 91, 99], 43, [33], 0, [(0, 2), (1, 6), (2, 14), (3, 18), (4, 22), (5, 26), (6, 30)]),
  (44, .aload_n 0, 1, [], 0, []),
  (45, .getfield 20, 3, [9, 2, 338], 0, []),
  (48, .getfield 285, 3, [0, 6, 119], 0, []),
  (51, .ireturn, 1, [], 0, []),
  (52, .aload_n 0, 1, [], 0, []),
  (53, .getfield 20, 3, [9, 2, 338], 0, []),
  (56, .getfield 285, 3, [0, 6, 119], 0, []),
  (59, .aload_n 0, 1, [], 0, []),
  (60, .getfield 20, 3, [9, 2, 338], 0, []),
  (63, .invokevirtual 298, 3, [20, 1, 1, 1, 907], 0, []),
  (66, .isub, 1, [], 0, []),
  (67, .ireturn, 1, [], 0, []),
  (68, .aload_n 0, 1, [], 0, []),
  (69, .getfield 20, 3, [9, 2, 338], 0, []),
  (72, .invokevirtual 298, 3, [20, 1, 1, 1, 907], 0, []),
  (75, .ireturn, 1, [], 0, []),
  (76, .aload_n 0, 1, [], 0, []),
  (77, .getfield 20, 3, [9, 2, 338], 0, []),
  (80, .invokevirtual 314, 3, [21, 1, 1, 1, 931], 0, []),
  (83, .ireturn, 1, [], 0, []),
  (84, .aload_n 0, 1, [], 0, []),
  (85, .getfield 20, 3, [9, 2, 338], 0, []),
  (88, .getfield 112, 3, [0, 7, 122], 0, []),
  (91, .ireturn, 1, [], 0, []),
  (92, .aload_n 0, 1, [], 0, []),
  (93, .getfield 41, 3, [9, 5, 341], 0, []),
  (96, .getfield 305, 3, [2, 2, 242], 0, []),
  (99, .ireturn, 1, [], 0, []),
  (100, .aload_n 0, 1, [], 0, []),
  (101, .getfield 13, 3, [9, 1, 337], 0, []),
  (104, .ireturn, 1, [], 0, []),
  (105, .iconst (-1), 1, [], (-1), []),
  (106, .ireturn, 1, [], 0, [])]
def kC_isWithin : List am_E := [(0, .iload_n 0, 1, [], 0, []),
  (1, .iload_n 1, 1, [], 0, []),
  (2, .if_icmp .lt 12, 3, [8], 0, []),
  (5, .iload_n 0, 1, [], 0, []),
  (6, .iload_n 2, 1, [], 0, []),
  (7, .if_icmp .gt 7, 3, [8], 0, []),
  (10, .iconst 1, 1, [], 1, []),
  (11, .goto 4, 3, [9], 0, []),
  (14, .iconst 0, 1, [], 0, []),
  (15, .ireturn, 1, [1], 0, [])]
def kC_canBeLink : List am_E := [(0, .aload_n 0, 1, [], 0, []),
  (1, .getfield 20, 3, [9, 2, 338], 0, []),
  (4, .iload_n 1, 1, [], 0, []),
  (5, .iload_n 2, 1, [], 0, []),
  (6, .invokevirtual 139, 3, [4, 3, 1, 1, 588], 0, []),
  (9, .ifCond .eq 30, 3, [18], 0, []),
  (12, .iload_n 3, 1, [], 0, []),
  (13, .iconst 1, 1, [], 1, []),
  (14, .sipush 9999, 3, [], 9999, []),
  (17, .invokestatic 180, 3, [127, 3, 1, 0, 589], 0, []),
  (20, .ifCond .eq 19, 3, [18], 0, []),
  (23, .iload 4, 2, [], 0, []),
  (25, .iconst 1, 1, [], 1, []),
  (26, .sipush 9999, 3, [], 9999, []),
  (29, .invokestatic 180, 3, [127, 3, 1, 0, 589], 0, []),
  (32, .ifCond .eq 7, 3, [18], 0, []),
  (35, .iconst 1, 1, [], 1, []),
  (36, .goto 4, 3, [19], 0, []),
  (39, .iconst 0, 1, [], 0, []),
  (40, .ireturn, 1, [1], 0, [])]
def kC_feedNumber : List am_E := [(0, .bipush 24, 2, [], 24, []),
  (2, .istore_n 2, 1, [], 0, []),
  (3, .iload_n 2, 1, [], 0, []),
  (4, .ifCond .lt 45, 3, [26], 0, []),
  (7, .aload_n 0, 1, [], 0, []),
  (8, .getfield 13, 3, [9, 1, 337], 0, []),
  (11, .sipush 700, 3, [], 700, []),
  (14, .if_icmp .ge 29, 3, [24], 0, []),
  (17, .aload_n 0, 1, [], 0, []),
  (18, .getfield 9, 3, [9, 0, 336], 0, []),
  (21, .aload_n 0, 1, [], 0, []),
  (22, .getfield 13, 3, [9, 1, 337], 0, []),
  (25, .iload_n 1, 1, [], 0, []),
  (26, .iload_n 2, 1, [], 0, []),
  (27, .ishr, 1, [], 0, []),
  (28, .sipush 255, 3, [], 255, []),
  (31, .iand, 1, [], 0, []),
  (32, .iastore, 1, [], 0, []),
  (33, .aload_n 0, 1, [], 0, []),
  (34, .dup, 1, [], 0, []),
  (35, .getfield 13, 3, [9, 1, 337], 0, []),
  (38, .iconst 1, 1, [], 1, []),
  (39, .iadd, 1, [], 0, []),
  (40, .putfield 13, 3, [9, 1, 337], 0, []),
  (43, .iinc 2 (-8), 3, [], (-8), []),
  (46, .goto (-43), 3, [2], 0, []),
  (49, .return_, 1, [], 0, [])]
def kC_takeTold : List am_E := [(0, .aload_n 0, 1, [], 0, []),
  (1, .getfield 20, 3, [9, 2, 338], 0, []),
  (4, .aload_n 0, 1, [], 0, []),
  (5, .getfield 34, 3, [9, 4, 340], 0, []),
  (8, .getfield 317, 3, [7, 1, 208], 0, []),
  (11, .invokevirtual 308, 3, [1, 2, 0, 1, 539], 0, []),
  (14, .aload_n 0, 1, [], 0, []),
  (15, .getfield 27, 3, [9, 3, 339], 0, []),
  (18, .aload_n 0, 1, [], 0, []),
  (19, .getfield 34, 3, [9, 4, 340], 0, []),
  (22, .getfield 318, 3, [7, 2, 210], 0, []),
  (25, .invokevirtual 319, 3, [42, 2, 0, 4, 546], 0, []),
  (28, .aload_n 0, 1, [], 0, []),
  (29, .getfield 20, 3, [9, 2, 338], 0, []),
  (32, .iconst 0, 1, [], 0, []),
  (33, .putfield 112, 3, [0, 7, 122], 0, []),
  (36, .aload_n 0, 1, [], 0, []),
  (37, .iconst 0, 1, [], 0, []),
  (38, .putfield 48, 3, [9, 7, 343], 0, []),
  (41, .aload_n 0, 1, [], 0, []),
  (42, .getfield 41, 3, [9, 5, 341], 0, []),
  (45, .invokevirtual 311, 3, [38, 1, 0, 3, 551], 0, []),
  (48, .aload_n 0, 1, [], 0, []),
  (49, .getfield 55, 3, [9, 8, 344], 0, []),
  (52, .iconst 0, 1, [], 0, []),
  (53, .putfield 171, 3, [5, 1, 259], 0, []),
  (56, .return_, 1, [], 0, [])]
def kC_factOfTown : List am_E := [(0, .aload_n 0, 1, [], 0, []),
  (1, .getfield 20, 3, [9, 2, 338], 0, []),
  (4, .getfield 204, 3, [0, 0, 100], 0, []),
  (7, .iload_n 1, 1, [], 0, []),
  (8, .iaload, 1, [], 0, []),
  (9, .iconst (-1), 1, [], (-1), []),
  (10, .if_icmp .ne 7, 3, [9], 0, []),
  (13, .iconst 1, 1, [], 1, []),
  (14, .goto 4, 3, [10], 0, []),
  (17, .iconst 0, 1, [], 0, []),
  (18, .istore_n 3, 1, [], 0, []),
  (19, .iload_n 2, 1, [], 0, []),
  (20, .tableswitch 183 0 8 #[52, 62, 81, 109, 118, 127, 136, 145, 164], 52, [84], 0, [(0, 13), (1, 19), (2, 29), (3, 44), (4, 49), (5, 54), (6, 59), (7, 64), (8, 74)]),
  (72, .aload_n 0, 1, [], 0, []),
  (73, .getfield 20, 3, [9, 2, 338], 0, []),
  (76, .getfield 207, 3, [0, 4, 114], 0, []),
  (79, .iload_n 1, 1, [], 0, []),
  (80, .iaload, 1, [], 0, []),
  (81, .ireturn, 1, [], 0, []),
  (82, .iload_n 3, 1, [], 0, []),
  (83, .ifCond .eq 8, 3, [23], 0, []),
  (86, .bipush (-2), 2, [], (-2), []),
  (88, .goto 12, 3, [28], 0, []),
  (91, .aload_n 0, 1, [], 0, []),
  (92, .getfield 20, 3, [9, 2, 338], 0, []),
  (95, .getfield 204, 3, [0, 0, 100], 0, []),
  (98, .iload_n 1, 1, [], 0, []),
  (99, .iaload, 1, [], 0, []),
  (100, .ireturn, 1, [], 0, []),
  (101, .aload_n 0, 1, [], 0, []),
  (102, .getfield 20, 3, [9, 2, 338], 0, []),
  (105, .getfield 322, 3, [0, 1, 103], 0, []),
  (108, .iload_n 1, 1, [], 0, []),
  (109, .iaload, 1, [], 0, []),
  (110, .iconst (-1), 1, [], (-1), []),
  (111, .if_icmp .ne 8, 3, [38], 0, []),
  (114, .bipush (-2), 2, [], (-2), []),
  (116, .goto 12, 3, [43], 0, []),
  (119, .aload_n 0, 1, [], 0, []),
  (120, .getfield 20, 3, [9, 2, 338], 0, []),
  (123, .getfield 322, 3, [0, 1, 103], 0, []),
  (126, .iload_n 1, 1, [], 0, []),
  (127, .iaload, 1, [], 0, []),
  (128, .ireturn, 1, [], 0, []),
  (129, .aload_n 0, 1, [], 0, []),
  (130, .getfield 20, 3, [9, 2, 338], 0, []),
  (133, .iload_n 1, 1, [], 0, []),
  (134, .invokevirtual 133, 3, [11, 2, 1, 1, 592], 0, []),
  (137, .ireturn, 1, [], 0, []),
  (138, .aload_n 0, 1, [], 0, []),
  (139, .getfield 20, 3, [9, 2, 338], 0, []),
  (142, .iload_n 1, 1, [], 0, []),
  (143, .invokevirtual 231, 3, [12, 2, 1, 1, 728], 0, []),
  (146, .ireturn, 1, [], 0, []),
  (147, .aload_n 0, 1, [], 0, []),
  (148, .getfield 20, 3, [9, 2, 338], 0, []),
  (151, .iload_n 1, 1, [], 0, []),
  (152, .invokevirtual 136, 3, [23, 2, 1, 1, 593], 0, []),
  (155, .ireturn, 1, [], 0, []),
  (156, .aload_n 0, 1, [], 0, []),
  (157, .getfield 20, 3, [9, 2, 338], 0, []),
  (160, .iload_n 1, 1, [], 0, []),
  (161, .invokevirtual 325, 3, [24, 2, 1, 1, 1031], 0, []),
  (164, .ireturn, 1, [], 0, []),
  (165, .iload_n 3, 1, [], 0, []),
  (166, .ifCond .eq 8, 3, [68], 0, []),
  (169, .bipush (-2), 2, [], (-2), []),
  (171, .goto 12, 3, [73], 0, []),
  (174, .aload_n 0, 1, [], 0, []),
  (175, .getfield 20, 3, [9, 2, 338], 0, []),
  (178, .getfield 146, 3, [0, 2, 108], 0, []),
  (181, .iload_n 1, 1, [], 0, []),
  (182, .iaload, 1, [], 0, []),
  (183, .ireturn, 1, [], 0, []),
  (184, .iload_n 3, 1, [], 0, []),
  (185, .ifCond .eq 8, 3, [78], 0, []),
  (188, .bipush (-2), 2, [], (-2), []),
  (190, .goto 12, 3, [83], 0, []),
  (193, .aload_n 0, 1, [], 0, []),
  (194, .getfield 20, 3, [9, 2, 338], 0, []),
  (197, .getfield 198, 3, [0, 3, 111], 0, []),
  (200, .iload_n 1, 1, [], 0, []),
  (201, .iaload, 1, [], 0, []),
  (202, .ireturn, 1, [], 0, []),
  (203, .aload_n 0, 1, [], 0, []),
  (204, .getfield 20, 3, [9, 2, 338], 0, []),
  (207, .iload_n 1, 1, [], 0, []),
  (208, .invokevirtual 328, 3, [25, 2, 1, 1, 1039], 0, []),
  (211, .ireturn, 1, [], 0, [])]
def kM_thrown : List am_E := [(0, .aload_n 0, 1, [], 0, []),
  (1, .getfield 38, 3, [10, 2, 1067], 0, []),
  (4, .ireturn, 1, [], 0, [])]
def kM_feed : List am_E := [(0, .aload_n 0, 1, [], 0, []),
  (1, .iconst 0, 1, [], 0, []),
  (2, .putfield 38, 3, [10, 2, 1067], 0, []),
  (5, .aload_n 0, 1, [], 0, []),
  (6, .getfield 41, 3, [10, 1, 1066], 0, []),
  (9, .bipush 20, 2, [], 20, []),
  (11, .iadd, 1, [], 0, []),
  (12, .sipush 700, 3, [], 700, []),
  (15, .if_icmp .le 5, 3, [11], 0, []),
  (18, .iconst (-1), 1, [], (-1), []),
  (19, .ireturn, 1, [], 0, []),
  (20, .iconst 0, 1, [], 0, []),
  (21, .istore 6, 2, [], 0, []),
  (23, .iload 6, 2, [], 0, []),
  (25, .bipush 20, 2, [], 20, []),
  (27, .if_icmp .ge 86, 3, [58], 0, []),
  (30, .iload 6, 2, [], 0, []),
  (32, .iconst 4, 1, [], 4, []),
  (33, .if_icmp .ge 7, 3, [21], 0, []),
  (36, .iload_n 1, 1, [], 0, []),
  (37, .goto 39, 3, [37], 0, []),
  (40, .iload 6, 2, [], 0, []),
  (42, .bipush 8, 2, [], 8, []),
  (44, .if_icmp .ge 7, 3, [26], 0, []),
  (47, .iload_n 2, 1, [], 0, []),
  (48, .goto 28, 3, [37], 0, []),
  (51, .iload 6, 2, [], 0, []),
  (53, .bipush 12, 2, [], 12, []),
  (55, .if_icmp .ge 7, 3, [31], 0, []),
  (58, .iload_n 3, 1, [], 0, []),
  (59, .goto 17, 3, [37], 0, []),
  (62, .iload 6, 2, [], 0, []),
  (64, .bipush 16, 2, [], 16, []),
  (66, .if_icmp .ge 8, 3, [36], 0, []),
  (69, .iload 4, 2, [], 0, []),
  (71, .goto 5, 3, [37], 0, []),
  (74, .iload 5, 2, [], 0, []),
  (76, .istore 7, 2, [], 0, []),
  (78, .aload_n 0, 1, [], 0, []),
  (79, .getfield 7, 3, [10, 0, 1065], 0, []),
  (82, .aload_n 0, 1, [], 0, []),
  (83, .getfield 41, 3, [10, 1, 1066], 0, []),
  (86, .iload 6, 2, [], 0, []),
  (88, .iadd, 1, [], 0, []),
  (89, .iload 7, 2, [], 0, []),
  (91, .bipush 24, 2, [], 24, []),
  (93, .bipush 8, 2, [], 8, []),
  (95, .iload 6, 2, [], 0, []),
  (97, .iconst 4, 1, [], 4, []),
  (98, .irem, 1, [], 0, []),
  (99, .imul, 1, [], 0, []),
  (100, .isub, 1, [], 0, []),
  (101, .ishr, 1, [], 0, []),
  (102, .sipush 255, 3, [], 255, []),
  (105, .iand, 1, [], 0, []),
  (106, .iastore, 1, [], 0, []),
  (107, .iinc 6 1, 3, [], 1, []),
  (110, .goto (-87), 3, [13], 0, []),
  (113, .aload_n 0, 1, [], 0, []),
  (114, .dup, 1, [], 0, []),
  (115, .getfield 41, 3, [10, 1, 1066], 0, []),
  (118, .bipush 20, 2, [], 20, []),
  (120, .iadd, 1, [], 0, []),
  (121, .putfield 41, 3, [10, 1, 1066], 0, []),
  (124, .aload_n 0, 1, [], 0, []),
  (125, .getfield 41, 3, [10, 1, 1066], 0, []),
  (128, .ireturn, 1, [], 0, [])]
def kM_isIn : List am_E := [(0, .iload_n 0, 1, [], 0, []),
  (1, .iload_n 1, 1, [], 0, []),
  (2, .if_icmp .lt 12, 3, [8], 0, []),
  (5, .iload_n 0, 1, [], 0, []),
  (6, .iload_n 2, 1, [], 0, []),
  (7, .if_icmp .gt 7, 3, [8], 0, []),
  (10, .iconst 1, 1, [], 1, []),
  (11, .goto 4, 3, [9], 0, []),
  (14, .iconst 0, 1, [], 0, []),
  (15, .ireturn, 1, [1], 0, [])]
def kM_wrong : List am_E := [(0, .aload_n 0, 1, [], 0, []),
  (1, .iload_n 1, 1, [], 0, []),
  (2, .putfield 44, 3, [10, 4, 1069], 0, []),
  (5, .aload_n 0, 1, [], 0, []),
  (6, .aload_n 0, 1, [], 0, []),
  (7, .getfield 47, 3, [10, 10, 1075], 0, []),
  (10, .putfield 16, 3, [10, 5, 1070], 0, []),
  (13, .iconst 0, 1, [], 0, []),
  (14, .ireturn, 1, [1], 0, [])]
def kM_wordAt : List am_E := [(0, .iconst 0, 1, [], 0, []),
  (1, .istore_n 3, 1, [], 0, []),
  (2, .iconst 0, 1, [], 0, []),
  (3, .istore 4, 2, [], 0, []),
  (5, .iload 4, 2, [], 0, []),
  (7, .aload_n 0, 1, [], 0, []),
  (8, .getfield 13, 3, [10, 3, 1068], 0, []),
  (11, .arraylength, 1, [], 0, []),
  (12, .if_icmp .ge 114, 3, [68], 0, []),
  (15, .iconst 0, 1, [], 0, []),
  (16, .istore 5, 2, [], 0, []),
  (18, .aload_n 0, 1, [], 0, []),
  (19, .getfield 13, 3, [10, 3, 1068], 0, []),
  (22, .iload 4, 2, [], 0, []),
  (24, .iload 5, 2, [], 0, []),
  (26, .iadd, 1, [], 0, []),
  (27, .iaload, 1, [], 0, []),
  (28, .bipush 32, 2, [], 32, []),
  (30, .if_icmp .eq 9, 3, [21], 0, []),
  (33, .iinc 5 1, 3, [], 1, []),
  (36, .goto (-18), 3, [11], 0, []),
  (39, .iload 5, 2, [], 0, []),
  (41, .iload_n 2, 1, [], 0, []),
  (42, .iload_n 1, 1, [], 0, []),
  (43, .isub, 1, [], 0, []),
  (44, .if_icmp .ne 7, 3, [28], 0, []),
  (47, .iconst 1, 1, [], 1, []),
  (48, .goto 4, 3, [29], 0, []),
  (51, .iconst 0, 1, [], 0, []),
  (52, .istore 6, 2, [], 0, []),
  (54, .iconst 0, 1, [], 0, []),
  (55, .istore 7, 2, [], 0, []),
  (57, .iload 7, 2, [], 0, []),
  (59, .iload 5, 2, [], 0, []),
  (61, .if_icmp .ge 43, 3, [56], 0, []),
  (64, .iload 6, 2, [], 0, []),
  (66, .ifCond .eq 38, 3, [56], 0, []),
  (69, .aload_n 0, 1, [], 0, []),
  (70, .getfield 13, 3, [10, 3, 1068], 0, []),
  (73, .iload 4, 2, [], 0, []),
  (75, .iload 7, 2, [], 0, []),
  (77, .iadd, 1, [], 0, []),
  (78, .iaload, 1, [], 0, []),
  (79, .aload_n 0, 1, [], 0, []),
  (80, .getfield 7, 3, [10, 0, 1065], 0, []),
  (83, .iload_n 1, 1, [], 0, []),
  (84, .iload 7, 2, [], 0, []),
  (86, .iadd, 1, [], 0, []),
  (87, .iaload, 1, [], 0, []),
  (88, .if_icmp .ne 7, 3, [52], 0, []),
  (91, .iconst 1, 1, [], 1, []),
  (92, .goto 4, 3, [53], 0, []),
  (95, .iconst 0, 1, [], 0, []),
  (96, .istore 6, 2, [], 0, []),
  (98, .iinc 7 1, 3, [], 1, []),
  (101, .goto (-44), 3, [32], 0, []),
  (104, .iload 6, 2, [], 0, []),
  (106, .ifCond .eq 5, 3, [60], 0, []),
  (109, .iload_n 3, 1, [], 0, []),
  (110, .ireturn, 1, [], 0, []),
  (111, .iload 4, 2, [], 0, []),
  (113, .iload 5, 2, [], 0, []),
  (115, .iconst 1, 1, [], 1, []),
  (116, .iadd, 1, [], 0, []),
  (117, .iadd, 1, [], 0, []),
  (118, .istore 4, 2, [], 0, []),
  (120, .iinc 3 1, 3, [], 1, []),
  (123, .goto (-118), 3, [4], 0, []),
  (126, .iconst (-1), 1, [], (-1), []),
  (127, .ireturn, 1, [], 0, [])]
def kM_isSmall : List am_E := [(0, .iload_n 1, 1, [], 0, []),
  (1, .aload_n 0, 1, [], 0, []),
  (2, .getfield 50, 3, [10, 6, 1071], 0, []),
  (5, .if_icmp .ge 29, 3, [18], 0, []),
  (8, .aload_n 0, 1, [], 0, []),
  (9, .getfield 7, 3, [10, 0, 1065], 0, []),
  (12, .iload_n 1, 1, [], 0, []),
  (13, .iaload, 1, [], 0, []),
  (14, .bipush 97, 2, [], 97, []),
  (16, .if_icmp .lt 18, 3, [18], 0, []),
  (19, .aload_n 0, 1, [], 0, []),
  (20, .getfield 7, 3, [10, 0, 1065], 0, []),
  (23, .iload_n 1, 1, [], 0, []),
  (24, .iaload, 1, [], 0, []),
  (25, .bipush 122, 2, [], 122, []),
  (27, .if_icmp .gt 7, 3, [18], 0, []),
  (30, .iconst 1, 1, [], 1, []),
  (31, .goto 4, 3, [19], 0, []),
  (34, .iconst 0, 1, [], 0, []),
  (35, .ireturn, 1, [1], 0, [])]
def kM_isDigit : List am_E := [(0, .iload_n 1, 1, [], 0, []),
  (1, .aload_n 0, 1, [], 0, []),
  (2, .getfield 50, 3, [10, 6, 1071], 0, []),
  (5, .if_icmp .ge 29, 3, [18], 0, []),
  (8, .aload_n 0, 1, [], 0, []),
  (9, .getfield 7, 3, [10, 0, 1065], 0, []),
  (12, .iload_n 1, 1, [], 0, []),
  (13, .iaload, 1, [], 0, []),
  (14, .bipush 48, 2, [], 48, []),
  (16, .if_icmp .lt 18, 3, [18], 0, []),
  (19, .aload_n 0, 1, [], 0, []),
  (20, .getfield 7, 3, [10, 0, 1065], 0, []),
  (23, .iload_n 1, 1, [], 0, []),
  (24, .iaload, 1, [], 0, []),
  (25, .bipush 57, 2, [], 57, []),
  (27, .if_icmp .gt 7, 3, [18], 0, []),
  (30, .iconst 1, 1, [], 1, []),
  (31, .goto 4, 3, [19], 0, []),
  (34, .iconst 0, 1, [], 0, []),
  (35, .ireturn, 1, [1], 0, [])]
def kM_token : List am_E := [(0, .aload_n 0, 1, [], 0, []),
  (1, .getfield 53, 3, [10, 7, 1072], 0, []),
  (4, .aload_n 0, 1, [], 0, []),
  (5, .getfield 50, 3, [10, 6, 1071], 0, []),
  (8, .if_icmp .ge 44, 3, [26], 0, []),
  (11, .aload_n 0, 1, [], 0, []),
  (12, .getfield 7, 3, [10, 0, 1065], 0, []),
  (15, .aload_n 0, 1, [], 0, []),
  (16, .getfield 53, 3, [10, 7, 1072], 0, []),
  (19, .iaload, 1, [], 0, []),
  (20, .bipush 10, 2, [], 10, []),
  (22, .if_icmp .eq 17, 3, [19], 0, []),
  (25, .aload_n 0, 1, [], 0, []),
  (26, .getfield 7, 3, [10, 0, 1065], 0, []),
  (29, .aload_n 0, 1, [], 0, []),
  (30, .getfield 53, 3, [10, 7, 1072], 0, []),
  (33, .iaload, 1, [], 0, []),
  (34, .bipush 32, 2, [], 32, []),
  (36, .if_icmp .ne 16, 3, [26], 0, []),
  (39, .aload_n 0, 1, [], 0, []),
  (40, .dup, 1, [], 0, []),
  (41, .getfield 53, 3, [10, 7, 1072], 0, []),
  (44, .iconst 1, 1, [], 1, []),
  (45, .iadd, 1, [], 0, []),
  (46, .putfield 53, 3, [10, 7, 1072], 0, []),
  (49, .goto (-49), 3, [0], 0, []),
  (52, .aload_n 0, 1, [], 0, []),
  (53, .aload_n 0, 1, [], 0, []),
  (54, .getfield 53, 3, [10, 7, 1072], 0, []),
  (57, .putfield 47, 3, [10, 10, 1075], 0, []),
  (60, .aload_n 0, 1, [], 0, []),
  (61, .getfield 53, 3, [10, 7, 1072], 0, []),
  (64, .aload_n 0, 1, [], 0, []),
  (65, .getfield 50, 3, [10, 6, 1071], 0, []),
  (68, .if_icmp .ne 11, 3, [39], 0, []),
  (71, .aload_n 0, 1, [], 0, []),
  (72, .iconst 0, 1, [], 0, []),
  (73, .putfield 56, 3, [10, 8, 1073], 0, []),
  (76, .goto 330, 3, [204], 0, []),
  (79, .aload_n 0, 1, [], 0, []),
  (80, .aload_n 0, 1, [], 0, []),
  (81, .getfield 53, 3, [10, 7, 1072], 0, []),
  (84, .invokevirtual 59, 3, [137, 2, 1, 11, 1188], 0, []),
  (87, .ifCond .eq 104, 3, [94], 0, []),
  (90, .aload_n 0, 1, [], 0, []),
  (91, .aload_n 0, 1, [], 0, []),
  (92, .getfield 53, 3, [10, 7, 1072], 0, []),
  (95, .invokevirtual 59, 3, [137, 2, 1, 11, 1188], 0, []),
  (98, .ifCond .eq 16, 3, [56], 0, []),
  (101, .aload_n 0, 1, [], 0, []),
  (102, .dup, 1, [], 0, []),
  (103, .getfield 53, 3, [10, 7, 1072], 0, []),
  (106, .iconst 1, 1, [], 1, []),
  (107, .iadd, 1, [], 0, []),
  (108, .putfield 53, 3, [10, 7, 1072], 0, []),
  (111, .goto (-21), 3, [44], 0, []),
  (114, .aload_n 0, 1, [], 0, []),
  (115, .aload_n 0, 1, [], 0, []),
  (116, .aload_n 0, 1, [], 0, []),
  (117, .getfield 47, 3, [10, 10, 1075], 0, []),
  (120, .aload_n 0, 1, [], 0, []),
  (121, .getfield 53, 3, [10, 7, 1072], 0, []),
  (124, .invokevirtual 63, 3, [136, 3, 1, 11, 1192], 0, []),
  (127, .putfield 67, 3, [10, 9, 1074], 0, []),
  (130, .aload_n 0, 1, [], 0, []),
  (131, .aload_n 0, 1, [], 0, []),
  (132, .getfield 67, 3, [10, 9, 1074], 0, []),
  (135, .ifCond .lt 7, 3, [70], 0, []),
  (138, .iconst 1, 1, [], 1, []),
  (139, .goto 22, 3, [80], 0, []),
  (142, .aload_n 0, 1, [], 0, []),
  (143, .getfield 53, 3, [10, 7, 1072], 0, []),
  (146, .aload_n 0, 1, [], 0, []),
  (147, .getfield 47, 3, [10, 10, 1075], 0, []),
  (150, .isub, 1, [], 0, []),
  (151, .bipush 6, 2, [], 6, []),
  (153, .if_icmp .le 7, 3, [79], 0, []),
  (156, .iconst 5, 1, [], 5, []),
  (157, .goto 4, 3, [80], 0, []),
  (160, .iconst 2, 1, [], 2, []),
  (161, .putfield 56, 3, [10, 8, 1073], 0, []),
  (164, .aload_n 0, 1, [], 0, []),
  (165, .getfield 56, 3, [10, 8, 1073], 0, []),
  (168, .iconst 2, 1, [], 2, []),
  (169, .if_icmp .ne 237, 3, [204], 0, []),
  (172, .aload_n 0, 1, [], 0, []),
  (173, .aload_n 0, 1, [], 0, []),
  (174, .aload_n 0, 1, [], 0, []),
  (175, .getfield 47, 3, [10, 10, 1075], 0, []),
  (178, .aload_n 0, 1, [], 0, []),
  (179, .getfield 53, 3, [10, 7, 1072], 0, []),
  (182, .invokevirtual 70, 3, [140, 3, 1, 11, 1196], 0, []),
  (185, .putfield 67, 3, [10, 9, 1074], 0, []),
  (188, .goto 218, 3, [204], 0, []),
  (191, .aload_n 0, 1, [], 0, []),
  (192, .aload_n 0, 1, [], 0, []),
  (193, .getfield 53, 3, [10, 7, 1072], 0, []),
  (196, .invokevirtual 73, 3, [138, 2, 1, 11, 1200], 0, []),
  (199, .ifCond .ne 41, 3, [118], 0, []),
  (202, .aload_n 0, 1, [], 0, []),
  (203, .getfield 53, 3, [10, 7, 1072], 0, []),
  (206, .aload_n 0, 1, [], 0, []),
  (207, .getfield 50, 3, [10, 6, 1071], 0, []),
  (210, .if_icmp .ge 163, 3, [186], 0, []),
  (213, .aload_n 0, 1, [], 0, []),
  (214, .getfield 7, 3, [10, 0, 1065], 0, []),
  (217, .aload_n 0, 1, [], 0, []),
  (218, .getfield 53, 3, [10, 7, 1072], 0, []),
  (221, .iaload, 1, [], 0, []),
  (222, .bipush 45, 2, [], 45, []),
  (224, .if_icmp .ne 149, 3, [186], 0, []),
  (227, .aload_n 0, 1, [], 0, []),
  (228, .aload_n 0, 1, [], 0, []),
  (229, .getfield 53, 3, [10, 7, 1072], 0, []),
  (232, .iconst 1, 1, [], 1, []),
  (233, .iadd, 1, [], 0, []),
  (234, .invokevirtual 73, 3, [138, 2, 1, 11, 1200], 0, []),
  (237, .ifCond .eq 136, 3, [186], 0, []),
  (240, .aload_n 0, 1, [], 0, []),
  (241, .aload_n 0, 1, [], 0, []),
  (242, .getfield 7, 3, [10, 0, 1065], 0, []),
  (245, .aload_n 0, 1, [], 0, []),
  (246, .getfield 53, 3, [10, 7, 1072], 0, []),
  (249, .iaload, 1, [], 0, []),
  (250, .bipush 45, 2, [], 45, []),
  (252, .if_icmp .ne 8, 3, [128], 0, []),
  (255, .bipush 6, 2, [], 6, []),
  (257, .goto 4, 3, [129], 0, []),
  (260, .iconst 3, 1, [], 3, []),
  (261, .putfield 56, 3, [10, 8, 1073], 0, []),
  (264, .aload_n 0, 1, [], 0, []),
  (265, .getfield 56, 3, [10, 8, 1073], 0, []),
  (268, .bipush 6, 2, [], 6, []),
  (270, .if_icmp .ne 13, 3, [140], 0, []),
  (273, .aload_n 0, 1, [], 0, []),
  (274, .dup, 1, [], 0, []),
  (275, .getfield 53, 3, [10, 7, 1072], 0, []),
  (278, .iconst 1, 1, [], 1, []),
  (279, .iadd, 1, [], 0, []),
  (280, .putfield 53, 3, [10, 7, 1072], 0, []),
  (283, .aload_n 0, 1, [], 0, []),
  (284, .iconst 0, 1, [], 0, []),
  (285, .putfield 67, 3, [10, 9, 1074], 0, []),
  (288, .aload_n 0, 1, [], 0, []),
  (289, .aload_n 0, 1, [], 0, []),
  (290, .getfield 53, 3, [10, 7, 1072], 0, []),
  (293, .invokevirtual 73, 3, [138, 2, 1, 11, 1200], 0, []),
  (296, .ifCond .eq 56, 3, [176], 0, []),
  (299, .aload_n 0, 1, [], 0, []),
  (300, .aload_n 0, 1, [], 0, []),
  (301, .getfield 67, 3, [10, 9, 1074], 0, []),
  (304, .ldc 76, 2, [1204], 99999, []),
  (306, .if_icmp .le 10, 3, [156], 0, []),
  (309, .aload_n 0, 1, [], 0, []),
  (310, .getfield 67, 3, [10, 9, 1074], 0, []),
  (313, .goto 23, 3, [168], 0, []),
  (316, .bipush 10, 2, [], 10, []),
  (318, .aload_n 0, 1, [], 0, []),
  (319, .getfield 67, 3, [10, 9, 1074], 0, []),
  (322, .imul, 1, [], 0, []),
  (323, .aload_n 0, 1, [], 0, []),
  (324, .getfield 7, 3, [10, 0, 1065], 0, []),
  (327, .aload_n 0, 1, [], 0, []),
  (328, .getfield 53, 3, [10, 7, 1072], 0, []),
  (331, .iaload, 1, [], 0, []),
  (332, .iadd, 1, [], 0, []),
  (333, .bipush 48, 2, [], 48, []),
  (335, .isub, 1, [], 0, []),
  (336, .putfield 67, 3, [10, 9, 1074], 0, []),
  (339, .aload_n 0, 1, [], 0, []),
  (340, .dup, 1, [], 0, []),
  (341, .getfield 53, 3, [10, 7, 1072], 0, []),
  (344, .iconst 1, 1, [], 1, []),
  (345, .iadd, 1, [], 0, []),
  (346, .putfield 53, 3, [10, 7, 1072], 0, []),
  (349, .goto (-61), 3, [143], 0, []),
  (352, .aload_n 0, 1, [], 0, []),
  (353, .getfield 56, 3, [10, 8, 1073], 0, []),
  (356, .bipush 6, 2, [], 6, []),
  (358, .if_icmp .ne 48, 3, [204], 0, []),
  (361, .aload_n 0, 1, [], 0, []),
  (362, .aload_n 0, 1, [], 0, []),
  (363, .getfield 67, 3, [10, 9, 1074], 0, []),
  (366, .ineg, 1, [], 0, []),
  (367, .putfield 67, 3, [10, 9, 1074], 0, []),
  (370, .goto 36, 3, [204], 0, []),
  (373, .aload_n 0, 1, [], 0, []),
  (374, .aload_n 0, 1, [], 0, []),
  (375, .getfield 7, 3, [10, 0, 1065], 0, []),
  (378, .aload_n 0, 1, [], 0, []),
  (379, .getfield 53, 3, [10, 7, 1072], 0, []),
  (382, .iaload, 1, [], 0, []),
  (383, .bipush 59, 2, [], 59, []),
  (385, .if_icmp .ne 7, 3, [196], 0, []),
  (388, .iconst 4, 1, [], 4, []),
  (389, .goto 4, 3, [197], 0, []),
  (392, .iconst 5, 1, [], 5, []),
  (393, .putfield 56, 3, [10, 8, 1073], 0, []),
  (396, .aload_n 0, 1, [], 0, []),
  (397, .dup, 1, [], 0, []),
  (398, .getfield 53, 3, [10, 7, 1072], 0, []),
  (401, .iconst 1, 1, [], 1, []),
  (402, .iadd, 1, [], 0, []),
  (403, .putfield 53, 3, [10, 7, 1072], 0, []),
  (406, .return_, 1, [], 0, [])]
def kM_packed : List am_E := [(0, .iconst 0, 1, [], 0, []),
  (1, .istore_n 3, 1, [], 0, []),
  (2, .iload_n 1, 1, [], 0, []),
  (3, .istore 4, 2, [], 0, []),
  (5, .iload 4, 2, [], 0, []),
  (7, .iload_n 1, 1, [], 0, []),
  (8, .bipush 6, 2, [], 6, []),
  (10, .iadd, 1, [], 0, []),
  (11, .if_icmp .ge 34, 3, [27], 0, []),
  (14, .iload_n 3, 1, [], 0, []),
  (15, .iconst 5, 1, [], 5, []),
  (16, .ishl, 1, [], 0, []),
  (17, .iload 4, 2, [], 0, []),
  (19, .iload_n 2, 1, [], 0, []),
  (20, .if_icmp .ge 16, 3, [22], 0, []),
  (23, .aload_n 0, 1, [], 0, []),
  (24, .getfield 7, 3, [10, 0, 1065], 0, []),
  (27, .iload 4, 2, [], 0, []),
  (29, .iaload, 1, [], 0, []),
  (30, .bipush 96, 2, [], 96, []),
  (32, .isub, 1, [], 0, []),
  (33, .goto 4, 3, [23], 0, []),
  (36, .iconst 0, 1, [], 0, []),
  (37, .ior, 1, [], 0, []),
  (38, .istore_n 3, 1, [], 0, []),
  (39, .iinc 4 1, 3, [], 1, []),
  (42, .goto (-37), 3, [4], 0, []),
  (45, .iload_n 3, 1, [], 0, []),
  (46, .ireturn, 1, [], 0, [])]
def kM_of : List am_E := [(0, .aload_n 0, 1, [], 0, []),
  (1, .getfield 20, 3, [10, 11, 1076], 0, []),
  (4, .bipush 121, 2, [], 121, []),
  (6, .aload_n 0, 1, [], 0, []),
  (7, .getfield 77, 3, [10, 12, 1077], 0, []),
  (10, .imul, 1, [], 0, []),
  (11, .iload_n 1, 1, [], 0, []),
  (12, .iadd, 1, [], 0, []),
  (13, .iaload, 1, [], 0, []),
  (14, .ireturn, 1, [], 0, [])]
def kM_lay : List am_E := [(0, .aload_n 0, 1, [], 0, []),
  (1, .getfield 20, 3, [10, 11, 1076], 0, []),
  (4, .bipush 121, 2, [], 121, []),
  (6, .aload_n 0, 1, [], 0, []),
  (7, .getfield 77, 3, [10, 12, 1077], 0, []),
  (10, .imul, 1, [], 0, []),
  (11, .iload_n 1, 1, [], 0, []),
  (12, .iadd, 1, [], 0, []),
  (13, .iload_n 2, 1, [], 0, []),
  (14, .iastore, 1, [], 0, []),
  (15, .return_, 1, [], 0, [])]
def kM_copyBank : List am_E := [(0, .iconst 0, 1, [], 0, []),
  (1, .istore_n 3, 1, [], 0, []),
  (2, .iload_n 3, 1, [], 0, []),
  (3, .bipush 121, 2, [], 121, []),
  (5, .if_icmp .ge 31, 3, [23], 0, []),
  (8, .aload_n 0, 1, [], 0, []),
  (9, .getfield 20, 3, [10, 11, 1076], 0, []),
  (12, .bipush 121, 2, [], 121, []),
  (14, .iload_n 2, 1, [], 0, []),
  (15, .imul, 1, [], 0, []),
  (16, .iload_n 3, 1, [], 0, []),
  (17, .iadd, 1, [], 0, []),
  (18, .aload_n 0, 1, [], 0, []),
  (19, .getfield 20, 3, [10, 11, 1076], 0, []),
  (22, .bipush 121, 2, [], 121, []),
  (24, .iload_n 1, 1, [], 0, []),
  (25, .imul, 1, [], 0, []),
  (26, .iload_n 3, 1, [], 0, []),
  (27, .iadd, 1, [], 0, []),
  (28, .iaload, 1, [], 0, []),
  (29, .iastore, 1, [], 0, []),
  (30, .iinc 3 1, 3, [], 1, []),
  (33, .goto (-31), 3, [2], 0, []),
  (36, .return_, 1, [], 0, [])]
def kM_canUndo : List am_E := [(0, .aload_n 0, 1, [], 0, []),
  (1, .getfield 80, 3, [10, 13, 1078], 0, []),
  (4, .bipush 20, 2, [], 20, []),
  (6, .if_icmp .ne 33, 3, [22], 0, []),
  (9, .iconst 1, 1, [], 1, []),
  (10, .istore_n 1, 1, [], 0, []),
  (11, .iload_n 1, 1, [], 0, []),
  (12, .bipush 20, 2, [], 20, []),
  (14, .if_icmp .ge 19, 3, [19], 0, []),
  (17, .aload_n 0, 1, [], 0, []),
  (18, .iconst 4, 1, [], 4, []),
  (19, .iload_n 1, 1, [], 0, []),
  (20, .iadd, 1, [], 0, []),
  (21, .iconst 3, 1, [], 3, []),
  (22, .iload_n 1, 1, [], 0, []),
  (23, .iadd, 1, [], 0, []),
  (24, .invokevirtual 83, 3, [143, 3, 0, 11, 1057], 0, []),
  (27, .iinc 1 1, 3, [], 1, []),
  (30, .goto (-19), 3, [6], 0, []),
  (33, .aload_n 0, 1, [], 0, []),
  (34, .bipush 19, 2, [], 19, []),
  (36, .putfield 80, 3, [10, 13, 1078], 0, []),
  (39, .aload_n 0, 1, [], 0, []),
  (40, .iconst 0, 1, [], 0, []),
  (41, .iconst 4, 1, [], 4, []),
  (42, .aload_n 0, 1, [], 0, []),
  (43, .getfield 80, 3, [10, 13, 1078], 0, []),
  (46, .iadd, 1, [], 0, []),
  (47, .invokevirtual 83, 3, [143, 3, 0, 11, 1057], 0, []),
  (50, .aload_n 0, 1, [], 0, []),
  (51, .dup, 1, [], 0, []),
  (52, .getfield 80, 3, [10, 13, 1078], 0, []),
  (55, .iconst 1, 1, [], 1, []),
  (56, .iadd, 1, [], 0, []),
  (57, .putfield 80, 3, [10, 13, 1078], 0, []),
  (60, .return_, 1, [], 0, [])]
def kM_undo : List am_E := [(0, .aload_n 0, 1, [], 0, []),
  (1, .iconst 0, 1, [], 0, []),
  (2, .putfield 38, 3, [10, 2, 1067], 0, []),
  (5, .aload_n 0, 1, [], 0, []),
  (6, .getfield 80, 3, [10, 13, 1078], 0, []),
  (9, .ifCond .ne 5, 3, [8], 0, []),
  (12, .iconst (-1), 1, [], (-1), []),
  (13, .ireturn, 1, [], 0, []),
  (14, .aload_n 0, 1, [], 0, []),
  (15, .dup, 1, [], 0, []),
  (16, .getfield 80, 3, [10, 13, 1078], 0, []),
  (19, .iconst 1, 1, [], 1, []),
  (20, .isub, 1, [], 0, []),
  (21, .putfield 80, 3, [10, 13, 1078], 0, []),
  (24, .aload_n 0, 1, [], 0, []),
  (25, .iconst 4, 1, [], 4, []),
  (26, .aload_n 0, 1, [], 0, []),
  (27, .getfield 80, 3, [10, 13, 1078], 0, []),
  (30, .iadd, 1, [], 0, []),
  (31, .iconst 0, 1, [], 0, []),
  (32, .invokevirtual 83, 3, [143, 3, 0, 11, 1057], 0, []),
  (35, .aload_n 0, 1, [], 0, []),
  (36, .getfield 80, 3, [10, 13, 1078], 0, []),
  (39, .ireturn, 1, [], 0, [])]
def kM_keep : List am_E := [(0, .aload_n 0, 1, [], 0, []),
  (1, .iconst 0, 1, [], 0, []),
  (2, .putfield 38, 3, [10, 2, 1067], 0, []),
  (5, .aload_n 0, 1, [], 0, []),
  (6, .iconst 0, 1, [], 0, []),
  (7, .iconst 2, 1, [], 2, []),
  (8, .invokevirtual 83, 3, [143, 3, 0, 11, 1057], 0, []),
  (11, .aload_n 0, 1, [], 0, []),
  (12, .iconst 1, 1, [], 1, []),
  (13, .putfield 87, 3, [10, 14, 1079], 0, []),
  (16, .aload_n 0, 1, [], 0, []),
  (17, .invokevirtual 91, 3, [235, 1, 1, 11, 1160], 0, []),
  (20, .ireturn, 1, [], 0, [])]
def kM_back : List am_E := [(0, .aload_n 0, 1, [], 0, []),
  (1, .iconst 0, 1, [], 0, []),
  (2, .putfield 38, 3, [10, 2, 1067], 0, []),
  (5, .aload_n 0, 1, [], 0, []),
  (6, .getfield 87, 3, [10, 14, 1079], 0, []),
  (9, .ifCond .ne 5, 3, [8], 0, []),
  (12, .iconst (-1), 1, [], (-1), []),
  (13, .ireturn, 1, [], 0, []),
  (14, .aload_n 0, 1, [], 0, []),
  (15, .iconst 2, 1, [], 2, []),
  (16, .iconst 0, 1, [], 0, []),
  (17, .invokevirtual 83, 3, [143, 3, 0, 11, 1057], 0, []),
  (20, .aload_n 0, 1, [], 0, []),
  (21, .iconst 0, 1, [], 0, []),
  (22, .putfield 80, 3, [10, 13, 1078], 0, []),
  (25, .aload_n 0, 1, [], 0, []),
  (26, .invokevirtual 91, 3, [235, 1, 1, 11, 1160], 0, []),
  (29, .ireturn, 1, [], 0, [])]
def kM_isTown : List am_E := [(0, .iload_n 1, 1, [], 0, []),
  (1, .iconst 0, 1, [], 0, []),
  (2, .aload_n 0, 1, [], 0, []),
  (3, .getfield 95, 3, [10, 15, 1080], 0, []),
  (6, .iconst 1, 1, [], 1, []),
  (7, .isub, 1, [], 0, []),
  (8, .invokestatic 98, 3, [134, 3, 1, 0, 1224], 0, []),
  (11, .ireturn, 1, [1], 0, [])]
def kM_areTowns : List am_E := [(0, .aload_n 0, 1, [], 0, []),
  (1, .iload_n 1, 1, [], 0, []),
  (2, .invokevirtual 102, 3, [148, 2, 1, 11, 1303], 0, []),
  (5, .ifCond .eq 15, 3, [10], 0, []),
  (8, .aload_n 0, 1, [], 0, []),
  (9, .iload_n 2, 1, [], 0, []),
  (10, .invokevirtual 102, 3, [148, 2, 1, 11, 1303], 0, []),
  (13, .ifCond .eq 7, 3, [10], 0, []),
  (16, .iconst 1, 1, [], 1, []),
  (17, .goto 4, 3, [11], 0, []),
  (20, .iconst 0, 1, [], 0, []),
  (21, .ireturn, 1, [1], 0, [])]
def kM_parent : List am_E := [(0, .aload_n 0, 1, [], 0, []),
  (1, .iconst 0, 1, [], 0, []),
  (2, .iload_n 1, 1, [], 0, []),
  (3, .iadd, 1, [], 0, []),
  (4, .invokevirtual 105, 3, [141, 2, 1, 11, 1172], 0, []),
  (7, .ireturn, 1, [], 0, [])]
def kM_prefers : List am_E := [(0, .aload_n 0, 1, [], 0, []),
  (1, .bipush 24, 2, [], 24, []),
  (3, .iload_n 1, 1, [], 0, []),
  (4, .iadd, 1, [], 0, []),
  (5, .invokevirtual 105, 3, [141, 2, 1, 11, 1172], 0, []),
  (8, .ireturn, 1, [], 0, [])]
def kM_free : List am_E := [(0, .aload_n 0, 1, [], 0, []),
  (1, .iconst 0, 1, [], 0, []),
  (2, .iload_n 1, 1, [], 0, []),
  (3, .iadd, 1, [], 0, []),
  (4, .bipush (-2), 2, [], (-2), []),
  (6, .invokevirtual 109, 3, [142, 3, 0, 11, 1061], 0, []),
  (9, .aload_n 0, 1, [], 0, []),
  (10, .bipush 48, 2, [], 48, []),
  (12, .iload_n 1, 1, [], 0, []),
  (13, .iadd, 1, [], 0, []),
  (14, .bipush (-2), 2, [], (-2), []),
  (16, .invokevirtual 109, 3, [142, 3, 0, 11, 1061], 0, []),
  (19, .aload_n 0, 1, [], 0, []),
  (20, .bipush 72, 2, [], 72, []),
  (22, .iload_n 1, 1, [], 0, []),
  (23, .iadd, 1, [], 0, []),
  (24, .bipush (-2), 2, [], (-2), []),
  (26, .invokevirtual 109, 3, [142, 3, 0, 11, 1061], 0, []),
  (29, .return_, 1, [], 0, [])]
def kM_plain : List am_E := [(0, .aload_n 0, 1, [], 0, []),
  (1, .iconst 0, 1, [], 0, []),
  (2, .putfield 112, 3, [10, 19, 1084], 0, []),
  (5, .aload_n 0, 1, [], 0, []),
  (6, .iconst 0, 1, [], 0, []),
  (7, .putfield 115, 3, [10, 20, 1085], 0, []),
  (10, .aload_n 0, 1, [], 0, []),
  (11, .iconst 0, 1, [], 0, []),
  (12, .putfield 118, 3, [10, 21, 1086], 0, []),
  (15, .return_, 1, [], 0, [])]
def kM_keepText : List am_E := [(0, .aload_n 0, 1, [], 0, []),
  (1, .iconst 3, 1, [], 3, []),
  (2, .iconst 0, 1, [], 0, []),
  (3, .invokevirtual 83, 3, [143, 3, 0, 11, 1057], 0, []),
  (6, .iconst 0, 1, [], 0, []),
  (7, .istore_n 1, 1, [], 0, []),
  (8, .iload_n 1, 1, [], 0, []),
  (9, .bipush 24, 2, [], 24, []),
  (11, .if_icmp .ge 21, 3, [19], 0, []),
  (14, .aload_n 0, 1, [], 0, []),
  (15, .getfield 23, 3, [10, 17, 1082], 0, []),
  (18, .iload_n 1, 1, [], 0, []),
  (19, .aload_n 0, 1, [], 0, []),
  (20, .getfield 26, 3, [10, 18, 1083], 0, []),
  (23, .iload_n 1, 1, [], 0, []),
  (24, .iaload, 1, [], 0, []),
  (25, .iastore, 1, [], 0, []),
  (26, .iinc 1 1, 3, [], 1, []),
  (29, .goto (-21), 3, [6], 0, []),
  (32, .aload_n 0, 1, [], 0, []),
  (33, .aload_n 0, 1, [], 0, []),
  (34, .getfield 112, 3, [10, 19, 1084], 0, []),
  (37, .putfield 95, 3, [10, 15, 1080], 0, []),
  (40, .aload_n 0, 1, [], 0, []),
  (41, .aload_n 0, 1, [], 0, []),
  (42, .getfield 115, 3, [10, 20, 1085], 0, []),
  (45, .putfield 121, 3, [10, 16, 1081], 0, []),
  (48, .aload_n 0, 1, [], 0, []),
  (49, .iconst 0, 1, [], 0, []),
  (50, .putfield 80, 3, [10, 13, 1078], 0, []),
  (53, .aload_n 0, 1, [], 0, []),
  (54, .iconst 0, 1, [], 0, []),
  (55, .putfield 87, 3, [10, 14, 1079], 0, []),
  (58, .aload_n 0, 1, [], 0, []),
  (59, .iconst 0, 1, [], 0, []),
  (60, .putfield 124, 3, [10, 24, 1089], 0, []),
  (63, .aload_n 0, 1, [], 0, []),
  (64, .bipush 120, 2, [], 120, []),
  (66, .iconst 0, 1, [], 0, []),
  (67, .invokevirtual 109, 3, [142, 3, 0, 11, 1061], 0, []),
  (70, .return_, 1, [], 0, [])]
def kM_nameAt : List am_E := [(0, .iconst 0, 1, [], 0, []),
  (1, .istore_n 3, 1, [], 0, []),
  (2, .iload_n 3, 1, [], 0, []),
  (3, .iload_n 2, 1, [], 0, []),
  (4, .if_icmp .ge 18, 3, [14], 0, []),
  (7, .aload_n 1, 1, [], 0, []),
  (8, .iload_n 3, 1, [], 0, []),
  (9, .iaload, 1, [], 0, []),
  (10, .iload_n 0, 1, [], 0, []),
  (11, .if_icmp .ne 5, 3, [12], 0, []),
  (14, .iload_n 3, 1, [], 0, []),
  (15, .ireturn, 1, [], 0, []),
  (16, .iinc 3 1, 3, [], 1, []),
  (19, .goto (-17), 3, [2], 0, []),
  (22, .iconst (-1), 1, [], (-1), []),
  (23, .ireturn, 1, [], 0, [])]
def kM_signed : List am_E := [(0, .aload_n 0, 1, [], 0, []),
  (1, .getfield 56, 3, [10, 8, 1073], 0, []),
  (4, .iconst 3, 1, [], 3, []),
  (5, .if_icmp .eq 18, 3, [12], 0, []),
  (8, .aload_n 0, 1, [], 0, []),
  (9, .getfield 56, 3, [10, 8, 1073], 0, []),
  (12, .bipush 6, 2, [], 6, []),
  (14, .if_icmp .eq 9, 3, [12], 0, []),
  (17, .aload_n 0, 1, [], 0, []),
  (18, .iconst 1, 1, [], 1, []),
  (19, .invokevirtual 127, 3, [135, 2, 1, 11, 1209], 0, []),
  (22, .ireturn, 1, [1], 0, []),
  (23, .aload_n 0, 1, [], 0, []),
  (24, .getfield 67, 3, [10, 9, 1074], 0, []),
  (27, .iload_n 1, 1, [], 0, []),
  (28, .iload_n 2, 1, [], 0, []),
  (29, .invokestatic 98, 3, [134, 3, 1, 0, 1224], 0, []),
  (32, .ifCond .ne 9, 3, [22], 0, []),
  (35, .aload_n 0, 1, [], 0, []),
  (36, .iconst 2, 1, [], 2, []),
  (37, .invokevirtual 127, 3, [135, 2, 1, 11, 1209], 0, []),
  (40, .ireturn, 1, [1], 0, []),
  (41, .aload_n 0, 1, [], 0, []),
  (42, .aload_n 0, 1, [], 0, []),
  (43, .getfield 67, 3, [10, 9, 1074], 0, []),
  (46, .putfield 130, 3, [10, 22, 1087], 0, []),
  (49, .aload_n 0, 1, [], 0, []),
  (50, .invokevirtual 133, 3, [139, 1, 0, 11, 1184], 0, []),
  (53, .iconst 1, 1, [], 1, []),
  (54, .ireturn, 1, [1], 0, [])]
def kM_number : List am_E := [(0, .aload_n 0, 1, [], 0, []),
  (1, .getfield 56, 3, [10, 8, 1073], 0, []),
  (4, .iconst 3, 1, [], 3, []),
  (5, .if_icmp .ne 12, 3, [9], 0, []),
  (8, .aload_n 0, 1, [], 0, []),
  (9, .iload_n 1, 1, [], 0, []),
  (10, .iload_n 2, 1, [], 0, []),
  (11, .invokevirtual 136, 3, [156, 3, 1, 11, 1220], 0, []),
  (14, .goto 8, 3, [12], 0, []),
  (17, .aload_n 0, 1, [], 0, []),
  (18, .iconst 1, 1, [], 1, []),
  (19, .invokevirtual 127, 3, [135, 2, 1, 11, 1209], 0, []),
  (22, .ireturn, 1, [1], 0, [])]
def kM_townRead : List am_E := [(0, .aload_n 0, 1, [], 0, []),
  (1, .invokevirtual 133, 3, [139, 1, 0, 11, 1184], 0, []),
  (4, .aload_n 0, 1, [], 0, []),
  (5, .getfield 56, 3, [10, 8, 1073], 0, []),
  (8, .iconst 2, 1, [], 2, []),
  (9, .if_icmp .eq 9, 3, [10], 0, []),
  (12, .aload_n 0, 1, [], 0, []),
  (13, .iconst 1, 1, [], 1, []),
  (14, .invokevirtual 127, 3, [135, 2, 1, 11, 1209], 0, []),
  (17, .ireturn, 1, [1], 0, []),
  (18, .aload_n 0, 1, [], 0, []),
  (19, .aload_n 0, 1, [], 0, []),
  (20, .getfield 67, 3, [10, 9, 1074], 0, []),
  (23, .aload_n 0, 1, [], 0, []),
  (24, .getfield 26, 3, [10, 18, 1083], 0, []),
  (27, .aload_n 0, 1, [], 0, []),
  (28, .getfield 112, 3, [10, 19, 1084], 0, []),
  (31, .invokestatic 140, 3, [155, 3, 1, 0, 1217], 0, []),
  (34, .putfield 130, 3, [10, 22, 1087], 0, []),
  (37, .aload_n 0, 1, [], 0, []),
  (38, .getfield 130, 3, [10, 22, 1087], 0, []),
  (41, .ifCond .ge 11, 3, [26], 0, []),
  (44, .aload_n 0, 1, [], 0, []),
  (45, .iconst 4, 1, [], 4, []),
  (46, .invokevirtual 127, 3, [135, 2, 1, 11, 1209], 0, []),
  (49, .ifCond .eq 7, 3, [28], 0, []),
  (52, .iconst 1, 1, [], 1, []),
  (53, .goto 4, 3, [29], 0, []),
  (56, .iconst 0, 1, [], 0, []),
  (57, .ireturn, 1, [1], 0, [])]
def kM_townLine : List am_E := [(0, .aload_n 0, 1, [], 0, []),
  (1, .getfield 112, 3, [10, 19, 1084], 0, []),
  (4, .bipush 24, 2, [], 24, []),
  (6, .if_icmp .ne 9, 3, [8], 0, []),
  (9, .aload_n 0, 1, [], 0, []),
  (10, .iconst 2, 1, [], 2, []),
  (11, .invokevirtual 127, 3, [135, 2, 1, 11, 1209], 0, []),
  (14, .ireturn, 1, [1], 0, []),
  (15, .aload_n 0, 1, [], 0, []),
  (16, .invokevirtual 133, 3, [139, 1, 0, 11, 1184], 0, []),
  (19, .aload_n 0, 1, [], 0, []),
  (20, .getfield 56, 3, [10, 8, 1073], 0, []),
  (23, .iconst 2, 1, [], 2, []),
  (24, .if_icmp .eq 9, 3, [18], 0, []),
  (27, .aload_n 0, 1, [], 0, []),
  (28, .iconst 1, 1, [], 1, []),
  (29, .invokevirtual 127, 3, [135, 2, 1, 11, 1209], 0, []),
  (32, .ireturn, 1, [1], 0, []),
  (33, .aload_n 0, 1, [], 0, []),
  (34, .getfield 67, 3, [10, 9, 1074], 0, []),
  (37, .aload_n 0, 1, [], 0, []),
  (38, .getfield 26, 3, [10, 18, 1083], 0, []),
  (41, .aload_n 0, 1, [], 0, []),
  (42, .getfield 112, 3, [10, 19, 1084], 0, []),
  (45, .invokestatic 140, 3, [155, 3, 1, 0, 1217], 0, []),
  (48, .ifCond .lt 9, 3, [30], 0, []),
  (51, .aload_n 0, 1, [], 0, []),
  (52, .iconst 3, 1, [], 3, []),
  (53, .invokevirtual 127, 3, [135, 2, 1, 11, 1209], 0, []),
  (56, .ireturn, 1, [1], 0, []),
  (57, .aload_n 0, 1, [], 0, []),
  (58, .getfield 26, 3, [10, 18, 1083], 0, []),
  (61, .aload_n 0, 1, [], 0, []),
  (62, .getfield 112, 3, [10, 19, 1084], 0, []),
  (65, .aload_n 0, 1, [], 0, []),
  (66, .getfield 67, 3, [10, 9, 1074], 0, []),
  (69, .iastore, 1, [], 0, []),
  (70, .aload_n 0, 1, [], 0, []),
  (71, .invokevirtual 133, 3, [139, 1, 0, 11, 1184], 0, []),
  (74, .aload_n 0, 1, [], 0, []),
  (75, .sipush (-9999), 3, [], (-9999), []),
  (78, .sipush 9999, 3, [], 9999, []),
  (81, .invokevirtual 136, 3, [156, 3, 1, 11, 1220], 0, []),
  (84, .ifCond .ne 5, 3, [46], 0, []),
  (87, .iconst 0, 1, [], 0, []),
  (88, .ireturn, 1, [1], 0, []),
  (89, .aload_n 0, 1, [], 0, []),
  (90, .aload_n 0, 1, [], 0, []),
  (91, .getfield 112, 3, [10, 19, 1084], 0, []),
  (94, .invokevirtual 144, 3, [152, 2, 0, 11, 1227], 0, []),
  (97, .aload_n 0, 1, [], 0, []),
  (98, .bipush 24, 2, [], 24, []),
  (100, .aload_n 0, 1, [], 0, []),
  (101, .getfield 112, 3, [10, 19, 1084], 0, []),
  (104, .iadd, 1, [], 0, []),
  (105, .bipush (-2), 2, [], (-2), []),
  (107, .invokevirtual 109, 3, [142, 3, 0, 11, 1061], 0, []),
  (110, .aload_n 0, 1, [], 0, []),
  (111, .bipush 96, 2, [], 96, []),
  (113, .aload_n 0, 1, [], 0, []),
  (114, .getfield 112, 3, [10, 19, 1084], 0, []),
  (117, .iadd, 1, [], 0, []),
  (118, .aload_n 0, 1, [], 0, []),
  (119, .getfield 130, 3, [10, 22, 1087], 0, []),
  (122, .invokevirtual 109, 3, [142, 3, 0, 11, 1061], 0, []),
  (125, .aload_n 0, 1, [], 0, []),
  (126, .dup, 1, [], 0, []),
  (127, .getfield 112, 3, [10, 19, 1084], 0, []),
  (130, .iconst 1, 1, [], 1, []),
  (131, .iadd, 1, [], 0, []),
  (132, .putfield 112, 3, [10, 19, 1084], 0, []),
  (135, .iconst 1, 1, [], 1, []),
  (136, .ireturn, 1, [1], 0, [])]
def kM_linkLine : List am_E := [(0, .aload_n 0, 1, [], 0, []),
  (1, .invokevirtual 148, 3, [158, 1, 1, 11, 1235], 0, []),
  (4, .ifCond .ne 5, 3, [5], 0, []),
  (7, .iconst 0, 1, [], 0, []),
  (8, .ireturn, 1, [1], 0, []),
  (9, .aload_n 0, 1, [], 0, []),
  (10, .getfield 130, 3, [10, 22, 1087], 0, []),
  (13, .istore_n 1, 1, [], 0, []),
  (14, .aload_n 0, 1, [], 0, []),
  (15, .invokevirtual 148, 3, [158, 1, 1, 11, 1235], 0, []),
  (18, .ifCond .ne 5, 3, [13], 0, []),
  (21, .iconst 0, 1, [], 0, []),
  (22, .ireturn, 1, [1], 0, []),
  (23, .aload_n 0, 1, [], 0, []),
  (24, .getfield 130, 3, [10, 22, 1087], 0, []),
  (27, .istore_n 2, 1, [], 0, []),
  (28, .aload_n 0, 1, [], 0, []),
  (29, .iload_n 1, 1, [], 0, []),
  (30, .invokevirtual 152, 3, [166, 2, 1, 11, 1239], 0, []),
  (33, .aload_n 0, 1, [], 0, []),
  (34, .iload_n 2, 1, [], 0, []),
  (35, .invokevirtual 152, 3, [166, 2, 1, 11, 1239], 0, []),
  (38, .if_icmp .ne 9, 3, [27], 0, []),
  (41, .aload_n 0, 1, [], 0, []),
  (42, .iconst 3, 1, [], 3, []),
  (43, .invokevirtual 127, 3, [135, 2, 1, 11, 1209], 0, []),
  (46, .ireturn, 1, [1], 0, []),
  (47, .aload_n 0, 1, [], 0, []),
  (48, .invokevirtual 133, 3, [139, 1, 0, 11, 1184], 0, []),
  (51, .aload_n 0, 1, [], 0, []),
  (52, .iconst 1, 1, [], 1, []),
  (53, .sipush 9999, 3, [], 9999, []),
  (56, .invokevirtual 155, 3, [157, 3, 1, 11, 1243], 0, []),
  (59, .ifCond .ne 5, 3, [36], 0, []),
  (62, .iconst 0, 1, [], 0, []),
  (63, .ireturn, 1, [1], 0, []),
  (64, .aload_n 0, 1, [], 0, []),
  (65, .getfield 130, 3, [10, 22, 1087], 0, []),
  (68, .istore_n 3, 1, [], 0, []),
  (69, .aload_n 0, 1, [], 0, []),
  (70, .iconst 1, 1, [], 1, []),
  (71, .sipush 9999, 3, [], 9999, []),
  (74, .invokevirtual 155, 3, [157, 3, 1, 11, 1243], 0, []),
  (77, .ifCond .ne 5, 3, [46], 0, []),
  (80, .iconst 0, 1, [], 0, []),
  (81, .ireturn, 1, [1], 0, []),
  (82, .aload_n 0, 1, [], 0, []),
  (83, .iload_n 1, 1, [], 0, []),
  (84, .iload_n 2, 1, [], 0, []),
  (85, .iload_n 3, 1, [], 0, []),
  (86, .aload_n 0, 1, [], 0, []),
  (87, .getfield 130, 3, [10, 22, 1087], 0, []),
  (90, .invokevirtual 158, 3, [171, 5, 0, 11, 1247], 0, []),
  (93, .iconst 1, 1, [], 1, []),
  (94, .ireturn, 1, [1], 0, [])]
def kM_wordLine : List am_E := [(0, .aload_n 0, 1, [], 0, []),
  (1, .getfield 67, 3, [10, 9, 1074], 0, []),
  (4, .istore_n 1, 1, [], 0, []),
  (5, .iload_n 1, 1, [], 0, []),
  (6, .iconst 5, 1, [], 5, []),
  (7, .if_icmp .ne 47, 3, [31], 0, []),
  (10, .aload_n 0, 1, [], 0, []),
  (11, .getfield 118, 3, [10, 21, 1086], 0, []),
  (14, .ifCond .eq 9, 3, [13], 0, []),
  (17, .aload_n 0, 1, [], 0, []),
  (18, .iconst 3, 1, [], 3, []),
  (19, .invokevirtual 127, 3, [135, 2, 1, 11, 1209], 0, []),
  (22, .ireturn, 1, [1], 0, []),
  (23, .aload_n 0, 1, [], 0, []),
  (24, .iconst 1, 1, [], 1, []),
  (25, .putfield 118, 3, [10, 21, 1086], 0, []),
  (28, .aload_n 0, 1, [], 0, []),
  (29, .invokevirtual 133, 3, [139, 1, 0, 11, 1184], 0, []),
  (32, .aload_n 0, 1, [], 0, []),
  (33, .iconst 0, 1, [], 0, []),
  (34, .ldc 76, 2, [1204], 99999, []),
  (36, .invokevirtual 155, 3, [157, 3, 1, 11, 1243], 0, []),
  (39, .ifCond .ne 5, 3, [25], 0, []),
  (42, .iconst 0, 1, [], 0, []),
  (43, .ireturn, 1, [1], 0, []),
  (44, .aload_n 0, 1, [], 0, []),
  (45, .aload_n 0, 1, [], 0, []),
  (46, .getfield 130, 3, [10, 22, 1087], 0, []),
  (49, .putfield 115, 3, [10, 20, 1085], 0, []),
  (52, .iconst 1, 1, [], 1, []),
  (53, .ireturn, 1, [1], 0, []),
  (54, .aload_n 0, 1, [], 0, []),
  (55, .invokevirtual 148, 3, [158, 1, 1, 11, 1235], 0, []),
  (58, .ifCond .ne 5, 3, [36], 0, []),
  (61, .iconst 0, 1, [], 0, []),
  (62, .ireturn, 1, [1], 0, []),
  (63, .iload_n 1, 1, [], 0, []),
  (64, .iconst 2, 1, [], 2, []),
  (65, .if_icmp .ne 15, 3, [45], 0, []),
  (68, .aload_n 0, 1, [], 0, []),
  (69, .aload_n 0, 1, [], 0, []),
  (70, .getfield 130, 3, [10, 22, 1087], 0, []),
  (73, .invokevirtual 162, 3, [170, 2, 1, 11, 1251], 0, []),
  (76, .pop, 1, [], 0, []),
  (77, .goto 29, 3, [59], 0, []),
  (80, .iload_n 1, 1, [], 0, []),
  (81, .iconst 3, 1, [], 3, []),
  (82, .if_icmp .ne 15, 3, [54], 0, []),
  (85, .aload_n 0, 1, [], 0, []),
  (86, .aload_n 0, 1, [], 0, []),
  (87, .getfield 130, 3, [10, 22, 1087], 0, []),
  (90, .invokevirtual 165, 3, [169, 2, 1, 11, 1255], 0, []),
  (93, .pop, 1, [], 0, []),
  (94, .goto 12, 3, [59], 0, []),
  (97, .aload_n 0, 1, [], 0, []),
  (98, .aload_n 0, 1, [], 0, []),
  (99, .getfield 130, 3, [10, 22, 1087], 0, []),
  (102, .invokevirtual 168, 3, [190, 2, 1, 11, 1271], 0, []),
  (105, .pop, 1, [], 0, []),
  (106, .aload_n 0, 1, [], 0, []),
  (107, .invokevirtual 133, 3, [139, 1, 0, 11, 1184], 0, []),
  (110, .iconst 1, 1, [], 1, []),
  (111, .ireturn, 1, [1], 0, [])]
def kM_lineRead : List am_E := [(0, .aload_n 0, 1, [], 0, []),
  (1, .getfield 56, 3, [10, 8, 1073], 0, []),
  (4, .iconst 1, 1, [], 1, []),
  (5, .if_icmp .eq 9, 3, [8], 0, []),
  (8, .aload_n 0, 1, [], 0, []),
  (9, .iconst 1, 1, [], 1, []),
  (10, .invokevirtual 127, 3, [135, 2, 1, 11, 1209], 0, []),
  (13, .ireturn, 1, [1], 0, []),
  (14, .aload_n 0, 1, [], 0, []),
  (15, .getfield 67, 3, [10, 9, 1074], 0, []),
  (18, .ifCond .ne 10, 3, [14], 0, []),
  (21, .aload_n 0, 1, [], 0, []),
  (22, .invokevirtual 171, 3, [159, 1, 1, 11, 1213], 0, []),
  (25, .goto 22, 3, [23], 0, []),
  (28, .aload_n 0, 1, [], 0, []),
  (29, .getfield 67, 3, [10, 9, 1074], 0, []),
  (32, .iconst 1, 1, [], 1, []),
  (33, .if_icmp .ne 10, 3, [21], 0, []),
  (36, .aload_n 0, 1, [], 0, []),
  (37, .invokevirtual 174, 3, [160, 1, 1, 11, 1231], 0, []),
  (40, .goto 7, 3, [23], 0, []),
  (43, .aload_n 0, 1, [], 0, []),
  (44, .invokevirtual 177, 3, [161, 1, 1, 11, 1267], 0, []),
  (47, .istore_n 1, 1, [], 0, []),
  (48, .iload_n 1, 1, [], 0, []),
  (49, .ifCond .ne 5, 3, [28], 0, []),
  (52, .iconst 0, 1, [], 0, []),
  (53, .ireturn, 1, [1], 0, []),
  (54, .aload_n 0, 1, [], 0, []),
  (55, .getfield 56, 3, [10, 8, 1073], 0, []),
  (58, .iconst 4, 1, [], 4, []),
  (59, .if_icmp .eq 9, 3, [36], 0, []),
  (62, .aload_n 0, 1, [], 0, []),
  (63, .iconst 1, 1, [], 1, []),
  (64, .invokevirtual 127, 3, [135, 2, 1, 11, 1209], 0, []),
  (67, .ireturn, 1, [1], 0, []),
  (68, .aload_n 0, 1, [], 0, []),
  (69, .invokevirtual 133, 3, [139, 1, 0, 11, 1184], 0, []),
  (72, .iconst 1, 1, [], 1, []),
  (73, .ireturn, 1, [1], 0, [])]
def kM_text : List am_E := [(0, .aload_n 0, 1, [], 0, []),
  (1, .iconst 0, 1, [], 0, []),
  (2, .putfield 38, 3, [10, 2, 1067], 0, []),
  (5, .iload_n 1, 1, [], 0, []),
  (6, .ifCond .lt 11, 3, [9], 0, []),
  (9, .iload_n 1, 1, [], 0, []),
  (10, .aload_n 0, 1, [], 0, []),
  (11, .getfield 41, 3, [10, 1, 1066], 0, []),
  (14, .if_icmp .le 6, 3, [11], 0, []),
  (17, .bipush (-2), 2, [], (-2), []),
  (19, .ireturn, 1, [], 0, []),
  (20, .aload_n 0, 1, [], 0, []),
  (21, .iload_n 1, 1, [], 0, []),
  (22, .putfield 50, 3, [10, 6, 1071], 0, []),
  (25, .aload_n 0, 1, [], 0, []),
  (26, .iconst 0, 1, [], 0, []),
  (27, .putfield 41, 3, [10, 1, 1066], 0, []),
  (30, .aload_n 0, 1, [], 0, []),
  (31, .iconst 0, 1, [], 0, []),
  (32, .putfield 44, 3, [10, 4, 1069], 0, []),
  (35, .aload_n 0, 1, [], 0, []),
  (36, .iconst (-1), 1, [], (-1), []),
  (37, .putfield 16, 3, [10, 5, 1070], 0, []),
  (40, .aload_n 0, 1, [], 0, []),
  (41, .iconst 0, 1, [], 0, []),
  (42, .putfield 53, 3, [10, 7, 1072], 0, []),
  (45, .aload_n 0, 1, [], 0, []),
  (46, .invokevirtual 32, 3, [153, 1, 0, 11, 1049], 0, []),
  (49, .aload_n 0, 1, [], 0, []),
  (50, .invokevirtual 133, 3, [139, 1, 0, 11, 1184], 0, []),
  (53, .aload_n 0, 1, [], 0, []),
  (54, .iconst 3, 1, [], 3, []),
  (55, .putfield 77, 3, [10, 12, 1077], 0, []),
  (58, .aload_n 0, 1, [], 0, []),
  (59, .getfield 95, 3, [10, 15, 1080], 0, []),
  (62, .istore_n 2, 1, [], 0, []),
  (63, .aload_n 0, 1, [], 0, []),
  (64, .iconst 0, 1, [], 0, []),
  (65, .putfield 95, 3, [10, 15, 1080], 0, []),
  (68, .iconst 0, 1, [], 0, []),
  (69, .istore_n 3, 1, [], 0, []),
  (70, .iconst 1, 1, [], 1, []),
  (71, .istore 4, 2, [], 0, []),
  (73, .iload 4, 2, [], 0, []),
  (75, .ifCond .eq 30, 3, [57], 0, []),
  (78, .aload_n 0, 1, [], 0, []),
  (79, .getfield 56, 3, [10, 8, 1073], 0, []),
  (82, .ifCond .eq 23, 3, [57], 0, []),
  (85, .aload_n 0, 1, [], 0, []),
  (86, .invokevirtual 180, 3, [162, 1, 1, 11, 1205], 0, []),
  (89, .istore 4, 2, [], 0, []),
  (91, .aload_n 0, 1, [], 0, []),
  (92, .aload_n 0, 1, [], 0, []),
  (93, .getfield 112, 3, [10, 19, 1084], 0, []),
  (96, .putfield 95, 3, [10, 15, 1080], 0, []),
  (99, .iinc 3 1, 3, [], 1, []),
  (102, .goto (-29), 3, [43], 0, []),
  (105, .aload_n 0, 1, [], 0, []),
  (106, .iload_n 2, 1, [], 0, []),
  (107, .putfield 95, 3, [10, 15, 1080], 0, []),
  (110, .aload_n 0, 1, [], 0, []),
  (111, .iconst 0, 1, [], 0, []),
  (112, .putfield 77, 3, [10, 12, 1077], 0, []),
  (115, .iload 4, 2, [], 0, []),
  (117, .ifCond .ne 5, 3, [67], 0, []),
  (120, .iconst (-1), 1, [], (-1), []),
  (121, .ireturn, 1, [], 0, []),
  (122, .aload_n 0, 1, [], 0, []),
  (123, .invokevirtual 35, 3, [154, 1, 0, 11, 1053], 0, []),
  (126, .iload_n 3, 1, [], 0, []),
  (127, .ireturn, 1, [], 0, [])]
def kM_fault : List am_E := [(0, .aload_n 0, 1, [], 0, []),
  (1, .iconst 0, 1, [], 0, []),
  (2, .putfield 38, 3, [10, 2, 1067], 0, []),
  (5, .iload_n 1, 1, [], 0, []),
  (6, .ifCond .ne 10, 3, [8], 0, []),
  (9, .aload_n 0, 1, [], 0, []),
  (10, .getfield 44, 3, [10, 4, 1069], 0, []),
  (13, .goto 16, 3, [15], 0, []),
  (16, .iload_n 1, 1, [], 0, []),
  (17, .iconst 1, 1, [], 1, []),
  (18, .if_icmp .ne 10, 3, [14], 0, []),
  (21, .aload_n 0, 1, [], 0, []),
  (22, .getfield 16, 3, [10, 5, 1070], 0, []),
  (25, .goto 4, 3, [15], 0, []),
  (28, .iconst (-1), 1, [], (-1), []),
  (29, .ireturn, 1, [], 0, [])]
def kM_named : List am_E := [(0, .aload_n 0, 1, [], 0, []),
  (1, .iconst 0, 1, [], 0, []),
  (2, .putfield 38, 3, [10, 2, 1067], 0, []),
  (5, .iload_n 1, 1, [], 0, []),
  (6, .aload_n 0, 1, [], 0, []),
  (7, .getfield 23, 3, [10, 17, 1082], 0, []),
  (10, .aload_n 0, 1, [], 0, []),
  (11, .getfield 95, 3, [10, 15, 1080], 0, []),
  (14, .invokestatic 140, 3, [155, 3, 1, 0, 1217], 0, []),
  (17, .ireturn, 1, [], 0, [])]
def kM_rootOf : List am_E := [(0, .iload_n 1, 1, [], 0, []),
  (1, .istore_n 2, 1, [], 0, []),
  (2, .aload_n 0, 1, [], 0, []),
  (3, .iload_n 2, 1, [], 0, []),
  (4, .invokevirtual 183, 3, [150, 2, 1, 11, 1168], 0, []),
  (7, .ifCond .lt 12, 3, [11], 0, []),
  (10, .aload_n 0, 1, [], 0, []),
  (11, .iload_n 2, 1, [], 0, []),
  (12, .invokevirtual 183, 3, [150, 2, 1, 11, 1168], 0, []),
  (15, .istore_n 2, 1, [], 0, []),
  (16, .goto (-14), 3, [2], 0, []),
  (19, .iload_n 2, 1, [], 0, []),
  (20, .ireturn, 1, [], 0, [])]
def kM_areTogether : List am_E := [(0, .aload_n 0, 1, [], 0, []),
  (1, .iload_n 1, 1, [], 0, []),
  (2, .invokevirtual 152, 3, [166, 2, 1, 11, 1239], 0, []),
  (5, .aload_n 0, 1, [], 0, []),
  (6, .iload_n 2, 1, [], 0, []),
  (7, .invokevirtual 152, 3, [166, 2, 1, 11, 1239], 0, []),
  (10, .if_icmp .ne 7, 3, [9], 0, []),
  (13, .iconst 1, 1, [], 1, []),
  (14, .goto 4, 3, [10], 0, []),
  (17, .iconst 0, 1, [], 0, []),
  (18, .ireturn, 1, [1], 0, [])]
def kM_would1 : List am_E := [(0, .iconst 0, 1, [], 0, []),
  (1, .istore_n 2, 1, [], 0, []),
  (2, .iload_n 1, 1, [], 0, []),
  (3, .istore_n 3, 1, [], 0, []),
  (4, .aload_n 0, 1, [], 0, []),
  (5, .iload_n 3, 1, [], 0, []),
  (6, .invokevirtual 183, 3, [150, 2, 1, 11, 1168], 0, []),
  (9, .ifCond .lt 33, 3, [26], 0, []),
  (12, .iload_n 2, 1, [], 0, []),
  (13, .aload_n 0, 1, [], 0, []),
  (14, .aload_n 0, 1, [], 0, []),
  (15, .iload_n 3, 1, [], 0, []),
  (16, .invokevirtual 183, 3, [150, 2, 1, 11, 1168], 0, []),
  (19, .invokevirtual 186, 3, [151, 2, 1, 11, 1263], 0, []),
  (22, .iload_n 3, 1, [], 0, []),
  (23, .if_icmp .ne 7, 3, [18], 0, []),
  (26, .iconst 0, 1, [], 0, []),
  (27, .goto 4, 3, [19], 0, []),
  (30, .iconst 1, 1, [], 1, []),
  (31, .iadd, 1, [], 0, []),
  (32, .istore_n 2, 1, [], 0, []),
  (33, .aload_n 0, 1, [], 0, []),
  (34, .iload_n 3, 1, [], 0, []),
  (35, .invokevirtual 183, 3, [150, 2, 1, 11, 1168], 0, []),
  (38, .istore_n 3, 1, [], 0, []),
  (39, .goto (-35), 3, [4], 0, []),
  (42, .iload_n 2, 1, [], 0, []),
  (43, .ireturn, 1, [], 0, [])]
def kM_touches : List am_E := [(0, .aload_n 0, 1, [], 0, []),
  (1, .iload_n 1, 1, [], 0, []),
  (2, .invokevirtual 189, 3, [168, 2, 1, 11, 1259], 0, []),
  (5, .istore_n 2, 1, [], 0, []),
  (6, .aload_n 0, 1, [], 0, []),
  (7, .bipush 24, 2, [], 24, []),
  (9, .iload_n 1, 1, [], 0, []),
  (10, .iadd, 1, [], 0, []),
  (11, .bipush (-2), 2, [], (-2), []),
  (13, .invokevirtual 109, 3, [142, 3, 0, 11, 1061], 0, []),
  (16, .iload_n 1, 1, [], 0, []),
  (17, .istore_n 3, 1, [], 0, []),
  (18, .aload_n 0, 1, [], 0, []),
  (19, .iload_n 3, 1, [], 0, []),
  (20, .invokevirtual 183, 3, [150, 2, 1, 11, 1168], 0, []),
  (23, .ifCond .lt 25, 3, [29], 0, []),
  (26, .aload_n 0, 1, [], 0, []),
  (27, .bipush 24, 2, [], 24, []),
  (29, .aload_n 0, 1, [], 0, []),
  (30, .iload_n 3, 1, [], 0, []),
  (31, .invokevirtual 183, 3, [150, 2, 1, 11, 1168], 0, []),
  (34, .iadd, 1, [], 0, []),
  (35, .iload_n 3, 1, [], 0, []),
  (36, .invokevirtual 109, 3, [142, 3, 0, 11, 1061], 0, []),
  (39, .aload_n 0, 1, [], 0, []),
  (40, .iload_n 3, 1, [], 0, []),
  (41, .invokevirtual 183, 3, [150, 2, 1, 11, 1168], 0, []),
  (44, .istore_n 3, 1, [], 0, []),
  (45, .goto (-27), 3, [12], 0, []),
  (48, .aload_n 0, 1, [], 0, []),
  (49, .bipush 120, 2, [], 120, []),
  (51, .aload_n 0, 1, [], 0, []),
  (52, .bipush 120, 2, [], 120, []),
  (54, .invokevirtual 105, 3, [141, 2, 1, 11, 1172], 0, []),
  (57, .iload_n 2, 1, [], 0, []),
  (58, .iadd, 1, [], 0, []),
  (59, .invokevirtual 109, 3, [142, 3, 0, 11, 1061], 0, []),
  (62, .iload_n 2, 1, [], 0, []),
  (63, .ireturn, 1, [], 0, [])]
def kM_reroots : List am_E := [(0, .aload_n 0, 1, [], 0, []),
  (1, .iload_n 1, 1, [], 0, []),
  (2, .invokevirtual 165, 3, [169, 2, 1, 11, 1255], 0, []),
  (5, .istore_n 2, 1, [], 0, []),
  (6, .iload_n 1, 1, [], 0, []),
  (7, .istore_n 3, 1, [], 0, []),
  (8, .bipush (-2), 2, [], (-2), []),
  (10, .istore 4, 2, [], 0, []),
  (12, .bipush (-2), 2, [], (-2), []),
  (14, .istore 5, 2, [], 0, []),
  (16, .bipush (-2), 2, [], (-2), []),
  (18, .istore 6, 2, [], 0, []),
  (20, .iload_n 3, 1, [], 0, []),
  (21, .ifCond .lt 96, 3, [67], 0, []),
  (24, .aload_n 0, 1, [], 0, []),
  (25, .iload_n 3, 1, [], 0, []),
  (26, .invokevirtual 183, 3, [150, 2, 1, 11, 1168], 0, []),
  (29, .istore 7, 2, [], 0, []),
  (31, .aload_n 0, 1, [], 0, []),
  (32, .bipush 48, 2, [], 48, []),
  (34, .iload_n 3, 1, [], 0, []),
  (35, .iadd, 1, [], 0, []),
  (36, .invokevirtual 105, 3, [141, 2, 1, 11, 1172], 0, []),
  (39, .istore 8, 2, [], 0, []),
  (41, .aload_n 0, 1, [], 0, []),
  (42, .bipush 72, 2, [], 72, []),
  (44, .iload_n 3, 1, [], 0, []),
  (45, .iadd, 1, [], 0, []),
  (46, .invokevirtual 105, 3, [141, 2, 1, 11, 1172], 0, []),
  (49, .istore 9, 2, [], 0, []),
  (51, .aload_n 0, 1, [], 0, []),
  (52, .iconst 0, 1, [], 0, []),
  (53, .iload_n 3, 1, [], 0, []),
  (54, .iadd, 1, [], 0, []),
  (55, .iload 4, 2, [], 0, []),
  (57, .invokevirtual 109, 3, [142, 3, 0, 11, 1061], 0, []),
  (60, .aload_n 0, 1, [], 0, []),
  (61, .bipush 48, 2, [], 48, []),
  (63, .iload_n 3, 1, [], 0, []),
  (64, .iadd, 1, [], 0, []),
  (65, .iload 5, 2, [], 0, []),
  (67, .invokevirtual 109, 3, [142, 3, 0, 11, 1061], 0, []),
  (70, .aload_n 0, 1, [], 0, []),
  (71, .bipush 72, 2, [], 72, []),
  (73, .iload_n 3, 1, [], 0, []),
  (74, .iadd, 1, [], 0, []),
  (75, .iload 6, 2, [], 0, []),
  (77, .invokevirtual 109, 3, [142, 3, 0, 11, 1061], 0, []),
  (80, .aload_n 0, 1, [], 0, []),
  (81, .bipush 24, 2, [], 24, []),
  (83, .iload_n 3, 1, [], 0, []),
  (84, .iadd, 1, [], 0, []),
  (85, .iload 7, 2, [], 0, []),
  (87, .ifCond .ge 8, 3, [56], 0, []),
  (90, .bipush (-2), 2, [], (-2), []),
  (92, .goto 5, 3, [57], 0, []),
  (95, .iload 7, 2, [], 0, []),
  (97, .invokevirtual 109, 3, [142, 3, 0, 11, 1061], 0, []),
  (100, .iload_n 3, 1, [], 0, []),
  (101, .istore 4, 2, [], 0, []),
  (103, .iload 8, 2, [], 0, []),
  (105, .istore 5, 2, [], 0, []),
  (107, .iload 9, 2, [], 0, []),
  (109, .istore 6, 2, [], 0, []),
  (111, .iload 7, 2, [], 0, []),
  (113, .istore_n 3, 1, [], 0, []),
  (114, .goto (-94), 3, [12], 0, []),
  (117, .iload_n 2, 1, [], 0, []),
  (118, .ireturn, 1, [], 0, [])]
def kM_links : List am_E := [(0, .aload_n 0, 1, [], 0, []),
  (1, .iload_n 1, 1, [], 0, []),
  (2, .invokevirtual 162, 3, [170, 2, 1, 11, 1251], 0, []),
  (5, .pop, 1, [], 0, []),
  (6, .aload_n 0, 1, [], 0, []),
  (7, .iload_n 2, 1, [], 0, []),
  (8, .invokevirtual 165, 3, [169, 2, 1, 11, 1255], 0, []),
  (11, .pop, 1, [], 0, []),
  (12, .aload_n 0, 1, [], 0, []),
  (13, .iconst 0, 1, [], 0, []),
  (14, .iload_n 1, 1, [], 0, []),
  (15, .iadd, 1, [], 0, []),
  (16, .iload_n 2, 1, [], 0, []),
  (17, .invokevirtual 109, 3, [142, 3, 0, 11, 1061], 0, []),
  (20, .aload_n 0, 1, [], 0, []),
  (21, .bipush 48, 2, [], 48, []),
  (23, .iload_n 1, 1, [], 0, []),
  (24, .iadd, 1, [], 0, []),
  (25, .iload_n 3, 1, [], 0, []),
  (26, .invokevirtual 109, 3, [142, 3, 0, 11, 1061], 0, []),
  (29, .aload_n 0, 1, [], 0, []),
  (30, .bipush 72, 2, [], 72, []),
  (32, .iload_n 1, 1, [], 0, []),
  (33, .iadd, 1, [], 0, []),
  (34, .iload 4, 2, [], 0, []),
  (36, .invokevirtual 109, 3, [142, 3, 0, 11, 1061], 0, []),
  (39, .return_, 1, [], 0, [])]
def kM_walks : List am_E := [(0, .aload_n 0, 1, [], 0, []),
  (1, .iload_n 1, 1, [], 0, []),
  (2, .invokevirtual 162, 3, [170, 2, 1, 11, 1251], 0, []),
  (5, .istore_n 3, 1, [], 0, []),
  (6, .iload_n 3, 1, [], 0, []),
  (7, .aload_n 0, 1, [], 0, []),
  (8, .iload_n 2, 1, [], 0, []),
  (9, .invokevirtual 165, 3, [169, 2, 1, 11, 1255], 0, []),
  (12, .iadd, 1, [], 0, []),
  (13, .ireturn, 1, [], 0, [])]
def kM_cuts : List am_E := [(0, .aload_n 0, 1, [], 0, []),
  (1, .iload_n 1, 1, [], 0, []),
  (2, .iload_n 2, 1, [], 0, []),
  (3, .invokevirtual 192, 3, [172, 3, 1, 11, 1334], 0, []),
  (6, .pop, 1, [], 0, []),
  (7, .aload_n 0, 1, [], 0, []),
  (8, .iload_n 2, 1, [], 0, []),
  (9, .invokevirtual 144, 3, [152, 2, 0, 11, 1227], 0, []),
  (12, .aload_n 0, 1, [], 0, []),
  (13, .bipush 24, 2, [], 24, []),
  (15, .iload_n 1, 1, [], 0, []),
  (16, .iadd, 1, [], 0, []),
  (17, .bipush (-2), 2, [], (-2), []),
  (19, .invokevirtual 109, 3, [142, 3, 0, 11, 1061], 0, []),
  (22, .return_, 1, [], 0, [])]
def kM_dearestTo : List am_E := [(0, .iconst (-1), 1, [], (-1), []),
  (1, .istore_n 2, 1, [], 0, []),
  (2, .iload_n 1, 1, [], 0, []),
  (3, .istore_n 3, 1, [], 0, []),
  (4, .aload_n 0, 1, [], 0, []),
  (5, .iload_n 3, 1, [], 0, []),
  (6, .invokevirtual 183, 3, [150, 2, 1, 11, 1168], 0, []),
  (9, .ifCond .lt 37, 3, [28], 0, []),
  (12, .iload_n 2, 1, [], 0, []),
  (13, .ifCond .lt 22, 3, [21], 0, []),
  (16, .aload_n 0, 1, [], 0, []),
  (17, .bipush 48, 2, [], 48, []),
  (19, .iload_n 3, 1, [], 0, []),
  (20, .iadd, 1, [], 0, []),
  (21, .invokevirtual 105, 3, [141, 2, 1, 11, 1172], 0, []),
  (24, .aload_n 0, 1, [], 0, []),
  (25, .bipush 48, 2, [], 48, []),
  (27, .iload_n 2, 1, [], 0, []),
  (28, .iadd, 1, [], 0, []),
  (29, .invokevirtual 105, 3, [141, 2, 1, 11, 1172], 0, []),
  (32, .if_icmp .lt 5, 3, [23], 0, []),
  (35, .iload_n 3, 1, [], 0, []),
  (36, .istore_n 2, 1, [], 0, []),
  (37, .aload_n 0, 1, [], 0, []),
  (38, .iload_n 3, 1, [], 0, []),
  (39, .invokevirtual 183, 3, [150, 2, 1, 11, 1168], 0, []),
  (42, .istore_n 3, 1, [], 0, []),
  (43, .goto (-39), 3, [4], 0, []),
  (46, .iload_n 2, 1, [], 0, []),
  (47, .ireturn, 1, [], 0, [])]
def kM_cutsDearest : List am_E := [(0, .aload_n 0, 1, [], 0, []),
  (1, .iload_n 1, 1, [], 0, []),
  (2, .iload_n 2, 1, [], 0, []),
  (3, .invokevirtual 192, 3, [172, 3, 1, 11, 1334], 0, []),
  (6, .pop, 1, [], 0, []),
  (7, .aload_n 0, 1, [], 0, []),
  (8, .iload_n 2, 1, [], 0, []),
  (9, .invokevirtual 195, 3, [174, 2, 1, 11, 1342], 0, []),
  (12, .istore_n 3, 1, [], 0, []),
  (13, .aload_n 0, 1, [], 0, []),
  (14, .bipush 48, 2, [], 48, []),
  (16, .iload_n 3, 1, [], 0, []),
  (17, .iadd, 1, [], 0, []),
  (18, .invokevirtual 105, 3, [141, 2, 1, 11, 1172], 0, []),
  (21, .istore 4, 2, [], 0, []),
  (23, .aload_n 0, 1, [], 0, []),
  (24, .aload_n 0, 1, [], 0, []),
  (25, .iload_n 3, 1, [], 0, []),
  (26, .invokevirtual 183, 3, [150, 2, 1, 11, 1168], 0, []),
  (29, .iload_n 3, 1, [], 0, []),
  (30, .invokevirtual 198, 3, [173, 3, 0, 11, 1330], 0, []),
  (33, .iload 4, 2, [], 0, []),
  (35, .ireturn, 1, [], 0, [])]
def kM_touch : List am_E := [(0, .aload_n 0, 1, [], 0, []),
  (1, .iconst 0, 1, [], 0, []),
  (2, .putfield 38, 3, [10, 2, 1067], 0, []),
  (5, .aload_n 0, 1, [], 0, []),
  (6, .iload_n 1, 1, [], 0, []),
  (7, .invokevirtual 102, 3, [148, 2, 1, 11, 1303], 0, []),
  (10, .ifCond .ne 5, 3, [9], 0, []),
  (13, .iconst (-1), 1, [], (-1), []),
  (14, .ireturn, 1, [], 0, []),
  (15, .aload_n 0, 1, [], 0, []),
  (16, .invokevirtual 201, 3, [144, 1, 0, 11, 1307], 0, []),
  (19, .aload_n 0, 1, [], 0, []),
  (20, .iload_n 1, 1, [], 0, []),
  (21, .invokevirtual 165, 3, [169, 2, 1, 11, 1255], 0, []),
  (24, .ireturn, 1, [], 0, [])]
def kM_reroot : List am_E := [(0, .aload_n 0, 1, [], 0, []),
  (1, .iconst 0, 1, [], 0, []),
  (2, .putfield 38, 3, [10, 2, 1067], 0, []),
  (5, .aload_n 0, 1, [], 0, []),
  (6, .iload_n 1, 1, [], 0, []),
  (7, .invokevirtual 102, 3, [148, 2, 1, 11, 1303], 0, []),
  (10, .ifCond .ne 5, 3, [9], 0, []),
  (13, .iconst (-1), 1, [], (-1), []),
  (14, .ireturn, 1, [], 0, []),
  (15, .aload_n 0, 1, [], 0, []),
  (16, .invokevirtual 201, 3, [144, 1, 0, 11, 1307], 0, []),
  (19, .aload_n 0, 1, [], 0, []),
  (20, .iload_n 1, 1, [], 0, []),
  (21, .invokevirtual 162, 3, [170, 2, 1, 11, 1251], 0, []),
  (24, .ireturn, 1, [], 0, [])]
def kM_isLength : List am_E := [(0, .iload_n 0, 1, [], 0, []),
  (1, .iconst 1, 1, [], 1, []),
  (2, .sipush 9999, 3, [], 9999, []),
  (5, .invokestatic 98, 3, [134, 3, 1, 0, 1224], 0, []),
  (8, .ireturn, 1, [1], 0, [])]
def kM_size : List am_E := [(0, .iconst 0, 1, [], 0, []),
  (1, .istore_n 2, 1, [], 0, []),
  (2, .iconst 0, 1, [], 0, []),
  (3, .istore_n 3, 1, [], 0, []),
  (4, .iload_n 3, 1, [], 0, []),
  (5, .aload_n 0, 1, [], 0, []),
  (6, .getfield 95, 3, [10, 15, 1080], 0, []),
  (9, .if_icmp .ge 26, 3, [21], 0, []),
  (12, .iload_n 2, 1, [], 0, []),
  (13, .aload_n 0, 1, [], 0, []),
  (14, .iload_n 1, 1, [], 0, []),
  (15, .iload_n 3, 1, [], 0, []),
  (16, .invokevirtual 204, 3, [180, 3, 1, 11, 1287], 0, []),
  (19, .ifCond .eq 7, 3, [16], 0, []),
  (22, .iconst 1, 1, [], 1, []),
  (23, .goto 4, 3, [17], 0, []),
  (26, .iconst 0, 1, [], 0, []),
  (27, .iadd, 1, [], 0, []),
  (28, .istore_n 2, 1, [], 0, []),
  (29, .iinc 3 1, 3, [], 1, []),
  (32, .goto (-28), 3, [4], 0, []),
  (35, .iload_n 2, 1, [], 0, []),
  (36, .ireturn, 1, [], 0, [])]
def kM_isAbove : List am_E := [(0, .iload_n 2, 1, [], 0, []),
  (1, .istore_n 3, 1, [], 0, []),
  (2, .iload_n 3, 1, [], 0, []),
  (3, .iload_n 1, 1, [], 0, []),
  (4, .if_icmp .eq 20, 3, [14], 0, []),
  (7, .aload_n 0, 1, [], 0, []),
  (8, .iload_n 3, 1, [], 0, []),
  (9, .invokevirtual 183, 3, [150, 2, 1, 11, 1168], 0, []),
  (12, .ifCond .lt 12, 3, [14], 0, []),
  (15, .aload_n 0, 1, [], 0, []),
  (16, .iload_n 3, 1, [], 0, []),
  (17, .invokevirtual 183, 3, [150, 2, 1, 11, 1168], 0, []),
  (20, .istore_n 3, 1, [], 0, []),
  (21, .goto (-19), 3, [2], 0, []),
  (24, .iload_n 3, 1, [], 0, []),
  (25, .iload_n 1, 1, [], 0, []),
  (26, .if_icmp .ne 7, 3, [19], 0, []),
  (29, .iconst 1, 1, [], 1, []),
  (30, .goto 4, 3, [20], 0, []),
  (33, .iconst 0, 1, [], 0, []),
  (34, .ireturn, 1, [1], 0, [])]
def kM_link : List am_E := [(0, .aload_n 0, 1, [], 0, []),
  (1, .iconst 0, 1, [], 0, []),
  (2, .putfield 38, 3, [10, 2, 1067], 0, []),
  (5, .aload_n 0, 1, [], 0, []),
  (6, .iload_n 1, 1, [], 0, []),
  (7, .iload_n 2, 1, [], 0, []),
  (8, .invokevirtual 207, 3, [149, 3, 1, 11, 1319], 0, []),
  (11, .ifCond .eq 18, 3, [14], 0, []),
  (14, .iload_n 3, 1, [], 0, []),
  (15, .invokestatic 210, 3, [178, 1, 1, 0, 1323], 0, []),
  (18, .ifCond .eq 11, 3, [14], 0, []),
  (21, .iload 4, 2, [], 0, []),
  (23, .invokestatic 210, 3, [178, 1, 1, 0, 1323], 0, []),
  (26, .ifCond .ne 5, 3, [16], 0, []),
  (29, .iconst (-1), 1, [], (-1), []),
  (30, .ireturn, 1, [], 0, []),
  (31, .aload_n 0, 1, [], 0, []),
  (32, .iload_n 1, 1, [], 0, []),
  (33, .iload_n 2, 1, [], 0, []),
  (34, .invokevirtual 213, 3, [167, 3, 1, 11, 1275], 0, []),
  (37, .ifCond .eq 6, 3, [23], 0, []),
  (40, .bipush (-2), 2, [], (-2), []),
  (42, .ireturn, 1, [], 0, []),
  (43, .aload_n 0, 1, [], 0, []),
  (44, .invokevirtual 201, 3, [144, 1, 0, 11, 1307], 0, []),
  (47, .aload_n 0, 1, [], 0, []),
  (48, .iload_n 1, 1, [], 0, []),
  (49, .iload_n 2, 1, [], 0, []),
  (50, .iload_n 3, 1, [], 0, []),
  (51, .iload 4, 2, [], 0, []),
  (53, .invokevirtual 158, 3, [171, 5, 0, 11, 1247], 0, []),
  (56, .aload_n 0, 1, [], 0, []),
  (57, .aload_n 0, 1, [], 0, []),
  (58, .iload_n 1, 1, [], 0, []),
  (59, .invokevirtual 152, 3, [166, 2, 1, 11, 1239], 0, []),
  (62, .invokevirtual 216, 3, [179, 2, 1, 11, 1283], 0, []),
  (65, .ireturn, 1, [], 0, [])]
def kM_cut : List am_E := [(0, .aload_n 0, 1, [], 0, []),
  (1, .iconst 0, 1, [], 0, []),
  (2, .putfield 38, 3, [10, 2, 1067], 0, []),
  (5, .aload_n 0, 1, [], 0, []),
  (6, .iload_n 1, 1, [], 0, []),
  (7, .iload_n 2, 1, [], 0, []),
  (8, .invokevirtual 207, 3, [149, 3, 1, 11, 1319], 0, []),
  (11, .ifCond .ne 5, 3, [10], 0, []),
  (14, .iconst (-1), 1, [], (-1), []),
  (15, .ireturn, 1, [], 0, []),
  (16, .aload_n 0, 1, [], 0, []),
  (17, .iload_n 1, 1, [], 0, []),
  (18, .invokevirtual 183, 3, [150, 2, 1, 11, 1168], 0, []),
  (21, .iload_n 2, 1, [], 0, []),
  (22, .if_icmp .eq 15, 3, [22], 0, []),
  (25, .aload_n 0, 1, [], 0, []),
  (26, .iload_n 2, 1, [], 0, []),
  (27, .invokevirtual 183, 3, [150, 2, 1, 11, 1168], 0, []),
  (30, .iload_n 1, 1, [], 0, []),
  (31, .if_icmp .eq 6, 3, [22], 0, []),
  (34, .bipush (-2), 2, [], (-2), []),
  (36, .ireturn, 1, [], 0, []),
  (37, .aload_n 0, 1, [], 0, []),
  (38, .invokevirtual 201, 3, [144, 1, 0, 11, 1307], 0, []),
  (41, .aload_n 0, 1, [], 0, []),
  (42, .bipush 48, 2, [], 48, []),
  (44, .aload_n 0, 1, [], 0, []),
  (45, .iload_n 1, 1, [], 0, []),
  (46, .invokevirtual 183, 3, [150, 2, 1, 11, 1168], 0, []),
  (49, .iload_n 2, 1, [], 0, []),
  (50, .if_icmp .ne 7, 3, [33], 0, []),
  (53, .iload_n 1, 1, [], 0, []),
  (54, .goto 4, 3, [34], 0, []),
  (57, .iload_n 2, 1, [], 0, []),
  (58, .iadd, 1, [], 0, []),
  (59, .invokevirtual 105, 3, [141, 2, 1, 11, 1172], 0, []),
  (62, .istore_n 3, 1, [], 0, []),
  (63, .aload_n 0, 1, [], 0, []),
  (64, .iload_n 1, 1, [], 0, []),
  (65, .iload_n 2, 1, [], 0, []),
  (66, .invokevirtual 198, 3, [173, 3, 0, 11, 1330], 0, []),
  (69, .iload_n 3, 1, [], 0, []),
  (70, .ireturn, 1, [], 0, [])]
def kM_walk : List am_E := [(0, .aload_n 0, 1, [], 0, []),
  (1, .iconst 0, 1, [], 0, []),
  (2, .putfield 38, 3, [10, 2, 1067], 0, []),
  (5, .aload_n 0, 1, [], 0, []),
  (6, .iload_n 1, 1, [], 0, []),
  (7, .iload_n 2, 1, [], 0, []),
  (8, .invokevirtual 207, 3, [149, 3, 1, 11, 1319], 0, []),
  (11, .ifCond .ne 5, 3, [10], 0, []),
  (14, .iconst (-1), 1, [], (-1), []),
  (15, .ireturn, 1, [], 0, []),
  (16, .aload_n 0, 1, [], 0, []),
  (17, .iload_n 1, 1, [], 0, []),
  (18, .iload_n 2, 1, [], 0, []),
  (19, .invokevirtual 213, 3, [167, 3, 1, 11, 1275], 0, []),
  (22, .ifCond .ne 6, 3, [17], 0, []),
  (25, .bipush (-2), 2, [], (-2), []),
  (27, .ireturn, 1, [], 0, []),
  (28, .aload_n 0, 1, [], 0, []),
  (29, .invokevirtual 201, 3, [144, 1, 0, 11, 1307], 0, []),
  (32, .iconst 0, 1, [], 0, []),
  (33, .istore_n 3, 1, [], 0, []),
  (34, .iload_n 3, 1, [], 0, []),
  (35, .bipush 9, 2, [], 9, []),
  (37, .if_icmp .ge 36, 3, [41], 0, []),
  (40, .aload_n 0, 1, [], 0, []),
  (41, .getfield 29, 3, [10, 23, 1088], 0, []),
  (44, .iload_n 3, 1, [], 0, []),
  (45, .iload_n 3, 1, [], 0, []),
  (46, .iconst 1, 1, [], 1, []),
  (47, .iconst 4, 1, [], 4, []),
  (48, .invokestatic 98, 3, [134, 3, 1, 0, 1224], 0, []),
  (51, .ifCond .ne 9, 3, [35], 0, []),
  (54, .iload_n 3, 1, [], 0, []),
  (55, .bipush 8, 2, [], 8, []),
  (57, .if_icmp .ne 8, 3, [37], 0, []),
  (60, .bipush (-2), 2, [], (-2), []),
  (62, .goto 4, 3, [38], 0, []),
  (65, .iconst 0, 1, [], 0, []),
  (66, .iastore, 1, [], 0, []),
  (67, .iinc 3 1, 3, [], 1, []),
  (70, .goto (-36), 3, [21], 0, []),
  (73, .aload_n 0, 1, [], 0, []),
  (74, .getfield 29, 3, [10, 23, 1088], 0, []),
  (77, .bipush 7, 2, [], 7, []),
  (79, .aload_n 0, 1, [], 0, []),
  (80, .iload_n 1, 1, [], 0, []),
  (81, .iload_n 2, 1, [], 0, []),
  (82, .invokevirtual 192, 3, [172, 3, 1, 11, 1334], 0, []),
  (85, .iastore, 1, [], 0, []),
  (86, .aload_n 0, 1, [], 0, []),
  (87, .iload_n 2, 1, [], 0, []),
  (88, .invokevirtual 195, 3, [174, 2, 1, 11, 1342], 0, []),
  (91, .istore_n 3, 1, [], 0, []),
  (92, .iload_n 3, 1, [], 0, []),
  (93, .ifCond .lt 35, 3, [76], 0, []),
  (96, .aload_n 0, 1, [], 0, []),
  (97, .getfield 29, 3, [10, 23, 1088], 0, []),
  (100, .iconst 1, 1, [], 1, []),
  (101, .aload_n 0, 1, [], 0, []),
  (102, .bipush 48, 2, [], 48, []),
  (104, .iload_n 3, 1, [], 0, []),
  (105, .iadd, 1, [], 0, []),
  (106, .invokevirtual 105, 3, [141, 2, 1, 11, 1172], 0, []),
  (109, .iastore, 1, [], 0, []),
  (110, .aload_n 0, 1, [], 0, []),
  (111, .getfield 29, 3, [10, 23, 1088], 0, []),
  (114, .iconst 2, 1, [], 2, []),
  (115, .aload_n 0, 1, [], 0, []),
  (116, .iload_n 3, 1, [], 0, []),
  (117, .invokevirtual 183, 3, [150, 2, 1, 11, 1168], 0, []),
  (120, .iastore, 1, [], 0, []),
  (121, .aload_n 0, 1, [], 0, []),
  (122, .getfield 29, 3, [10, 23, 1088], 0, []),
  (125, .iconst 3, 1, [], 3, []),
  (126, .iload_n 3, 1, [], 0, []),
  (127, .iastore, 1, [], 0, []),
  (128, .iload_n 2, 1, [], 0, []),
  (129, .istore 4, 2, [], 0, []),
  (131, .iload 4, 2, [], 0, []),
  (133, .ifCond .lt 179, 3, [180], 0, []),
  (136, .aload_n 0, 1, [], 0, []),
  (137, .getfield 29, 3, [10, 23, 1088], 0, []),
  (140, .iconst 5, 1, [], 5, []),
  (141, .dup2, 1, [], 0, []),
  (142, .iaload, 1, [], 0, []),
  (143, .aload_n 0, 1, [], 0, []),
  (144, .bipush 96, 2, [], 96, []),
  (146, .iload 4, 2, [], 0, []),
  (148, .iadd, 1, [], 0, []),
  (149, .invokevirtual 105, 3, [141, 2, 1, 11, 1172], 0, []),
  (152, .iadd, 1, [], 0, []),
  (153, .iastore, 1, [], 0, []),
  (154, .aload_n 0, 1, [], 0, []),
  (155, .getfield 29, 3, [10, 23, 1088], 0, []),
  (158, .bipush 6, 2, [], 6, []),
  (160, .dup2, 1, [], 0, []),
  (161, .iaload, 1, [], 0, []),
  (162, .iconst 1, 1, [], 1, []),
  (163, .iadd, 1, [], 0, []),
  (164, .iastore, 1, [], 0, []),
  (165, .aload_n 0, 1, [], 0, []),
  (166, .iload 4, 2, [], 0, []),
  (168, .invokevirtual 183, 3, [150, 2, 1, 11, 1168], 0, []),
  (171, .ifCond .ge 6, 3, [105], 0, []),
  (174, .goto 127, 3, [175], 0, []),
  (177, .aload_n 0, 1, [], 0, []),
  (178, .getfield 29, 3, [10, 23, 1088], 0, []),
  (181, .iconst 0, 1, [], 0, []),
  (182, .dup2, 1, [], 0, []),
  (183, .iaload, 1, [], 0, []),
  (184, .aload_n 0, 1, [], 0, []),
  (185, .bipush 48, 2, [], 48, []),
  (187, .iload 4, 2, [], 0, []),
  (189, .iadd, 1, [], 0, []),
  (190, .invokevirtual 105, 3, [141, 2, 1, 11, 1172], 0, []),
  (193, .iadd, 1, [], 0, []),
  (194, .iastore, 1, [], 0, []),
  (195, .aload_n 0, 1, [], 0, []),
  (196, .getfield 29, 3, [10, 23, 1088], 0, []),
  (199, .iconst 4, 1, [], 4, []),
  (200, .aload_n 0, 1, [], 0, []),
  (201, .getfield 29, 3, [10, 23, 1088], 0, []),
  (204, .iconst 4, 1, [], 4, []),
  (205, .iaload, 1, [], 0, []),
  (206, .ifCond .lt 21, 3, [135], 0, []),
  (209, .aload_n 0, 1, [], 0, []),
  (210, .bipush 72, 2, [], 72, []),
  (212, .iload 4, 2, [], 0, []),
  (214, .iadd, 1, [], 0, []),
  (215, .invokevirtual 105, 3, [141, 2, 1, 11, 1172], 0, []),
  (218, .aload_n 0, 1, [], 0, []),
  (219, .getfield 29, 3, [10, 23, 1088], 0, []),
  (222, .iconst 4, 1, [], 4, []),
  (223, .iaload, 1, [], 0, []),
  (224, .if_icmp .ge 15, 3, [141], 0, []),
  (227, .aload_n 0, 1, [], 0, []),
  (228, .bipush 72, 2, [], 72, []),
  (230, .iload 4, 2, [], 0, []),
  (232, .iadd, 1, [], 0, []),
  (233, .invokevirtual 105, 3, [141, 2, 1, 11, 1172], 0, []),
  (236, .goto 9, 3, [145], 0, []),
  (239, .aload_n 0, 1, [], 0, []),
  (240, .getfield 29, 3, [10, 23, 1088], 0, []),
  (243, .iconst 4, 1, [], 4, []),
  (244, .iaload, 1, [], 0, []),
  (245, .iastore, 1, [], 0, []),
  (246, .aload_n 0, 1, [], 0, []),
  (247, .getfield 29, 3, [10, 23, 1088], 0, []),
  (250, .bipush 8, 2, [], 8, []),
  (252, .aload_n 0, 1, [], 0, []),
  (253, .getfield 29, 3, [10, 23, 1088], 0, []),
  (256, .bipush 8, 2, [], 8, []),
  (258, .iaload, 1, [], 0, []),
  (259, .ifCond .lt 22, 3, [164], 0, []),
  (262, .aload_n 0, 1, [], 0, []),
  (263, .bipush 48, 2, [], 48, []),
  (265, .iload 4, 2, [], 0, []),
  (267, .iadd, 1, [], 0, []),
  (268, .invokevirtual 105, 3, [141, 2, 1, 11, 1172], 0, []),
  (271, .aload_n 0, 1, [], 0, []),
  (272, .getfield 29, 3, [10, 23, 1088], 0, []),
  (275, .bipush 8, 2, [], 8, []),
  (277, .iaload, 1, [], 0, []),
  (278, .if_icmp .ge 15, 3, [170], 0, []),
  (281, .aload_n 0, 1, [], 0, []),
  (282, .bipush 48, 2, [], 48, []),
  (284, .iload 4, 2, [], 0, []),
  (286, .iadd, 1, [], 0, []),
  (287, .invokevirtual 105, 3, [141, 2, 1, 11, 1172], 0, []),
  (290, .goto 10, 3, [174], 0, []),
  (293, .aload_n 0, 1, [], 0, []),
  (294, .getfield 29, 3, [10, 23, 1088], 0, []),
  (297, .bipush 8, 2, [], 8, []),
  (299, .iaload, 1, [], 0, []),
  (300, .iastore, 1, [], 0, []),
  (301, .aload_n 0, 1, [], 0, []),
  (302, .iload 4, 2, [], 0, []),
  (304, .invokevirtual 183, 3, [150, 2, 1, 11, 1168], 0, []),
  (307, .istore 4, 2, [], 0, []),
  (309, .goto (-178), 3, [78], 0, []),
  (312, .aload_n 0, 1, [], 0, []),
  (313, .iconst 1, 1, [], 1, []),
  (314, .putfield 124, 3, [10, 24, 1089], 0, []),
  (317, .aload_n 0, 1, [], 0, []),
  (318, .getfield 29, 3, [10, 23, 1088], 0, []),
  (321, .iconst 0, 1, [], 0, []),
  (322, .iaload, 1, [], 0, []),
  (323, .ireturn, 1, [], 0, [])]
def kM_seen : List am_E := [(0, .aload_n 0, 1, [], 0, []),
  (1, .iconst 0, 1, [], 0, []),
  (2, .putfield 38, 3, [10, 2, 1067], 0, []),
  (5, .iload_n 1, 1, [], 0, []),
  (6, .iconst 0, 1, [], 0, []),
  (7, .bipush 8, 2, [], 8, []),
  (9, .invokestatic 98, 3, [134, 3, 1, 0, 1224], 0, []),
  (12, .ifCond .ne 7, 3, [10], 0, []),
  (15, .iconst (-1), 1, [], (-1), []),
  (16, .goto 21, 3, [19], 0, []),
  (19, .aload_n 0, 1, [], 0, []),
  (20, .getfield 124, 3, [10, 24, 1089], 0, []),
  (23, .ifCond .eq 12, 3, [18], 0, []),
  (26, .aload_n 0, 1, [], 0, []),
  (27, .getfield 29, 3, [10, 23, 1088], 0, []),
  (30, .iload_n 1, 1, [], 0, []),
  (31, .iaload, 1, [], 0, []),
  (32, .goto 5, 3, [19], 0, []),
  (35, .bipush (-3), 2, [], (-3), []),
  (37, .ireturn, 1, [], 0, [])]
def kM_depth : List am_E := [(0, .iconst 0, 1, [], 0, []),
  (1, .istore_n 2, 1, [], 0, []),
  (2, .iload_n 1, 1, [], 0, []),
  (3, .istore_n 3, 1, [], 0, []),
  (4, .aload_n 0, 1, [], 0, []),
  (5, .iload_n 3, 1, [], 0, []),
  (6, .invokevirtual 183, 3, [150, 2, 1, 11, 1168], 0, []),
  (9, .ifCond .lt 15, 3, [14], 0, []),
  (12, .iinc 2 1, 3, [], 1, []),
  (15, .aload_n 0, 1, [], 0, []),
  (16, .iload_n 3, 1, [], 0, []),
  (17, .invokevirtual 183, 3, [150, 2, 1, 11, 1168], 0, []),
  (20, .istore_n 3, 1, [], 0, []),
  (21, .goto (-17), 3, [4], 0, []),
  (24, .iload_n 2, 1, [], 0, []),
  (25, .ireturn, 1, [], 0, [])]
def kM_meetOf : List am_E := [(0, .iload_n 1, 1, [], 0, []),
  (1, .istore_n 3, 1, [], 0, []),
  (2, .aload_n 0, 1, [], 0, []),
  (3, .iload_n 3, 1, [], 0, []),
  (4, .iload_n 2, 1, [], 0, []),
  (5, .invokevirtual 204, 3, [180, 3, 1, 11, 1287], 0, []),
  (8, .ifCond .ne 12, 3, [12], 0, []),
  (11, .aload_n 0, 1, [], 0, []),
  (12, .iload_n 3, 1, [], 0, []),
  (13, .invokevirtual 183, 3, [150, 2, 1, 11, 1168], 0, []),
  (16, .istore_n 3, 1, [], 0, []),
  (17, .goto (-15), 3, [2], 0, []),
  (20, .iload_n 3, 1, [], 0, []),
  (21, .ireturn, 1, [], 0, [])]
def kM_meet : List am_E := [(0, .aload_n 0, 1, [], 0, []),
  (1, .iconst 0, 1, [], 0, []),
  (2, .putfield 38, 3, [10, 2, 1067], 0, []),
  (5, .aload_n 0, 1, [], 0, []),
  (6, .iload_n 1, 1, [], 0, []),
  (7, .iload_n 2, 1, [], 0, []),
  (8, .invokevirtual 207, 3, [149, 3, 1, 11, 1319], 0, []),
  (11, .ifCond .ne 5, 3, [10], 0, []),
  (14, .iconst (-1), 1, [], (-1), []),
  (15, .ireturn, 1, [], 0, []),
  (16, .aload_n 0, 1, [], 0, []),
  (17, .iload_n 1, 1, [], 0, []),
  (18, .iload_n 2, 1, [], 0, []),
  (19, .invokevirtual 213, 3, [167, 3, 1, 11, 1275], 0, []),
  (22, .ifCond .ne 6, 3, [17], 0, []),
  (25, .bipush (-2), 2, [], (-2), []),
  (27, .ireturn, 1, [], 0, []),
  (28, .aload_n 0, 1, [], 0, []),
  (29, .invokevirtual 201, 3, [144, 1, 0, 11, 1307], 0, []),
  (32, .aload_n 0, 1, [], 0, []),
  (33, .iload_n 1, 1, [], 0, []),
  (34, .invokevirtual 165, 3, [169, 2, 1, 11, 1255], 0, []),
  (37, .pop, 1, [], 0, []),
  (38, .aload_n 0, 1, [], 0, []),
  (39, .iload_n 2, 1, [], 0, []),
  (40, .invokevirtual 165, 3, [169, 2, 1, 11, 1255], 0, []),
  (43, .pop, 1, [], 0, []),
  (44, .aload_n 0, 1, [], 0, []),
  (45, .iload_n 1, 1, [], 0, []),
  (46, .iload_n 2, 1, [], 0, []),
  (47, .invokevirtual 219, 3, [186, 3, 1, 11, 1354], 0, []),
  (50, .ireturn, 1, [], 0, [])]
def kM_raise : List am_E := [(0, .aload_n 0, 1, [], 0, []),
  (1, .iconst 0, 1, [], 0, []),
  (2, .putfield 38, 3, [10, 2, 1067], 0, []),
  (5, .aload_n 0, 1, [], 0, []),
  (6, .iload_n 1, 1, [], 0, []),
  (7, .iload_n 2, 1, [], 0, []),
  (8, .invokevirtual 207, 3, [149, 3, 1, 11, 1319], 0, []),
  (11, .ifCond .eq 16, 3, [13], 0, []),
  (14, .iload_n 3, 1, [], 0, []),
  (15, .sipush (-9999), 3, [], (-9999), []),
  (18, .sipush 9999, 3, [], 9999, []),
  (21, .invokestatic 98, 3, [134, 3, 1, 0, 1224], 0, []),
  (24, .ifCond .ne 5, 3, [15], 0, []),
  (27, .iconst (-1), 1, [], (-1), []),
  (28, .ireturn, 1, [], 0, []),
  (29, .aload_n 0, 1, [], 0, []),
  (30, .iload_n 1, 1, [], 0, []),
  (31, .iload_n 2, 1, [], 0, []),
  (32, .invokevirtual 213, 3, [167, 3, 1, 11, 1275], 0, []),
  (35, .ifCond .ne 6, 3, [22], 0, []),
  (38, .bipush (-2), 2, [], (-2), []),
  (40, .ireturn, 1, [], 0, []),
  (41, .aload_n 0, 1, [], 0, []),
  (42, .iconst 0, 1, [], 0, []),
  (43, .iconst 1, 1, [], 1, []),
  (44, .invokevirtual 83, 3, [143, 3, 0, 11, 1057], 0, []),
  (47, .aload_n 0, 1, [], 0, []),
  (48, .iconst 1, 1, [], 1, []),
  (49, .putfield 77, 3, [10, 12, 1077], 0, []),
  (52, .aload_n 0, 1, [], 0, []),
  (53, .iload_n 1, 1, [], 0, []),
  (54, .iload_n 2, 1, [], 0, []),
  (55, .invokevirtual 192, 3, [172, 3, 1, 11, 1334], 0, []),
  (58, .pop, 1, [], 0, []),
  (59, .iconst 0, 1, [], 0, []),
  (60, .istore 4, 2, [], 0, []),
  (62, .iconst 1, 1, [], 1, []),
  (63, .istore 5, 2, [], 0, []),
  (65, .iload_n 2, 1, [], 0, []),
  (66, .istore 6, 2, [], 0, []),
  (68, .aload_n 0, 1, [], 0, []),
  (69, .iload 6, 2, [], 0, []),
  (71, .invokevirtual 183, 3, [150, 2, 1, 11, 1168], 0, []),
  (74, .ifCond .lt 66, 3, [77], 0, []),
  (77, .iload 5, 2, [], 0, []),
  (79, .ifCond .eq 24, 3, [57], 0, []),
  (82, .aload_n 0, 1, [], 0, []),
  (83, .bipush 48, 2, [], 48, []),
  (85, .iload 6, 2, [], 0, []),
  (87, .iadd, 1, [], 0, []),
  (88, .invokevirtual 105, 3, [141, 2, 1, 11, 1172], 0, []),
  (91, .iload_n 3, 1, [], 0, []),
  (92, .iadd, 1, [], 0, []),
  (93, .invokestatic 210, 3, [178, 1, 1, 0, 1323], 0, []),
  (96, .ifCond .eq 7, 3, [57], 0, []),
  (99, .iconst 1, 1, [], 1, []),
  (100, .goto 4, 3, [58], 0, []),
  (103, .iconst 0, 1, [], 0, []),
  (104, .istore 5, 2, [], 0, []),
  (106, .aload_n 0, 1, [], 0, []),
  (107, .bipush 48, 2, [], 48, []),
  (109, .iload 6, 2, [], 0, []),
  (111, .iadd, 1, [], 0, []),
  (112, .aload_n 0, 1, [], 0, []),
  (113, .bipush 48, 2, [], 48, []),
  (115, .iload 6, 2, [], 0, []),
  (117, .iadd, 1, [], 0, []),
  (118, .invokevirtual 105, 3, [141, 2, 1, 11, 1172], 0, []),
  (121, .iload_n 3, 1, [], 0, []),
  (122, .iadd, 1, [], 0, []),
  (123, .invokevirtual 109, 3, [142, 3, 0, 11, 1061], 0, []),
  (126, .iinc 4 1, 3, [], 1, []),
  (129, .aload_n 0, 1, [], 0, []),
  (130, .iload 6, 2, [], 0, []),
  (132, .invokevirtual 183, 3, [150, 2, 1, 11, 1168], 0, []),
  (135, .istore 6, 2, [], 0, []),
  (137, .goto (-69), 3, [40], 0, []),
  (140, .aload_n 0, 1, [], 0, []),
  (141, .iconst 0, 1, [], 0, []),
  (142, .putfield 77, 3, [10, 12, 1077], 0, []),
  (145, .iload 5, 2, [], 0, []),
  (147, .ifCond .ne 6, 3, [84], 0, []),
  (150, .bipush (-3), 2, [], (-3), []),
  (152, .ireturn, 1, [], 0, []),
  (153, .aload_n 0, 1, [], 0, []),
  (154, .invokevirtual 201, 3, [144, 1, 0, 11, 1307], 0, []),
  (157, .aload_n 0, 1, [], 0, []),
  (158, .iconst 1, 1, [], 1, []),
  (159, .iconst 0, 1, [], 0, []),
  (160, .invokevirtual 83, 3, [143, 3, 0, 11, 1057], 0, []),
  (163, .iload 4, 2, [], 0, []),
  (165, .ireturn, 1, [], 0, [])]
def kM_send : List am_E := [(0, .aload_n 0, 1, [], 0, []),
  (1, .iconst 0, 1, [], 0, []),
  (2, .putfield 38, 3, [10, 2, 1067], 0, []),
  (5, .aload_n 0, 1, [], 0, []),
  (6, .iload_n 1, 1, [], 0, []),
  (7, .iload_n 2, 1, [], 0, []),
  (8, .invokevirtual 207, 3, [149, 3, 1, 11, 1319], 0, []),
  (11, .ifCond .eq 16, 3, [13], 0, []),
  (14, .iload_n 3, 1, [], 0, []),
  (15, .sipush (-9999), 3, [], (-9999), []),
  (18, .sipush 9999, 3, [], 9999, []),
  (21, .invokestatic 98, 3, [134, 3, 1, 0, 1224], 0, []),
  (24, .ifCond .ne 5, 3, [15], 0, []),
  (27, .iconst (-1), 1, [], (-1), []),
  (28, .ireturn, 1, [], 0, []),
  (29, .aload_n 0, 1, [], 0, []),
  (30, .iload_n 1, 1, [], 0, []),
  (31, .iload_n 2, 1, [], 0, []),
  (32, .invokevirtual 213, 3, [167, 3, 1, 11, 1275], 0, []),
  (35, .ifCond .ne 6, 3, [22], 0, []),
  (38, .bipush (-2), 2, [], (-2), []),
  (40, .ireturn, 1, [], 0, []),
  (41, .aload_n 0, 1, [], 0, []),
  (42, .iconst 0, 1, [], 0, []),
  (43, .iconst 1, 1, [], 1, []),
  (44, .invokevirtual 83, 3, [143, 3, 0, 11, 1057], 0, []),
  (47, .aload_n 0, 1, [], 0, []),
  (48, .iconst 1, 1, [], 1, []),
  (49, .putfield 77, 3, [10, 12, 1077], 0, []),
  (52, .aload_n 0, 1, [], 0, []),
  (53, .iload_n 1, 1, [], 0, []),
  (54, .iload_n 2, 1, [], 0, []),
  (55, .invokevirtual 192, 3, [172, 3, 1, 11, 1334], 0, []),
  (58, .pop, 1, [], 0, []),
  (59, .iconst 0, 1, [], 0, []),
  (60, .istore 4, 2, [], 0, []),
  (62, .iconst 1, 1, [], 1, []),
  (63, .istore 5, 2, [], 0, []),
  (65, .iload_n 2, 1, [], 0, []),
  (66, .istore 6, 2, [], 0, []),
  (68, .aload_n 0, 1, [], 0, []),
  (69, .iload 6, 2, [], 0, []),
  (71, .invokevirtual 183, 3, [150, 2, 1, 11, 1168], 0, []),
  (74, .ifCond .lt 70, 3, [79], 0, []),
  (77, .iload 5, 2, [], 0, []),
  (79, .ifCond .eq 28, 3, [59], 0, []),
  (82, .aload_n 0, 1, [], 0, []),
  (83, .bipush 72, 2, [], 72, []),
  (85, .iload 6, 2, [], 0, []),
  (87, .iadd, 1, [], 0, []),
  (88, .invokevirtual 105, 3, [141, 2, 1, 11, 1172], 0, []),
  (91, .iload_n 3, 1, [], 0, []),
  (92, .isub, 1, [], 0, []),
  (93, .iconst 0, 1, [], 0, []),
  (94, .sipush 9999, 3, [], 9999, []),
  (97, .invokestatic 98, 3, [134, 3, 1, 0, 1224], 0, []),
  (100, .ifCond .eq 7, 3, [59], 0, []),
  (103, .iconst 1, 1, [], 1, []),
  (104, .goto 4, 3, [60], 0, []),
  (107, .iconst 0, 1, [], 0, []),
  (108, .istore 5, 2, [], 0, []),
  (110, .aload_n 0, 1, [], 0, []),
  (111, .bipush 72, 2, [], 72, []),
  (113, .iload 6, 2, [], 0, []),
  (115, .iadd, 1, [], 0, []),
  (116, .aload_n 0, 1, [], 0, []),
  (117, .bipush 72, 2, [], 72, []),
  (119, .iload 6, 2, [], 0, []),
  (121, .iadd, 1, [], 0, []),
  (122, .invokevirtual 105, 3, [141, 2, 1, 11, 1172], 0, []),
  (125, .iload_n 3, 1, [], 0, []),
  (126, .isub, 1, [], 0, []),
  (127, .invokevirtual 109, 3, [142, 3, 0, 11, 1061], 0, []),
  (130, .iinc 4 1, 3, [], 1, []),
  (133, .aload_n 0, 1, [], 0, []),
  (134, .iload 6, 2, [], 0, []),
  (136, .invokevirtual 183, 3, [150, 2, 1, 11, 1168], 0, []),
  (139, .istore 6, 2, [], 0, []),
  (141, .goto (-73), 3, [40], 0, []),
  (144, .aload_n 0, 1, [], 0, []),
  (145, .iconst 0, 1, [], 0, []),
  (146, .putfield 77, 3, [10, 12, 1077], 0, []),
  (149, .iload 5, 2, [], 0, []),
  (151, .ifCond .ne 6, 3, [86], 0, []),
  (154, .bipush (-3), 2, [], (-3), []),
  (156, .ireturn, 1, [], 0, []),
  (157, .aload_n 0, 1, [], 0, []),
  (158, .invokevirtual 201, 3, [144, 1, 0, 11, 1307], 0, []),
  (161, .aload_n 0, 1, [], 0, []),
  (162, .iconst 1, 1, [], 1, []),
  (163, .iconst 0, 1, [], 0, []),
  (164, .invokevirtual 83, 3, [143, 3, 0, 11, 1057], 0, []),
  (167, .iload 4, 2, [], 0, []),
  (169, .ireturn, 1, [], 0, [])]
def kM_settles : List am_E := [(0, .iconst 0, 1, [], 0, []),
  (1, .istore_n 2, 1, [], 0, []),
  (2, .iconst 0, 1, [], 0, []),
  (3, .istore_n 3, 1, [], 0, []),
  (4, .iload_n 3, 1, [], 0, []),
  (5, .aload_n 0, 1, [], 0, []),
  (6, .getfield 95, 3, [10, 15, 1080], 0, []),
  (9, .if_icmp .ge 50, 3, [32], 0, []),
  (12, .aload_n 0, 1, [], 0, []),
  (13, .iload_n 3, 1, [], 0, []),
  (14, .iload_n 1, 1, [], 0, []),
  (15, .invokevirtual 213, 3, [167, 3, 1, 11, 1275], 0, []),
  (18, .ifCond .eq 35, 3, [30], 0, []),
  (21, .aload_n 0, 1, [], 0, []),
  (22, .iload_n 3, 1, [], 0, []),
  (23, .invokevirtual 186, 3, [151, 2, 1, 11, 1263], 0, []),
  (26, .aload_n 0, 1, [], 0, []),
  (27, .iload_n 3, 1, [], 0, []),
  (28, .invokevirtual 222, 3, [218, 2, 1, 11, 1279], 0, []),
  (31, .if_icmp .ne 6, 3, [21], 0, []),
  (34, .goto 19, 3, [30], 0, []),
  (37, .aload_n 0, 1, [], 0, []),
  (38, .bipush 24, 2, [], 24, []),
  (40, .iload_n 3, 1, [], 0, []),
  (41, .iadd, 1, [], 0, []),
  (42, .aload_n 0, 1, [], 0, []),
  (43, .iload_n 3, 1, [], 0, []),
  (44, .invokevirtual 222, 3, [218, 2, 1, 11, 1279], 0, []),
  (47, .invokevirtual 109, 3, [142, 3, 0, 11, 1061], 0, []),
  (50, .iinc 2 1, 3, [], 1, []),
  (53, .iinc 3 1, 3, [], 1, []),
  (56, .goto (-52), 3, [4], 0, []),
  (59, .iload_n 2, 1, [], 0, []),
  (60, .ireturn, 1, [], 0, [])]
def kM_settle : List am_E := [(0, .aload_n 0, 1, [], 0, []),
  (1, .iconst 0, 1, [], 0, []),
  (2, .putfield 38, 3, [10, 2, 1067], 0, []),
  (5, .aload_n 0, 1, [], 0, []),
  (6, .iload_n 1, 1, [], 0, []),
  (7, .invokevirtual 102, 3, [148, 2, 1, 11, 1303], 0, []),
  (10, .ifCond .ne 5, 3, [9], 0, []),
  (13, .iconst (-1), 1, [], (-1), []),
  (14, .ireturn, 1, [], 0, []),
  (15, .aload_n 0, 1, [], 0, []),
  (16, .invokevirtual 201, 3, [144, 1, 0, 11, 1307], 0, []),
  (19, .aload_n 0, 1, [], 0, []),
  (20, .iload_n 1, 1, [], 0, []),
  (21, .invokevirtual 168, 3, [190, 2, 1, 11, 1271], 0, []),
  (24, .ireturn, 1, [], 0, [])]
def kM_cutDearest : List am_E := [(0, .aload_n 0, 1, [], 0, []),
  (1, .iconst 0, 1, [], 0, []),
  (2, .putfield 38, 3, [10, 2, 1067], 0, []),
  (5, .aload_n 0, 1, [], 0, []),
  (6, .iload_n 1, 1, [], 0, []),
  (7, .iload_n 2, 1, [], 0, []),
  (8, .invokevirtual 207, 3, [149, 3, 1, 11, 1319], 0, []),
  (11, .ifCond .ne 5, 3, [10], 0, []),
  (14, .iconst (-1), 1, [], (-1), []),
  (15, .ireturn, 1, [], 0, []),
  (16, .iload_n 1, 1, [], 0, []),
  (17, .iload_n 2, 1, [], 0, []),
  (18, .if_icmp .eq 12, 3, [18], 0, []),
  (21, .aload_n 0, 1, [], 0, []),
  (22, .iload_n 1, 1, [], 0, []),
  (23, .iload_n 2, 1, [], 0, []),
  (24, .invokevirtual 213, 3, [167, 3, 1, 11, 1275], 0, []),
  (27, .ifCond .ne 6, 3, [20], 0, []),
  (30, .bipush (-2), 2, [], (-2), []),
  (32, .ireturn, 1, [], 0, []),
  (33, .aload_n 0, 1, [], 0, []),
  (34, .invokevirtual 201, 3, [144, 1, 0, 11, 1307], 0, []),
  (37, .aload_n 0, 1, [], 0, []),
  (38, .iload_n 1, 1, [], 0, []),
  (39, .iload_n 2, 1, [], 0, []),
  (40, .invokevirtual 225, 3, [175, 3, 1, 11, 1374], 0, []),
  (43, .ireturn, 1, [], 0, [])]
def kM_exchange : List am_E := [(0, .aload_n 0, 1, [], 0, []),
  (1, .iconst 0, 1, [], 0, []),
  (2, .putfield 38, 3, [10, 2, 1067], 0, []),
  (5, .aload_n 0, 1, [], 0, []),
  (6, .iload_n 1, 1, [], 0, []),
  (7, .iload_n 2, 1, [], 0, []),
  (8, .invokevirtual 207, 3, [149, 3, 1, 11, 1319], 0, []),
  (11, .ifCond .eq 18, 3, [14], 0, []),
  (14, .iload_n 3, 1, [], 0, []),
  (15, .invokestatic 210, 3, [178, 1, 1, 0, 1323], 0, []),
  (18, .ifCond .eq 11, 3, [14], 0, []),
  (21, .iload 4, 2, [], 0, []),
  (23, .invokestatic 210, 3, [178, 1, 1, 0, 1323], 0, []),
  (26, .ifCond .ne 5, 3, [16], 0, []),
  (29, .iconst (-1), 1, [], (-1), []),
  (30, .ireturn, 1, [], 0, []),
  (31, .iload_n 1, 1, [], 0, []),
  (32, .iload_n 2, 1, [], 0, []),
  (33, .if_icmp .ne 6, 3, [21], 0, []),
  (36, .bipush (-2), 2, [], (-2), []),
  (38, .ireturn, 1, [], 0, []),
  (39, .aload_n 0, 1, [], 0, []),
  (40, .iconst 0, 1, [], 0, []),
  (41, .iconst 1, 1, [], 1, []),
  (42, .invokevirtual 83, 3, [143, 3, 0, 11, 1057], 0, []),
  (45, .aload_n 0, 1, [], 0, []),
  (46, .iconst 1, 1, [], 1, []),
  (47, .putfield 77, 3, [10, 12, 1077], 0, []),
  (50, .aload_n 0, 1, [], 0, []),
  (51, .iload_n 1, 1, [], 0, []),
  (52, .iload_n 2, 1, [], 0, []),
  (53, .invokevirtual 213, 3, [167, 3, 1, 11, 1275], 0, []),
  (56, .ifCond .eq 12, 3, [38], 0, []),
  (59, .aload_n 0, 1, [], 0, []),
  (60, .iload_n 1, 1, [], 0, []),
  (61, .iload_n 2, 1, [], 0, []),
  (62, .invokevirtual 225, 3, [175, 3, 1, 11, 1374], 0, []),
  (65, .goto 4, 3, [39], 0, []),
  (68, .iconst 0, 1, [], 0, []),
  (69, .istore 5, 2, [], 0, []),
  (71, .aload_n 0, 1, [], 0, []),
  (72, .iload_n 1, 1, [], 0, []),
  (73, .iload_n 2, 1, [], 0, []),
  (74, .iload_n 3, 1, [], 0, []),
  (75, .iload 4, 2, [], 0, []),
  (77, .invokevirtual 158, 3, [171, 5, 0, 11, 1247], 0, []),
  (80, .aload_n 0, 1, [], 0, []),
  (81, .iconst 0, 1, [], 0, []),
  (82, .putfield 77, 3, [10, 12, 1077], 0, []),
  (85, .iload 5, 2, [], 0, []),
  (87, .ifCond .le 12, 3, [56], 0, []),
  (90, .iload 5, 2, [], 0, []),
  (92, .iload_n 3, 1, [], 0, []),
  (93, .if_icmp .gt 6, 3, [56], 0, []),
  (96, .bipush (-2), 2, [], (-2), []),
  (98, .ireturn, 1, [], 0, []),
  (99, .aload_n 0, 1, [], 0, []),
  (100, .invokevirtual 201, 3, [144, 1, 0, 11, 1307], 0, []),
  (103, .aload_n 0, 1, [], 0, []),
  (104, .iconst 1, 1, [], 1, []),
  (105, .iconst 0, 1, [], 0, []),
  (106, .invokevirtual 83, 3, [143, 3, 0, 11, 1057], 0, []),
  (109, .iload 5, 2, [], 0, []),
  (111, .ireturn, 1, [], 0, [])]
def kM_shed : List am_E := [(0, .aload_n 0, 1, [], 0, []),
  (1, .iconst 0, 1, [], 0, []),
  (2, .putfield 38, 3, [10, 2, 1067], 0, []),
  (5, .aload_n 0, 1, [], 0, []),
  (6, .iload_n 1, 1, [], 0, []),
  (7, .invokevirtual 102, 3, [148, 2, 1, 11, 1303], 0, []),
  (10, .ifCond .ne 5, 3, [9], 0, []),
  (13, .iconst (-1), 1, [], (-1), []),
  (14, .ireturn, 1, [], 0, []),
  (15, .aload_n 0, 1, [], 0, []),
  (16, .iload_n 1, 1, [], 0, []),
  (17, .invokevirtual 183, 3, [150, 2, 1, 11, 1168], 0, []),
  (20, .ifCond .ge 6, 3, [15], 0, []),
  (23, .bipush (-2), 2, [], (-2), []),
  (25, .ireturn, 1, [], 0, []),
  (26, .aload_n 0, 1, [], 0, []),
  (27, .invokevirtual 201, 3, [144, 1, 0, 11, 1307], 0, []),
  (30, .aload_n 0, 1, [], 0, []),
  (31, .bipush 48, 2, [], 48, []),
  (33, .iload_n 1, 1, [], 0, []),
  (34, .iadd, 1, [], 0, []),
  (35, .invokevirtual 105, 3, [141, 2, 1, 11, 1172], 0, []),
  (38, .istore_n 2, 1, [], 0, []),
  (39, .aload_n 0, 1, [], 0, []),
  (40, .aload_n 0, 1, [], 0, []),
  (41, .iload_n 1, 1, [], 0, []),
  (42, .invokevirtual 183, 3, [150, 2, 1, 11, 1168], 0, []),
  (45, .iload_n 1, 1, [], 0, []),
  (46, .invokevirtual 198, 3, [173, 3, 0, 11, 1330], 0, []),
  (49, .iload_n 2, 1, [], 0, []),
  (50, .ireturn, 1, [], 0, [])]
def kM_value : List am_E := [(0, .aload_n 0, 1, [], 0, []),
  (1, .iconst 0, 1, [], 0, []),
  (2, .putfield 38, 3, [10, 2, 1067], 0, []),
  (5, .aload_n 0, 1, [], 0, []),
  (6, .iload_n 1, 1, [], 0, []),
  (7, .invokevirtual 102, 3, [148, 2, 1, 11, 1303], 0, []),
  (10, .ifCond .eq 16, 3, [12], 0, []),
  (13, .iload_n 2, 1, [], 0, []),
  (14, .sipush (-9999), 3, [], (-9999), []),
  (17, .sipush 9999, 3, [], 9999, []),
  (20, .invokestatic 98, 3, [134, 3, 1, 0, 1224], 0, []),
  (23, .ifCond .ne 7, 3, [14], 0, []),
  (26, .sipush (-20000), 3, [], (-20000), []),
  (29, .ireturn, 1, [], 0, []),
  (30, .aload_n 0, 1, [], 0, []),
  (31, .invokevirtual 201, 3, [144, 1, 0, 11, 1307], 0, []),
  (34, .aload_n 0, 1, [], 0, []),
  (35, .bipush 96, 2, [], 96, []),
  (37, .iload_n 1, 1, [], 0, []),
  (38, .iadd, 1, [], 0, []),
  (39, .invokevirtual 105, 3, [141, 2, 1, 11, 1172], 0, []),
  (42, .istore_n 3, 1, [], 0, []),
  (43, .aload_n 0, 1, [], 0, []),
  (44, .bipush 96, 2, [], 96, []),
  (46, .iload_n 1, 1, [], 0, []),
  (47, .iadd, 1, [], 0, []),
  (48, .iload_n 2, 1, [], 0, []),
  (49, .invokevirtual 109, 3, [142, 3, 0, 11, 1061], 0, []),
  (52, .iload_n 3, 1, [], 0, []),
  (53, .ireturn, 1, [], 0, [])]
def kM_fails : List am_E := [(0, .aload_n 0, 1, [], 0, []),
  (1, .iload_n 1, 1, [], 0, []),
  (2, .putfield 38, 3, [10, 2, 1067], 0, []),
  (5, .iconst 0, 1, [], 0, []),
  (6, .ireturn, 1, [], 0, [])]
def kM_children : List am_E := [(0, .iconst 0, 1, [], 0, []),
  (1, .istore_n 2, 1, [], 0, []),
  (2, .iconst 0, 1, [], 0, []),
  (3, .istore_n 3, 1, [], 0, []),
  (4, .iload_n 3, 1, [], 0, []),
  (5, .aload_n 0, 1, [], 0, []),
  (6, .getfield 95, 3, [10, 15, 1080], 0, []),
  (9, .if_icmp .ge 26, 3, [21], 0, []),
  (12, .iload_n 2, 1, [], 0, []),
  (13, .aload_n 0, 1, [], 0, []),
  (14, .iload_n 3, 1, [], 0, []),
  (15, .invokevirtual 183, 3, [150, 2, 1, 11, 1168], 0, []),
  (18, .iload_n 1, 1, [], 0, []),
  (19, .if_icmp .ne 7, 3, [16], 0, []),
  (22, .iconst 1, 1, [], 1, []),
  (23, .goto 4, 3, [17], 0, []),
  (26, .iconst 0, 1, [], 0, []),
  (27, .iadd, 1, [], 0, []),
  (28, .istore_n 2, 1, [], 0, []),
  (29, .iinc 3 1, 3, [], 1, []),
  (32, .goto (-28), 3, [4], 0, []),
  (35, .iload_n 2, 1, [], 0, []),
  (36, .ireturn, 1, [], 0, [])]
def kM_under : List am_E := [(0, .iconst 0, 1, [], 0, []),
  (1, .istore_n 2, 1, [], 0, []),
  (2, .iconst 0, 1, [], 0, []),
  (3, .istore_n 3, 1, [], 0, []),
  (4, .iload_n 3, 1, [], 0, []),
  (5, .aload_n 0, 1, [], 0, []),
  (6, .getfield 95, 3, [10, 15, 1080], 0, []),
  (9, .if_icmp .ge 33, 3, [25], 0, []),
  (12, .iload_n 2, 1, [], 0, []),
  (13, .aload_n 0, 1, [], 0, []),
  (14, .iload_n 1, 1, [], 0, []),
  (15, .iload_n 3, 1, [], 0, []),
  (16, .invokevirtual 204, 3, [180, 3, 1, 11, 1287], 0, []),
  (19, .ifCond .eq 14, 3, [20], 0, []),
  (22, .aload_n 0, 1, [], 0, []),
  (23, .bipush 96, 2, [], 96, []),
  (25, .iload_n 3, 1, [], 0, []),
  (26, .iadd, 1, [], 0, []),
  (27, .invokevirtual 105, 3, [141, 2, 1, 11, 1172], 0, []),
  (30, .goto 4, 3, [21], 0, []),
  (33, .iconst 0, 1, [], 0, []),
  (34, .iadd, 1, [], 0, []),
  (35, .istore_n 2, 1, [], 0, []),
  (36, .iinc 3 1, 3, [], 1, []),
  (39, .goto (-35), 3, [4], 0, []),
  (42, .iload_n 2, 1, [], 0, []),
  (43, .ireturn, 1, [], 0, [])]
def kM_town : List am_E := [(0, .aload_n 0, 1, [], 0, []),
  (1, .iconst 0, 1, [], 0, []),
  (2, .putfield 38, 3, [10, 2, 1067], 0, []),
  (5, .aload_n 0, 1, [], 0, []),
  (6, .iload_n 1, 1, [], 0, []),
  (7, .invokevirtual 102, 3, [148, 2, 1, 11, 1303], 0, []),
  (10, .ifCond .ne 9, 3, [11], 0, []),
  (13, .aload_n 0, 1, [], 0, []),
  (14, .iconst 1, 1, [], 1, []),
  (15, .invokevirtual 228, 3, [196, 2, 1, 11, 1394], 0, []),
  (18, .ireturn, 1, [], 0, []),
  (19, .iload_n 2, 1, [], 0, []),
  (20, .tableswitch 125 0 9 #[56, 65, 71, 77, 83, 89, 95, 101, 110, 119], 56, [59], 0, [(0, 13), (1, 19), (2, 23), (3, 27), (4, 31), (5, 35), (6, 39), (7, 43), (8, 49), (9, 55)]),
  (76, .aload_n 0, 1, [], 0, []),
  (77, .bipush 96, 2, [], 96, []),
  (79, .iload_n 1, 1, [], 0, []),
  (80, .iadd, 1, [], 0, []),
  (81, .invokevirtual 105, 3, [141, 2, 1, 11, 1172], 0, []),
  (84, .ireturn, 1, [], 0, []),
  (85, .aload_n 0, 1, [], 0, []),
  (86, .iload_n 1, 1, [], 0, []),
  (87, .invokevirtual 183, 3, [150, 2, 1, 11, 1168], 0, []),
  (90, .ireturn, 1, [], 0, []),
  (91, .aload_n 0, 1, [], 0, []),
  (92, .iload_n 1, 1, [], 0, []),
  (93, .invokevirtual 186, 3, [151, 2, 1, 11, 1263], 0, []),
  (96, .ireturn, 1, [], 0, []),
  (97, .aload_n 0, 1, [], 0, []),
  (98, .iload_n 1, 1, [], 0, []),
  (99, .invokevirtual 152, 3, [166, 2, 1, 11, 1239], 0, []),
  (102, .ireturn, 1, [], 0, []),
  (103, .aload_n 0, 1, [], 0, []),
  (104, .iload_n 1, 1, [], 0, []),
  (105, .invokevirtual 231, 3, [185, 2, 1, 11, 1398], 0, []),
  (108, .ireturn, 1, [], 0, []),
  (109, .aload_n 0, 1, [], 0, []),
  (110, .iload_n 1, 1, [], 0, []),
  (111, .invokevirtual 216, 3, [179, 2, 1, 11, 1283], 0, []),
  (114, .ireturn, 1, [], 0, []),
  (115, .aload_n 0, 1, [], 0, []),
  (116, .iload_n 1, 1, [], 0, []),
  (117, .invokevirtual 234, 3, [198, 2, 1, 11, 1402], 0, []),
  (120, .ireturn, 1, [], 0, []),
  (121, .aload_n 0, 1, [], 0, []),
  (122, .bipush 48, 2, [], 48, []),
  (124, .iload_n 1, 1, [], 0, []),
  (125, .iadd, 1, [], 0, []),
  (126, .invokevirtual 105, 3, [141, 2, 1, 11, 1172], 0, []),
  (129, .ireturn, 1, [], 0, []),
  (130, .aload_n 0, 1, [], 0, []),
  (131, .bipush 72, 2, [], 72, []),
  (133, .iload_n 1, 1, [], 0, []),
  (134, .iadd, 1, [], 0, []),
  (135, .invokevirtual 105, 3, [141, 2, 1, 11, 1172], 0, []),
  (138, .ireturn, 1, [], 0, []),
  (139, .aload_n 0, 1, [], 0, []),
  (140, .iload_n 1, 1, [], 0, []),
  (141, .invokevirtual 237, 3, [197, 2, 1, 11, 1406], 0, []),
  (144, .ireturn, 1, [], 0, []),
  (145, .aload_n 0, 1, [], 0, []),
  (146, .iconst 2, 1, [], 2, []),
  (147, .invokevirtual 228, 3, [196, 2, 1, 11, 1394], 0, []),
  (150, .ireturn, 1, [], 0, [])]
def kM_isHead : List am_E := [(0, .aload_n 0, 1, [], 0, []),
  (1, .iload_n 1, 1, [], 0, []),
  (2, .invokevirtual 183, 3, [150, 2, 1, 11, 1168], 0, []),
  (5, .ifCond .lt 16, 3, [11], 0, []),
  (8, .aload_n 0, 1, [], 0, []),
  (9, .aload_n 0, 1, [], 0, []),
  (10, .iload_n 1, 1, [], 0, []),
  (11, .invokevirtual 183, 3, [150, 2, 1, 11, 1168], 0, []),
  (14, .invokevirtual 186, 3, [151, 2, 1, 11, 1263], 0, []),
  (17, .iload_n 1, 1, [], 0, []),
  (18, .if_icmp .eq 7, 3, [13], 0, []),
  (21, .iconst 1, 1, [], 1, []),
  (22, .goto 4, 3, [14], 0, []),
  (25, .iconst 0, 1, [], 0, []),
  (26, .ireturn, 1, [1], 0, [])]
def kM_chain : List am_E := [(0, .aload_n 0, 1, [], 0, []),
  (1, .iconst 0, 1, [], 0, []),
  (2, .putfield 38, 3, [10, 2, 1067], 0, []),
  (5, .aload_n 0, 1, [], 0, []),
  (6, .iload_n 1, 1, [], 0, []),
  (7, .invokevirtual 102, 3, [148, 2, 1, 11, 1303], 0, []),
  (10, .ifCond .eq 12, 3, [12], 0, []),
  (13, .iload_n 2, 1, [], 0, []),
  (14, .iconst 0, 1, [], 0, []),
  (15, .iconst 4, 1, [], 4, []),
  (16, .invokestatic 98, 3, [134, 3, 1, 0, 1224], 0, []),
  (19, .ifCond .ne 5, 3, [14], 0, []),
  (22, .iconst (-1), 1, [], (-1), []),
  (23, .ireturn, 1, [], 0, []),
  (24, .iload_n 1, 1, [], 0, []),
  (25, .istore_n 3, 1, [], 0, []),
  (26, .iconst 0, 1, [], 0, []),
  (27, .istore 4, 2, [], 0, []),
  (29, .aload_n 0, 1, [], 0, []),
  (30, .iload_n 3, 1, [], 0, []),
  (31, .invokevirtual 240, 3, [200, 2, 1, 11, 1414], 0, []),
  (34, .ifCond .ne 15, 3, [28], 0, []),
  (37, .iinc 4 1, 3, [], 1, []),
  (40, .aload_n 0, 1, [], 0, []),
  (41, .iload_n 3, 1, [], 0, []),
  (42, .invokevirtual 183, 3, [150, 2, 1, 11, 1168], 0, []),
  (45, .istore_n 3, 1, [], 0, []),
  (46, .goto (-17), 3, [18], 0, []),
  (49, .iload_n 3, 1, [], 0, []),
  (50, .istore 5, 2, [], 0, []),
  (52, .iconst 1, 1, [], 1, []),
  (53, .istore 6, 2, [], 0, []),
  (55, .iconst 0, 1, [], 0, []),
  (56, .istore 7, 2, [], 0, []),
  (58, .aload_n 0, 1, [], 0, []),
  (59, .iload 5, 2, [], 0, []),
  (61, .invokevirtual 186, 3, [151, 2, 1, 11, 1263], 0, []),
  (64, .ifCond .lt 35, 3, [54], 0, []),
  (67, .iinc 6 1, 3, [], 1, []),
  (70, .iload 7, 2, [], 0, []),
  (72, .aload_n 0, 1, [], 0, []),
  (73, .bipush 48, 2, [], 48, []),
  (75, .aload_n 0, 1, [], 0, []),
  (76, .iload 5, 2, [], 0, []),
  (78, .invokevirtual 186, 3, [151, 2, 1, 11, 1263], 0, []),
  (81, .iadd, 1, [], 0, []),
  (82, .invokevirtual 105, 3, [141, 2, 1, 11, 1172], 0, []),
  (85, .iadd, 1, [], 0, []),
  (86, .istore 7, 2, [], 0, []),
  (88, .aload_n 0, 1, [], 0, []),
  (89, .iload 5, 2, [], 0, []),
  (91, .invokevirtual 186, 3, [151, 2, 1, 11, 1263], 0, []),
  (94, .istore 5, 2, [], 0, []),
  (96, .goto (-38), 3, [34], 0, []),
  (99, .iload_n 2, 1, [], 0, []),
  (100, .ifCond .ne 7, 3, [58], 0, []),
  (103, .iload_n 3, 1, [], 0, []),
  (104, .goto 35, 3, [74], 0, []),
  (107, .iload_n 2, 1, [], 0, []),
  (108, .iconst 1, 1, [], 1, []),
  (109, .if_icmp .ne 8, 3, [63], 0, []),
  (112, .iload 5, 2, [], 0, []),
  (114, .goto 25, 3, [74], 0, []),
  (117, .iload_n 2, 1, [], 0, []),
  (118, .iconst 2, 1, [], 2, []),
  (119, .if_icmp .ne 8, 3, [68], 0, []),
  (122, .iload 6, 2, [], 0, []),
  (124, .goto 15, 3, [74], 0, []),
  (127, .iload_n 2, 1, [], 0, []),
  (128, .iconst 3, 1, [], 3, []),
  (129, .if_icmp .ne 8, 3, [73], 0, []),
  (132, .iload 4, 2, [], 0, []),
  (134, .goto 5, 3, [74], 0, []),
  (137, .iload 7, 2, [], 0, []),
  (139, .ireturn, 1, [], 0, [])]
def kM_above : List am_E := [(0, .aload_n 0, 1, [], 0, []),
  (1, .iconst 0, 1, [], 0, []),
  (2, .putfield 38, 3, [10, 2, 1067], 0, []),
  (5, .aload_n 0, 1, [], 0, []),
  (6, .iload_n 1, 1, [], 0, []),
  (7, .invokevirtual 102, 3, [148, 2, 1, 11, 1303], 0, []),
  (10, .ifCond .eq 7, 3, [9], 0, []),
  (13, .iload_n 2, 1, [], 0, []),
  (14, .ifCond .ge 5, 3, [11], 0, []),
  (17, .iconst (-1), 1, [], (-1), []),
  (18, .ireturn, 1, [], 0, []),
  (19, .iload_n 1, 1, [], 0, []),
  (20, .istore_n 3, 1, [], 0, []),
  (21, .iconst 0, 1, [], 0, []),
  (22, .istore 4, 2, [], 0, []),
  (24, .iload 4, 2, [], 0, []),
  (26, .iload_n 2, 1, [], 0, []),
  (27, .if_icmp .ge 19, 3, [26], 0, []),
  (30, .iload_n 3, 1, [], 0, []),
  (31, .ifCond .lt 15, 3, [26], 0, []),
  (34, .aload_n 0, 1, [], 0, []),
  (35, .iload_n 3, 1, [], 0, []),
  (36, .invokevirtual 183, 3, [150, 2, 1, 11, 1168], 0, []),
  (39, .istore_n 3, 1, [], 0, []),
  (40, .iinc 4 1, 3, [], 1, []),
  (43, .goto (-19), 3, [15], 0, []),
  (46, .iload_n 3, 1, [], 0, []),
  (47, .ifCond .ge 8, 3, [30], 0, []),
  (50, .bipush (-2), 2, [], (-2), []),
  (52, .goto 4, 3, [31], 0, []),
  (55, .iload_n 3, 1, [], 0, []),
  (56, .ireturn, 1, [], 0, [])]
def kM_along : List am_E := [(0, .aload_n 0, 1, [], 0, []),
  (1, .iconst 0, 1, [], 0, []),
  (2, .putfield 38, 3, [10, 2, 1067], 0, []),
  (5, .aload_n 0, 1, [], 0, []),
  (6, .iload_n 1, 1, [], 0, []),
  (7, .iload_n 2, 1, [], 0, []),
  (8, .invokevirtual 207, 3, [149, 3, 1, 11, 1319], 0, []),
  (11, .ifCond .eq 7, 3, [10], 0, []),
  (14, .iload_n 3, 1, [], 0, []),
  (15, .ifCond .ge 5, 3, [12], 0, []),
  (18, .iconst (-1), 1, [], (-1), []),
  (19, .ireturn, 1, [], 0, []),
  (20, .aload_n 0, 1, [], 0, []),
  (21, .iload_n 1, 1, [], 0, []),
  (22, .iload_n 2, 1, [], 0, []),
  (23, .invokevirtual 213, 3, [167, 3, 1, 11, 1275], 0, []),
  (26, .ifCond .ne 6, 3, [19], 0, []),
  (29, .bipush (-2), 2, [], (-2), []),
  (31, .ireturn, 1, [], 0, []),
  (32, .aload_n 0, 1, [], 0, []),
  (33, .iload_n 1, 1, [], 0, []),
  (34, .iload_n 2, 1, [], 0, []),
  (35, .invokevirtual 219, 3, [186, 3, 1, 11, 1354], 0, []),
  (38, .istore 4, 2, [], 0, []),
  (40, .aload_n 0, 1, [], 0, []),
  (41, .iload_n 1, 1, [], 0, []),
  (42, .invokevirtual 231, 3, [185, 2, 1, 11, 1398], 0, []),
  (45, .aload_n 0, 1, [], 0, []),
  (46, .iload 4, 2, [], 0, []),
  (48, .invokevirtual 231, 3, [185, 2, 1, 11, 1398], 0, []),
  (51, .isub, 1, [], 0, []),
  (52, .istore 5, 2, [], 0, []),
  (54, .iload 5, 2, [], 0, []),
  (56, .aload_n 0, 1, [], 0, []),
  (57, .iload_n 2, 1, [], 0, []),
  (58, .invokevirtual 231, 3, [185, 2, 1, 11, 1398], 0, []),
  (61, .iadd, 1, [], 0, []),
  (62, .aload_n 0, 1, [], 0, []),
  (63, .iload 4, 2, [], 0, []),
  (65, .invokevirtual 231, 3, [185, 2, 1, 11, 1398], 0, []),
  (68, .isub, 1, [], 0, []),
  (69, .istore 6, 2, [], 0, []),
  (71, .iload_n 3, 1, [], 0, []),
  (72, .iload 6, 2, [], 0, []),
  (74, .if_icmp .le 6, 3, [47], 0, []),
  (77, .bipush (-2), 2, [], (-2), []),
  (79, .ireturn, 1, [], 0, []),
  (80, .iload_n 3, 1, [], 0, []),
  (81, .iload 5, 2, [], 0, []),
  (83, .if_icmp .gt 7, 3, [52], 0, []),
  (86, .iload_n 1, 1, [], 0, []),
  (87, .goto 4, 3, [53], 0, []),
  (90, .iload_n 2, 1, [], 0, []),
  (91, .istore 7, 2, [], 0, []),
  (93, .iload_n 3, 1, [], 0, []),
  (94, .iload 5, 2, [], 0, []),
  (96, .if_icmp .gt 7, 3, [59], 0, []),
  (99, .iload_n 3, 1, [], 0, []),
  (100, .goto 7, 3, [62], 0, []),
  (103, .iload 6, 2, [], 0, []),
  (105, .iload_n 3, 1, [], 0, []),
  (106, .isub, 1, [], 0, []),
  (107, .istore 8, 2, [], 0, []),
  (109, .iload 8, 2, [], 0, []),
  (111, .ifCond .le 17, 3, [71], 0, []),
  (114, .aload_n 0, 1, [], 0, []),
  (115, .iload 7, 2, [], 0, []),
  (117, .invokevirtual 183, 3, [150, 2, 1, 11, 1168], 0, []),
  (120, .istore 7, 2, [], 0, []),
  (122, .iinc 8 (-1), 3, [], (-1), []),
  (125, .goto (-16), 3, [63], 0, []),
  (128, .iload 7, 2, [], 0, []),
  (130, .ireturn, 1, [], 0, [])]
def kM_together : List am_E := [(0, .aload_n 0, 1, [], 0, []),
  (1, .iconst 0, 1, [], 0, []),
  (2, .putfield 38, 3, [10, 2, 1067], 0, []),
  (5, .aload_n 0, 1, [], 0, []),
  (6, .iload_n 1, 1, [], 0, []),
  (7, .iload_n 2, 1, [], 0, []),
  (8, .invokevirtual 207, 3, [149, 3, 1, 11, 1319], 0, []),
  (11, .ifCond .ne 7, 3, [10], 0, []),
  (14, .iconst (-1), 1, [], (-1), []),
  (15, .goto 17, 3, [18], 0, []),
  (18, .aload_n 0, 1, [], 0, []),
  (19, .iload_n 1, 1, [], 0, []),
  (20, .iload_n 2, 1, [], 0, []),
  (21, .invokevirtual 213, 3, [167, 3, 1, 11, 1275], 0, []),
  (24, .ifCond .eq 7, 3, [17], 0, []),
  (27, .iconst 1, 1, [], 1, []),
  (28, .goto 4, 3, [18], 0, []),
  (31, .iconst 0, 1, [], 0, []),
  (32, .ireturn, 1, [], 0, [])]
def kM_farUp : List am_E := [(0, .iconst 0, 1, [], 0, []),
  (1, .istore_n 3, 1, [], 0, []),
  (2, .iload_n 1, 1, [], 0, []),
  (3, .istore 4, 2, [], 0, []),
  (5, .iload 4, 2, [], 0, []),
  (7, .iload_n 2, 1, [], 0, []),
  (8, .if_icmp .eq 26, 3, [20], 0, []),
  (11, .iload_n 3, 1, [], 0, []),
  (12, .aload_n 0, 1, [], 0, []),
  (13, .bipush 48, 2, [], 48, []),
  (15, .iload 4, 2, [], 0, []),
  (17, .iadd, 1, [], 0, []),
  (18, .invokevirtual 105, 3, [141, 2, 1, 11, 1172], 0, []),
  (21, .iadd, 1, [], 0, []),
  (22, .istore_n 3, 1, [], 0, []),
  (23, .aload_n 0, 1, [], 0, []),
  (24, .iload 4, 2, [], 0, []),
  (26, .invokevirtual 183, 3, [150, 2, 1, 11, 1168], 0, []),
  (29, .istore 4, 2, [], 0, []),
  (31, .goto (-26), 3, [4], 0, []),
  (34, .iload_n 3, 1, [], 0, []),
  (35, .ireturn, 1, [], 0, [])]
def kM_farOf : List am_E := [(0, .aload_n 0, 1, [], 0, []),
  (1, .iload_n 1, 1, [], 0, []),
  (2, .iload_n 2, 1, [], 0, []),
  (3, .invokevirtual 219, 3, [186, 3, 1, 11, 1354], 0, []),
  (6, .istore_n 3, 1, [], 0, []),
  (7, .aload_n 0, 1, [], 0, []),
  (8, .iload_n 1, 1, [], 0, []),
  (9, .iload_n 3, 1, [], 0, []),
  (10, .invokevirtual 243, 3, [205, 3, 1, 11, 1438], 0, []),
  (13, .aload_n 0, 1, [], 0, []),
  (14, .iload_n 2, 1, [], 0, []),
  (15, .iload_n 3, 1, [], 0, []),
  (16, .invokevirtual 243, 3, [205, 3, 1, 11, 1438], 0, []),
  (19, .iadd, 1, [], 0, []),
  (20, .ireturn, 1, [], 0, [])]
def kM_far : List am_E := [(0, .aload_n 0, 1, [], 0, []),
  (1, .iconst 0, 1, [], 0, []),
  (2, .putfield 38, 3, [10, 2, 1067], 0, []),
  (5, .aload_n 0, 1, [], 0, []),
  (6, .iload_n 1, 1, [], 0, []),
  (7, .iload_n 2, 1, [], 0, []),
  (8, .invokevirtual 207, 3, [149, 3, 1, 11, 1319], 0, []),
  (11, .ifCond .ne 7, 3, [10], 0, []),
  (14, .iconst (-1), 1, [], (-1), []),
  (15, .goto 23, 3, [21], 0, []),
  (18, .aload_n 0, 1, [], 0, []),
  (19, .iload_n 1, 1, [], 0, []),
  (20, .iload_n 2, 1, [], 0, []),
  (21, .invokevirtual 213, 3, [167, 3, 1, 11, 1275], 0, []),
  (24, .ifCond .eq 12, 3, [20], 0, []),
  (27, .aload_n 0, 1, [], 0, []),
  (28, .iload_n 1, 1, [], 0, []),
  (29, .iload_n 2, 1, [], 0, []),
  (30, .invokevirtual 246, 3, [206, 3, 1, 11, 1434], 0, []),
  (33, .goto 5, 3, [21], 0, []),
  (36, .bipush (-2), 2, [], (-2), []),
  (38, .ireturn, 1, [], 0, [])]
def kM_meets : List am_E := [(0, .aload_n 0, 1, [], 0, []),
  (1, .iconst 0, 1, [], 0, []),
  (2, .putfield 38, 3, [10, 2, 1067], 0, []),
  (5, .aload_n 0, 1, [], 0, []),
  (6, .iload_n 1, 1, [], 0, []),
  (7, .iload_n 2, 1, [], 0, []),
  (8, .invokevirtual 207, 3, [149, 3, 1, 11, 1319], 0, []),
  (11, .ifCond .ne 7, 3, [10], 0, []),
  (14, .iconst (-1), 1, [], (-1), []),
  (15, .goto 23, 3, [21], 0, []),
  (18, .aload_n 0, 1, [], 0, []),
  (19, .iload_n 1, 1, [], 0, []),
  (20, .iload_n 2, 1, [], 0, []),
  (21, .invokevirtual 213, 3, [167, 3, 1, 11, 1275], 0, []),
  (24, .ifCond .eq 12, 3, [20], 0, []),
  (27, .aload_n 0, 1, [], 0, []),
  (28, .iload_n 1, 1, [], 0, []),
  (29, .iload_n 2, 1, [], 0, []),
  (30, .invokevirtual 219, 3, [186, 3, 1, 11, 1354], 0, []),
  (33, .goto 5, 3, [21], 0, []),
  (36, .bipush (-2), 2, [], (-2), []),
  (38, .ireturn, 1, [], 0, [])]
def kM_room : List am_E := [(0, .aload_n 0, 1, [], 0, []),
  (1, .iconst 0, 1, [], 0, []),
  (2, .putfield 38, 3, [10, 2, 1067], 0, []),
  (5, .aload_n 0, 1, [], 0, []),
  (6, .iload_n 1, 1, [], 0, []),
  (7, .iload_n 2, 1, [], 0, []),
  (8, .invokevirtual 207, 3, [149, 3, 1, 11, 1319], 0, []),
  (11, .ifCond .ne 5, 3, [10], 0, []),
  (14, .iconst (-1), 1, [], (-1), []),
  (15, .ireturn, 1, [], 0, []),
  (16, .iload_n 1, 1, [], 0, []),
  (17, .iload_n 2, 1, [], 0, []),
  (18, .if_icmp .eq 12, 3, [18], 0, []),
  (21, .aload_n 0, 1, [], 0, []),
  (22, .iload_n 1, 1, [], 0, []),
  (23, .iload_n 2, 1, [], 0, []),
  (24, .invokevirtual 213, 3, [167, 3, 1, 11, 1275], 0, []),
  (27, .ifCond .ne 6, 3, [20], 0, []),
  (30, .bipush (-2), 2, [], (-2), []),
  (32, .ireturn, 1, [], 0, []),
  (33, .aload_n 0, 1, [], 0, []),
  (34, .iload_n 1, 1, [], 0, []),
  (35, .iload_n 2, 1, [], 0, []),
  (36, .invokevirtual 219, 3, [186, 3, 1, 11, 1354], 0, []),
  (39, .istore_n 3, 1, [], 0, []),
  (40, .ldc 76, 2, [1204], 99999, []),
  (42, .istore 4, 2, [], 0, []),
  (44, .iload_n 1, 1, [], 0, []),
  (45, .istore 5, 2, [], 0, []),
  (47, .iload 5, 2, [], 0, []),
  (49, .iload_n 3, 1, [], 0, []),
  (50, .if_icmp .eq 44, 3, [52], 0, []),
  (53, .aload_n 0, 1, [], 0, []),
  (54, .bipush 72, 2, [], 72, []),
  (56, .iload 5, 2, [], 0, []),
  (58, .iadd, 1, [], 0, []),
  (59, .invokevirtual 105, 3, [141, 2, 1, 11, 1172], 0, []),
  (62, .iload 4, 2, [], 0, []),
  (64, .if_icmp .ge 15, 3, [45], 0, []),
  (67, .aload_n 0, 1, [], 0, []),
  (68, .bipush 72, 2, [], 72, []),
  (70, .iload 5, 2, [], 0, []),
  (72, .iadd, 1, [], 0, []),
  (73, .invokevirtual 105, 3, [141, 2, 1, 11, 1172], 0, []),
  (76, .goto 5, 3, [46], 0, []),
  (79, .iload 4, 2, [], 0, []),
  (81, .istore 4, 2, [], 0, []),
  (83, .aload_n 0, 1, [], 0, []),
  (84, .iload 5, 2, [], 0, []),
  (86, .invokevirtual 183, 3, [150, 2, 1, 11, 1168], 0, []),
  (89, .istore 5, 2, [], 0, []),
  (91, .goto (-44), 3, [29], 0, []),
  (94, .iload_n 2, 1, [], 0, []),
  (95, .istore 5, 2, [], 0, []),
  (97, .iload 5, 2, [], 0, []),
  (99, .iload_n 3, 1, [], 0, []),
  (100, .if_icmp .eq 44, 3, [77], 0, []),
  (103, .aload_n 0, 1, [], 0, []),
  (104, .bipush 72, 2, [], 72, []),
  (106, .iload 5, 2, [], 0, []),
  (108, .iadd, 1, [], 0, []),
  (109, .invokevirtual 105, 3, [141, 2, 1, 11, 1172], 0, []),
  (112, .iload 4, 2, [], 0, []),
  (114, .if_icmp .ge 15, 3, [70], 0, []),
  (117, .aload_n 0, 1, [], 0, []),
  (118, .bipush 72, 2, [], 72, []),
  (120, .iload 5, 2, [], 0, []),
  (122, .iadd, 1, [], 0, []),
  (123, .invokevirtual 105, 3, [141, 2, 1, 11, 1172], 0, []),
  (126, .goto 5, 3, [71], 0, []),
  (129, .iload 4, 2, [], 0, []),
  (131, .istore 4, 2, [], 0, []),
  (133, .aload_n 0, 1, [], 0, []),
  (134, .iload 5, 2, [], 0, []),
  (136, .invokevirtual 183, 3, [150, 2, 1, 11, 1168], 0, []),
  (139, .istore 5, 2, [], 0, []),
  (141, .goto (-44), 3, [54], 0, []),
  (144, .iload 4, 2, [], 0, []),
  (146, .ireturn, 1, [], 0, [])]
def kM_childBehind : List am_E := [(0, .iload_n 2, 1, [], 0, []),
  (1, .ifCond .ge 17, 3, [10], 0, []),
  (4, .aload_n 0, 1, [], 0, []),
  (5, .iload_n 1, 1, [], 0, []),
  (6, .invokevirtual 186, 3, [151, 2, 1, 11, 1263], 0, []),
  (9, .ifCond .lt 9, 3, [10], 0, []),
  (12, .aload_n 0, 1, [], 0, []),
  (13, .iload_n 1, 1, [], 0, []),
  (14, .invokevirtual 186, 3, [151, 2, 1, 11, 1263], 0, []),
  (17, .ireturn, 1, [], 0, []),
  (18, .iload_n 2, 1, [], 0, []),
  (19, .ifCond .lt 12, 3, [17], 0, []),
  (22, .iload_n 2, 1, [], 0, []),
  (23, .aload_n 0, 1, [], 0, []),
  (24, .iload_n 1, 1, [], 0, []),
  (25, .invokevirtual 186, 3, [151, 2, 1, 11, 1263], 0, []),
  (28, .if_icmp .ne 7, 3, [19], 0, []),
  (31, .iconst 0, 1, [], 0, []),
  (32, .goto 6, 3, [22], 0, []),
  (35, .iload_n 2, 1, [], 0, []),
  (36, .iconst 1, 1, [], 1, []),
  (37, .iadd, 1, [], 0, []),
  (38, .istore_n 3, 1, [], 0, []),
  (39, .iload_n 3, 1, [], 0, []),
  (40, .istore 4, 2, [], 0, []),
  (42, .iload 4, 2, [], 0, []),
  (44, .aload_n 0, 1, [], 0, []),
  (45, .getfield 95, 3, [10, 15, 1080], 0, []),
  (48, .if_icmp .ge 32, 3, [43], 0, []),
  (51, .aload_n 0, 1, [], 0, []),
  (52, .iload 4, 2, [], 0, []),
  (54, .invokevirtual 183, 3, [150, 2, 1, 11, 1168], 0, []),
  (57, .iload_n 1, 1, [], 0, []),
  (58, .if_icmp .ne 16, 3, [41], 0, []),
  (61, .iload 4, 2, [], 0, []),
  (63, .aload_n 0, 1, [], 0, []),
  (64, .iload_n 1, 1, [], 0, []),
  (65, .invokevirtual 186, 3, [151, 2, 1, 11, 1263], 0, []),
  (68, .if_icmp .eq 6, 3, [41], 0, []),
  (71, .iload 4, 2, [], 0, []),
  (73, .ireturn, 1, [], 0, []),
  (74, .iinc 4 1, 3, [], 1, []),
  (77, .goto (-35), 3, [25], 0, []),
  (80, .iconst (-1), 1, [], (-1), []),
  (81, .ireturn, 1, [], 0, [])]
def kM_behind : List am_E := [(0, .aload_n 0, 1, [], 0, []),
  (1, .iload_n 1, 1, [], 0, []),
  (2, .iconst (-1), 1, [], (-1), []),
  (3, .invokevirtual 249, 3, [210, 3, 1, 11, 1458], 0, []),
  (6, .istore_n 2, 1, [], 0, []),
  (7, .iload_n 2, 1, [], 0, []),
  (8, .ifCond .lt 5, 3, [9], 0, []),
  (11, .iload_n 2, 1, [], 0, []),
  (12, .ireturn, 1, [], 0, []),
  (13, .iload_n 1, 1, [], 0, []),
  (14, .istore_n 3, 1, [], 0, []),
  (15, .aload_n 0, 1, [], 0, []),
  (16, .iload_n 3, 1, [], 0, []),
  (17, .invokevirtual 183, 3, [150, 2, 1, 11, 1168], 0, []),
  (20, .ifCond .lt 32, 3, [31], 0, []),
  (23, .aload_n 0, 1, [], 0, []),
  (24, .aload_n 0, 1, [], 0, []),
  (25, .iload_n 3, 1, [], 0, []),
  (26, .invokevirtual 183, 3, [150, 2, 1, 11, 1168], 0, []),
  (29, .iload_n 3, 1, [], 0, []),
  (30, .invokevirtual 249, 3, [210, 3, 1, 11, 1458], 0, []),
  (33, .istore 4, 2, [], 0, []),
  (35, .iload 4, 2, [], 0, []),
  (37, .ifCond .lt 6, 3, [26], 0, []),
  (40, .iload 4, 2, [], 0, []),
  (42, .ireturn, 1, [], 0, []),
  (43, .aload_n 0, 1, [], 0, []),
  (44, .iload_n 3, 1, [], 0, []),
  (45, .invokevirtual 183, 3, [150, 2, 1, 11, 1168], 0, []),
  (48, .istore_n 3, 1, [], 0, []),
  (49, .goto (-34), 3, [11], 0, []),
  (52, .iconst (-1), 1, [], (-1), []),
  (53, .ireturn, 1, [], 0, [])]
def kM_order : List am_E := [(0, .aload_n 0, 1, [], 0, []),
  (1, .iconst 0, 1, [], 0, []),
  (2, .putfield 38, 3, [10, 2, 1067], 0, []),
  (5, .aload_n 0, 1, [], 0, []),
  (6, .iload_n 1, 1, [], 0, []),
  (7, .invokevirtual 102, 3, [148, 2, 1, 11, 1303], 0, []),
  (10, .ifCond .eq 7, 3, [9], 0, []),
  (13, .iload_n 2, 1, [], 0, []),
  (14, .ifCond .ge 5, 3, [11], 0, []),
  (17, .iconst (-1), 1, [], (-1), []),
  (18, .ireturn, 1, [], 0, []),
  (19, .aload_n 0, 1, [], 0, []),
  (20, .iload_n 1, 1, [], 0, []),
  (21, .invokevirtual 152, 3, [166, 2, 1, 11, 1239], 0, []),
  (24, .istore_n 3, 1, [], 0, []),
  (25, .iconst 0, 1, [], 0, []),
  (26, .istore 4, 2, [], 0, []),
  (28, .iload 4, 2, [], 0, []),
  (30, .iload_n 2, 1, [], 0, []),
  (31, .if_icmp .ge 19, 3, [28], 0, []),
  (34, .iload_n 3, 1, [], 0, []),
  (35, .ifCond .lt 15, 3, [28], 0, []),
  (38, .aload_n 0, 1, [], 0, []),
  (39, .iload_n 3, 1, [], 0, []),
  (40, .invokevirtual 252, 3, [211, 2, 1, 11, 1454], 0, []),
  (43, .istore_n 3, 1, [], 0, []),
  (44, .iinc 4 1, 3, [], 1, []),
  (47, .goto (-19), 3, [17], 0, []),
  (50, .iload_n 3, 1, [], 0, []),
  (51, .ifCond .ge 8, 3, [32], 0, []),
  (54, .bipush (-2), 2, [], (-2), []),
  (56, .goto 4, 3, [33], 0, []),
  (59, .iload_n 3, 1, [], 0, []),
  (60, .ireturn, 1, [], 0, [])]
def kM_place : List am_E := [(0, .aload_n 0, 1, [], 0, []),
  (1, .iconst 0, 1, [], 0, []),
  (2, .putfield 38, 3, [10, 2, 1067], 0, []),
  (5, .aload_n 0, 1, [], 0, []),
  (6, .iload_n 1, 1, [], 0, []),
  (7, .invokevirtual 102, 3, [148, 2, 1, 11, 1303], 0, []),
  (10, .ifCond .ne 5, 3, [9], 0, []),
  (13, .iconst (-1), 1, [], (-1), []),
  (14, .ireturn, 1, [], 0, []),
  (15, .iconst 0, 1, [], 0, []),
  (16, .istore_n 2, 1, [], 0, []),
  (17, .aload_n 0, 1, [], 0, []),
  (18, .iload_n 1, 1, [], 0, []),
  (19, .invokevirtual 152, 3, [166, 2, 1, 11, 1239], 0, []),
  (22, .istore_n 3, 1, [], 0, []),
  (23, .iload_n 3, 1, [], 0, []),
  (24, .iload_n 1, 1, [], 0, []),
  (25, .if_icmp .eq 15, 3, [24], 0, []),
  (28, .iinc 2 1, 3, [], 1, []),
  (31, .aload_n 0, 1, [], 0, []),
  (32, .iload_n 3, 1, [], 0, []),
  (33, .invokevirtual 252, 3, [211, 2, 1, 11, 1454], 0, []),
  (36, .istore_n 3, 1, [], 0, []),
  (37, .goto (-14), 3, [15], 0, []),
  (40, .iload_n 2, 1, [], 0, []),
  (41, .ireturn, 1, [], 0, [])]
def kM_farthest : List am_E := [(0, .iconst 0, 1, [], 0, []),
  (1, .istore_n 2, 1, [], 0, []),
  (2, .iconst 0, 1, [], 0, []),
  (3, .istore_n 3, 1, [], 0, []),
  (4, .iload_n 3, 1, [], 0, []),
  (5, .aload_n 0, 1, [], 0, []),
  (6, .getfield 95, 3, [10, 15, 1080], 0, []),
  (9, .if_icmp .ge 35, 3, [26], 0, []),
  (12, .aload_n 0, 1, [], 0, []),
  (13, .iload_n 3, 1, [], 0, []),
  (14, .iload_n 1, 1, [], 0, []),
  (15, .invokevirtual 213, 3, [167, 3, 1, 11, 1275], 0, []),
  (18, .ifCond .eq 20, 3, [24], 0, []),
  (21, .aload_n 0, 1, [], 0, []),
  (22, .iload_n 3, 1, [], 0, []),
  (23, .iload_n 1, 1, [], 0, []),
  (24, .invokevirtual 246, 3, [206, 3, 1, 11, 1434], 0, []),
  (27, .iload_n 2, 1, [], 0, []),
  (28, .if_icmp .le 10, 3, [24], 0, []),
  (31, .aload_n 0, 1, [], 0, []),
  (32, .iload_n 3, 1, [], 0, []),
  (33, .iload_n 1, 1, [], 0, []),
  (34, .invokevirtual 246, 3, [206, 3, 1, 11, 1434], 0, []),
  (37, .istore_n 2, 1, [], 0, []),
  (38, .iinc 3 1, 3, [], 1, []),
  (41, .goto (-37), 3, [4], 0, []),
  (44, .iload_n 2, 1, [], 0, []),
  (45, .ireturn, 1, [], 0, [])]
def kM_widestOf : List am_E := [(0, .iconst 0, 1, [], 0, []),
  (1, .istore_n 2, 1, [], 0, []),
  (2, .iconst 0, 1, [], 0, []),
  (3, .istore_n 3, 1, [], 0, []),
  (4, .iload_n 3, 1, [], 0, []),
  (5, .aload_n 0, 1, [], 0, []),
  (6, .getfield 95, 3, [10, 15, 1080], 0, []),
  (9, .if_icmp .ge 33, 3, [24], 0, []),
  (12, .aload_n 0, 1, [], 0, []),
  (13, .iload_n 3, 1, [], 0, []),
  (14, .iload_n 1, 1, [], 0, []),
  (15, .invokevirtual 213, 3, [167, 3, 1, 11, 1275], 0, []),
  (18, .ifCond .eq 18, 3, [22], 0, []),
  (21, .aload_n 0, 1, [], 0, []),
  (22, .iload_n 3, 1, [], 0, []),
  (23, .invokevirtual 255, 3, [214, 2, 1, 11, 1474], 0, []),
  (26, .iload_n 2, 1, [], 0, []),
  (27, .if_icmp .le 9, 3, [22], 0, []),
  (30, .aload_n 0, 1, [], 0, []),
  (31, .iload_n 3, 1, [], 0, []),
  (32, .invokevirtual 255, 3, [214, 2, 1, 11, 1474], 0, []),
  (35, .istore_n 2, 1, [], 0, []),
  (36, .iinc 3 1, 3, [], 1, []),
  (39, .goto (-35), 3, [4], 0, []),
  (42, .iload_n 2, 1, [], 0, []),
  (43, .ireturn, 1, [], 0, [])]
def kM_joint : List am_E := [(0, .aload_n 0, 1, [], 0, []),
  (1, .iconst 0, 1, [], 0, []),
  (2, .putfield 38, 3, [10, 2, 1067], 0, []),
  (5, .aload_n 0, 1, [], 0, []),
  (6, .iload_n 1, 1, [], 0, []),
  (7, .iload_n 2, 1, [], 0, []),
  (8, .invokevirtual 207, 3, [149, 3, 1, 11, 1319], 0, []),
  (11, .ifCond .eq 12, 3, [13], 0, []),
  (14, .iload_n 3, 1, [], 0, []),
  (15, .iconst 0, 1, [], 0, []),
  (16, .iconst 2, 1, [], 2, []),
  (17, .invokestatic 98, 3, [134, 3, 1, 0, 1224], 0, []),
  (20, .ifCond .ne 5, 3, [15], 0, []),
  (23, .iconst (-1), 1, [], (-1), []),
  (24, .ireturn, 1, [], 0, []),
  (25, .aload_n 0, 1, [], 0, []),
  (26, .iload_n 1, 1, [], 0, []),
  (27, .iload_n 2, 1, [], 0, []),
  (28, .invokevirtual 213, 3, [167, 3, 1, 11, 1275], 0, []),
  (31, .ifCond .eq 6, 3, [22], 0, []),
  (34, .bipush (-2), 2, [], (-2), []),
  (36, .ireturn, 1, [], 0, []),
  (37, .aload_n 0, 1, [], 0, []),
  (38, .iload_n 1, 1, [], 0, []),
  (39, .invokevirtual 258, 3, [215, 2, 1, 11, 1470], 0, []),
  (42, .aload_n 0, 1, [], 0, []),
  (43, .iload_n 2, 1, [], 0, []),
  (44, .invokevirtual 258, 3, [215, 2, 1, 11, 1470], 0, []),
  (47, .if_icmp .le 11, 3, [33], 0, []),
  (50, .aload_n 0, 1, [], 0, []),
  (51, .iload_n 1, 1, [], 0, []),
  (52, .invokevirtual 258, 3, [215, 2, 1, 11, 1470], 0, []),
  (55, .goto 8, 3, [36], 0, []),
  (58, .aload_n 0, 1, [], 0, []),
  (59, .iload_n 2, 1, [], 0, []),
  (60, .invokevirtual 258, 3, [215, 2, 1, 11, 1470], 0, []),
  (63, .istore 4, 2, [], 0, []),
  (65, .iconst (-1), 1, [], (-1), []),
  (66, .istore 5, 2, [], 0, []),
  (68, .iconst (-1), 1, [], (-1), []),
  (69, .istore 6, 2, [], 0, []),
  (71, .iconst (-1), 1, [], (-1), []),
  (72, .istore 7, 2, [], 0, []),
  (74, .iconst 0, 1, [], 0, []),
  (75, .istore 8, 2, [], 0, []),
  (77, .iload 8, 2, [], 0, []),
  (79, .aload_n 0, 1, [], 0, []),
  (80, .getfield 95, 3, [10, 15, 1080], 0, []),
  (83, .if_icmp .ge 110, 3, [99], 0, []),
  (86, .iconst 0, 1, [], 0, []),
  (87, .istore 9, 2, [], 0, []),
  (89, .iload 9, 2, [], 0, []),
  (91, .aload_n 0, 1, [], 0, []),
  (92, .getfield 95, 3, [10, 15, 1080], 0, []),
  (95, .if_icmp .ge 92, 3, [97], 0, []),
  (98, .aload_n 0, 1, [], 0, []),
  (99, .iload 8, 2, [], 0, []),
  (101, .iload_n 1, 1, [], 0, []),
  (102, .invokevirtual 213, 3, [167, 3, 1, 11, 1275], 0, []),
  (105, .ifCond .eq 76, 3, [95], 0, []),
  (108, .aload_n 0, 1, [], 0, []),
  (109, .iload 9, 2, [], 0, []),
  (111, .iload_n 2, 1, [], 0, []),
  (112, .invokevirtual 213, 3, [167, 3, 1, 11, 1275], 0, []),
  (115, .ifCond .ne 6, 3, [66], 0, []),
  (118, .goto 63, 3, [95], 0, []),
  (121, .aload_n 0, 1, [], 0, []),
  (122, .iload 8, 2, [], 0, []),
  (124, .invokevirtual 255, 3, [214, 2, 1, 11, 1474], 0, []),
  (127, .iconst 1, 1, [], 1, []),
  (128, .iadd, 1, [], 0, []),
  (129, .aload_n 0, 1, [], 0, []),
  (130, .iload 9, 2, [], 0, []),
  (132, .invokevirtual 255, 3, [214, 2, 1, 11, 1474], 0, []),
  (135, .iadd, 1, [], 0, []),
  (136, .istore 10, 2, [], 0, []),
  (138, .iload 10, 2, [], 0, []),
  (140, .iload 4, 2, [], 0, []),
  (142, .if_icmp .le 8, 3, [81], 0, []),
  (145, .iload 10, 2, [], 0, []),
  (147, .goto 5, 3, [82], 0, []),
  (150, .iload 4, 2, [], 0, []),
  (152, .istore 10, 2, [], 0, []),
  (154, .iload 5, 2, [], 0, []),
  (156, .ifCond .lt 13, 3, [89], 0, []),
  (159, .iload 10, 2, [], 0, []),
  (161, .iload 5, 2, [], 0, []),
  (163, .if_icmp .lt 6, 3, [89], 0, []),
  (166, .goto 15, 3, [95], 0, []),
  (169, .iload 10, 2, [], 0, []),
  (171, .istore 5, 2, [], 0, []),
  (173, .iload 8, 2, [], 0, []),
  (175, .istore 6, 2, [], 0, []),
  (177, .iload 9, 2, [], 0, []),
  (179, .istore 7, 2, [], 0, []),
  (181, .iinc 9 1, 3, [], 1, []),
  (184, .goto (-95), 3, [51], 0, []),
  (187, .iinc 8 1, 3, [], 1, []),
  (190, .goto (-113), 3, [45], 0, []),
  (193, .iload_n 3, 1, [], 0, []),
  (194, .ifCond .ne 8, 3, [103], 0, []),
  (197, .iload 5, 2, [], 0, []),
  (199, .goto 15, 3, [109], 0, []),
  (202, .iload_n 3, 1, [], 0, []),
  (203, .iconst 1, 1, [], 1, []),
  (204, .if_icmp .ne 8, 3, [108], 0, []),
  (207, .iload 6, 2, [], 0, []),
  (209, .goto 5, 3, [109], 0, []),
  (212, .iload 7, 2, [], 0, []),
  (214, .ireturn, 1, [], 0, [])]
def kM_tightest : List am_E := [(0, .aload_n 0, 1, [], 0, []),
  (1, .iconst 0, 1, [], 0, []),
  (2, .putfield 38, 3, [10, 2, 1067], 0, []),
  (5, .aload_n 0, 1, [], 0, []),
  (6, .iload_n 1, 1, [], 0, []),
  (7, .invokevirtual 102, 3, [148, 2, 1, 11, 1303], 0, []),
  (10, .ifCond .ne 5, 3, [9], 0, []),
  (13, .iconst (-1), 1, [], (-1), []),
  (14, .ireturn, 1, [], 0, []),
  (15, .bipush (-2), 2, [], (-2), []),
  (17, .istore_n 2, 1, [], 0, []),
  (18, .iconst 0, 1, [], 0, []),
  (19, .istore_n 3, 1, [], 0, []),
  (20, .iload_n 3, 1, [], 0, []),
  (21, .aload_n 0, 1, [], 0, []),
  (22, .getfield 95, 3, [10, 15, 1080], 0, []),
  (25, .if_icmp .ge 54, 3, [44], 0, []),
  (28, .aload_n 0, 1, [], 0, []),
  (29, .iload_n 3, 1, [], 0, []),
  (30, .invokevirtual 183, 3, [150, 2, 1, 11, 1168], 0, []),
  (33, .ifCond .lt 40, 3, [42], 0, []),
  (36, .aload_n 0, 1, [], 0, []),
  (37, .iload_n 3, 1, [], 0, []),
  (38, .iload_n 1, 1, [], 0, []),
  (39, .invokevirtual 213, 3, [167, 3, 1, 11, 1275], 0, []),
  (42, .ifCond .ne 6, 3, [27], 0, []),
  (45, .goto 28, 3, [42], 0, []),
  (48, .iload_n 2, 1, [], 0, []),
  (49, .ifCond .lt 22, 3, [40], 0, []),
  (52, .aload_n 0, 1, [], 0, []),
  (53, .bipush 72, 2, [], 72, []),
  (55, .iload_n 3, 1, [], 0, []),
  (56, .iadd, 1, [], 0, []),
  (57, .invokevirtual 105, 3, [141, 2, 1, 11, 1172], 0, []),
  (60, .aload_n 0, 1, [], 0, []),
  (61, .bipush 72, 2, [], 72, []),
  (63, .iload_n 2, 1, [], 0, []),
  (64, .iadd, 1, [], 0, []),
  (65, .invokevirtual 105, 3, [141, 2, 1, 11, 1172], 0, []),
  (68, .if_icmp .ge 5, 3, [42], 0, []),
  (71, .iload_n 3, 1, [], 0, []),
  (72, .istore_n 2, 1, [], 0, []),
  (73, .iinc 3 1, 3, [], 1, []),
  (76, .goto (-56), 3, [13], 0, []),
  (79, .iload_n 2, 1, [], 0, []),
  (80, .ireturn, 1, [], 0, [])]
def kM_heavyOf : List am_E := [(0, .iconst 0, 1, [], 0, []),
  (1, .istore_n 2, 1, [], 0, []),
  (2, .iload_n 2, 1, [], 0, []),
  (3, .aload_n 0, 1, [], 0, []),
  (4, .getfield 95, 3, [10, 15, 1080], 0, []),
  (7, .if_icmp .ge 35, 3, [24], 0, []),
  (10, .aload_n 0, 1, [], 0, []),
  (11, .iload_n 2, 1, [], 0, []),
  (12, .invokevirtual 183, 3, [150, 2, 1, 11, 1168], 0, []),
  (15, .iload_n 1, 1, [], 0, []),
  (16, .if_icmp .ne 20, 3, [22], 0, []),
  (19, .iconst 2, 1, [], 2, []),
  (20, .aload_n 0, 1, [], 0, []),
  (21, .iload_n 2, 1, [], 0, []),
  (22, .invokevirtual 216, 3, [179, 2, 1, 11, 1283], 0, []),
  (25, .imul, 1, [], 0, []),
  (26, .aload_n 0, 1, [], 0, []),
  (27, .iload_n 1, 1, [], 0, []),
  (28, .invokevirtual 216, 3, [179, 2, 1, 11, 1283], 0, []),
  (31, .if_icmp .le 5, 3, [22], 0, []),
  (34, .iload_n 2, 1, [], 0, []),
  (35, .ireturn, 1, [], 0, []),
  (36, .iinc 2 1, 3, [], 1, []),
  (39, .goto (-37), 3, [2], 0, []),
  (42, .bipush (-2), 2, [], (-2), []),
  (44, .ireturn, 1, [], 0, [])]
def kM_heavy : List am_E := [(0, .aload_n 0, 1, [], 0, []),
  (1, .iconst 0, 1, [], 0, []),
  (2, .putfield 38, 3, [10, 2, 1067], 0, []),
  (5, .aload_n 0, 1, [], 0, []),
  (6, .iload_n 1, 1, [], 0, []),
  (7, .invokevirtual 102, 3, [148, 2, 1, 11, 1303], 0, []),
  (10, .ifCond .eq 11, 3, [11], 0, []),
  (13, .aload_n 0, 1, [], 0, []),
  (14, .iload_n 1, 1, [], 0, []),
  (15, .invokevirtual 222, 3, [218, 2, 1, 11, 1279], 0, []),
  (18, .goto 4, 3, [12], 0, []),
  (21, .iconst (-1), 1, [], (-1), []),
  (22, .ireturn, 1, [], 0, [])]
def kM_potentialNow : List am_E := [(0, .iconst 0, 1, [], 0, []),
  (1, .istore_n 1, 1, [], 0, []),
  (2, .iconst 0, 1, [], 0, []),
  (3, .istore_n 2, 1, [], 0, []),
  (4, .iload_n 2, 1, [], 0, []),
  (5, .aload_n 0, 1, [], 0, []),
  (6, .getfield 95, 3, [10, 15, 1080], 0, []),
  (9, .if_icmp .ge 38, 3, [27], 0, []),
  (12, .iload_n 1, 1, [], 0, []),
  (13, .aload_n 0, 1, [], 0, []),
  (14, .iload_n 2, 1, [], 0, []),
  (15, .invokevirtual 222, 3, [218, 2, 1, 11, 1279], 0, []),
  (18, .ifCond .lt 20, 3, [22], 0, []),
  (21, .aload_n 0, 1, [], 0, []),
  (22, .iload_n 2, 1, [], 0, []),
  (23, .invokevirtual 186, 3, [151, 2, 1, 11, 1263], 0, []),
  (26, .aload_n 0, 1, [], 0, []),
  (27, .iload_n 2, 1, [], 0, []),
  (28, .invokevirtual 222, 3, [218, 2, 1, 11, 1279], 0, []),
  (31, .if_icmp .eq 7, 3, [22], 0, []),
  (34, .iconst 1, 1, [], 1, []),
  (35, .goto 4, 3, [23], 0, []),
  (38, .iconst 0, 1, [], 0, []),
  (39, .iadd, 1, [], 0, []),
  (40, .istore_n 1, 1, [], 0, []),
  (41, .iinc 2 1, 3, [], 1, []),
  (44, .goto (-40), 3, [4], 0, []),
  (47, .iload_n 1, 1, [], 0, []),
  (48, .ireturn, 1, [], 0, [])]
def kM_potential : List am_E := [(0, .aload_n 0, 1, [], 0, []),
  (1, .iconst 0, 1, [], 0, []),
  (2, .putfield 38, 3, [10, 2, 1067], 0, []),
  (5, .aload_n 0, 1, [], 0, []),
  (6, .invokevirtual 261, 3, [220, 1, 1, 11, 1490], 0, []),
  (9, .ireturn, 1, [], 0, [])]
def kM_would : List am_E := [(0, .aload_n 0, 1, [], 0, []),
  (1, .iconst 0, 1, [], 0, []),
  (2, .putfield 38, 3, [10, 2, 1067], 0, []),
  (5, .aload_n 0, 1, [], 0, []),
  (6, .iload_n 1, 1, [], 0, []),
  (7, .invokevirtual 102, 3, [148, 2, 1, 11, 1303], 0, []),
  (10, .ifCond .eq 11, 3, [11], 0, []),
  (13, .aload_n 0, 1, [], 0, []),
  (14, .iload_n 1, 1, [], 0, []),
  (15, .invokevirtual 189, 3, [168, 2, 1, 11, 1259], 0, []),
  (18, .goto 4, 3, [12], 0, []),
  (21, .iconst (-1), 1, [], (-1), []),
  (22, .ireturn, 1, [], 0, [])]
def kM_widest : List am_E := [(0, .aload_n 0, 1, [], 0, []),
  (1, .iconst 0, 1, [], 0, []),
  (2, .putfield 38, 3, [10, 2, 1067], 0, []),
  (5, .aload_n 0, 1, [], 0, []),
  (6, .iload_n 1, 1, [], 0, []),
  (7, .invokevirtual 102, 3, [148, 2, 1, 11, 1303], 0, []),
  (10, .ifCond .eq 12, 3, [12], 0, []),
  (13, .iload_n 2, 1, [], 0, []),
  (14, .iconst 0, 1, [], 0, []),
  (15, .iconst 2, 1, [], 2, []),
  (16, .invokestatic 98, 3, [134, 3, 1, 0, 1224], 0, []),
  (19, .ifCond .ne 5, 3, [14], 0, []),
  (22, .iconst (-1), 1, [], (-1), []),
  (23, .ireturn, 1, [], 0, []),
  (24, .iconst 0, 1, [], 0, []),
  (25, .istore_n 3, 1, [], 0, []),
  (26, .iload_n 1, 1, [], 0, []),
  (27, .istore 4, 2, [], 0, []),
  (29, .iload_n 1, 1, [], 0, []),
  (30, .istore 5, 2, [], 0, []),
  (32, .iconst 0, 1, [], 0, []),
  (33, .istore 6, 2, [], 0, []),
  (35, .iload 6, 2, [], 0, []),
  (37, .aload_n 0, 1, [], 0, []),
  (38, .getfield 95, 3, [10, 15, 1080], 0, []),
  (41, .if_icmp .ge 82, 3, [64], 0, []),
  (44, .iload 6, 2, [], 0, []),
  (46, .iconst 1, 1, [], 1, []),
  (47, .iadd, 1, [], 0, []),
  (48, .istore 7, 2, [], 0, []),
  (50, .iload 7, 2, [], 0, []),
  (52, .aload_n 0, 1, [], 0, []),
  (53, .getfield 95, 3, [10, 15, 1080], 0, []),
  (56, .if_icmp .ge 61, 3, [62], 0, []),
  (59, .aload_n 0, 1, [], 0, []),
  (60, .iload 6, 2, [], 0, []),
  (62, .iload_n 1, 1, [], 0, []),
  (63, .invokevirtual 213, 3, [167, 3, 1, 11, 1275], 0, []),
  (66, .ifCond .eq 45, 3, [60], 0, []),
  (69, .aload_n 0, 1, [], 0, []),
  (70, .iload 7, 2, [], 0, []),
  (72, .iload_n 1, 1, [], 0, []),
  (73, .invokevirtual 213, 3, [167, 3, 1, 11, 1275], 0, []),
  (76, .ifCond .eq 35, 3, [60], 0, []),
  (79, .aload_n 0, 1, [], 0, []),
  (80, .iload 6, 2, [], 0, []),
  (82, .iload 7, 2, [], 0, []),
  (84, .invokevirtual 246, 3, [206, 3, 1, 11, 1434], 0, []),
  (87, .iload_n 3, 1, [], 0, []),
  (88, .if_icmp .gt 6, 3, [51], 0, []),
  (91, .goto 20, 3, [60], 0, []),
  (94, .aload_n 0, 1, [], 0, []),
  (95, .iload 6, 2, [], 0, []),
  (97, .iload 7, 2, [], 0, []),
  (99, .invokevirtual 246, 3, [206, 3, 1, 11, 1434], 0, []),
  (102, .istore_n 3, 1, [], 0, []),
  (103, .iload 6, 2, [], 0, []),
  (105, .istore 4, 2, [], 0, []),
  (107, .iload 7, 2, [], 0, []),
  (109, .istore 5, 2, [], 0, []),
  (111, .iinc 7 1, 3, [], 1, []),
  (114, .goto (-64), 3, [30], 0, []),
  (117, .iinc 6 1, 3, [], 1, []),
  (120, .goto (-85), 3, [22], 0, []),
  (123, .iload_n 2, 1, [], 0, []),
  (124, .ifCond .ne 7, 3, [68], 0, []),
  (127, .iload_n 3, 1, [], 0, []),
  (128, .goto 15, 3, [74], 0, []),
  (131, .iload_n 2, 1, [], 0, []),
  (132, .iconst 1, 1, [], 1, []),
  (133, .if_icmp .ne 8, 3, [73], 0, []),
  (136, .iload 4, 2, [], 0, []),
  (138, .goto 5, 3, [74], 0, []),
  (141, .iload 5, 2, [], 0, []),
  (143, .ireturn, 1, [], 0, [])]
def kM_greatestWithout : List am_E := [(0, .aload_n 0, 1, [], 0, []),
  (1, .aload_n 0, 1, [], 0, []),
  (2, .iload_n 1, 1, [], 0, []),
  (3, .invokevirtual 152, 3, [166, 2, 1, 11, 1239], 0, []),
  (6, .invokevirtual 216, 3, [179, 2, 1, 11, 1283], 0, []),
  (9, .aload_n 0, 1, [], 0, []),
  (10, .iload_n 1, 1, [], 0, []),
  (11, .invokevirtual 216, 3, [179, 2, 1, 11, 1283], 0, []),
  (14, .isub, 1, [], 0, []),
  (15, .istore_n 2, 1, [], 0, []),
  (16, .iconst 0, 1, [], 0, []),
  (17, .istore_n 3, 1, [], 0, []),
  (18, .iload_n 3, 1, [], 0, []),
  (19, .aload_n 0, 1, [], 0, []),
  (20, .getfield 95, 3, [10, 15, 1080], 0, []),
  (23, .if_icmp .ge 33, 3, [32], 0, []),
  (26, .aload_n 0, 1, [], 0, []),
  (27, .iload_n 3, 1, [], 0, []),
  (28, .invokevirtual 183, 3, [150, 2, 1, 11, 1168], 0, []),
  (31, .iload_n 1, 1, [], 0, []),
  (32, .if_icmp .ne 18, 3, [30], 0, []),
  (35, .aload_n 0, 1, [], 0, []),
  (36, .iload_n 3, 1, [], 0, []),
  (37, .invokevirtual 216, 3, [179, 2, 1, 11, 1283], 0, []),
  (40, .iload_n 2, 1, [], 0, []),
  (41, .if_icmp .le 9, 3, [30], 0, []),
  (44, .aload_n 0, 1, [], 0, []),
  (45, .iload_n 3, 1, [], 0, []),
  (46, .invokevirtual 216, 3, [179, 2, 1, 11, 1283], 0, []),
  (49, .istore_n 2, 1, [], 0, []),
  (50, .iinc 3 1, 3, [], 1, []),
  (53, .goto (-35), 3, [12], 0, []),
  (56, .iload_n 2, 1, [], 0, []),
  (57, .ireturn, 1, [], 0, [])]
def kM_midst : List am_E := [(0, .aload_n 0, 1, [], 0, []),
  (1, .iconst 0, 1, [], 0, []),
  (2, .putfield 38, 3, [10, 2, 1067], 0, []),
  (5, .aload_n 0, 1, [], 0, []),
  (6, .iload_n 1, 1, [], 0, []),
  (7, .invokevirtual 102, 3, [148, 2, 1, 11, 1303], 0, []),
  (10, .ifCond .ne 5, 3, [9], 0, []),
  (13, .iconst (-1), 1, [], (-1), []),
  (14, .ireturn, 1, [], 0, []),
  (15, .iconst (-1), 1, [], (-1), []),
  (16, .istore_n 2, 1, [], 0, []),
  (17, .iconst 0, 1, [], 0, []),
  (18, .istore_n 3, 1, [], 0, []),
  (19, .iload_n 3, 1, [], 0, []),
  (20, .aload_n 0, 1, [], 0, []),
  (21, .getfield 95, 3, [10, 15, 1080], 0, []),
  (24, .if_icmp .ge 37, 3, [35], 0, []),
  (27, .aload_n 0, 1, [], 0, []),
  (28, .iload_n 3, 1, [], 0, []),
  (29, .iload_n 1, 1, [], 0, []),
  (30, .invokevirtual 213, 3, [167, 3, 1, 11, 1275], 0, []),
  (33, .ifCond .eq 22, 3, [33], 0, []),
  (36, .iload_n 2, 1, [], 0, []),
  (37, .ifCond .lt 16, 3, [31], 0, []),
  (40, .aload_n 0, 1, [], 0, []),
  (41, .iload_n 3, 1, [], 0, []),
  (42, .invokevirtual 264, 3, [224, 2, 1, 11, 1506], 0, []),
  (45, .aload_n 0, 1, [], 0, []),
  (46, .iload_n 2, 1, [], 0, []),
  (47, .invokevirtual 264, 3, [224, 2, 1, 11, 1506], 0, []),
  (50, .if_icmp .ge 5, 3, [33], 0, []),
  (53, .iload_n 3, 1, [], 0, []),
  (54, .istore_n 2, 1, [], 0, []),
  (55, .iinc 3 1, 3, [], 1, []),
  (58, .goto (-39), 3, [13], 0, []),
  (61, .iload_n 2, 1, [], 0, []),
  (62, .ireturn, 1, [], 0, [])]
def kM_partsOf : List am_E := [(0, .iconst 0, 1, [], 0, []),
  (1, .istore_n 2, 1, [], 0, []),
  (2, .iconst 0, 1, [], 0, []),
  (3, .istore_n 3, 1, [], 0, []),
  (4, .iload_n 3, 1, [], 0, []),
  (5, .aload_n 0, 1, [], 0, []),
  (6, .getfield 95, 3, [10, 15, 1080], 0, []),
  (9, .if_icmp .ge 37, 3, [27], 0, []),
  (12, .iload_n 2, 1, [], 0, []),
  (13, .aload_n 0, 1, [], 0, []),
  (14, .iload_n 3, 1, [], 0, []),
  (15, .invokevirtual 183, 3, [150, 2, 1, 11, 1168], 0, []),
  (18, .ifCond .lt 15, 3, [20], 0, []),
  (21, .aload_n 0, 1, [], 0, []),
  (22, .bipush 48, 2, [], 48, []),
  (24, .iload_n 3, 1, [], 0, []),
  (25, .iadd, 1, [], 0, []),
  (26, .invokevirtual 105, 3, [141, 2, 1, 11, 1172], 0, []),
  (29, .iload_n 1, 1, [], 0, []),
  (30, .if_icmp .le 7, 3, [22], 0, []),
  (33, .iconst 1, 1, [], 1, []),
  (34, .goto 4, 3, [23], 0, []),
  (37, .iconst 0, 1, [], 0, []),
  (38, .iadd, 1, [], 0, []),
  (39, .istore_n 2, 1, [], 0, []),
  (40, .iinc 3 1, 3, [], 1, []),
  (43, .goto (-39), 3, [4], 0, []),
  (46, .iload_n 2, 1, [], 0, []),
  (47, .ireturn, 1, [], 0, [])]
def kM_parts : List am_E := [(0, .aload_n 0, 1, [], 0, []),
  (1, .iconst 0, 1, [], 0, []),
  (2, .putfield 38, 3, [10, 2, 1067], 0, []),
  (5, .iload_n 1, 1, [], 0, []),
  (6, .iconst 0, 1, [], 0, []),
  (7, .sipush 9999, 3, [], 9999, []),
  (10, .invokestatic 98, 3, [134, 3, 1, 0, 1224], 0, []),
  (13, .ifCond .eq 11, 3, [12], 0, []),
  (16, .aload_n 0, 1, [], 0, []),
  (17, .iload_n 1, 1, [], 0, []),
  (18, .invokevirtual 267, 3, [226, 2, 1, 11, 1164], 0, []),
  (21, .goto 4, 3, [13], 0, []),
  (24, .iconst (-1), 1, [], (-1), []),
  (25, .ireturn, 1, [], 0, [])]
def kM_dearest : List am_E := [(0, .aload_n 0, 1, [], 0, []),
  (1, .iconst 0, 1, [], 0, []),
  (2, .putfield 38, 3, [10, 2, 1067], 0, []),
  (5, .aload_n 0, 1, [], 0, []),
  (6, .iload_n 1, 1, [], 0, []),
  (7, .invokevirtual 102, 3, [148, 2, 1, 11, 1303], 0, []),
  (10, .ifCond .ne 5, 3, [9], 0, []),
  (13, .iconst (-1), 1, [], (-1), []),
  (14, .ireturn, 1, [], 0, []),
  (15, .bipush (-2), 2, [], (-2), []),
  (17, .istore_n 2, 1, [], 0, []),
  (18, .iconst 0, 1, [], 0, []),
  (19, .istore_n 3, 1, [], 0, []),
  (20, .iload_n 3, 1, [], 0, []),
  (21, .aload_n 0, 1, [], 0, []),
  (22, .getfield 95, 3, [10, 15, 1080], 0, []),
  (25, .if_icmp .ge 54, 3, [44], 0, []),
  (28, .aload_n 0, 1, [], 0, []),
  (29, .iload_n 3, 1, [], 0, []),
  (30, .invokevirtual 183, 3, [150, 2, 1, 11, 1168], 0, []),
  (33, .ifCond .lt 40, 3, [42], 0, []),
  (36, .aload_n 0, 1, [], 0, []),
  (37, .iload_n 3, 1, [], 0, []),
  (38, .iload_n 1, 1, [], 0, []),
  (39, .invokevirtual 213, 3, [167, 3, 1, 11, 1275], 0, []),
  (42, .ifCond .ne 6, 3, [27], 0, []),
  (45, .goto 28, 3, [42], 0, []),
  (48, .iload_n 2, 1, [], 0, []),
  (49, .ifCond .lt 22, 3, [40], 0, []),
  (52, .aload_n 0, 1, [], 0, []),
  (53, .bipush 48, 2, [], 48, []),
  (55, .iload_n 3, 1, [], 0, []),
  (56, .iadd, 1, [], 0, []),
  (57, .invokevirtual 105, 3, [141, 2, 1, 11, 1172], 0, []),
  (60, .aload_n 0, 1, [], 0, []),
  (61, .bipush 48, 2, [], 48, []),
  (63, .iload_n 2, 1, [], 0, []),
  (64, .iadd, 1, [], 0, []),
  (65, .invokevirtual 105, 3, [141, 2, 1, 11, 1172], 0, []),
  (68, .if_icmp .le 5, 3, [42], 0, []),
  (71, .iload_n 3, 1, [], 0, []),
  (72, .istore_n 2, 1, [], 0, []),
  (73, .iinc 3 1, 3, [], 1, []),
  (76, .goto (-56), 3, [13], 0, []),
  (79, .iload_n 2, 1, [], 0, []),
  (80, .ireturn, 1, [], 0, [])]
def kM_leastFor : List am_E := [(0, .aload_n 0, 1, [], 0, []),
  (1, .iconst 0, 1, [], 0, []),
  (2, .putfield 38, 3, [10, 2, 1067], 0, []),
  (5, .iload_n 1, 1, [], 0, []),
  (6, .iconst 1, 1, [], 1, []),
  (7, .bipush 24, 2, [], 24, []),
  (9, .invokestatic 98, 3, [134, 3, 1, 0, 1224], 0, []),
  (12, .ifCond .ne 5, 3, [10], 0, []),
  (15, .iconst (-1), 1, [], (-1), []),
  (16, .ireturn, 1, [], 0, []),
  (17, .bipush (-2), 2, [], (-2), []),
  (19, .istore_n 2, 1, [], 0, []),
  (20, .iconst (-1), 1, [], (-1), []),
  (21, .istore_n 3, 1, [], 0, []),
  (22, .iload_n 3, 1, [], 0, []),
  (23, .aload_n 0, 1, [], 0, []),
  (24, .getfield 95, 3, [10, 15, 1080], 0, []),
  (27, .if_icmp .ge 55, 3, [44], 0, []),
  (30, .iload_n 3, 1, [], 0, []),
  (31, .ifCond .ge 7, 3, [22], 0, []),
  (34, .iconst 0, 1, [], 0, []),
  (35, .goto 11, 3, [27], 0, []),
  (38, .aload_n 0, 1, [], 0, []),
  (39, .bipush 48, 2, [], 48, []),
  (41, .iload_n 3, 1, [], 0, []),
  (42, .iadd, 1, [], 0, []),
  (43, .invokevirtual 105, 3, [141, 2, 1, 11, 1172], 0, []),
  (46, .istore 4, 2, [], 0, []),
  (48, .iload 4, 2, [], 0, []),
  (50, .ifCond .lt 26, 3, [42], 0, []),
  (53, .aload_n 0, 1, [], 0, []),
  (54, .iload 4, 2, [], 0, []),
  (56, .invokevirtual 267, 3, [226, 2, 1, 11, 1164], 0, []),
  (59, .iload_n 1, 1, [], 0, []),
  (60, .if_icmp .gt 16, 3, [42], 0, []),
  (63, .iload_n 2, 1, [], 0, []),
  (64, .ifCond .lt 9, 3, [40], 0, []),
  (67, .iload 4, 2, [], 0, []),
  (69, .iload_n 2, 1, [], 0, []),
  (70, .if_icmp .ge 6, 3, [42], 0, []),
  (73, .iload 4, 2, [], 0, []),
  (75, .istore_n 2, 1, [], 0, []),
  (76, .iinc 3 1, 3, [], 1, []),
  (79, .goto (-57), 3, [14], 0, []),
  (82, .iload_n 2, 1, [], 0, []),
  (83, .ireturn, 1, [], 0, [])]
def kM_draw : List am_E := [(0, .aload_n 0, 1, [], 0, []),
  (1, .aload_n 0, 1, [], 0, []),
  (2, .getfield 270, 3, [10, 25, 1090], 0, []),
  (5, .ldc2_w 274, 3, [1534], 1103515245, []),
  (8, .lmul, 1, [], 0, []),
  (9, .ldc2_w 276, 3, [1535], 12345, []),
  (12, .ladd, 1, [], 0, []),
  (13, .ldc2_w 278, 3, [1536], 2147483647, []),
  (16, .land, 1, [], 0, []),
  (17, .putfield 270, 3, [10, 25, 1090], 0, []),
  (20, .aload_n 0, 1, [], 0, []),
  (21, .getfield 270, 3, [10, 25, 1090], 0, []),
  (24, .ldc2_w 280, 3, [1537], 65536, []),
  (27, .ldiv, 1, [], 0, []),
  (28, .iload_n 1, 1, [], 0, []),
  (29, .i2l, 1, [], 0, []),
  (30, .lrem, 1, [], 0, []),
  (31, .l2i, 1, [], 0, []),
  (32, .ireturn, 1, [], 0, [])]
def kM_byChance : List am_E := [(0, .aload_n 0, 1, [], 0, []),
  (1, .iconst 4, 1, [], 4, []),
  (2, .invokevirtual 282, 3, [230, 2, 1, 11, 1530], 0, []),
  (5, .istore_n 1, 1, [], 0, []),
  (6, .aload_n 0, 1, [], 0, []),
  (7, .aload_n 0, 1, [], 0, []),
  (8, .getfield 95, 3, [10, 15, 1080], 0, []),
  (11, .invokevirtual 282, 3, [230, 2, 1, 11, 1530], 0, []),
  (14, .istore_n 2, 1, [], 0, []),
  (15, .aload_n 0, 1, [], 0, []),
  (16, .aload_n 0, 1, [], 0, []),
  (17, .getfield 95, 3, [10, 15, 1080], 0, []),
  (20, .invokevirtual 282, 3, [230, 2, 1, 11, 1530], 0, []),
  (23, .istore_n 3, 1, [], 0, []),
  (24, .iload_n 1, 1, [], 0, []),
  (25, .ifCond .ne 12, 3, [21], 0, []),
  (28, .aload_n 0, 1, [], 0, []),
  (29, .iload_n 2, 1, [], 0, []),
  (30, .invokevirtual 165, 3, [169, 2, 1, 11, 1255], 0, []),
  (33, .pop, 1, [], 0, []),
  (34, .goto 89, 3, [71], 0, []),
  (37, .iload_n 1, 1, [], 0, []),
  (38, .iconst 1, 1, [], 1, []),
  (39, .if_icmp .ne 12, 3, [29], 0, []),
  (42, .aload_n 0, 1, [], 0, []),
  (43, .iload_n 2, 1, [], 0, []),
  (44, .invokevirtual 162, 3, [170, 2, 1, 11, 1251], 0, []),
  (47, .pop, 1, [], 0, []),
  (48, .goto 75, 3, [71], 0, []),
  (51, .iload_n 1, 1, [], 0, []),
  (52, .iconst 2, 1, [], 2, []),
  (53, .if_icmp .ne 30, 3, [48], 0, []),
  (56, .aload_n 0, 1, [], 0, []),
  (57, .iload_n 2, 1, [], 0, []),
  (58, .iload_n 3, 1, [], 0, []),
  (59, .invokevirtual 213, 3, [167, 3, 1, 11, 1275], 0, []),
  (62, .ifCond .ne 61, 3, [71], 0, []),
  (65, .aload_n 0, 1, [], 0, []),
  (66, .iload_n 2, 1, [], 0, []),
  (67, .iload_n 3, 1, [], 0, []),
  (68, .aload_n 0, 1, [], 0, []),
  (69, .bipush 100, 2, [], 100, []),
  (71, .invokevirtual 282, 3, [230, 2, 1, 11, 1530], 0, []),
  (74, .iconst 1, 1, [], 1, []),
  (75, .iadd, 1, [], 0, []),
  (76, .iconst 1, 1, [], 1, []),
  (77, .invokevirtual 158, 3, [171, 5, 0, 11, 1247], 0, []),
  (80, .goto 43, 3, [71], 0, []),
  (83, .iload_n 2, 1, [], 0, []),
  (84, .iload_n 3, 1, [], 0, []),
  (85, .if_icmp .eq 38, 3, [71], 0, []),
  (88, .aload_n 0, 1, [], 0, []),
  (89, .iload_n 2, 1, [], 0, []),
  (90, .iload_n 3, 1, [], 0, []),
  (91, .invokevirtual 213, 3, [167, 3, 1, 11, 1275], 0, []),
  (94, .ifCond .eq 29, 3, [71], 0, []),
  (97, .aload_n 0, 1, [], 0, []),
  (98, .iload_n 2, 1, [], 0, []),
  (99, .iload_n 3, 1, [], 0, []),
  (100, .invokevirtual 285, 3, [232, 3, 1, 11, 1538], 0, []),
  (103, .istore 4, 2, [], 0, []),
  (105, .aload_n 0, 1, [], 0, []),
  (106, .aload_n 0, 1, [], 0, []),
  (107, .iload 4, 2, [], 0, []),
  (109, .iload_n 2, 1, [], 0, []),
  (110, .invokevirtual 288, 3, [233, 3, 1, 11, 1542], 0, []),
  (113, .aload_n 0, 1, [], 0, []),
  (114, .iload 4, 2, [], 0, []),
  (116, .iload_n 2, 1, [], 0, []),
  (117, .invokevirtual 291, 3, [234, 3, 1, 11, 1546], 0, []),
  (120, .invokevirtual 198, 3, [173, 3, 0, 11, 1330], 0, []),
  (123, .return_, 1, [], 0, [])]
def kM_dearestFrom : List am_E := [(0, .aload_n 0, 1, [], 0, []),
  (1, .iload_n 1, 1, [], 0, []),
  (2, .iload_n 2, 1, [], 0, []),
  (3, .invokevirtual 219, 3, [186, 3, 1, 11, 1354], 0, []),
  (6, .istore_n 3, 1, [], 0, []),
  (7, .iconst (-1), 1, [], (-1), []),
  (8, .istore 4, 2, [], 0, []),
  (10, .iload_n 1, 1, [], 0, []),
  (11, .istore 5, 2, [], 0, []),
  (13, .iload 5, 2, [], 0, []),
  (15, .iload_n 3, 1, [], 0, []),
  (16, .if_icmp .eq 44, 3, [32], 0, []),
  (19, .iload 4, 2, [], 0, []),
  (21, .ifCond .lt 24, 3, [25], 0, []),
  (24, .aload_n 0, 1, [], 0, []),
  (25, .bipush 48, 2, [], 48, []),
  (27, .iload 5, 2, [], 0, []),
  (29, .iadd, 1, [], 0, []),
  (30, .invokevirtual 105, 3, [141, 2, 1, 11, 1172], 0, []),
  (33, .aload_n 0, 1, [], 0, []),
  (34, .bipush 48, 2, [], 48, []),
  (36, .iload 4, 2, [], 0, []),
  (38, .iadd, 1, [], 0, []),
  (39, .invokevirtual 105, 3, [141, 2, 1, 11, 1172], 0, []),
  (42, .if_icmp .le 7, 3, [27], 0, []),
  (45, .iload 5, 2, [], 0, []),
  (47, .istore 4, 2, [], 0, []),
  (49, .aload_n 0, 1, [], 0, []),
  (50, .iload 5, 2, [], 0, []),
  (52, .invokevirtual 183, 3, [150, 2, 1, 11, 1168], 0, []),
  (55, .istore 5, 2, [], 0, []),
  (57, .goto (-44), 3, [9], 0, []),
  (60, .iconst (-1), 1, [], (-1), []),
  (61, .istore 5, 2, [], 0, []),
  (63, .iload_n 2, 1, [], 0, []),
  (64, .istore 6, 2, [], 0, []),
  (66, .iload 6, 2, [], 0, []),
  (68, .iload_n 3, 1, [], 0, []),
  (69, .if_icmp .eq 44, 3, [59], 0, []),
  (72, .iload 5, 2, [], 0, []),
  (74, .ifCond .lt 24, 3, [52], 0, []),
  (77, .aload_n 0, 1, [], 0, []),
  (78, .bipush 48, 2, [], 48, []),
  (80, .iload 6, 2, [], 0, []),
  (82, .iadd, 1, [], 0, []),
  (83, .invokevirtual 105, 3, [141, 2, 1, 11, 1172], 0, []),
  (86, .aload_n 0, 1, [], 0, []),
  (87, .bipush 48, 2, [], 48, []),
  (89, .iload 5, 2, [], 0, []),
  (91, .iadd, 1, [], 0, []),
  (92, .invokevirtual 105, 3, [141, 2, 1, 11, 1172], 0, []),
  (95, .if_icmp .lt 7, 3, [54], 0, []),
  (98, .iload 6, 2, [], 0, []),
  (100, .istore 5, 2, [], 0, []),
  (102, .aload_n 0, 1, [], 0, []),
  (103, .iload 6, 2, [], 0, []),
  (105, .invokevirtual 183, 3, [150, 2, 1, 11, 1168], 0, []),
  (108, .istore 6, 2, [], 0, []),
  (110, .goto (-44), 3, [36], 0, []),
  (113, .iload 4, 2, [], 0, []),
  (115, .ifCond .lt 29, 3, [74], 0, []),
  (118, .iload 5, 2, [], 0, []),
  (120, .ifCond .lt 29, 3, [76], 0, []),
  (123, .aload_n 0, 1, [], 0, []),
  (124, .bipush 48, 2, [], 48, []),
  (126, .iload 5, 2, [], 0, []),
  (128, .iadd, 1, [], 0, []),
  (129, .invokevirtual 105, 3, [141, 2, 1, 11, 1172], 0, []),
  (132, .aload_n 0, 1, [], 0, []),
  (133, .bipush 48, 2, [], 48, []),
  (135, .iload 4, 2, [], 0, []),
  (137, .iadd, 1, [], 0, []),
  (138, .invokevirtual 105, 3, [141, 2, 1, 11, 1172], 0, []),
  (141, .if_icmp .le 8, 3, [76], 0, []),
  (144, .iload 5, 2, [], 0, []),
  (146, .goto 5, 3, [77], 0, []),
  (149, .iload 4, 2, [], 0, []),
  (151, .ireturn, 1, [], 0, [])]
def kM_nearer : List am_E := [(0, .aload_n 0, 1, [], 0, []),
  (1, .iload_n 1, 1, [], 0, []),
  (2, .iload_n 2, 1, [], 0, []),
  (3, .invokevirtual 204, 3, [180, 3, 1, 11, 1287], 0, []),
  (6, .ifCond .eq 7, 3, [7], 0, []),
  (9, .iload_n 1, 1, [], 0, []),
  (10, .goto 8, 3, [10], 0, []),
  (13, .aload_n 0, 1, [], 0, []),
  (14, .iload_n 1, 1, [], 0, []),
  (15, .invokevirtual 183, 3, [150, 2, 1, 11, 1168], 0, []),
  (18, .ireturn, 1, [], 0, [])]
def kM_further : List am_E := [(0, .aload_n 0, 1, [], 0, []),
  (1, .iload_n 1, 1, [], 0, []),
  (2, .iload_n 2, 1, [], 0, []),
  (3, .invokevirtual 204, 3, [180, 3, 1, 11, 1287], 0, []),
  (6, .ifCond .eq 11, 3, [9], 0, []),
  (9, .aload_n 0, 1, [], 0, []),
  (10, .iload_n 1, 1, [], 0, []),
  (11, .invokevirtual 183, 3, [150, 2, 1, 11, 1168], 0, []),
  (14, .goto 4, 3, [10], 0, []),
  (17, .iload_n 1, 1, [], 0, []),
  (18, .ireturn, 1, [], 0, [])]
def kM_trees : List am_E := [(0, .aload_n 0, 1, [], 0, []),
  (1, .sipush 9999, 3, [], 9999, []),
  (4, .invokevirtual 267, 3, [226, 2, 1, 11, 1164], 0, []),
  (7, .ireturn, 1, [], 0, [])]
def kM_chance : List am_E := [(0, .aload_n 0, 1, [], 0, []),
  (1, .iconst 0, 1, [], 0, []),
  (2, .putfield 38, 3, [10, 2, 1067], 0, []),
  (5, .iload_n 1, 1, [], 0, []),
  (6, .iconst (-1), 1, [], (-1), []),
  (7, .if_icmp .lt 29, 3, [19], 0, []),
  (10, .iload_n 2, 1, [], 0, []),
  (11, .iconst 1, 1, [], 1, []),
  (12, .bipush 60, 2, [], 60, []),
  (14, .invokestatic 98, 3, [134, 3, 1, 0, 1224], 0, []),
  (17, .ifCond .eq 19, 3, [19], 0, []),
  (20, .iload_n 3, 1, [], 0, []),
  (21, .iconst 0, 1, [], 0, []),
  (22, .iconst 3, 1, [], 3, []),
  (23, .invokestatic 98, 3, [134, 3, 1, 0, 1224], 0, []),
  (26, .ifCond .eq 10, 3, [19], 0, []),
  (29, .aload_n 0, 1, [], 0, []),
  (30, .getfield 95, 3, [10, 15, 1080], 0, []),
  (33, .ifCond .ne 5, 3, [21], 0, []),
  (36, .iconst (-1), 1, [], (-1), []),
  (37, .ireturn, 1, [], 0, []),
  (38, .aload_n 0, 1, [], 0, []),
  (39, .iload_n 1, 1, [], 0, []),
  (40, .ifCond .ge 11, 3, [28], 0, []),
  (43, .aload_n 0, 1, [], 0, []),
  (44, .getfield 121, 3, [10, 16, 1081], 0, []),
  (47, .i2l, 1, [], 0, []),
  (48, .goto 5, 3, [30], 0, []),
  (51, .iload_n 1, 1, [], 0, []),
  (52, .i2l, 1, [], 0, []),
  (53, .putfield 270, 3, [10, 25, 1090], 0, []),
  (56, .aload_n 0, 1, [], 0, []),
  (57, .iconst 0, 1, [], 0, []),
  (58, .iconst 1, 1, [], 1, []),
  (59, .invokevirtual 83, 3, [143, 3, 0, 11, 1057], 0, []),
  (62, .aload_n 0, 1, [], 0, []),
  (63, .iconst 1, 1, [], 1, []),
  (64, .putfield 77, 3, [10, 12, 1077], 0, []),
  (67, .iconst 0, 1, [], 0, []),
  (68, .istore 4, 2, [], 0, []),
  (70, .iload 4, 2, [], 0, []),
  (72, .iload_n 2, 1, [], 0, []),
  (73, .if_icmp .ge 13, 3, [47], 0, []),
  (76, .aload_n 0, 1, [], 0, []),
  (77, .invokevirtual 294, 3, [231, 1, 0, 11, 1526], 0, []),
  (80, .iinc 4 1, 3, [], 1, []),
  (83, .goto (-13), 3, [40], 0, []),
  (86, .iload_n 3, 1, [], 0, []),
  (87, .ifCond .ne 10, 3, [52], 0, []),
  (90, .aload_n 0, 1, [], 0, []),
  (91, .invokevirtual 91, 3, [235, 1, 1, 11, 1160], 0, []),
  (94, .goto 34, 3, [68], 0, []),
  (97, .iload_n 3, 1, [], 0, []),
  (98, .iconst 1, 1, [], 1, []),
  (99, .if_icmp .ne 12, 3, [59], 0, []),
  (102, .aload_n 0, 1, [], 0, []),
  (103, .bipush 120, 2, [], 120, []),
  (105, .invokevirtual 105, 3, [141, 2, 1, 11, 1172], 0, []),
  (108, .goto 20, 3, [68], 0, []),
  (111, .iload_n 3, 1, [], 0, []),
  (112, .iconst 2, 1, [], 2, []),
  (113, .if_icmp .ne 10, 3, [65], 0, []),
  (116, .aload_n 0, 1, [], 0, []),
  (117, .invokevirtual 261, 3, [220, 1, 1, 11, 1490], 0, []),
  (120, .goto 8, 3, [68], 0, []),
  (123, .aload_n 0, 1, [], 0, []),
  (124, .iconst 0, 1, [], 0, []),
  (125, .invokevirtual 152, 3, [166, 2, 1, 11, 1239], 0, []),
  (128, .istore 4, 2, [], 0, []),
  (130, .aload_n 0, 1, [], 0, []),
  (131, .iconst 0, 1, [], 0, []),
  (132, .putfield 77, 3, [10, 12, 1077], 0, []),
  (135, .iload_n 3, 1, [], 0, []),
  (136, .iconst 1, 1, [], 1, []),
  (137, .if_icmp .ne 15, 3, [81], 0, []),
  (140, .iload 4, 2, [], 0, []),
  (142, .aload_n 0, 1, [], 0, []),
  (143, .bipush 120, 2, [], 120, []),
  (145, .invokevirtual 105, 3, [141, 2, 1, 11, 1172], 0, []),
  (148, .isub, 1, [], 0, []),
  (149, .goto 5, 3, [82], 0, []),
  (152, .iload 4, 2, [], 0, []),
  (154, .ireturn, 1, [], 0, [])]
def kM_count : List am_E := [(0, .aload_n 0, 1, [], 0, []),
  (1, .iconst 0, 1, [], 0, []),
  (2, .putfield 38, 3, [10, 2, 1067], 0, []),
  (5, .iload_n 1, 1, [], 0, []),
  (6, .tableswitch 115 0 6 #[42, 47, 57, 62, 98, 105, 110], 42, [49], 0, [(0, 5), (1, 8), (2, 14), (3, 17), (4, 39), (5, 43), (6, 46)]),
  (48, .aload_n 0, 1, [], 0, []),
  (49, .getfield 95, 3, [10, 15, 1080], 0, []),
  (52, .ireturn, 1, [], 0, []),
  (53, .aload_n 0, 1, [], 0, []),
  (54, .getfield 95, 3, [10, 15, 1080], 0, []),
  (57, .aload_n 0, 1, [], 0, []),
  (58, .invokevirtual 91, 3, [235, 1, 1, 11, 1160], 0, []),
  (61, .isub, 1, [], 0, []),
  (62, .ireturn, 1, [], 0, []),
  (63, .aload_n 0, 1, [], 0, []),
  (64, .invokevirtual 91, 3, [235, 1, 1, 11, 1160], 0, []),
  (67, .ireturn, 1, [], 0, []),
  (68, .iconst 0, 1, [], 0, []),
  (69, .istore_n 2, 1, [], 0, []),
  (70, .iconst 0, 1, [], 0, []),
  (71, .istore_n 3, 1, [], 0, []),
  (72, .iload_n 3, 1, [], 0, []),
  (73, .aload_n 0, 1, [], 0, []),
  (74, .getfield 95, 3, [10, 15, 1080], 0, []),
  (77, .if_icmp .ge 25, 3, [37], 0, []),
  (80, .iload_n 2, 1, [], 0, []),
  (81, .aload_n 0, 1, [], 0, []),
  (82, .iload_n 3, 1, [], 0, []),
  (83, .invokevirtual 240, 3, [200, 2, 1, 11, 1414], 0, []),
  (86, .ifCond .eq 7, 3, [32], 0, []),
  (89, .iconst 1, 1, [], 1, []),
  (90, .goto 4, 3, [33], 0, []),
  (93, .iconst 0, 1, [], 0, []),
  (94, .iadd, 1, [], 0, []),
  (95, .istore_n 2, 1, [], 0, []),
  (96, .iinc 3 1, 3, [], 1, []),
  (99, .goto (-27), 3, [21], 0, []),
  (102, .iload_n 2, 1, [], 0, []),
  (103, .ireturn, 1, [], 0, []),
  (104, .aload_n 0, 1, [], 0, []),
  (105, .bipush 120, 2, [], 120, []),
  (107, .invokevirtual 105, 3, [141, 2, 1, 11, 1172], 0, []),
  (110, .ireturn, 1, [], 0, []),
  (111, .aload_n 0, 1, [], 0, []),
  (112, .getfield 80, 3, [10, 13, 1078], 0, []),
  (115, .ireturn, 1, [], 0, []),
  (116, .aload_n 0, 1, [], 0, []),
  (117, .getfield 41, 3, [10, 1, 1066], 0, []),
  (120, .ireturn, 1, [], 0, []),
  (121, .iconst (-1), 1, [], (-1), []),
  (122, .ireturn, 1, [], 0, [])]
def am_prog : List (List am_E × List Nat × Nat) := [
  (kF_clear, [], 1),
  (kF_copyFrom, [], 2),
  (kF_addTown, [], 2),
  (kF_has, [], 2),
  (kF_hasBoth, [], 3),
  (kF_touchAt, [14], 5),
  (kF_rerootAt, [13], 10),
  (kF_walkFrom, [], 3),
  (kF_linkUnder, [], 5),
  (kF_cutBetween, [], 3),
  (kF_settleTreeOf, [10], 6),
  (kF_rootOf, [4], 4),
  (kF_depthOf, [6], 5),
  (kF_climb, [4], 5),
  (kF_isOver, [4], 5),
  (kF_hangTogether, [], 3),
  (kF_meetingOf, [24], 8),
  (kF_lowerOf, [], 3),
  (kF_headOf, [4], 5),
  (kF_tailOf, [4], 4),
  (kF_trees, [4], 3),
  (kF_chains, [5], 3),
  (kF_weigh, [2, 15, 23], 4),
  (kF_sizeOf, [], 2),
  (kF_valuesUnder, [4], 4),
  (kF_childrenOf, [4], 4),
  (kF_heavyChildOf, [], 2),
  (kF_heavyOfWeighed, [2], 3),
  (kF_heavyNotPreferred, [6], 4),
  (kF_switchesTo, [11], 6),
  (kF_lowerOfExtreme, [8], 7),
  (kF_midstOfTreeOf, [12], 7),
  (kF_greatestPartOfWeighed, [9], 5),
  (kF_partsBy, [5], 4),
  (kF_leastLengthFor, [11], 4),
  (kB_start, [], 3),
  (kB_draw, [], 2),
  (kB_doOne, [], 4),
  (kH_forget, [], 1),
  (kH_remember, [], 2),
  (kH_goBack, [], 2),
  (kN_clear, [], 1),
  (kN_copyFrom, [], 2),
  (kN_add, [], 2),
  (kN_find, [2], 3),
  (kR_opn, [], 3),
  (kR_step, [0], 1),
  (kR_isLetterAt, [], 2),
  (kR_isDigitAt, [], 2),
  (kR_readWord, [5], 2),
  (kR_readDigits, [3], 1),
  (kS_look, [], 5),
  (kV_lineUp, [12, 18], 6),
  (kV_opnChildren, [12], 7),
  (kV_placeOf, [2], 3),
  (kV_measure, [6, 29, 72], 9),
  (kV_farthestFrom, [4], 4),
  (kV_widestReach, [4], 3),
  (kV_findHomes, [2], 3),
  (kV_setPair, [], 4),
  (kV_findWidest, [18, 26], 6),
  (kV_findJoint, [34, 40], 10),
  (kT_tell, [22], 4),
  (kT_fail, [], 2),
  (kT_tellLine, [], 2),
  (kT_tellTown, [], 3),
  (kT_tellLink, [], 5),
  (kT_tellDeed, [], 3),
  (kT_tellSeed, [], 1),
  (kT_isAtName, [], 1),
  (kT_takesTown, [], 1),
  (kT_takesNumber, [], 1),
  (kT_takesNumberWithin, [], 3),
  (kT_endsLine, [], 1),
  (kY_lay, [41, 70], 9),
  (kY_lowerOfLink, [], 4),
  (kY_lengths, [4], 4),
  (kY_values, [4], 4),
  (kY_dearestLink, [6], 6),
  (kY_dearestLength, [], 3),
  (kY_cutDearestLink, [], 3),
  (kY_leastOf, [4], 6),
  (kY_keepsWithin, [2], 6),
  (kY_addToAll, [2], 5),
  (kC_feed, [], 6),
  (kC_text, [], 2),
  (kC_fault, [], 2),
  (kC_named, [], 2),
  (kC_touch, [], 3),
  (kC_reroot, [], 3),
  (kC_link, [], 5),
  (kC_cut, [], 5),
  (kC_walk, [], 4),
  (kC_seen, [], 2),
  (kC_meet, [], 4),
  (kC_raise, [], 4),
  (kC_cutDearest, [], 4),
  (kC_send, [], 4),
  (kC_settle, [], 2),
  (kC_exchange, [], 6),
  (kC_shed, [], 4),
  (kC_value, [], 4),
  (kC_town, [], 3),
  (kC_chain, [], 5),
  (kC_above, [], 3),
  (kC_along, [], 4),
  (kC_together, [], 3),
  (kC_far, [], 3),
  (kC_meets, [], 4),
  (kC_room, [], 3),
  (kC_order, [], 3),
  (kC_place, [], 2),
  (kC_joint, [], 4),
  (kC_tightest, [], 2),
  (kC_heavy, [], 3),
  (kC_potential, [], 1),
  (kC_would, [], 2),
  (kC_widest, [], 3),
  (kC_midst, [], 2),
  (kC_parts, [], 2),
  (kC_dearest, [], 2),
  (kC_leastFor, [], 3),
  (kC_chance, [36], 5),
  (kC_undo, [], 1),
  (kC_keep, [], 1),
  (kC_back, [], 1),
  (kC_count, [], 2),
  (kC_isWithin, [], 3),
  (kC_canBeLink, [], 5),
  (kC_feedNumber, [2], 3),
  (kC_takeTold, [], 1),
  (kC_factOfTown, [], 4),
  (kM_thrown, [], 1),
  (kM_feed, [13], 8),
  (kM_isIn, [], 3),
  (kM_wrong, [], 2),
  (kM_wordAt, [4, 11, 32], 8),
  (kM_isSmall, [], 2),
  (kM_isDigit, [], 2),
  (kM_token, [0, 44, 143], 1),
  (kM_packed, [4], 5),
  (kM_of, [], 2),
  (kM_lay, [], 3),
  (kM_copyBank, [2], 4),
  (kM_canUndo, [6], 2),
  (kM_undo, [], 1),
  (kM_keep, [], 1),
  (kM_back, [], 1),
  (kM_isTown, [], 2),
  (kM_areTowns, [], 3),
  (kM_parent, [], 2),
  (kM_prefers, [], 2),
  (kM_free, [], 2),
  (kM_plain, [], 1),
  (kM_keepText, [6], 2),
  (kM_nameAt, [2], 4),
  (kM_signed, [], 3),
  (kM_number, [], 3),
  (kM_townRead, [], 1),
  (kM_townLine, [], 1),
  (kM_linkLine, [], 4),
  (kM_wordLine, [], 2),
  (kM_lineRead, [], 2),
  (kM_text, [43], 5),
  (kM_fault, [], 2),
  (kM_named, [], 2),
  (kM_rootOf, [2], 3),
  (kM_areTogether, [], 3),
  (kM_would1, [4], 4),
  (kM_touches, [12], 4),
  (kM_reroots, [12], 10),
  (kM_links, [], 5),
  (kM_walks, [], 4),
  (kM_cuts, [], 3),
  (kM_dearestTo, [4], 4),
  (kM_cutsDearest, [], 5),
  (kM_touch, [], 2),
  (kM_reroot, [], 2),
  (kM_isLength, [], 1),
  (kM_size, [4], 4),
  (kM_isAbove, [2], 4),
  (kM_link, [], 5),
  (kM_cut, [], 4),
  (kM_walk, [21, 78], 5),
  (kM_seen, [], 2),
  (kM_depth, [4], 4),
  (kM_meetOf, [2], 4),
  (kM_meet, [], 3),
  (kM_raise, [40], 7),
  (kM_send, [40], 7),
  (kM_settles, [4], 4),
  (kM_settle, [], 2),
  (kM_cutDearest, [], 3),
  (kM_exchange, [], 6),
  (kM_shed, [], 3),
  (kM_value, [], 4),
  (kM_fails, [], 2),
  (kM_children, [4], 4),
  (kM_under, [4], 4),
  (kM_town, [], 3),
  (kM_isHead, [], 2),
  (kM_chain, [18, 34], 8),
  (kM_above, [15], 5),
  (kM_along, [63], 9),
  (kM_together, [], 3),
  (kM_farUp, [4], 5),
  (kM_farOf, [], 4),
  (kM_far, [], 3),
  (kM_meets, [], 3),
  (kM_room, [29, 54], 6),
  (kM_childBehind, [25], 5),
  (kM_behind, [11], 5),
  (kM_order, [17], 5),
  (kM_place, [15], 4),
  (kM_farthest, [4], 4),
  (kM_widestOf, [4], 4),
  (kM_joint, [45, 51], 11),
  (kM_tightest, [13], 4),
  (kM_heavyOf, [2], 3),
  (kM_heavy, [], 2),
  (kM_potentialNow, [4], 3),
  (kM_potential, [], 1),
  (kM_would, [], 2),
  (kM_widest, [22, 30], 8),
  (kM_greatestWithout, [12], 4),
  (kM_midst, [13], 4),
  (kM_partsOf, [4], 4),
  (kM_parts, [], 2),
  (kM_dearest, [13], 4),
  (kM_leastFor, [14], 5),
  (kM_draw, [9, 10], 2),
  (kM_byChance, [], 5),
  (kM_dearestFrom, [9, 36], 7),
  (kM_nearer, [], 3),
  (kM_further, [], 3),
  (kM_trees, [], 1),
  (kM_chance, [40], 5),
  (kM_count, [21], 4)]
def am_code (mi : Nat) : List am_E := match am_nth am_prog mi with
  | some (k, _, _) => k
  | none => []
def am_cuts (mi : Nat) : List Nat := match am_nth am_prog mi with
  | some (_, k, _) => k
  | none => []
def am_maxL (mi : Nat) : Nat := match am_nth am_prog mi with
  | some (_, _, k) => k
  | none => 0
def am_run (ct : am_T) (mi : Nat) : Nat → Nat → am_L → List am_V → am_G → Option am_R
  | 0, _, _, _, _ => none
  | n + 1, pc, ls, st, g => am_exec am_lay ct (am_code mi) (am_cuts mi) (am_run ct mi n) (fun v g => some (v, g)) 400 pc ls st g
def am_ent (mi : Nat) (as : List am_V) : am_L := as.map some ++ List.replicate (am_maxL mi - as.length) none
def am_call : Nat → am_T
  | 0 => fun _ _ _ => none
  | d + 1 => fun mi as g => bif decide (as.length ≤ am_maxL mi) then am_run (am_call d) mi 100000 0 (am_ent mi as) [] g else none
set_option maxRecDepth 20000 in
theorem am_prog_len : am_prog.length = 238 := rfl
end
section
/-! ===== what a run from a cut is: by wip/whole/write.py ===== -/
set_option maxRecDepth 50000 in
theorem eF_clear_0 (ct : am_T) (n : Nat) (i : Nat) (g : am_G) : am_run ct 0 (n + 1) 0 [some (.inr (.inr (1, i)))] [] g =
  some (none, am_put (am_put g 102 i (0 : Int32)) 103 i (0 : Int32)) := rfl
set_option maxRecDepth 50000 in
theorem eF_copyFrom_0 (ct : am_T) (n : Nat) (i j : Nat) (g : am_G) : am_run ct 1 (n + 1) 0 [some (.inr (.inr (1, i))), some (.inr (.inr (1, j)))] [] g =
  some (none, am_put (am_put (am_set (am_set (am_set (am_set (am_set g 2 i (va_cpy (g 2 j) (g 2 i) 0 0 24)) 3 i (va_cpy ((am_set g 2 i (va_cpy (g 2 j) (g 2 i) 0 0 24)) 3 j) ((am_set g 2 i (va_cpy (g 2 j) (g 2 i) 0 0 24)) 3 i) 0 0 24)) 4 i (va_cpy ((am_set (am_set g 2 i (va_cpy (g 2 j) (g 2 i) 0 0 24)) 3 i (va_cpy ((am_set g 2 i (va_cpy (g 2 j) (g 2 i) 0 0 24)) 3 j) ((am_set g 2 i (va_cpy (g 2 j) (g 2 i) 0 0 24)) 3 i) 0 0 24)) 4 j) ((am_set (am_set g 2 i (va_cpy (g 2 j) (g 2 i) 0 0 24)) 3 i (va_cpy ((am_set g 2 i (va_cpy (g 2 j) (g 2 i) 0 0 24)) 3 j) ((am_set g 2 i (va_cpy (g 2 j) (g 2 i) 0 0 24)) 3 i) 0 0 24)) 4 i) 0 0 24)) 5 i (va_cpy ((am_set (am_set (am_set g 2 i (va_cpy (g 2 j) (g 2 i) 0 0 24)) 3 i (va_cpy ((am_set g 2 i (va_cpy (g 2 j) (g 2 i) 0 0 24)) 3 j) ((am_set g 2 i (va_cpy (g 2 j) (g 2 i) 0 0 24)) 3 i) 0 0 24)) 4 i (va_cpy ((am_set (am_set g 2 i (va_cpy (g 2 j) (g 2 i) 0 0 24)) 3 i (va_cpy ((am_set g 2 i (va_cpy (g 2 j) (g 2 i) 0 0 24)) 3 j) ((am_set g 2 i (va_cpy (g 2 j) (g 2 i) 0 0 24)) 3 i) 0 0 24)) 4 j) ((am_set (am_set g 2 i (va_cpy (g 2 j) (g 2 i) 0 0 24)) 3 i (va_cpy ((am_set g 2 i (va_cpy (g 2 j) (g 2 i) 0 0 24)) 3 j) ((am_set g 2 i (va_cpy (g 2 j) (g 2 i) 0 0 24)) 3 i) 0 0 24)) 4 i) 0 0 24)) 5 j) ((am_set (am_set (am_set g 2 i (va_cpy (g 2 j) (g 2 i) 0 0 24)) 3 i (va_cpy ((am_set g 2 i (va_cpy (g 2 j) (g 2 i) 0 0 24)) 3 j) ((am_set g 2 i (va_cpy (g 2 j) (g 2 i) 0 0 24)) 3 i) 0 0 24)) 4 i (va_cpy ((am_set (am_set g 2 i (va_cpy (g 2 j) (g 2 i) 0 0 24)) 3 i (va_cpy ((am_set g 2 i (va_cpy (g 2 j) (g 2 i) 0 0 24)) 3 j) ((am_set g 2 i (va_cpy (g 2 j) (g 2 i) 0 0 24)) 3 i) 0 0 24)) 4 j) ((am_set (am_set g 2 i (va_cpy (g 2 j) (g 2 i) 0 0 24)) 3 i (va_cpy ((am_set g 2 i (va_cpy (g 2 j) (g 2 i) 0 0 24)) 3 j) ((am_set g 2 i (va_cpy (g 2 j) (g 2 i) 0 0 24)) 3 i) 0 0 24)) 4 i) 0 0 24)) 5 i) 0 0 24)) 6 i (va_cpy ((am_set (am_set (am_set (am_set g 2 i (va_cpy (g 2 j) (g 2 i) 0 0 24)) 3 i (va_cpy ((am_set g 2 i (va_cpy (g 2 j) (g 2 i) 0 0 24)) 3 j) ((am_set g 2 i (va_cpy (g 2 j) (g 2 i) 0 0 24)) 3 i) 0 0 24)) 4 i (va_cpy ((am_set (am_set g 2 i (va_cpy (g 2 j) (g 2 i) 0 0 24)) 3 i (va_cpy ((am_set g 2 i (va_cpy (g 2 j) (g 2 i) 0 0 24)) 3 j) ((am_set g 2 i (va_cpy (g 2 j) (g 2 i) 0 0 24)) 3 i) 0 0 24)) 4 j) ((am_set (am_set g 2 i (va_cpy (g 2 j) (g 2 i) 0 0 24)) 3 i (va_cpy ((am_set g 2 i (va_cpy (g 2 j) (g 2 i) 0 0 24)) 3 j) ((am_set g 2 i (va_cpy (g 2 j) (g 2 i) 0 0 24)) 3 i) 0 0 24)) 4 i) 0 0 24)) 5 i (va_cpy ((am_set (am_set (am_set g 2 i (va_cpy (g 2 j) (g 2 i) 0 0 24)) 3 i (va_cpy ((am_set g 2 i (va_cpy (g 2 j) (g 2 i) 0 0 24)) 3 j) ((am_set g 2 i (va_cpy (g 2 j) (g 2 i) 0 0 24)) 3 i) 0 0 24)) 4 i (va_cpy ((am_set (am_set g 2 i (va_cpy (g 2 j) (g 2 i) 0 0 24)) 3 i (va_cpy ((am_set g 2 i (va_cpy (g 2 j) (g 2 i) 0 0 24)) 3 j) ((am_set g 2 i (va_cpy (g 2 j) (g 2 i) 0 0 24)) 3 i) 0 0 24)) 4 j) ((am_set (am_set g 2 i (va_cpy (g 2 j) (g 2 i) 0 0 24)) 3 i (va_cpy ((am_set g 2 i (va_cpy (g 2 j) (g 2 i) 0 0 24)) 3 j) ((am_set g 2 i (va_cpy (g 2 j) (g 2 i) 0 0 24)) 3 i) 0 0 24)) 4 i) 0 0 24)) 5 j) ((am_set (am_set (am_set g 2 i (va_cpy (g 2 j) (g 2 i) 0 0 24)) 3 i (va_cpy ((am_set g 2 i (va_cpy (g 2 j) (g 2 i) 0 0 24)) 3 j) ((am_set g 2 i (va_cpy (g 2 j) (g 2 i) 0 0 24)) 3 i) 0 0 24)) 4 i (va_cpy ((am_set (am_set g 2 i (va_cpy (g 2 j) (g 2 i) 0 0 24)) 3 i (va_cpy ((am_set g 2 i (va_cpy (g 2 j) (g 2 i) 0 0 24)) 3 j) ((am_set g 2 i (va_cpy (g 2 j) (g 2 i) 0 0 24)) 3 i) 0 0 24)) 4 j) ((am_set (am_set g 2 i (va_cpy (g 2 j) (g 2 i) 0 0 24)) 3 i (va_cpy ((am_set g 2 i (va_cpy (g 2 j) (g 2 i) 0 0 24)) 3 j) ((am_set g 2 i (va_cpy (g 2 j) (g 2 i) 0 0 24)) 3 i) 0 0 24)) 4 i) 0 0 24)) 5 i) 0 0 24)) 6 j) ((am_set (am_set (am_set (am_set g 2 i (va_cpy (g 2 j) (g 2 i) 0 0 24)) 3 i (va_cpy ((am_set g 2 i (va_cpy (g 2 j) (g 2 i) 0 0 24)) 3 j) ((am_set g 2 i (va_cpy (g 2 j) (g 2 i) 0 0 24)) 3 i) 0 0 24)) 4 i (va_cpy ((am_set (am_set g 2 i (va_cpy (g 2 j) (g 2 i) 0 0 24)) 3 i (va_cpy ((am_set g 2 i (va_cpy (g 2 j) (g 2 i) 0 0 24)) 3 j) ((am_set g 2 i (va_cpy (g 2 j) (g 2 i) 0 0 24)) 3 i) 0 0 24)) 4 j) ((am_set (am_set g 2 i (va_cpy (g 2 j) (g 2 i) 0 0 24)) 3 i (va_cpy ((am_set g 2 i (va_cpy (g 2 j) (g 2 i) 0 0 24)) 3 j) ((am_set g 2 i (va_cpy (g 2 j) (g 2 i) 0 0 24)) 3 i) 0 0 24)) 4 i) 0 0 24)) 5 i (va_cpy ((am_set (am_set (am_set g 2 i (va_cpy (g 2 j) (g 2 i) 0 0 24)) 3 i (va_cpy ((am_set g 2 i (va_cpy (g 2 j) (g 2 i) 0 0 24)) 3 j) ((am_set g 2 i (va_cpy (g 2 j) (g 2 i) 0 0 24)) 3 i) 0 0 24)) 4 i (va_cpy ((am_set (am_set g 2 i (va_cpy (g 2 j) (g 2 i) 0 0 24)) 3 i (va_cpy ((am_set g 2 i (va_cpy (g 2 j) (g 2 i) 0 0 24)) 3 j) ((am_set g 2 i (va_cpy (g 2 j) (g 2 i) 0 0 24)) 3 i) 0 0 24)) 4 j) ((am_set (am_set g 2 i (va_cpy (g 2 j) (g 2 i) 0 0 24)) 3 i (va_cpy ((am_set g 2 i (va_cpy (g 2 j) (g 2 i) 0 0 24)) 3 j) ((am_set g 2 i (va_cpy (g 2 j) (g 2 i) 0 0 24)) 3 i) 0 0 24)) 4 i) 0 0 24)) 5 j) ((am_set (am_set (am_set g 2 i (va_cpy (g 2 j) (g 2 i) 0 0 24)) 3 i (va_cpy ((am_set g 2 i (va_cpy (g 2 j) (g 2 i) 0 0 24)) 3 j) ((am_set g 2 i (va_cpy (g 2 j) (g 2 i) 0 0 24)) 3 i) 0 0 24)) 4 i (va_cpy ((am_set (am_set g 2 i (va_cpy (g 2 j) (g 2 i) 0 0 24)) 3 i (va_cpy ((am_set g 2 i (va_cpy (g 2 j) (g 2 i) 0 0 24)) 3 j) ((am_set g 2 i (va_cpy (g 2 j) (g 2 i) 0 0 24)) 3 i) 0 0 24)) 4 j) ((am_set (am_set g 2 i (va_cpy (g 2 j) (g 2 i) 0 0 24)) 3 i (va_cpy ((am_set g 2 i (va_cpy (g 2 j) (g 2 i) 0 0 24)) 3 j) ((am_set g 2 i (va_cpy (g 2 j) (g 2 i) 0 0 24)) 3 i) 0 0 24)) 4 i) 0 0 24)) 5 i) 0 0 24)) 6 i) 0 0 24)) 102 i ((am_set (am_set (am_set (am_set (am_set g 2 i (va_cpy (g 2 j) (g 2 i) 0 0 24)) 3 i (va_cpy ((am_set g 2 i (va_cpy (g 2 j) (g 2 i) 0 0 24)) 3 j) ((am_set g 2 i (va_cpy (g 2 j) (g 2 i) 0 0 24)) 3 i) 0 0 24)) 4 i (va_cpy ((am_set (am_set g 2 i (va_cpy (g 2 j) (g 2 i) 0 0 24)) 3 i (va_cpy ((am_set g 2 i (va_cpy (g 2 j) (g 2 i) 0 0 24)) 3 j) ((am_set g 2 i (va_cpy (g 2 j) (g 2 i) 0 0 24)) 3 i) 0 0 24)) 4 j) ((am_set (am_set g 2 i (va_cpy (g 2 j) (g 2 i) 0 0 24)) 3 i (va_cpy ((am_set g 2 i (va_cpy (g 2 j) (g 2 i) 0 0 24)) 3 j) ((am_set g 2 i (va_cpy (g 2 j) (g 2 i) 0 0 24)) 3 i) 0 0 24)) 4 i) 0 0 24)) 5 i (va_cpy ((am_set (am_set (am_set g 2 i (va_cpy (g 2 j) (g 2 i) 0 0 24)) 3 i (va_cpy ((am_set g 2 i (va_cpy (g 2 j) (g 2 i) 0 0 24)) 3 j) ((am_set g 2 i (va_cpy (g 2 j) (g 2 i) 0 0 24)) 3 i) 0 0 24)) 4 i (va_cpy ((am_set (am_set g 2 i (va_cpy (g 2 j) (g 2 i) 0 0 24)) 3 i (va_cpy ((am_set g 2 i (va_cpy (g 2 j) (g 2 i) 0 0 24)) 3 j) ((am_set g 2 i (va_cpy (g 2 j) (g 2 i) 0 0 24)) 3 i) 0 0 24)) 4 j) ((am_set (am_set g 2 i (va_cpy (g 2 j) (g 2 i) 0 0 24)) 3 i (va_cpy ((am_set g 2 i (va_cpy (g 2 j) (g 2 i) 0 0 24)) 3 j) ((am_set g 2 i (va_cpy (g 2 j) (g 2 i) 0 0 24)) 3 i) 0 0 24)) 4 i) 0 0 24)) 5 j) ((am_set (am_set (am_set g 2 i (va_cpy (g 2 j) (g 2 i) 0 0 24)) 3 i (va_cpy ((am_set g 2 i (va_cpy (g 2 j) (g 2 i) 0 0 24)) 3 j) ((am_set g 2 i (va_cpy (g 2 j) (g 2 i) 0 0 24)) 3 i) 0 0 24)) 4 i (va_cpy ((am_set (am_set g 2 i (va_cpy (g 2 j) (g 2 i) 0 0 24)) 3 i (va_cpy ((am_set g 2 i (va_cpy (g 2 j) (g 2 i) 0 0 24)) 3 j) ((am_set g 2 i (va_cpy (g 2 j) (g 2 i) 0 0 24)) 3 i) 0 0 24)) 4 j) ((am_set (am_set g 2 i (va_cpy (g 2 j) (g 2 i) 0 0 24)) 3 i (va_cpy ((am_set g 2 i (va_cpy (g 2 j) (g 2 i) 0 0 24)) 3 j) ((am_set g 2 i (va_cpy (g 2 j) (g 2 i) 0 0 24)) 3 i) 0 0 24)) 4 i) 0 0 24)) 5 i) 0 0 24)) 6 i (va_cpy ((am_set (am_set (am_set (am_set g 2 i (va_cpy (g 2 j) (g 2 i) 0 0 24)) 3 i (va_cpy ((am_set g 2 i (va_cpy (g 2 j) (g 2 i) 0 0 24)) 3 j) ((am_set g 2 i (va_cpy (g 2 j) (g 2 i) 0 0 24)) 3 i) 0 0 24)) 4 i (va_cpy ((am_set (am_set g 2 i (va_cpy (g 2 j) (g 2 i) 0 0 24)) 3 i (va_cpy ((am_set g 2 i (va_cpy (g 2 j) (g 2 i) 0 0 24)) 3 j) ((am_set g 2 i (va_cpy (g 2 j) (g 2 i) 0 0 24)) 3 i) 0 0 24)) 4 j) ((am_set (am_set g 2 i (va_cpy (g 2 j) (g 2 i) 0 0 24)) 3 i (va_cpy ((am_set g 2 i (va_cpy (g 2 j) (g 2 i) 0 0 24)) 3 j) ((am_set g 2 i (va_cpy (g 2 j) (g 2 i) 0 0 24)) 3 i) 0 0 24)) 4 i) 0 0 24)) 5 i (va_cpy ((am_set (am_set (am_set g 2 i (va_cpy (g 2 j) (g 2 i) 0 0 24)) 3 i (va_cpy ((am_set g 2 i (va_cpy (g 2 j) (g 2 i) 0 0 24)) 3 j) ((am_set g 2 i (va_cpy (g 2 j) (g 2 i) 0 0 24)) 3 i) 0 0 24)) 4 i (va_cpy ((am_set (am_set g 2 i (va_cpy (g 2 j) (g 2 i) 0 0 24)) 3 i (va_cpy ((am_set g 2 i (va_cpy (g 2 j) (g 2 i) 0 0 24)) 3 j) ((am_set g 2 i (va_cpy (g 2 j) (g 2 i) 0 0 24)) 3 i) 0 0 24)) 4 j) ((am_set (am_set g 2 i (va_cpy (g 2 j) (g 2 i) 0 0 24)) 3 i (va_cpy ((am_set g 2 i (va_cpy (g 2 j) (g 2 i) 0 0 24)) 3 j) ((am_set g 2 i (va_cpy (g 2 j) (g 2 i) 0 0 24)) 3 i) 0 0 24)) 4 i) 0 0 24)) 5 j) ((am_set (am_set (am_set g 2 i (va_cpy (g 2 j) (g 2 i) 0 0 24)) 3 i (va_cpy ((am_set g 2 i (va_cpy (g 2 j) (g 2 i) 0 0 24)) 3 j) ((am_set g 2 i (va_cpy (g 2 j) (g 2 i) 0 0 24)) 3 i) 0 0 24)) 4 i (va_cpy ((am_set (am_set g 2 i (va_cpy (g 2 j) (g 2 i) 0 0 24)) 3 i (va_cpy ((am_set g 2 i (va_cpy (g 2 j) (g 2 i) 0 0 24)) 3 j) ((am_set g 2 i (va_cpy (g 2 j) (g 2 i) 0 0 24)) 3 i) 0 0 24)) 4 j) ((am_set (am_set g 2 i (va_cpy (g 2 j) (g 2 i) 0 0 24)) 3 i (va_cpy ((am_set g 2 i (va_cpy (g 2 j) (g 2 i) 0 0 24)) 3 j) ((am_set g 2 i (va_cpy (g 2 j) (g 2 i) 0 0 24)) 3 i) 0 0 24)) 4 i) 0 0 24)) 5 i) 0 0 24)) 6 j) ((am_set (am_set (am_set (am_set g 2 i (va_cpy (g 2 j) (g 2 i) 0 0 24)) 3 i (va_cpy ((am_set g 2 i (va_cpy (g 2 j) (g 2 i) 0 0 24)) 3 j) ((am_set g 2 i (va_cpy (g 2 j) (g 2 i) 0 0 24)) 3 i) 0 0 24)) 4 i (va_cpy ((am_set (am_set g 2 i (va_cpy (g 2 j) (g 2 i) 0 0 24)) 3 i (va_cpy ((am_set g 2 i (va_cpy (g 2 j) (g 2 i) 0 0 24)) 3 j) ((am_set g 2 i (va_cpy (g 2 j) (g 2 i) 0 0 24)) 3 i) 0 0 24)) 4 j) ((am_set (am_set g 2 i (va_cpy (g 2 j) (g 2 i) 0 0 24)) 3 i (va_cpy ((am_set g 2 i (va_cpy (g 2 j) (g 2 i) 0 0 24)) 3 j) ((am_set g 2 i (va_cpy (g 2 j) (g 2 i) 0 0 24)) 3 i) 0 0 24)) 4 i) 0 0 24)) 5 i (va_cpy ((am_set (am_set (am_set g 2 i (va_cpy (g 2 j) (g 2 i) 0 0 24)) 3 i (va_cpy ((am_set g 2 i (va_cpy (g 2 j) (g 2 i) 0 0 24)) 3 j) ((am_set g 2 i (va_cpy (g 2 j) (g 2 i) 0 0 24)) 3 i) 0 0 24)) 4 i (va_cpy ((am_set (am_set g 2 i (va_cpy (g 2 j) (g 2 i) 0 0 24)) 3 i (va_cpy ((am_set g 2 i (va_cpy (g 2 j) (g 2 i) 0 0 24)) 3 j) ((am_set g 2 i (va_cpy (g 2 j) (g 2 i) 0 0 24)) 3 i) 0 0 24)) 4 j) ((am_set (am_set g 2 i (va_cpy (g 2 j) (g 2 i) 0 0 24)) 3 i (va_cpy ((am_set g 2 i (va_cpy (g 2 j) (g 2 i) 0 0 24)) 3 j) ((am_set g 2 i (va_cpy (g 2 j) (g 2 i) 0 0 24)) 3 i) 0 0 24)) 4 i) 0 0 24)) 5 j) ((am_set (am_set (am_set g 2 i (va_cpy (g 2 j) (g 2 i) 0 0 24)) 3 i (va_cpy ((am_set g 2 i (va_cpy (g 2 j) (g 2 i) 0 0 24)) 3 j) ((am_set g 2 i (va_cpy (g 2 j) (g 2 i) 0 0 24)) 3 i) 0 0 24)) 4 i (va_cpy ((am_set (am_set g 2 i (va_cpy (g 2 j) (g 2 i) 0 0 24)) 3 i (va_cpy ((am_set g 2 i (va_cpy (g 2 j) (g 2 i) 0 0 24)) 3 j) ((am_set g 2 i (va_cpy (g 2 j) (g 2 i) 0 0 24)) 3 i) 0 0 24)) 4 j) ((am_set (am_set g 2 i (va_cpy (g 2 j) (g 2 i) 0 0 24)) 3 i (va_cpy ((am_set g 2 i (va_cpy (g 2 j) (g 2 i) 0 0 24)) 3 j) ((am_set g 2 i (va_cpy (g 2 j) (g 2 i) 0 0 24)) 3 i) 0 0 24)) 4 i) 0 0 24)) 5 i) 0 0 24)) 6 i) 0 0 24)) 102 j 0)) 103 i ((am_put (am_set (am_set (am_set (am_set (am_set g 2 i (va_cpy (g 2 j) (g 2 i) 0 0 24)) 3 i (va_cpy ((am_set g 2 i (va_cpy (g 2 j) (g 2 i) 0 0 24)) 3 j) ((am_set g 2 i (va_cpy (g 2 j) (g 2 i) 0 0 24)) 3 i) 0 0 24)) 4 i (va_cpy ((am_set (am_set g 2 i (va_cpy (g 2 j) (g 2 i) 0 0 24)) 3 i (va_cpy ((am_set g 2 i (va_cpy (g 2 j) (g 2 i) 0 0 24)) 3 j) ((am_set g 2 i (va_cpy (g 2 j) (g 2 i) 0 0 24)) 3 i) 0 0 24)) 4 j) ((am_set (am_set g 2 i (va_cpy (g 2 j) (g 2 i) 0 0 24)) 3 i (va_cpy ((am_set g 2 i (va_cpy (g 2 j) (g 2 i) 0 0 24)) 3 j) ((am_set g 2 i (va_cpy (g 2 j) (g 2 i) 0 0 24)) 3 i) 0 0 24)) 4 i) 0 0 24)) 5 i (va_cpy ((am_set (am_set (am_set g 2 i (va_cpy (g 2 j) (g 2 i) 0 0 24)) 3 i (va_cpy ((am_set g 2 i (va_cpy (g 2 j) (g 2 i) 0 0 24)) 3 j) ((am_set g 2 i (va_cpy (g 2 j) (g 2 i) 0 0 24)) 3 i) 0 0 24)) 4 i (va_cpy ((am_set (am_set g 2 i (va_cpy (g 2 j) (g 2 i) 0 0 24)) 3 i (va_cpy ((am_set g 2 i (va_cpy (g 2 j) (g 2 i) 0 0 24)) 3 j) ((am_set g 2 i (va_cpy (g 2 j) (g 2 i) 0 0 24)) 3 i) 0 0 24)) 4 j) ((am_set (am_set g 2 i (va_cpy (g 2 j) (g 2 i) 0 0 24)) 3 i (va_cpy ((am_set g 2 i (va_cpy (g 2 j) (g 2 i) 0 0 24)) 3 j) ((am_set g 2 i (va_cpy (g 2 j) (g 2 i) 0 0 24)) 3 i) 0 0 24)) 4 i) 0 0 24)) 5 j) ((am_set (am_set (am_set g 2 i (va_cpy (g 2 j) (g 2 i) 0 0 24)) 3 i (va_cpy ((am_set g 2 i (va_cpy (g 2 j) (g 2 i) 0 0 24)) 3 j) ((am_set g 2 i (va_cpy (g 2 j) (g 2 i) 0 0 24)) 3 i) 0 0 24)) 4 i (va_cpy ((am_set (am_set g 2 i (va_cpy (g 2 j) (g 2 i) 0 0 24)) 3 i (va_cpy ((am_set g 2 i (va_cpy (g 2 j) (g 2 i) 0 0 24)) 3 j) ((am_set g 2 i (va_cpy (g 2 j) (g 2 i) 0 0 24)) 3 i) 0 0 24)) 4 j) ((am_set (am_set g 2 i (va_cpy (g 2 j) (g 2 i) 0 0 24)) 3 i (va_cpy ((am_set g 2 i (va_cpy (g 2 j) (g 2 i) 0 0 24)) 3 j) ((am_set g 2 i (va_cpy (g 2 j) (g 2 i) 0 0 24)) 3 i) 0 0 24)) 4 i) 0 0 24)) 5 i) 0 0 24)) 6 i (va_cpy ((am_set (am_set (am_set (am_set g 2 i (va_cpy (g 2 j) (g 2 i) 0 0 24)) 3 i (va_cpy ((am_set g 2 i (va_cpy (g 2 j) (g 2 i) 0 0 24)) 3 j) ((am_set g 2 i (va_cpy (g 2 j) (g 2 i) 0 0 24)) 3 i) 0 0 24)) 4 i (va_cpy ((am_set (am_set g 2 i (va_cpy (g 2 j) (g 2 i) 0 0 24)) 3 i (va_cpy ((am_set g 2 i (va_cpy (g 2 j) (g 2 i) 0 0 24)) 3 j) ((am_set g 2 i (va_cpy (g 2 j) (g 2 i) 0 0 24)) 3 i) 0 0 24)) 4 j) ((am_set (am_set g 2 i (va_cpy (g 2 j) (g 2 i) 0 0 24)) 3 i (va_cpy ((am_set g 2 i (va_cpy (g 2 j) (g 2 i) 0 0 24)) 3 j) ((am_set g 2 i (va_cpy (g 2 j) (g 2 i) 0 0 24)) 3 i) 0 0 24)) 4 i) 0 0 24)) 5 i (va_cpy ((am_set (am_set (am_set g 2 i (va_cpy (g 2 j) (g 2 i) 0 0 24)) 3 i (va_cpy ((am_set g 2 i (va_cpy (g 2 j) (g 2 i) 0 0 24)) 3 j) ((am_set g 2 i (va_cpy (g 2 j) (g 2 i) 0 0 24)) 3 i) 0 0 24)) 4 i (va_cpy ((am_set (am_set g 2 i (va_cpy (g 2 j) (g 2 i) 0 0 24)) 3 i (va_cpy ((am_set g 2 i (va_cpy (g 2 j) (g 2 i) 0 0 24)) 3 j) ((am_set g 2 i (va_cpy (g 2 j) (g 2 i) 0 0 24)) 3 i) 0 0 24)) 4 j) ((am_set (am_set g 2 i (va_cpy (g 2 j) (g 2 i) 0 0 24)) 3 i (va_cpy ((am_set g 2 i (va_cpy (g 2 j) (g 2 i) 0 0 24)) 3 j) ((am_set g 2 i (va_cpy (g 2 j) (g 2 i) 0 0 24)) 3 i) 0 0 24)) 4 i) 0 0 24)) 5 j) ((am_set (am_set (am_set g 2 i (va_cpy (g 2 j) (g 2 i) 0 0 24)) 3 i (va_cpy ((am_set g 2 i (va_cpy (g 2 j) (g 2 i) 0 0 24)) 3 j) ((am_set g 2 i (va_cpy (g 2 j) (g 2 i) 0 0 24)) 3 i) 0 0 24)) 4 i (va_cpy ((am_set (am_set g 2 i (va_cpy (g 2 j) (g 2 i) 0 0 24)) 3 i (va_cpy ((am_set g 2 i (va_cpy (g 2 j) (g 2 i) 0 0 24)) 3 j) ((am_set g 2 i (va_cpy (g 2 j) (g 2 i) 0 0 24)) 3 i) 0 0 24)) 4 j) ((am_set (am_set g 2 i (va_cpy (g 2 j) (g 2 i) 0 0 24)) 3 i (va_cpy ((am_set g 2 i (va_cpy (g 2 j) (g 2 i) 0 0 24)) 3 j) ((am_set g 2 i (va_cpy (g 2 j) (g 2 i) 0 0 24)) 3 i) 0 0 24)) 4 i) 0 0 24)) 5 i) 0 0 24)) 6 j) ((am_set (am_set (am_set (am_set g 2 i (va_cpy (g 2 j) (g 2 i) 0 0 24)) 3 i (va_cpy ((am_set g 2 i (va_cpy (g 2 j) (g 2 i) 0 0 24)) 3 j) ((am_set g 2 i (va_cpy (g 2 j) (g 2 i) 0 0 24)) 3 i) 0 0 24)) 4 i (va_cpy ((am_set (am_set g 2 i (va_cpy (g 2 j) (g 2 i) 0 0 24)) 3 i (va_cpy ((am_set g 2 i (va_cpy (g 2 j) (g 2 i) 0 0 24)) 3 j) ((am_set g 2 i (va_cpy (g 2 j) (g 2 i) 0 0 24)) 3 i) 0 0 24)) 4 j) ((am_set (am_set g 2 i (va_cpy (g 2 j) (g 2 i) 0 0 24)) 3 i (va_cpy ((am_set g 2 i (va_cpy (g 2 j) (g 2 i) 0 0 24)) 3 j) ((am_set g 2 i (va_cpy (g 2 j) (g 2 i) 0 0 24)) 3 i) 0 0 24)) 4 i) 0 0 24)) 5 i (va_cpy ((am_set (am_set (am_set g 2 i (va_cpy (g 2 j) (g 2 i) 0 0 24)) 3 i (va_cpy ((am_set g 2 i (va_cpy (g 2 j) (g 2 i) 0 0 24)) 3 j) ((am_set g 2 i (va_cpy (g 2 j) (g 2 i) 0 0 24)) 3 i) 0 0 24)) 4 i (va_cpy ((am_set (am_set g 2 i (va_cpy (g 2 j) (g 2 i) 0 0 24)) 3 i (va_cpy ((am_set g 2 i (va_cpy (g 2 j) (g 2 i) 0 0 24)) 3 j) ((am_set g 2 i (va_cpy (g 2 j) (g 2 i) 0 0 24)) 3 i) 0 0 24)) 4 j) ((am_set (am_set g 2 i (va_cpy (g 2 j) (g 2 i) 0 0 24)) 3 i (va_cpy ((am_set g 2 i (va_cpy (g 2 j) (g 2 i) 0 0 24)) 3 j) ((am_set g 2 i (va_cpy (g 2 j) (g 2 i) 0 0 24)) 3 i) 0 0 24)) 4 i) 0 0 24)) 5 j) ((am_set (am_set (am_set g 2 i (va_cpy (g 2 j) (g 2 i) 0 0 24)) 3 i (va_cpy ((am_set g 2 i (va_cpy (g 2 j) (g 2 i) 0 0 24)) 3 j) ((am_set g 2 i (va_cpy (g 2 j) (g 2 i) 0 0 24)) 3 i) 0 0 24)) 4 i (va_cpy ((am_set (am_set g 2 i (va_cpy (g 2 j) (g 2 i) 0 0 24)) 3 i (va_cpy ((am_set g 2 i (va_cpy (g 2 j) (g 2 i) 0 0 24)) 3 j) ((am_set g 2 i (va_cpy (g 2 j) (g 2 i) 0 0 24)) 3 i) 0 0 24)) 4 j) ((am_set (am_set g 2 i (va_cpy (g 2 j) (g 2 i) 0 0 24)) 3 i (va_cpy ((am_set g 2 i (va_cpy (g 2 j) (g 2 i) 0 0 24)) 3 j) ((am_set g 2 i (va_cpy (g 2 j) (g 2 i) 0 0 24)) 3 i) 0 0 24)) 4 i) 0 0 24)) 5 i) 0 0 24)) 6 i) 0 0 24)) 102 i ((am_set (am_set (am_set (am_set (am_set g 2 i (va_cpy (g 2 j) (g 2 i) 0 0 24)) 3 i (va_cpy ((am_set g 2 i (va_cpy (g 2 j) (g 2 i) 0 0 24)) 3 j) ((am_set g 2 i (va_cpy (g 2 j) (g 2 i) 0 0 24)) 3 i) 0 0 24)) 4 i (va_cpy ((am_set (am_set g 2 i (va_cpy (g 2 j) (g 2 i) 0 0 24)) 3 i (va_cpy ((am_set g 2 i (va_cpy (g 2 j) (g 2 i) 0 0 24)) 3 j) ((am_set g 2 i (va_cpy (g 2 j) (g 2 i) 0 0 24)) 3 i) 0 0 24)) 4 j) ((am_set (am_set g 2 i (va_cpy (g 2 j) (g 2 i) 0 0 24)) 3 i (va_cpy ((am_set g 2 i (va_cpy (g 2 j) (g 2 i) 0 0 24)) 3 j) ((am_set g 2 i (va_cpy (g 2 j) (g 2 i) 0 0 24)) 3 i) 0 0 24)) 4 i) 0 0 24)) 5 i (va_cpy ((am_set (am_set (am_set g 2 i (va_cpy (g 2 j) (g 2 i) 0 0 24)) 3 i (va_cpy ((am_set g 2 i (va_cpy (g 2 j) (g 2 i) 0 0 24)) 3 j) ((am_set g 2 i (va_cpy (g 2 j) (g 2 i) 0 0 24)) 3 i) 0 0 24)) 4 i (va_cpy ((am_set (am_set g 2 i (va_cpy (g 2 j) (g 2 i) 0 0 24)) 3 i (va_cpy ((am_set g 2 i (va_cpy (g 2 j) (g 2 i) 0 0 24)) 3 j) ((am_set g 2 i (va_cpy (g 2 j) (g 2 i) 0 0 24)) 3 i) 0 0 24)) 4 j) ((am_set (am_set g 2 i (va_cpy (g 2 j) (g 2 i) 0 0 24)) 3 i (va_cpy ((am_set g 2 i (va_cpy (g 2 j) (g 2 i) 0 0 24)) 3 j) ((am_set g 2 i (va_cpy (g 2 j) (g 2 i) 0 0 24)) 3 i) 0 0 24)) 4 i) 0 0 24)) 5 j) ((am_set (am_set (am_set g 2 i (va_cpy (g 2 j) (g 2 i) 0 0 24)) 3 i (va_cpy ((am_set g 2 i (va_cpy (g 2 j) (g 2 i) 0 0 24)) 3 j) ((am_set g 2 i (va_cpy (g 2 j) (g 2 i) 0 0 24)) 3 i) 0 0 24)) 4 i (va_cpy ((am_set (am_set g 2 i (va_cpy (g 2 j) (g 2 i) 0 0 24)) 3 i (va_cpy ((am_set g 2 i (va_cpy (g 2 j) (g 2 i) 0 0 24)) 3 j) ((am_set g 2 i (va_cpy (g 2 j) (g 2 i) 0 0 24)) 3 i) 0 0 24)) 4 j) ((am_set (am_set g 2 i (va_cpy (g 2 j) (g 2 i) 0 0 24)) 3 i (va_cpy ((am_set g 2 i (va_cpy (g 2 j) (g 2 i) 0 0 24)) 3 j) ((am_set g 2 i (va_cpy (g 2 j) (g 2 i) 0 0 24)) 3 i) 0 0 24)) 4 i) 0 0 24)) 5 i) 0 0 24)) 6 i (va_cpy ((am_set (am_set (am_set (am_set g 2 i (va_cpy (g 2 j) (g 2 i) 0 0 24)) 3 i (va_cpy ((am_set g 2 i (va_cpy (g 2 j) (g 2 i) 0 0 24)) 3 j) ((am_set g 2 i (va_cpy (g 2 j) (g 2 i) 0 0 24)) 3 i) 0 0 24)) 4 i (va_cpy ((am_set (am_set g 2 i (va_cpy (g 2 j) (g 2 i) 0 0 24)) 3 i (va_cpy ((am_set g 2 i (va_cpy (g 2 j) (g 2 i) 0 0 24)) 3 j) ((am_set g 2 i (va_cpy (g 2 j) (g 2 i) 0 0 24)) 3 i) 0 0 24)) 4 j) ((am_set (am_set g 2 i (va_cpy (g 2 j) (g 2 i) 0 0 24)) 3 i (va_cpy ((am_set g 2 i (va_cpy (g 2 j) (g 2 i) 0 0 24)) 3 j) ((am_set g 2 i (va_cpy (g 2 j) (g 2 i) 0 0 24)) 3 i) 0 0 24)) 4 i) 0 0 24)) 5 i (va_cpy ((am_set (am_set (am_set g 2 i (va_cpy (g 2 j) (g 2 i) 0 0 24)) 3 i (va_cpy ((am_set g 2 i (va_cpy (g 2 j) (g 2 i) 0 0 24)) 3 j) ((am_set g 2 i (va_cpy (g 2 j) (g 2 i) 0 0 24)) 3 i) 0 0 24)) 4 i (va_cpy ((am_set (am_set g 2 i (va_cpy (g 2 j) (g 2 i) 0 0 24)) 3 i (va_cpy ((am_set g 2 i (va_cpy (g 2 j) (g 2 i) 0 0 24)) 3 j) ((am_set g 2 i (va_cpy (g 2 j) (g 2 i) 0 0 24)) 3 i) 0 0 24)) 4 j) ((am_set (am_set g 2 i (va_cpy (g 2 j) (g 2 i) 0 0 24)) 3 i (va_cpy ((am_set g 2 i (va_cpy (g 2 j) (g 2 i) 0 0 24)) 3 j) ((am_set g 2 i (va_cpy (g 2 j) (g 2 i) 0 0 24)) 3 i) 0 0 24)) 4 i) 0 0 24)) 5 j) ((am_set (am_set (am_set g 2 i (va_cpy (g 2 j) (g 2 i) 0 0 24)) 3 i (va_cpy ((am_set g 2 i (va_cpy (g 2 j) (g 2 i) 0 0 24)) 3 j) ((am_set g 2 i (va_cpy (g 2 j) (g 2 i) 0 0 24)) 3 i) 0 0 24)) 4 i (va_cpy ((am_set (am_set g 2 i (va_cpy (g 2 j) (g 2 i) 0 0 24)) 3 i (va_cpy ((am_set g 2 i (va_cpy (g 2 j) (g 2 i) 0 0 24)) 3 j) ((am_set g 2 i (va_cpy (g 2 j) (g 2 i) 0 0 24)) 3 i) 0 0 24)) 4 j) ((am_set (am_set g 2 i (va_cpy (g 2 j) (g 2 i) 0 0 24)) 3 i (va_cpy ((am_set g 2 i (va_cpy (g 2 j) (g 2 i) 0 0 24)) 3 j) ((am_set g 2 i (va_cpy (g 2 j) (g 2 i) 0 0 24)) 3 i) 0 0 24)) 4 i) 0 0 24)) 5 i) 0 0 24)) 6 j) ((am_set (am_set (am_set (am_set g 2 i (va_cpy (g 2 j) (g 2 i) 0 0 24)) 3 i (va_cpy ((am_set g 2 i (va_cpy (g 2 j) (g 2 i) 0 0 24)) 3 j) ((am_set g 2 i (va_cpy (g 2 j) (g 2 i) 0 0 24)) 3 i) 0 0 24)) 4 i (va_cpy ((am_set (am_set g 2 i (va_cpy (g 2 j) (g 2 i) 0 0 24)) 3 i (va_cpy ((am_set g 2 i (va_cpy (g 2 j) (g 2 i) 0 0 24)) 3 j) ((am_set g 2 i (va_cpy (g 2 j) (g 2 i) 0 0 24)) 3 i) 0 0 24)) 4 j) ((am_set (am_set g 2 i (va_cpy (g 2 j) (g 2 i) 0 0 24)) 3 i (va_cpy ((am_set g 2 i (va_cpy (g 2 j) (g 2 i) 0 0 24)) 3 j) ((am_set g 2 i (va_cpy (g 2 j) (g 2 i) 0 0 24)) 3 i) 0 0 24)) 4 i) 0 0 24)) 5 i (va_cpy ((am_set (am_set (am_set g 2 i (va_cpy (g 2 j) (g 2 i) 0 0 24)) 3 i (va_cpy ((am_set g 2 i (va_cpy (g 2 j) (g 2 i) 0 0 24)) 3 j) ((am_set g 2 i (va_cpy (g 2 j) (g 2 i) 0 0 24)) 3 i) 0 0 24)) 4 i (va_cpy ((am_set (am_set g 2 i (va_cpy (g 2 j) (g 2 i) 0 0 24)) 3 i (va_cpy ((am_set g 2 i (va_cpy (g 2 j) (g 2 i) 0 0 24)) 3 j) ((am_set g 2 i (va_cpy (g 2 j) (g 2 i) 0 0 24)) 3 i) 0 0 24)) 4 j) ((am_set (am_set g 2 i (va_cpy (g 2 j) (g 2 i) 0 0 24)) 3 i (va_cpy ((am_set g 2 i (va_cpy (g 2 j) (g 2 i) 0 0 24)) 3 j) ((am_set g 2 i (va_cpy (g 2 j) (g 2 i) 0 0 24)) 3 i) 0 0 24)) 4 i) 0 0 24)) 5 j) ((am_set (am_set (am_set g 2 i (va_cpy (g 2 j) (g 2 i) 0 0 24)) 3 i (va_cpy ((am_set g 2 i (va_cpy (g 2 j) (g 2 i) 0 0 24)) 3 j) ((am_set g 2 i (va_cpy (g 2 j) (g 2 i) 0 0 24)) 3 i) 0 0 24)) 4 i (va_cpy ((am_set (am_set g 2 i (va_cpy (g 2 j) (g 2 i) 0 0 24)) 3 i (va_cpy ((am_set g 2 i (va_cpy (g 2 j) (g 2 i) 0 0 24)) 3 j) ((am_set g 2 i (va_cpy (g 2 j) (g 2 i) 0 0 24)) 3 i) 0 0 24)) 4 j) ((am_set (am_set g 2 i (va_cpy (g 2 j) (g 2 i) 0 0 24)) 3 i (va_cpy ((am_set g 2 i (va_cpy (g 2 j) (g 2 i) 0 0 24)) 3 j) ((am_set g 2 i (va_cpy (g 2 j) (g 2 i) 0 0 24)) 3 i) 0 0 24)) 4 i) 0 0 24)) 5 i) 0 0 24)) 6 i) 0 0 24)) 102 j 0)) 103 j 0)) := rfl
set_option maxRecDepth 50000 in
theorem eF_addTown_0 (ct : am_T) (n : Nat) (i : Nat) (x1 : Int32) (g : am_G) : am_run ct 2 (n + 1) 0 [some (.inr (.inr (1, i))), some (.inl x1)] [] g =
  if (24 : Int32) ≤ (g 102 i 0) then
    (some (none, g))
  else
    (bif am_in (g 102 i 0) 24 then
      (bif am_in ((am_sto g 2 i (g 102 i 0).toNatClampNeg (-1 : Int32)) 102 i 0) 24 then
      (bif am_in ((am_sto (am_sto g 2 i (g 102 i 0).toNatClampNeg (-1 : Int32)) 3 i ((am_sto g 2 i (g 102 i 0).toNatClampNeg (-1 : Int32)) 102 i 0).toNatClampNeg (-1 : Int32)) 102 i 0) 24 then
      (bif am_in ((am_sto (am_sto (am_sto g 2 i (g 102 i 0).toNatClampNeg (-1 : Int32)) 3 i ((am_sto g 2 i (g 102 i 0).toNatClampNeg (-1 : Int32)) 102 i 0).toNatClampNeg (-1 : Int32)) 4 i ((am_sto (am_sto g 2 i (g 102 i 0).toNatClampNeg (-1 : Int32)) 3 i ((am_sto g 2 i (g 102 i 0).toNatClampNeg (-1 : Int32)) 102 i 0).toNatClampNeg (-1 : Int32)) 102 i 0).toNatClampNeg (0 : Int32)) 102 i 0) 24 then
      (bif am_in ((am_sto (am_sto (am_sto (am_sto g 2 i (g 102 i 0).toNatClampNeg (-1 : Int32)) 3 i ((am_sto g 2 i (g 102 i 0).toNatClampNeg (-1 : Int32)) 102 i 0).toNatClampNeg (-1 : Int32)) 4 i ((am_sto (am_sto g 2 i (g 102 i 0).toNatClampNeg (-1 : Int32)) 3 i ((am_sto g 2 i (g 102 i 0).toNatClampNeg (-1 : Int32)) 102 i 0).toNatClampNeg (-1 : Int32)) 102 i 0).toNatClampNeg (0 : Int32)) 5 i ((am_sto (am_sto (am_sto g 2 i (g 102 i 0).toNatClampNeg (-1 : Int32)) 3 i ((am_sto g 2 i (g 102 i 0).toNatClampNeg (-1 : Int32)) 102 i 0).toNatClampNeg (-1 : Int32)) 4 i ((am_sto (am_sto g 2 i (g 102 i 0).toNatClampNeg (-1 : Int32)) 3 i ((am_sto g 2 i (g 102 i 0).toNatClampNeg (-1 : Int32)) 102 i 0).toNatClampNeg (-1 : Int32)) 102 i 0).toNatClampNeg (0 : Int32)) 102 i 0).toNatClampNeg (0 : Int32)) 102 i 0) 24 then
      (some (none, am_put (am_sto (am_sto (am_sto (am_sto (am_sto g 2 i (g 102 i 0).toNatClampNeg (-1 : Int32)) 3 i ((am_sto g 2 i (g 102 i 0).toNatClampNeg (-1 : Int32)) 102 i 0).toNatClampNeg (-1 : Int32)) 4 i ((am_sto (am_sto g 2 i (g 102 i 0).toNatClampNeg (-1 : Int32)) 3 i ((am_sto g 2 i (g 102 i 0).toNatClampNeg (-1 : Int32)) 102 i 0).toNatClampNeg (-1 : Int32)) 102 i 0).toNatClampNeg (0 : Int32)) 5 i ((am_sto (am_sto (am_sto g 2 i (g 102 i 0).toNatClampNeg (-1 : Int32)) 3 i ((am_sto g 2 i (g 102 i 0).toNatClampNeg (-1 : Int32)) 102 i 0).toNatClampNeg (-1 : Int32)) 4 i ((am_sto (am_sto g 2 i (g 102 i 0).toNatClampNeg (-1 : Int32)) 3 i ((am_sto g 2 i (g 102 i 0).toNatClampNeg (-1 : Int32)) 102 i 0).toNatClampNeg (-1 : Int32)) 102 i 0).toNatClampNeg (0 : Int32)) 102 i 0).toNatClampNeg (0 : Int32)) 6 i ((am_sto (am_sto (am_sto (am_sto g 2 i (g 102 i 0).toNatClampNeg (-1 : Int32)) 3 i ((am_sto g 2 i (g 102 i 0).toNatClampNeg (-1 : Int32)) 102 i 0).toNatClampNeg (-1 : Int32)) 4 i ((am_sto (am_sto g 2 i (g 102 i 0).toNatClampNeg (-1 : Int32)) 3 i ((am_sto g 2 i (g 102 i 0).toNatClampNeg (-1 : Int32)) 102 i 0).toNatClampNeg (-1 : Int32)) 102 i 0).toNatClampNeg (0 : Int32)) 5 i ((am_sto (am_sto (am_sto g 2 i (g 102 i 0).toNatClampNeg (-1 : Int32)) 3 i ((am_sto g 2 i (g 102 i 0).toNatClampNeg (-1 : Int32)) 102 i 0).toNatClampNeg (-1 : Int32)) 4 i ((am_sto (am_sto g 2 i (g 102 i 0).toNatClampNeg (-1 : Int32)) 3 i ((am_sto g 2 i (g 102 i 0).toNatClampNeg (-1 : Int32)) 102 i 0).toNatClampNeg (-1 : Int32)) 102 i 0).toNatClampNeg (0 : Int32)) 102 i 0).toNatClampNeg (0 : Int32)) 102 i 0).toNatClampNeg x1) 102 i (((am_sto (am_sto (am_sto (am_sto (am_sto g 2 i (g 102 i 0).toNatClampNeg (-1 : Int32)) 3 i ((am_sto g 2 i (g 102 i 0).toNatClampNeg (-1 : Int32)) 102 i 0).toNatClampNeg (-1 : Int32)) 4 i ((am_sto (am_sto g 2 i (g 102 i 0).toNatClampNeg (-1 : Int32)) 3 i ((am_sto g 2 i (g 102 i 0).toNatClampNeg (-1 : Int32)) 102 i 0).toNatClampNeg (-1 : Int32)) 102 i 0).toNatClampNeg (0 : Int32)) 5 i ((am_sto (am_sto (am_sto g 2 i (g 102 i 0).toNatClampNeg (-1 : Int32)) 3 i ((am_sto g 2 i (g 102 i 0).toNatClampNeg (-1 : Int32)) 102 i 0).toNatClampNeg (-1 : Int32)) 4 i ((am_sto (am_sto g 2 i (g 102 i 0).toNatClampNeg (-1 : Int32)) 3 i ((am_sto g 2 i (g 102 i 0).toNatClampNeg (-1 : Int32)) 102 i 0).toNatClampNeg (-1 : Int32)) 102 i 0).toNatClampNeg (0 : Int32)) 102 i 0).toNatClampNeg (0 : Int32)) 6 i ((am_sto (am_sto (am_sto (am_sto g 2 i (g 102 i 0).toNatClampNeg (-1 : Int32)) 3 i ((am_sto g 2 i (g 102 i 0).toNatClampNeg (-1 : Int32)) 102 i 0).toNatClampNeg (-1 : Int32)) 4 i ((am_sto (am_sto g 2 i (g 102 i 0).toNatClampNeg (-1 : Int32)) 3 i ((am_sto g 2 i (g 102 i 0).toNatClampNeg (-1 : Int32)) 102 i 0).toNatClampNeg (-1 : Int32)) 102 i 0).toNatClampNeg (0 : Int32)) 5 i ((am_sto (am_sto (am_sto g 2 i (g 102 i 0).toNatClampNeg (-1 : Int32)) 3 i ((am_sto g 2 i (g 102 i 0).toNatClampNeg (-1 : Int32)) 102 i 0).toNatClampNeg (-1 : Int32)) 4 i ((am_sto (am_sto g 2 i (g 102 i 0).toNatClampNeg (-1 : Int32)) 3 i ((am_sto g 2 i (g 102 i 0).toNatClampNeg (-1 : Int32)) 102 i 0).toNatClampNeg (-1 : Int32)) 102 i 0).toNatClampNeg (0 : Int32)) 102 i 0).toNatClampNeg (0 : Int32)) 102 i 0).toNatClampNeg x1) 102 i 0) + (1 : Int32))))
    else none)
    else none)
    else none)
    else none)
    else none) := rfl
set_option maxRecDepth 50000 in
theorem eF_has_0 (ct : am_T) (n : Nat) (i : Nat) (x1 : Int32) (g : am_G) : am_run ct 3 (n + 1) 0 [some (.inr (.inr (1, i))), some (.inl x1)] [] g =
  if x1 < 0 then
    (some (some (.inl (0 : Int32)), g))
  else
    (if (g 102 i 0) ≤ x1 then
      (some (some (.inl (0 : Int32)), g))
    else
      (some (some (.inl (1 : Int32)), g))) := rfl
set_option maxRecDepth 50000 in
theorem eF_hasBoth_0 (ct : am_T) (n : Nat) (i : Nat) (x1 : Int32) (x2 : Int32) (g : am_G) : am_run ct 4 (n + 1) 0 [some (.inr (.inr (1, i))), some (.inl x1), some (.inl x2)] [] g =
  am_bi (ct 3 [.inr (.inr (1, i)), .inl x1] g) (fun r1 g1 =>
  if r1 = 0 then
    (some (some (.inl (0 : Int32)), g1))
  else
    (am_bi (ct 3 [.inr (.inr (1, i)), .inl x2] g1) (fun r2 g2 =>
    if r2 = 0 then
      (some (some (.inl (0 : Int32)), g2))
    else
      (some (some (.inl (1 : Int32)), g2))))) := rfl
set_option maxRecDepth 50000 in
theorem eF_touchAt_0 (ct : am_T) (n : Nat) (i : Nat) (x1 : Int32) (g : am_G) : am_run ct 5 (n + 1) 0 [some (.inr (.inr (1, i))), some (.inl x1), none, none, none] [] g =
  bif am_in x1 24 then
    (bif am_in x1 24 then
    (am_run ct 5 n 14 [some (.inr (.inr (1, i))), some (.inl x1), some (.inl x1), some (.inl ((am_sto g 3 i x1.toNatClampNeg (-1 : Int32)) 2 i x1.toNatClampNeg)), some (.inl (0 : Int32))] [] (am_sto g 3 i x1.toNatClampNeg (-1 : Int32)))
  else none)
  else none := rfl
set_option maxRecDepth 50000 in
theorem eF_touchAt_14 (ct : am_T) (n : Nat) (i : Nat) (x1 : Int32) (x2 : Int32) (x3 : Int32) (x4 : Int32) (g : am_G) : am_run ct 5 (n + 1) 14 [some (.inr (.inr (1, i))), some (.inl x1), some (.inl x2), some (.inl x3), some (.inl x4)] [] g =
  if (24 : Int32) ≤ x4 then
    (some (none, g))
  else
    (if x3 = (-1 : Int32) then
      (some (none, g))
    else
      (bif am_in x3 24 then
        (if (g 3 i x3.toNatClampNeg) = x2 then
        (bif am_in x3 24 then
          (am_run ct 5 n 14 [some (.inr (.inr (1, i))), some (.inl x1), some (.inl x3), some (.inl (g 2 i x3.toNatClampNeg)), some (.inl (x4 + 1))] [] g)
        else none)
      else
        (bif am_in x3 24 then
          (bif am_in x3 24 then
          (am_run ct 5 n 14 [some (.inr (.inr (1, i))), some (.inl x1), some (.inl x3), some (.inl ((am_put (am_sto g 3 i x3.toNatClampNeg x2) 103 i (((am_sto g 3 i x3.toNatClampNeg x2) 103 i 0) + (1 : Int32))) 2 i x3.toNatClampNeg)), some (.inl (x4 + 1))] [] (am_put (am_sto g 3 i x3.toNatClampNeg x2) 103 i (((am_sto g 3 i x3.toNatClampNeg x2) 103 i 0) + (1 : Int32))))
        else none)
        else none))
      else none)) := rfl
set_option maxRecDepth 50000 in
theorem eF_rerootAt_0 (ct : am_T) (n : Nat) (i : Nat) (x1 : Int32) (g : am_G) : am_run ct 6 (n + 1) 0 [some (.inr (.inr (1, i))), some (.inl x1), none, none, none, none, none, none, none, none] [] g =
  am_bv (ct 5 [.inr (.inr (1, i)), .inl x1] g) (fun g1 =>
  am_run ct 6 n 13 [some (.inr (.inr (1, i))), some (.inl x1), some (.inl (-1 : Int32)), some (.inl x1), some (.inl (0 : Int32)), some (.inl (0 : Int32)), some (.inl (0 : Int32)), none, none, none] [] g1) := rfl
set_option maxRecDepth 50000 in
theorem eF_rerootAt_13 (ct : am_T) (n : Nat) (i : Nat) (x1 : Int32) (x2 : Int32) (x3 : Int32) (x4 : Int32) (x5 : Int32) (x6 : Int32) (o7 : Option am_V) (o8 : Option am_V) (o9 : Option am_V) (g : am_G) : am_run ct 6 (n + 1) 13 [some (.inr (.inr (1, i))), some (.inl x1), some (.inl x2), some (.inl x3), some (.inl x4), some (.inl x5), some (.inl x6), o7, o8, o9] [] g =
  if (24 : Int32) ≤ x6 then
    (some (none, g))
  else
    (if x3 = (-1 : Int32) then
      (some (none, g))
    else
      (bif am_in x3 24 then
        (bif am_in x3 24 then
        (bif am_in x3 24 then
        (bif am_in x3 24 then
        (bif am_in x3 24 then
        (bif am_in x3 24 then
        (bif am_in x3 24 then
        (am_run ct 6 n 13 [some (.inr (.inr (1, i))), some (.inl x1), some (.inl x3), some (.inl (g 2 i x3.toNatClampNeg)), some (.inl (g 4 i x3.toNatClampNeg)), some (.inl (g 5 i x3.toNatClampNeg)), some (.inl (x6 + 1)), some (.inl (g 2 i x3.toNatClampNeg)), some (.inl (g 4 i x3.toNatClampNeg)), some (.inl (g 5 i x3.toNatClampNeg))] [] (am_sto (am_sto (am_sto (am_sto g 2 i x3.toNatClampNeg x2) 4 i x3.toNatClampNeg x4) 5 i x3.toNatClampNeg x5) 3 i x3.toNatClampNeg (g 2 i x3.toNatClampNeg)))
      else none)
      else none)
      else none)
      else none)
      else none)
      else none)
      else none)) := rfl
set_option maxRecDepth 50000 in
theorem eF_walkFrom_0 (ct : am_T) (n : Nat) (i : Nat) (x1 : Int32) (x2 : Int32) (g : am_G) : am_run ct 7 (n + 1) 0 [some (.inr (.inr (1, i))), some (.inl x1), some (.inl x2)] [] g =
  am_bv (ct 6 [.inr (.inr (1, i)), .inl x1] g) (fun g1 =>
  am_bv (ct 5 [.inr (.inr (1, i)), .inl x2] g1) (fun g2 =>
  some (none, g2))) := rfl
set_option maxRecDepth 50000 in
theorem eF_linkUnder_0 (ct : am_T) (n : Nat) (i : Nat) (x1 : Int32) (x2 : Int32) (x3 : Int32) (x4 : Int32) (g : am_G) : am_run ct 8 (n + 1) 0 [some (.inr (.inr (1, i))), some (.inl x1), some (.inl x2), some (.inl x3), some (.inl x4)] [] g =
  am_bv (ct 7 [.inr (.inr (1, i)), .inl x1, .inl x2] g) (fun g1 =>
  bif am_in x1 24 then
    (bif am_in x1 24 then
    (bif am_in x1 24 then
    (some (none, am_sto (am_sto (am_sto g1 2 i x1.toNatClampNeg x2) 4 i x1.toNatClampNeg x3) 5 i x1.toNatClampNeg x4))
  else none)
  else none)
  else none) := rfl
set_option maxRecDepth 50000 in
theorem eF_cutBetween_0 (ct : am_T) (n : Nat) (i : Nat) (x1 : Int32) (x2 : Int32) (g : am_G) : am_run ct 9 (n + 1) 0 [some (.inr (.inr (1, i))), some (.inl x1), some (.inl x2)] [] g =
  am_bv (ct 7 [.inr (.inr (1, i)), .inl x1, .inl x2] g) (fun g1 =>
  bif am_in x2 24 then
    (bif am_in x2 24 then
    (bif am_in x2 24 then
    (bif am_in x1 24 then
    (some (none, am_sto (am_sto (am_sto (am_sto g1 2 i x2.toNatClampNeg (-1 : Int32)) 4 i x2.toNatClampNeg (0 : Int32)) 5 i x2.toNatClampNeg (0 : Int32)) 3 i x1.toNatClampNeg (-1 : Int32)))
  else none)
  else none)
  else none)
  else none) := rfl
set_option maxRecDepth 50000 in
theorem eF_settleTreeOf_0 (ct : am_T) (n : Nat) (i : Nat) (x1 : Int32) (g : am_G) : am_run ct 10 (n + 1) 0 [some (.inr (.inr (1, i))), some (.inl x1), none, none, none, none] [] g =
  am_bi (ct 11 [.inr (.inr (1, i)), .inl x1] g) (fun r1 g1 =>
  am_bv (ct 22 [.inr (.inr (1, i))] g1) (fun g2 =>
  am_run ct 10 n 10 [some (.inr (.inr (1, i))), some (.inl x1), some (.inl r1), some (.inl (0 : Int32)), some (.inl (0 : Int32)), none] [] g2)) := rfl
set_option maxRecDepth 50000 in
theorem eF_settleTreeOf_10 (ct : am_T) (n : Nat) (i : Nat) (x1 : Int32) (x2 : Int32) (x3 : Int32) (x4 : Int32) (o5 : Option am_V) (g : am_G) : am_run ct 10 (n + 1) 10 [some (.inr (.inr (1, i))), some (.inl x1), some (.inl x2), some (.inl x3), some (.inl x4), o5] [] g =
  if (g 102 i 0) ≤ x4 then
    (some (some (.inl x3), g))
  else
    (am_bi (ct 11 [.inr (.inr (1, i)), .inl x4] g) (fun r1 g1 =>
    if r1 = x2 then
      (am_bi (ct 27 [.inr (.inr (1, i)), .inl x4] g1) (fun r2 g2 =>
      bif am_in x4 24 then
        (if (g2 3 i x4.toNatClampNeg) = r2 then
        (am_run ct 10 n 10 [some (.inr (.inr (1, i))), some (.inl x1), some (.inl x2), some (.inl x3), some (.inl (x4 + 1)), some (.inl r2)] [] g2)
      else
        (bif am_in x4 24 then
          (am_run ct 10 n 10 [some (.inr (.inr (1, i))), some (.inl x1), some (.inl x2), some (.inl (x3 + 1)), some (.inl (x4 + 1)), some (.inl r2)] [] (am_sto g2 3 i x4.toNatClampNeg r2))
        else none))
      else none))
    else
      (am_run ct 10 n 10 [some (.inr (.inr (1, i))), some (.inl x1), some (.inl x2), some (.inl x3), some (.inl (x4 + 1)), o5] [] g1))) := rfl
set_option maxRecDepth 50000 in
theorem eF_rootOf_0 (ct : am_T) (n : Nat) (i : Nat) (x1 : Int32) (g : am_G) : am_run ct 11 (n + 1) 0 [some (.inr (.inr (1, i))), some (.inl x1), none, none] [] g =
  am_run ct 11 n 4 [some (.inr (.inr (1, i))), some (.inl x1), some (.inl x1), some (.inl (0 : Int32))] [] g := rfl
set_option maxRecDepth 50000 in
theorem eF_rootOf_4 (ct : am_T) (n : Nat) (i : Nat) (x1 : Int32) (x2 : Int32) (x3 : Int32) (g : am_G) : am_run ct 11 (n + 1) 4 [some (.inr (.inr (1, i))), some (.inl x1), some (.inl x2), some (.inl x3)] [] g =
  if (24 : Int32) ≤ x3 then
    (some (some (.inl x2), g))
  else
    (bif am_in x2 24 then
      (if (g 2 i x2.toNatClampNeg) = (-1 : Int32) then
      (some (some (.inl x2), g))
    else
      (bif am_in x2 24 then
        (am_run ct 11 n 4 [some (.inr (.inr (1, i))), some (.inl x1), some (.inl (g 2 i x2.toNatClampNeg)), some (.inl (x3 + 1))] [] g)
      else none))
    else none) := rfl
set_option maxRecDepth 50000 in
theorem eF_depthOf_0 (ct : am_T) (n : Nat) (i : Nat) (x1 : Int32) (g : am_G) : am_run ct 12 (n + 1) 0 [some (.inr (.inr (1, i))), some (.inl x1), none, none, none] [] g =
  am_run ct 12 n 6 [some (.inr (.inr (1, i))), some (.inl x1), some (.inl x1), some (.inl (0 : Int32)), some (.inl (0 : Int32))] [] g := rfl
set_option maxRecDepth 50000 in
theorem eF_depthOf_6 (ct : am_T) (n : Nat) (i : Nat) (x1 : Int32) (x2 : Int32) (x3 : Int32) (x4 : Int32) (g : am_G) : am_run ct 12 (n + 1) 6 [some (.inr (.inr (1, i))), some (.inl x1), some (.inl x2), some (.inl x3), some (.inl x4)] [] g =
  if (24 : Int32) ≤ x4 then
    (some (some (.inl x3), g))
  else
    (bif am_in x2 24 then
      (if (g 2 i x2.toNatClampNeg) = (-1 : Int32) then
      (some (some (.inl x3), g))
    else
      (bif am_in x2 24 then
        (am_run ct 12 n 6 [some (.inr (.inr (1, i))), some (.inl x1), some (.inl (g 2 i x2.toNatClampNeg)), some (.inl (x3 + 1)), some (.inl (x4 + 1))] [] g)
      else none))
    else none) := rfl
set_option maxRecDepth 50000 in
theorem eF_climb_0 (ct : am_T) (n : Nat) (i : Nat) (x1 : Int32) (x2 : Int32) (g : am_G) : am_run ct 13 (n + 1) 0 [some (.inr (.inr (1, i))), some (.inl x1), some (.inl x2), none, none] [] g =
  am_run ct 13 n 4 [some (.inr (.inr (1, i))), some (.inl x1), some (.inl x2), some (.inl x1), some (.inl (0 : Int32))] [] g := rfl
set_option maxRecDepth 50000 in
theorem eF_climb_4 (ct : am_T) (n : Nat) (i : Nat) (x1 : Int32) (x2 : Int32) (x3 : Int32) (x4 : Int32) (g : am_G) : am_run ct 13 (n + 1) 4 [some (.inr (.inr (1, i))), some (.inl x1), some (.inl x2), some (.inl x3), some (.inl x4)] [] g =
  if (24 : Int32) ≤ x4 then
    (some (some (.inl x3), g))
  else
    (if x2 ≤ x4 then
      (some (some (.inl x3), g))
    else
      (bif am_in x3 24 then
        (if (g 2 i x3.toNatClampNeg) = (-1 : Int32) then
        (some (some (.inl x3), g))
      else
        (bif am_in x3 24 then
          (am_run ct 13 n 4 [some (.inr (.inr (1, i))), some (.inl x1), some (.inl x2), some (.inl (g 2 i x3.toNatClampNeg)), some (.inl (x4 + 1))] [] g)
        else none))
      else none)) := rfl
set_option maxRecDepth 50000 in
theorem eF_isOver_0 (ct : am_T) (n : Nat) (i : Nat) (x1 : Int32) (x2 : Int32) (g : am_G) : am_run ct 14 (n + 1) 0 [some (.inr (.inr (1, i))), some (.inl x1), some (.inl x2), none, none] [] g =
  am_run ct 14 n 4 [some (.inr (.inr (1, i))), some (.inl x1), some (.inl x2), some (.inl x2), some (.inl (0 : Int32))] [] g := rfl
set_option maxRecDepth 50000 in
theorem eF_isOver_4 (ct : am_T) (n : Nat) (i : Nat) (x1 : Int32) (x2 : Int32) (x3 : Int32) (x4 : Int32) (g : am_G) : am_run ct 14 (n + 1) 4 [some (.inr (.inr (1, i))), some (.inl x1), some (.inl x2), some (.inl x3), some (.inl x4)] [] g =
  if (24 : Int32) ≤ x4 then
    (some (some (.inl (0 : Int32)), g))
  else
    (if x3 = (-1 : Int32) then
      (some (some (.inl (0 : Int32)), g))
    else
      (if x3 = x1 then
        (some (some (.inl (1 : Int32)), g))
      else
        (bif am_in x3 24 then
          (am_run ct 14 n 4 [some (.inr (.inr (1, i))), some (.inl x1), some (.inl x2), some (.inl (g 2 i x3.toNatClampNeg)), some (.inl (x4 + 1))] [] g)
        else none))) := rfl
set_option maxRecDepth 50000 in
theorem eF_hangTogether_0 (ct : am_T) (n : Nat) (i : Nat) (x1 : Int32) (x2 : Int32) (g : am_G) : am_run ct 15 (n + 1) 0 [some (.inr (.inr (1, i))), some (.inl x1), some (.inl x2)] [] g =
  am_bi (ct 11 [.inr (.inr (1, i)), .inl x1] g) (fun r1 g1 =>
  am_bi (ct 11 [.inr (.inr (1, i)), .inl x2] g1) (fun r2 g2 =>
  if r1 = r2 then
    (some (some (.inl (1 : Int32)), g2))
  else
    (some (some (.inl (0 : Int32)), g2)))) := rfl
set_option maxRecDepth 50000 in
theorem eF_meetingOf_0 (ct : am_T) (n : Nat) (i : Nat) (x1 : Int32) (x2 : Int32) (g : am_G) : am_run ct 16 (n + 1) 0 [some (.inr (.inr (1, i))), some (.inl x1), some (.inl x2), none, none, none, none, none] [] g =
  am_bi (ct 12 [.inr (.inr (1, i)), .inl x1] g) (fun r1 g1 =>
  am_bi (ct 12 [.inr (.inr (1, i)), .inl x2] g1) (fun r2 g2 =>
  am_bi (ct 13 [.inr (.inr (1, i)), .inl x1, .inl (r1 - r2)] g2) (fun r3 g3 =>
  am_bi (ct 13 [.inr (.inr (1, i)), .inl x2, .inl (r2 - r1)] g3) (fun r4 g4 =>
  am_run ct 16 n 24 [some (.inr (.inr (1, i))), some (.inl x1), some (.inl x2), some (.inl r1), some (.inl r2), some (.inl r3), some (.inl r4), some (.inl (0 : Int32))] [] g4)))) := rfl
set_option maxRecDepth 50000 in
theorem eF_meetingOf_24 (ct : am_T) (n : Nat) (i : Nat) (x1 : Int32) (x2 : Int32) (x3 : Int32) (x4 : Int32) (x5 : Int32) (x6 : Int32) (x7 : Int32) (g : am_G) : am_run ct 16 (n + 1) 24 [some (.inr (.inr (1, i))), some (.inl x1), some (.inl x2), some (.inl x3), some (.inl x4), some (.inl x5), some (.inl x6), some (.inl x7)] [] g =
  if (24 : Int32) ≤ x7 then
    (some (some (.inl x5), g))
  else
    (if x5 = x6 then
      (some (some (.inl x5), g))
    else
      (if x5 = (-1 : Int32) then
        (some (some (.inl (-1 : Int32)), g))
      else
        (if x6 = (-1 : Int32) then
          (some (some (.inl (-1 : Int32)), g))
        else
          (bif am_in x5 24 then
            (bif am_in x6 24 then
            (am_run ct 16 n 24 [some (.inr (.inr (1, i))), some (.inl x1), some (.inl x2), some (.inl x3), some (.inl x4), some (.inl (g 2 i x5.toNatClampNeg)), some (.inl (g 2 i x6.toNatClampNeg)), some (.inl (x7 + 1))] [] g)
          else none)
          else none)))) := rfl
set_option maxRecDepth 50000 in
theorem eF_lowerOf_0 (ct : am_T) (n : Nat) (i : Nat) (x1 : Int32) (x2 : Int32) (g : am_G) : am_run ct 17 (n + 1) 0 [some (.inr (.inr (1, i))), some (.inl x1), some (.inl x2)] [] g =
  bif am_in x1 24 then
    (if (g 2 i x1.toNatClampNeg) = x2 then
    (some (some (.inl x1), g))
  else
    (bif am_in x2 24 then
      (if (g 2 i x2.toNatClampNeg) = x1 then
      (some (some (.inl x2), g))
    else
      (some (some (.inl (-1 : Int32)), g)))
    else none))
  else none := rfl
set_option maxRecDepth 50000 in
theorem eF_headOf_0 (ct : am_T) (n : Nat) (i : Nat) (x1 : Int32) (g : am_G) : am_run ct 18 (n + 1) 0 [some (.inr (.inr (1, i))), some (.inl x1), none, none, none] [] g =
  am_run ct 18 n 4 [some (.inr (.inr (1, i))), some (.inl x1), some (.inl x1), some (.inl (0 : Int32)), none] [] g := rfl
set_option maxRecDepth 50000 in
theorem eF_headOf_4 (ct : am_T) (n : Nat) (i : Nat) (x1 : Int32) (x2 : Int32) (x3 : Int32) (o4 : Option am_V) (g : am_G) : am_run ct 18 (n + 1) 4 [some (.inr (.inr (1, i))), some (.inl x1), some (.inl x2), some (.inl x3), o4] [] g =
  if (24 : Int32) ≤ x3 then
    (some (some (.inl x2), g))
  else
    (bif am_in x2 24 then
      (if (g 2 i x2.toNatClampNeg) = (-1 : Int32) then
      (some (some (.inl x2), g))
    else
      (bif am_in (g 2 i x2.toNatClampNeg) 24 then
        (if (g 3 i (g 2 i x2.toNatClampNeg).toNatClampNeg) = x2 then
        (am_run ct 18 n 4 [some (.inr (.inr (1, i))), some (.inl x1), some (.inl (g 2 i x2.toNatClampNeg)), some (.inl (x3 + 1)), some (.inl (g 2 i x2.toNatClampNeg))] [] g)
      else
        (some (some (.inl x2), g)))
      else none))
    else none) := rfl
set_option maxRecDepth 50000 in
theorem eF_tailOf_0 (ct : am_T) (n : Nat) (i : Nat) (x1 : Int32) (g : am_G) : am_run ct 19 (n + 1) 0 [some (.inr (.inr (1, i))), some (.inl x1), none, none] [] g =
  am_run ct 19 n 4 [some (.inr (.inr (1, i))), some (.inl x1), some (.inl x1), some (.inl (0 : Int32))] [] g := rfl
set_option maxRecDepth 50000 in
theorem eF_tailOf_4 (ct : am_T) (n : Nat) (i : Nat) (x1 : Int32) (x2 : Int32) (x3 : Int32) (g : am_G) : am_run ct 19 (n + 1) 4 [some (.inr (.inr (1, i))), some (.inl x1), some (.inl x2), some (.inl x3)] [] g =
  if (24 : Int32) ≤ x3 then
    (some (some (.inl x2), g))
  else
    (bif am_in x2 24 then
      (if (g 3 i x2.toNatClampNeg) = (-1 : Int32) then
      (some (some (.inl x2), g))
    else
      (bif am_in x2 24 then
        (am_run ct 19 n 4 [some (.inr (.inr (1, i))), some (.inl x1), some (.inl (g 3 i x2.toNatClampNeg)), some (.inl (x3 + 1))] [] g)
      else none))
    else none) := rfl
set_option maxRecDepth 50000 in
theorem eF_trees_0 (ct : am_T) (n : Nat) (i : Nat) (g : am_G) : am_run ct 20 (n + 1) 0 [some (.inr (.inr (1, i))), none, none] [] g =
  am_run ct 20 n 4 [some (.inr (.inr (1, i))), some (.inl (0 : Int32)), some (.inl (0 : Int32))] [] g := rfl
set_option maxRecDepth 50000 in
theorem eF_trees_4 (ct : am_T) (n : Nat) (i : Nat) (x1 : Int32) (x2 : Int32) (g : am_G) : am_run ct 20 (n + 1) 4 [some (.inr (.inr (1, i))), some (.inl x1), some (.inl x2)] [] g =
  if (g 102 i 0) ≤ x2 then
    (some (some (.inl x1), g))
  else
    (bif am_in x2 24 then
      (if (g 2 i x2.toNatClampNeg) = (-1 : Int32) then
      (am_run ct 20 n 4 [some (.inr (.inr (1, i))), some (.inl (x1 + 1)), some (.inl (x2 + 1))] [] g)
    else
      (am_run ct 20 n 4 [some (.inr (.inr (1, i))), some (.inl x1), some (.inl (x2 + 1))] [] g))
    else none) := rfl
set_option maxRecDepth 50000 in
theorem eF_chains_0 (ct : am_T) (n : Nat) (i : Nat) (g : am_G) : am_run ct 21 (n + 1) 0 [some (.inr (.inr (1, i))), none, none] [] g =
  am_run ct 21 n 5 [some (.inr (.inr (1, i))), some (.inl (g 102 i 0)), some (.inl (0 : Int32))] [] g := rfl
set_option maxRecDepth 50000 in
theorem eF_chains_5 (ct : am_T) (n : Nat) (i : Nat) (x1 : Int32) (x2 : Int32) (g : am_G) : am_run ct 21 (n + 1) 5 [some (.inr (.inr (1, i))), some (.inl x1), some (.inl x2)] [] g =
  if (g 102 i 0) ≤ x2 then
    (some (some (.inl x1), g))
  else
    (bif am_in x2 24 then
      (if (g 3 i x2.toNatClampNeg) = (-1 : Int32) then
      (am_run ct 21 n 5 [some (.inr (.inr (1, i))), some (.inl x1), some (.inl (x2 + 1))] [] g)
    else
      (am_run ct 21 n 5 [some (.inr (.inr (1, i))), some (.inl (x1 + (-1))), some (.inl (x2 + 1))] [] g))
    else none) := rfl
set_option maxRecDepth 50000 in
theorem eF_weigh_0 (ct : am_T) (n : Nat) (i : Nat) (g : am_G) : am_run ct 22 (n + 1) 0 [some (.inr (.inr (1, i))), none, none, none] [] g =
  am_run ct 22 n 2 [some (.inr (.inr (1, i))), some (.inl (0 : Int32)), none, none] [] g := rfl
set_option maxRecDepth 50000 in
theorem eF_weigh_2 (ct : am_T) (n : Nat) (i : Nat) (x1 : Int32) (g : am_G) : am_run ct 22 (n + 1) 2 [some (.inr (.inr (1, i))), some (.inl x1), none, none] [] g =
  if (g 102 i 0) ≤ x1 then
    (am_run ct 22 n 15 [some (.inr (.inr (1, i))), some (.inl (0 : Int32)), none, none] [] g)
  else
    (bif am_in x1 24 then
      (am_run ct 22 n 2 [some (.inr (.inr (1, i))), some (.inl (x1 + 1)), none, none] [] (am_sto g 7 i x1.toNatClampNeg (0 : Int32)))
    else none) := rfl
set_option maxRecDepth 50000 in
theorem eF_weigh_15 (ct : am_T) (n : Nat) (i : Nat) (x1 : Int32) (o2 : Option am_V) (o3 : Option am_V) (g : am_G) : am_run ct 22 (n + 1) 15 [some (.inr (.inr (1, i))), some (.inl x1), o2, o3] [] g =
  if (g 102 i 0) ≤ x1 then
    (some (none, g))
  else
    (am_run ct 22 n 23 [some (.inr (.inr (1, i))), some (.inl x1), some (.inl x1), some (.inl (0 : Int32))] [] g) := rfl
set_option maxRecDepth 50000 in
theorem eF_weigh_23 (ct : am_T) (n : Nat) (i : Nat) (x1 : Int32) (x2 : Int32) (x3 : Int32) (g : am_G) : am_run ct 22 (n + 1) 23 [some (.inr (.inr (1, i))), some (.inl x1), some (.inl x2), some (.inl x3)] [] g =
  if (24 : Int32) ≤ x3 then
    (am_run ct 22 n 15 [some (.inr (.inr (1, i))), some (.inl (x1 + 1)), some (.inl x2), some (.inl x3)] [] g)
  else
    (if x2 = (-1 : Int32) then
      (am_run ct 22 n 15 [some (.inr (.inr (1, i))), some (.inl (x1 + 1)), some (.inl x2), some (.inl x3)] [] g)
    else
      (bif am_in x2 24 then
        (bif am_in x2 24 then
        (bif am_in x2 24 then
        (am_run ct 22 n 23 [some (.inr (.inr (1, i))), some (.inl x1), some (.inl ((am_sto g 7 i x2.toNatClampNeg ((g 7 i x2.toNatClampNeg) + (1 : Int32))) 2 i x2.toNatClampNeg)), some (.inl (x3 + 1))] [] (am_sto g 7 i x2.toNatClampNeg ((g 7 i x2.toNatClampNeg) + (1 : Int32))))
      else none)
      else none)
      else none)) := rfl
set_option maxRecDepth 50000 in
theorem eF_sizeOf_0 (ct : am_T) (n : Nat) (i : Nat) (x1 : Int32) (g : am_G) : am_run ct 23 (n + 1) 0 [some (.inr (.inr (1, i))), some (.inl x1)] [] g =
  am_bv (ct 22 [.inr (.inr (1, i))] g) (fun g1 =>
  bif am_in x1 24 then
    (some (some (.inl (g1 7 i x1.toNatClampNeg)), g1))
  else none) := rfl
set_option maxRecDepth 50000 in
theorem eF_valuesUnder_0 (ct : am_T) (n : Nat) (i : Nat) (x1 : Int32) (g : am_G) : am_run ct 24 (n + 1) 0 [some (.inr (.inr (1, i))), some (.inl x1), none, none] [] g =
  am_run ct 24 n 4 [some (.inr (.inr (1, i))), some (.inl x1), some (.inl (0 : Int32)), some (.inl (0 : Int32))] [] g := rfl
set_option maxRecDepth 50000 in
theorem eF_valuesUnder_4 (ct : am_T) (n : Nat) (i : Nat) (x1 : Int32) (x2 : Int32) (x3 : Int32) (g : am_G) : am_run ct 24 (n + 1) 4 [some (.inr (.inr (1, i))), some (.inl x1), some (.inl x2), some (.inl x3)] [] g =
  if (g 102 i 0) ≤ x3 then
    (some (some (.inl x2), g))
  else
    (am_bi (ct 14 [.inr (.inr (1, i)), .inl x1, .inl x3] g) (fun r1 g1 =>
    if r1 = 0 then
      (am_run ct 24 n 4 [some (.inr (.inr (1, i))), some (.inl x1), some (.inl x2), some (.inl (x3 + 1))] [] g1)
    else
      (bif am_in x3 24 then
        (am_run ct 24 n 4 [some (.inr (.inr (1, i))), some (.inl x1), some (.inl (x2 + (g1 6 i x3.toNatClampNeg))), some (.inl (x3 + 1))] [] g1)
      else none))) := rfl
set_option maxRecDepth 50000 in
theorem eF_childrenOf_0 (ct : am_T) (n : Nat) (i : Nat) (x1 : Int32) (g : am_G) : am_run ct 25 (n + 1) 0 [some (.inr (.inr (1, i))), some (.inl x1), none, none] [] g =
  am_run ct 25 n 4 [some (.inr (.inr (1, i))), some (.inl x1), some (.inl (0 : Int32)), some (.inl (0 : Int32))] [] g := rfl
set_option maxRecDepth 50000 in
theorem eF_childrenOf_4 (ct : am_T) (n : Nat) (i : Nat) (x1 : Int32) (x2 : Int32) (x3 : Int32) (g : am_G) : am_run ct 25 (n + 1) 4 [some (.inr (.inr (1, i))), some (.inl x1), some (.inl x2), some (.inl x3)] [] g =
  if (g 102 i 0) ≤ x3 then
    (some (some (.inl x2), g))
  else
    (bif am_in x3 24 then
      (if (g 2 i x3.toNatClampNeg) = x1 then
      (am_run ct 25 n 4 [some (.inr (.inr (1, i))), some (.inl x1), some (.inl (x2 + 1)), some (.inl (x3 + 1))] [] g)
    else
      (am_run ct 25 n 4 [some (.inr (.inr (1, i))), some (.inl x1), some (.inl x2), some (.inl (x3 + 1))] [] g))
    else none) := rfl
set_option maxRecDepth 50000 in
theorem eF_heavyChildOf_0 (ct : am_T) (n : Nat) (i : Nat) (x1 : Int32) (g : am_G) : am_run ct 26 (n + 1) 0 [some (.inr (.inr (1, i))), some (.inl x1)] [] g =
  am_bv (ct 22 [.inr (.inr (1, i))] g) (fun g1 =>
  am_bi (ct 27 [.inr (.inr (1, i)), .inl x1] g1) (fun r2 g2 =>
  some (some (.inl r2), g2))) := rfl
set_option maxRecDepth 50000 in
theorem eF_heavyOfWeighed_0 (ct : am_T) (n : Nat) (i : Nat) (x1 : Int32) (g : am_G) : am_run ct 27 (n + 1) 0 [some (.inr (.inr (1, i))), some (.inl x1), none] [] g =
  am_run ct 27 n 2 [some (.inr (.inr (1, i))), some (.inl x1), some (.inl (0 : Int32))] [] g := rfl
set_option maxRecDepth 50000 in
theorem eF_heavyOfWeighed_2 (ct : am_T) (n : Nat) (i : Nat) (x1 : Int32) (x2 : Int32) (g : am_G) : am_run ct 27 (n + 1) 2 [some (.inr (.inr (1, i))), some (.inl x1), some (.inl x2)] [] g =
  if (g 102 i 0) ≤ x2 then
    (some (some (.inl (-1 : Int32)), g))
  else
    (bif am_in x2 24 then
      (if (g 2 i x2.toNatClampNeg) = x1 then
      (bif am_in x2 24 then
        (bif am_in x1 24 then
        (if ((2 : Int32) * (g 7 i x2.toNatClampNeg)) ≤ (g 7 i x1.toNatClampNeg) then
        (am_run ct 27 n 2 [some (.inr (.inr (1, i))), some (.inl x1), some (.inl (x2 + 1))] [] g)
      else
        (some (some (.inl x2), g)))
      else none)
      else none)
    else
      (am_run ct 27 n 2 [some (.inr (.inr (1, i))), some (.inl x1), some (.inl (x2 + 1))] [] g))
    else none) := rfl
set_option maxRecDepth 50000 in
theorem eF_heavyNotPreferred_0 (ct : am_T) (n : Nat) (i : Nat) (g : am_G) : am_run ct 28 (n + 1) 0 [some (.inr (.inr (1, i))), none, none, none] [] g =
  am_bv (ct 22 [.inr (.inr (1, i))] g) (fun g1 =>
  am_run ct 28 n 6 [some (.inr (.inr (1, i))), some (.inl (0 : Int32)), some (.inl (0 : Int32)), none] [] g1) := rfl
set_option maxRecDepth 50000 in
theorem eF_heavyNotPreferred_6 (ct : am_T) (n : Nat) (i : Nat) (x1 : Int32) (x2 : Int32) (o3 : Option am_V) (g : am_G) : am_run ct 28 (n + 1) 6 [some (.inr (.inr (1, i))), some (.inl x1), some (.inl x2), o3] [] g =
  if (g 102 i 0) ≤ x2 then
    (some (some (.inl x1), g))
  else
    (am_bi (ct 27 [.inr (.inr (1, i)), .inl x2] g) (fun r1 g1 =>
    if r1 = (-1 : Int32) then
      (am_run ct 28 n 6 [some (.inr (.inr (1, i))), some (.inl x1), some (.inl (x2 + 1)), some (.inl r1)] [] g1)
    else
      (bif am_in x2 24 then
        (if (g1 3 i x2.toNatClampNeg) = r1 then
        (am_run ct 28 n 6 [some (.inr (.inr (1, i))), some (.inl x1), some (.inl (x2 + 1)), some (.inl r1)] [] g1)
      else
        (am_run ct 28 n 6 [some (.inr (.inr (1, i))), some (.inl (x1 + 1)), some (.inl (x2 + 1)), some (.inl r1)] [] g1))
      else none))) := rfl
set_option maxRecDepth 50000 in
theorem eF_switchesTo_0 (ct : am_T) (n : Nat) (i : Nat) (x1 : Int32) (g : am_G) : am_run ct 29 (n + 1) 0 [some (.inr (.inr (1, i))), some (.inl x1), none, none, none, none] [] g =
  bif am_in x1 24 then
    (am_run ct 29 n 11 [some (.inr (.inr (1, i))), some (.inl x1), some (.inl (0 : Int32)), some (.inl x1), some (.inl (g 2 i x1.toNatClampNeg)), some (.inl (0 : Int32))] [] g)
  else none := rfl
set_option maxRecDepth 50000 in
theorem eF_switchesTo_11 (ct : am_T) (n : Nat) (i : Nat) (x1 : Int32) (x2 : Int32) (x3 : Int32) (x4 : Int32) (x5 : Int32) (g : am_G) : am_run ct 29 (n + 1) 11 [some (.inr (.inr (1, i))), some (.inl x1), some (.inl x2), some (.inl x3), some (.inl x4), some (.inl x5)] [] g =
  if (24 : Int32) ≤ x5 then
    (some (some (.inl x2), g))
  else
    (if x4 = (-1 : Int32) then
      (some (some (.inl x2), g))
    else
      (bif am_in x4 24 then
        (if (g 3 i x4.toNatClampNeg) = x3 then
        (bif am_in x4 24 then
          (am_run ct 29 n 11 [some (.inr (.inr (1, i))), some (.inl x1), some (.inl x2), some (.inl x4), some (.inl (g 2 i x4.toNatClampNeg)), some (.inl (x5 + 1))] [] g)
        else none)
      else
        (bif am_in x4 24 then
          (am_run ct 29 n 11 [some (.inr (.inr (1, i))), some (.inl x1), some (.inl (x2 + 1)), some (.inl x4), some (.inl (g 2 i x4.toNatClampNeg)), some (.inl (x5 + 1))] [] g)
        else none))
      else none)) := rfl
set_option maxRecDepth 50000 in
theorem eF_lowerOfExtreme_5_0 (ct : am_T) (n : Nat) (i : Nat) (x1 : Int32) (x3 : Int32) (g : am_G) : am_run ct 30 (n + 1) 0 [some (.inr (.inr (1, i))), some (.inl x1), some (.inr (.inr (5, i))), some (.inl x3), none, none, none] [] g =
  am_bi (ct 11 [.inr (.inr (1, i)), .inl x1] g) (fun r1 g1 =>
  am_run ct 30 n 8 [some (.inr (.inr (1, i))), some (.inl x1), some (.inr (.inr (5, i))), some (.inl x3), some (.inl r1), some (.inl (-2 : Int32)), some (.inl (0 : Int32))] [] g1) := rfl
set_option maxRecDepth 50000 in
theorem eF_lowerOfExtreme_5_8 (ct : am_T) (n : Nat) (i : Nat) (x1 : Int32) (x3 : Int32) (x4 : Int32) (x5 : Int32) (x6 : Int32) (g : am_G) : am_run ct 30 (n + 1) 8 [some (.inr (.inr (1, i))), some (.inl x1), some (.inr (.inr (5, i))), some (.inl x3), some (.inl x4), some (.inl x5), some (.inl x6)] [] g =
  if (g 102 i 0) ≤ x6 then
    (some (some (.inl x5), g))
  else
    (if x6 = x4 then
      (am_run ct 30 n 8 [some (.inr (.inr (1, i))), some (.inl x1), some (.inr (.inr (5, i))), some (.inl x3), some (.inl x4), some (.inl x5), some (.inl (x6 + 1))] [] g)
    else
      (am_bi (ct 11 [.inr (.inr (1, i)), .inl x6] g) (fun r1 g1 =>
      if r1 = x4 then
        (if x5 = (-2 : Int32) then
          (am_run ct 30 n 8 [some (.inr (.inr (1, i))), some (.inl x1), some (.inr (.inr (5, i))), some (.inl x3), some (.inl x4), some (.inl x6), some (.inl (x6 + 1))] [] g1)
        else
          (bif am_in x6 24 then
            (bif am_in x5 24 then
            (if (x3 * (g1 5 i x6.toNatClampNeg)) ≤ (x3 * (g1 5 i x5.toNatClampNeg)) then
            (am_run ct 30 n 8 [some (.inr (.inr (1, i))), some (.inl x1), some (.inr (.inr (5, i))), some (.inl x3), some (.inl x4), some (.inl x5), some (.inl (x6 + 1))] [] g1)
          else
            (am_run ct 30 n 8 [some (.inr (.inr (1, i))), some (.inl x1), some (.inr (.inr (5, i))), some (.inl x3), some (.inl x4), some (.inl x6), some (.inl (x6 + 1))] [] g1))
          else none)
          else none))
      else
        (am_run ct 30 n 8 [some (.inr (.inr (1, i))), some (.inl x1), some (.inr (.inr (5, i))), some (.inl x3), some (.inl x4), some (.inl x5), some (.inl (x6 + 1))] [] g1)))) := rfl
set_option maxRecDepth 50000 in
theorem eF_lowerOfExtreme_4_0 (ct : am_T) (n : Nat) (i : Nat) (x1 : Int32) (x3 : Int32) (g : am_G) : am_run ct 30 (n + 1) 0 [some (.inr (.inr (1, i))), some (.inl x1), some (.inr (.inr (4, i))), some (.inl x3), none, none, none] [] g =
  am_bi (ct 11 [.inr (.inr (1, i)), .inl x1] g) (fun r1 g1 =>
  am_run ct 30 n 8 [some (.inr (.inr (1, i))), some (.inl x1), some (.inr (.inr (4, i))), some (.inl x3), some (.inl r1), some (.inl (-2 : Int32)), some (.inl (0 : Int32))] [] g1) := rfl
set_option maxRecDepth 50000 in
theorem eF_lowerOfExtreme_4_8 (ct : am_T) (n : Nat) (i : Nat) (x1 : Int32) (x3 : Int32) (x4 : Int32) (x5 : Int32) (x6 : Int32) (g : am_G) : am_run ct 30 (n + 1) 8 [some (.inr (.inr (1, i))), some (.inl x1), some (.inr (.inr (4, i))), some (.inl x3), some (.inl x4), some (.inl x5), some (.inl x6)] [] g =
  if (g 102 i 0) ≤ x6 then
    (some (some (.inl x5), g))
  else
    (if x6 = x4 then
      (am_run ct 30 n 8 [some (.inr (.inr (1, i))), some (.inl x1), some (.inr (.inr (4, i))), some (.inl x3), some (.inl x4), some (.inl x5), some (.inl (x6 + 1))] [] g)
    else
      (am_bi (ct 11 [.inr (.inr (1, i)), .inl x6] g) (fun r1 g1 =>
      if r1 = x4 then
        (if x5 = (-2 : Int32) then
          (am_run ct 30 n 8 [some (.inr (.inr (1, i))), some (.inl x1), some (.inr (.inr (4, i))), some (.inl x3), some (.inl x4), some (.inl x6), some (.inl (x6 + 1))] [] g1)
        else
          (bif am_in x6 24 then
            (bif am_in x5 24 then
            (if (x3 * (g1 4 i x6.toNatClampNeg)) ≤ (x3 * (g1 4 i x5.toNatClampNeg)) then
            (am_run ct 30 n 8 [some (.inr (.inr (1, i))), some (.inl x1), some (.inr (.inr (4, i))), some (.inl x3), some (.inl x4), some (.inl x5), some (.inl (x6 + 1))] [] g1)
          else
            (am_run ct 30 n 8 [some (.inr (.inr (1, i))), some (.inl x1), some (.inr (.inr (4, i))), some (.inl x3), some (.inl x4), some (.inl x6), some (.inl (x6 + 1))] [] g1))
          else none)
          else none))
      else
        (am_run ct 30 n 8 [some (.inr (.inr (1, i))), some (.inl x1), some (.inr (.inr (4, i))), some (.inl x3), some (.inl x4), some (.inl x5), some (.inl (x6 + 1))] [] g1)))) := rfl
set_option maxRecDepth 50000 in
theorem eF_midstOfTreeOf_0 (ct : am_T) (n : Nat) (i : Nat) (x1 : Int32) (g : am_G) : am_run ct 31 (n + 1) 0 [some (.inr (.inr (1, i))), some (.inl x1), none, none, none, none, none] [] g =
  am_bi (ct 11 [.inr (.inr (1, i)), .inl x1] g) (fun r1 g1 =>
  am_bv (ct 22 [.inr (.inr (1, i))] g1) (fun g2 =>
  am_run ct 31 n 12 [some (.inr (.inr (1, i))), some (.inl x1), some (.inl r1), some (.inl (-1 : Int32)), some (.inl (24 : Int32)), some (.inl (0 : Int32)), none] [] g2)) := rfl
set_option maxRecDepth 50000 in
theorem eF_midstOfTreeOf_12 (ct : am_T) (n : Nat) (i : Nat) (x1 : Int32) (x2 : Int32) (x3 : Int32) (x4 : Int32) (x5 : Int32) (o6 : Option am_V) (g : am_G) : am_run ct 31 (n + 1) 12 [some (.inr (.inr (1, i))), some (.inl x1), some (.inl x2), some (.inl x3), some (.inl x4), some (.inl x5), o6] [] g =
  if (g 102 i 0) ≤ x5 then
    (some (some (.inl x3), g))
  else
    (am_bi (ct 11 [.inr (.inr (1, i)), .inl x5] g) (fun r1 g1 =>
    if r1 = x2 then
      (bif am_in x2 24 then
        (am_bi (ct 32 [.inr (.inr (1, i)), .inl x5, .inl (g1 7 i x2.toNatClampNeg)] g1) (fun r2 g2 =>
      if x3 = (-1 : Int32) then
        (am_run ct 31 n 12 [some (.inr (.inr (1, i))), some (.inl x1), some (.inl x2), some (.inl x5), some (.inl r2), some (.inl (x5 + 1)), some (.inl r2)] [] g2)
      else
        (if x4 ≤ r2 then
          (am_run ct 31 n 12 [some (.inr (.inr (1, i))), some (.inl x1), some (.inl x2), some (.inl x3), some (.inl x4), some (.inl (x5 + 1)), some (.inl r2)] [] g2)
        else
          (am_run ct 31 n 12 [some (.inr (.inr (1, i))), some (.inl x1), some (.inl x2), some (.inl x5), some (.inl r2), some (.inl (x5 + 1)), some (.inl r2)] [] g2))))
      else none)
    else
      (am_run ct 31 n 12 [some (.inr (.inr (1, i))), some (.inl x1), some (.inl x2), some (.inl x3), some (.inl x4), some (.inl (x5 + 1)), o6] [] g1))) := rfl
set_option maxRecDepth 50000 in
theorem eF_greatestPartOfWeighed_0 (ct : am_T) (n : Nat) (i : Nat) (x1 : Int32) (x2 : Int32) (g : am_G) : am_run ct 32 (n + 1) 0 [some (.inr (.inr (1, i))), some (.inl x1), some (.inl x2), none, none] [] g =
  bif am_in x1 24 then
    (am_run ct 32 n 9 [some (.inr (.inr (1, i))), some (.inl x1), some (.inl x2), some (.inl (x2 - (g 7 i x1.toNatClampNeg))), some (.inl (0 : Int32))] [] g)
  else none := rfl
set_option maxRecDepth 50000 in
theorem eF_greatestPartOfWeighed_9 (ct : am_T) (n : Nat) (i : Nat) (x1 : Int32) (x2 : Int32) (x3 : Int32) (x4 : Int32) (g : am_G) : am_run ct 32 (n + 1) 9 [some (.inr (.inr (1, i))), some (.inl x1), some (.inl x2), some (.inl x3), some (.inl x4)] [] g =
  if (g 102 i 0) ≤ x4 then
    (some (some (.inl x3), g))
  else
    (bif am_in x4 24 then
      (if (g 2 i x4.toNatClampNeg) = x1 then
      (bif am_in x4 24 then
        (am_run ct 32 n 9 [some (.inr (.inr (1, i))), some (.inl x1), some (.inl x2), some (.inl (if x3 < (g 7 i x4.toNatClampNeg) then (g 7 i x4.toNatClampNeg) else x3)), some (.inl (x4 + 1))] [] g)
      else none)
    else
      (am_run ct 32 n 9 [some (.inr (.inr (1, i))), some (.inl x1), some (.inl x2), some (.inl x3), some (.inl (x4 + 1))] [] g))
    else none) := rfl
set_option maxRecDepth 50000 in
theorem eF_partsBy_0 (ct : am_T) (n : Nat) (i : Nat) (x1 : Int32) (g : am_G) : am_run ct 33 (n + 1) 0 [some (.inr (.inr (1, i))), some (.inl x1), none, none] [] g =
  am_run ct 33 n 5 [some (.inr (.inr (1, i))), some (.inl x1), some (.inl (g 102 i 0)), some (.inl (0 : Int32))] [] g := rfl
set_option maxRecDepth 50000 in
theorem eF_partsBy_5 (ct : am_T) (n : Nat) (i : Nat) (x1 : Int32) (x2 : Int32) (x3 : Int32) (g : am_G) : am_run ct 33 (n + 1) 5 [some (.inr (.inr (1, i))), some (.inl x1), some (.inl x2), some (.inl x3)] [] g =
  if (g 102 i 0) ≤ x3 then
    (some (some (.inl x2), g))
  else
    (bif am_in x3 24 then
      (if (g 2 i x3.toNatClampNeg) = (-1 : Int32) then
      (am_run ct 33 n 5 [some (.inr (.inr (1, i))), some (.inl x1), some (.inl x2), some (.inl (x3 + 1))] [] g)
    else
      (bif am_in x3 24 then
        (if x1 < (g 4 i x3.toNatClampNeg) then
        (am_run ct 33 n 5 [some (.inr (.inr (1, i))), some (.inl x1), some (.inl x2), some (.inl (x3 + 1))] [] g)
      else
        (am_run ct 33 n 5 [some (.inr (.inr (1, i))), some (.inl x1), some (.inl (x2 + (-1))), some (.inl (x3 + 1))] [] g))
      else none))
    else none) := rfl
set_option maxRecDepth 50000 in
theorem eF_leastLengthFor_0 (ct : am_T) (n : Nat) (i : Nat) (x1 : Int32) (g : am_G) : am_run ct 34 (n + 1) 0 [some (.inr (.inr (1, i))), some (.inl x1), none, none] [] g =
  am_bi (ct 33 [.inr (.inr (1, i)), .inl (0 : Int32)] g) (fun r1 g1 =>
  if x1 < r1 then
    (am_run ct 34 n 11 [some (.inr (.inr (1, i))), some (.inl x1), some (.inl (-1 : Int32)), some (.inl (0 : Int32))] [] g1)
  else
    (some (some (.inl (0 : Int32)), g1))) := rfl
set_option maxRecDepth 50000 in
theorem eF_leastLengthFor_11 (ct : am_T) (n : Nat) (i : Nat) (x1 : Int32) (x2 : Int32) (x3 : Int32) (g : am_G) : am_run ct 34 (n + 1) 11 [some (.inr (.inr (1, i))), some (.inl x1), some (.inl x2), some (.inl x3)] [] g =
  if (g 102 i 0) ≤ x3 then
    (some (some (.inl x2), g))
  else
    (bif am_in x3 24 then
      (if (g 2 i x3.toNatClampNeg) = (-1 : Int32) then
      (am_run ct 34 n 11 [some (.inr (.inr (1, i))), some (.inl x1), some (.inl x2), some (.inl (x3 + 1))] [] g)
    else
      (if x2 = (-1 : Int32) then
        (bif am_in x3 24 then
          (am_bi (ct 33 [.inr (.inr (1, i)), .inl (g 4 i x3.toNatClampNeg)] g) (fun r1 g1 =>
        if x1 < r1 then
          (am_run ct 34 n 11 [some (.inr (.inr (1, i))), some (.inl x1), some (.inl x2), some (.inl (x3 + 1))] [] g1)
        else
          (bif am_in x3 24 then
            (am_run ct 34 n 11 [some (.inr (.inr (1, i))), some (.inl x1), some (.inl (g1 4 i x3.toNatClampNeg)), some (.inl (x3 + 1))] [] g1)
          else none)))
        else none)
      else
        (bif am_in x3 24 then
          (if x2 ≤ (g 4 i x3.toNatClampNeg) then
          (am_run ct 34 n 11 [some (.inr (.inr (1, i))), some (.inl x1), some (.inl x2), some (.inl (x3 + 1))] [] g)
        else
          (bif am_in x3 24 then
            (am_bi (ct 33 [.inr (.inr (1, i)), .inl (g 4 i x3.toNatClampNeg)] g) (fun r2 g2 =>
          if x1 < r2 then
            (am_run ct 34 n 11 [some (.inr (.inr (1, i))), some (.inl x1), some (.inl x2), some (.inl (x3 + 1))] [] g2)
          else
            (bif am_in x3 24 then
              (am_run ct 34 n 11 [some (.inr (.inr (1, i))), some (.inl x1), some (.inl (g2 4 i x3.toNatClampNeg)), some (.inl (x3 + 1))] [] g2)
            else none)))
          else none))
        else none)))
    else none) := rfl
end
section
/-! ===== what a run from a cut is: by wip/whole/write.py ===== -/
set_option maxRecDepth 50000 in
theorem eB_start_0 (ct : am_T) (n : Nat) (i : Nat) (x2 : Int32) (g : am_G) : am_run ct 35 (n + 1) 0 [some (.inr (.inr (28, 0))), some (.inr (.inr (1, i))), some (.inl x2)] [] g =
  am_bv (ct 1 [.inr (.inr (1, 3)), .inr (.inr (1, i))] g) (fun g1 =>
  some (none, am_put (am_put g1 103 3 (0 : Int32)) 122 0 x2)) := rfl
set_option maxRecDepth 50000 in
theorem eB_draw_0 (ct : am_T) (n : Nat) (x1 : Int32) (g : am_G) : am_run ct 36 (n + 1) 0 [some (.inr (.inr (28, 0))), some (.inl x1)] [] g =
  if x1 ≤ 0 then
    (some (some (.inl (0 : Int32)), am_put g 122 0 ((((g 122 0 0) * (1103515245 : Int32)) + (12345 : Int32)) &&& (2147483647 : Int32))))
  else
    (if x1 = 0 then none else
    some (some (.inl ((((am_put g 122 0 ((((g 122 0 0) * (1103515245 : Int32)) + (12345 : Int32)) &&& (2147483647 : Int32))) 122 0 0) >>> ((16 : Int32) &&& 31)) - (((am_put g 122 0 ((((g 122 0 0) * (1103515245 : Int32)) + (12345 : Int32)) &&& (2147483647 : Int32))) 122 0 0) >>> ((16 : Int32) &&& 31)) / x1 * x1)), am_put g 122 0 ((((g 122 0 0) * (1103515245 : Int32)) + (12345 : Int32)) &&& (2147483647 : Int32)))) := rfl
set_option maxRecDepth 50000 in
theorem eB_doOne_0 (ct : am_T) (n : Nat)  (g : am_G) : am_run ct 37 (n + 1) 0 [some (.inr (.inr (28, 0))), none, none, none] [] g =
  am_bi (ct 36 [.inr (.inr (28, 0)), .inl (4 : Int32)] g) (fun r1 g1 =>
  am_bi (ct 36 [.inr (.inr (28, 0)), .inl (g1 102 3 0)] g1) (fun r2 g2 =>
  am_bi (ct 36 [.inr (.inr (28, 0)), .inl (g2 102 3 0)] g2) (fun r3 g3 =>
  if r1 = 0 then
    (am_bv (ct 5 [.inr (.inr (1, 3)), .inl r2] g3) (fun g4 =>
    some (none, g4)))
  else if r1 = 1 then
    (am_bv (ct 6 [.inr (.inr (1, 3)), .inl r2] g3) (fun g5 =>
    some (none, g5)))
  else if r1 = 2 then
    (am_bi (ct 15 [.inr (.inr (1, 3)), .inl r2, .inl r3] g3) (fun r6 g6 =>
    if r6 = 0 then
      (am_bi (ct 36 [.inr (.inr (28, 0)), .inl (100 : Int32)] g6) (fun r7 g7 =>
      am_bv (ct 8 [.inr (.inr (1, 3)), .inl r2, .inl r3, .inl (r7 + (1 : Int32)), .inl (1 : Int32)] g7) (fun g8 =>
      some (none, g8))))
    else
      (some (none, g6))))
  else (am_bv (ct 74 [.inr (.inr (16, 1)), .inr (.inr (1, 3)), .inl r2, .inl r3] g3) (fun g9 =>
    am_bv (ct 80 [.inr (.inr (16, 1)), .inr (.inr (1, 3))] g9) (fun g10 =>
    some (none, g10))))))) := rfl
set_option maxRecDepth 50000 in
theorem eH_forget_0 (ct : am_T) (n : Nat)  (g : am_G) : am_run ct 38 (n + 1) 0 [some (.inr (.inr (14, 0)))] [] g =
  some (none, am_put (am_put g 117 0 (0 : Int32)) 118 0 (0 : Int32)) := rfl
set_option maxRecDepth 50000 in
theorem eH_remember_0 (ct : am_T) (n : Nat) (i : Nat) (g : am_G) : am_run ct 39 (n + 1) 0 [some (.inr (.inr (14, 0))), some (.inr (.inr (1, i)))] [] g =
  if (20 : Int32) = 0 then none else
  bif am_in (((g 117 0 0) + (g 118 0 0)) - ((g 117 0 0) + (g 118 0 0)) / (20 : Int32) * (20 : Int32)) 20 then
    (am_bv (ct 1 [.inr (.inr (1, (4 + (((g 117 0 0) + (g 118 0 0)) - ((g 117 0 0) + (g 118 0 0)) / (20 : Int32) * (20 : Int32)).toNatClampNeg))), .inr (.inr (1, i))] g) (fun g1 =>
  if (20 : Int32) ≤ (g1 118 0 0) then
    (if (20 : Int32) = 0 then none else
    some (none, am_put g1 117 0 (((g1 117 0 0) + (1 : Int32)) - ((g1 117 0 0) + (1 : Int32)) / (20 : Int32) * (20 : Int32))))
  else
    (some (none, am_put g1 118 0 ((g1 118 0 0) + (1 : Int32))))))
  else none := rfl
set_option maxRecDepth 50000 in
theorem eH_goBack_0 (ct : am_T) (n : Nat) (i : Nat) (g : am_G) : am_run ct 40 (n + 1) 0 [some (.inr (.inr (14, 0))), some (.inr (.inr (1, i)))] [] g =
  if (g 118 0 0) = 0 then
    (some (some (.inl (0 : Int32)), g))
  else
    (if (20 : Int32) = 0 then none else
    bif am_in ((((am_put g 118 0 ((g 118 0 0) - (1 : Int32))) 117 0 0) + ((am_put g 118 0 ((g 118 0 0) - (1 : Int32))) 118 0 0)) - (((am_put g 118 0 ((g 118 0 0) - (1 : Int32))) 117 0 0) + ((am_put g 118 0 ((g 118 0 0) - (1 : Int32))) 118 0 0)) / (20 : Int32) * (20 : Int32)) 20 then
      (am_bv (ct 1 [.inr (.inr (1, i)), .inr (.inr (1, (4 + ((((am_put g 118 0 ((g 118 0 0) - (1 : Int32))) 117 0 0) + ((am_put g 118 0 ((g 118 0 0) - (1 : Int32))) 118 0 0)) - (((am_put g 118 0 ((g 118 0 0) - (1 : Int32))) 117 0 0) + ((am_put g 118 0 ((g 118 0 0) - (1 : Int32))) 118 0 0)) / (20 : Int32) * (20 : Int32)).toNatClampNeg)))] (am_put g 118 0 ((g 118 0 0) - (1 : Int32)))) (fun g1 =>
    some (some (.inl (1 : Int32)), g1)))
    else none) := rfl
set_option maxRecDepth 50000 in
theorem eN_clear_0 (ct : am_T) (n : Nat) (i : Nat) (g : am_G) : am_run ct 41 (n + 1) 0 [some (.inr (.inr (8, i)))] [] g =
  some (none, am_put (am_put (am_put g 104 i (0 : Int32)) 105 i (0 : Int32)) 106 i (0 : Int32)) := rfl
set_option maxRecDepth 50000 in
theorem eN_copyFrom_0 (ct : am_T) (n : Nat) (i j : Nat) (g : am_G) : am_run ct 42 (n + 1) 0 [some (.inr (.inr (8, i))), some (.inr (.inr (8, j)))] [] g =
  bif am_01 ((am_put (am_put (am_set g 9 i (va_cpy (g 9 j) (g 9 i) 0 0 24)) 104 i ((am_set g 9 i (va_cpy (g 9 j) (g 9 i) 0 0 24)) 104 j 0)) 105 i ((am_put (am_set g 9 i (va_cpy (g 9 j) (g 9 i) 0 0 24)) 104 i ((am_set g 9 i (va_cpy (g 9 j) (g 9 i) 0 0 24)) 104 j 0)) 105 j 0)) 106 j 0) then
    (some (none, am_put (am_put (am_put (am_set g 9 i (va_cpy (g 9 j) (g 9 i) 0 0 24)) 104 i ((am_set g 9 i (va_cpy (g 9 j) (g 9 i) 0 0 24)) 104 j 0)) 105 i ((am_put (am_set g 9 i (va_cpy (g 9 j) (g 9 i) 0 0 24)) 104 i ((am_set g 9 i (va_cpy (g 9 j) (g 9 i) 0 0 24)) 104 j 0)) 105 j 0)) 106 i ((am_put (am_put (am_set g 9 i (va_cpy (g 9 j) (g 9 i) 0 0 24)) 104 i ((am_set g 9 i (va_cpy (g 9 j) (g 9 i) 0 0 24)) 104 j 0)) 105 i ((am_put (am_set g 9 i (va_cpy (g 9 j) (g 9 i) 0 0 24)) 104 i ((am_set g 9 i (va_cpy (g 9 j) (g 9 i) 0 0 24)) 104 j 0)) 105 j 0)) 106 j 0)))
  else none := rfl
set_option maxRecDepth 50000 in
theorem eN_add_0 (ct : am_T) (n : Nat) (i : Nat) (x1 : Int32) (g : am_G) : am_run ct 43 (n + 1) 0 [some (.inr (.inr (8, i))), some (.inl x1)] [] g =
  if (24 : Int32) ≤ (g 104 i 0) then
    (some (none, g))
  else
    (bif am_in (g 104 i 0) 24 then
      (some (none, am_put (am_sto g 9 i (g 104 i 0).toNatClampNeg x1) 104 i (((am_sto g 9 i (g 104 i 0).toNatClampNeg x1) 104 i 0) + (1 : Int32))))
    else none) := rfl
set_option maxRecDepth 50000 in
theorem eN_find_0 (ct : am_T) (n : Nat) (i : Nat) (x1 : Int32) (g : am_G) : am_run ct 44 (n + 1) 0 [some (.inr (.inr (8, i))), some (.inl x1), none] [] g =
  am_run ct 44 n 2 [some (.inr (.inr (8, i))), some (.inl x1), some (.inl (0 : Int32))] [] g := rfl
set_option maxRecDepth 50000 in
theorem eN_find_2 (ct : am_T) (n : Nat) (i : Nat) (x1 : Int32) (x2 : Int32) (g : am_G) : am_run ct 44 (n + 1) 2 [some (.inr (.inr (8, i))), some (.inl x1), some (.inl x2)] [] g =
  if (g 104 i 0) ≤ x2 then
    (some (some (.inl (-1 : Int32)), g))
  else
    (bif am_in x2 24 then
      (if (g 9 i x2.toNatClampNeg) = x1 then
      (some (some (.inl x2), g))
    else
      (am_run ct 44 n 2 [some (.inr (.inr (8, i))), some (.inl x1), some (.inl (x2 + 1))] [] g))
    else none) := rfl
set_option maxRecDepth 50000 in
theorem eR_opn_0 (ct : am_T) (n : Nat) (x2 : Int32) (g : am_G) : am_run ct 45 (n + 1) 0 [some (.inr (.inr (11, 0))), some (.inr (.inr (13, 0))), some (.inl x2)] [] g =
  am_bv (ct 46 [.inr (.inr (11, 0))] (am_put (am_put (am_put g 110 0 1) 111 0 (if (nI 700) < x2 then (nI 700) else x2)) 112 0 (0 : Int32))) (fun g1 =>
  some (none, g1)) := rfl
set_option maxRecDepth 50000 in
theorem eR_step_0 (ct : am_T) (n : Nat)  (g : am_G) : am_run ct 46 (n + 1) 0 [some (.inr (.inr (11, 0)))] [] g =
  if (g 111 0 0) ≤ (g 112 0 0) then
    (if ((am_put g 114 0 (g 112 0 0)) 112 0 0) < ((am_put g 114 0 (g 112 0 0)) 111 0 0) then
      (am_bi (ct 47 [.inr (.inr (11, 0)), .inl ((am_put g 114 0 (g 112 0 0)) 112 0 0)] (am_put g 114 0 (g 112 0 0))) (fun r1 g1 =>
      if r1 = 0 then
        (am_bi (ct 48 [.inr (.inr (11, 0)), .inl (g1 112 0 0)] g1) (fun r2 g2 =>
        if r2 = 0 then
          (if g2 110 0 0 = 0 then none else
          bif am_in (g2 112 0 0) 700 then
            (if (g2 13 0 (g2 112 0 0).toNatClampNeg) = (45 : Int32) then
            (am_bi (ct 48 [.inr (.inr (11, 0)), .inl ((g2 112 0 0) + (1 : Int32))] g2) (fun r3 g3 =>
            if r3 = 0 then
              (if g3 110 0 0 = 0 then none else
              bif am_in (g3 112 0 0) 700 then
                (if (g3 13 0 (g3 112 0 0).toNatClampNeg) = (59 : Int32) then
                (some (none, am_put (am_put g3 113 0 (4 : Int32)) 112 0 (((am_put g3 113 0 (4 : Int32)) 112 0 0) + (1 : Int32))))
              else
                (some (none, am_put (am_put g3 113 0 (5 : Int32)) 112 0 (((am_put g3 113 0 (5 : Int32)) 112 0 0) + (1 : Int32)))))
              else none)
            else
              (am_bv (ct 50 [.inr (.inr (11, 0))] (am_put (am_put g3 113 0 (3 : Int32)) 112 0 (((am_put g3 113 0 (3 : Int32)) 112 0 0) + (1 : Int32)))) (fun g4 =>
              some (none, am_put g4 116 0 (-(g4 116 0 0)))))))
          else
            (if g2 110 0 0 = 0 then none else
            bif am_in (g2 112 0 0) 700 then
              (if (g2 13 0 (g2 112 0 0).toNatClampNeg) = (59 : Int32) then
              (some (none, am_put (am_put g2 113 0 (4 : Int32)) 112 0 (((am_put g2 113 0 (4 : Int32)) 112 0 0) + (1 : Int32))))
            else
              (some (none, am_put (am_put g2 113 0 (5 : Int32)) 112 0 (((am_put g2 113 0 (5 : Int32)) 112 0 0) + (1 : Int32)))))
            else none))
          else none)
        else
          (am_bv (ct 50 [.inr (.inr (11, 0))] (am_put g2 113 0 (2 : Int32))) (fun g5 =>
          some (none, g5)))))
      else
        (am_bv (ct 49 [.inr (.inr (11, 0))] g1) (fun g6 =>
        some (none, g6)))))
    else
      (some (none, am_put (am_put g 114 0 (g 112 0 0)) 113 0 (0 : Int32))))
  else
    (if g 110 0 0 = 0 then none else
    bif am_in (g 112 0 0) 700 then
      (if (g 13 0 (g 112 0 0).toNatClampNeg) = (10 : Int32) then
      (am_run ct 46 n 0 [some (.inr (.inr (11, 0)))] [] (am_put g 112 0 ((g 112 0 0) + (1 : Int32))))
    else
      (if g 110 0 0 = 0 then none else
      bif am_in (g 112 0 0) 700 then
        (if (g 13 0 (g 112 0 0).toNatClampNeg) = (32 : Int32) then
        (am_run ct 46 n 0 [some (.inr (.inr (11, 0)))] [] (am_put g 112 0 ((g 112 0 0) + (1 : Int32))))
      else
        (if ((am_put g 114 0 (g 112 0 0)) 112 0 0) < ((am_put g 114 0 (g 112 0 0)) 111 0 0) then
          (am_bi (ct 47 [.inr (.inr (11, 0)), .inl ((am_put g 114 0 (g 112 0 0)) 112 0 0)] (am_put g 114 0 (g 112 0 0))) (fun r7 g7 =>
          if r7 = 0 then
            (am_bi (ct 48 [.inr (.inr (11, 0)), .inl (g7 112 0 0)] g7) (fun r8 g8 =>
            if r8 = 0 then
              (if g8 110 0 0 = 0 then none else
              bif am_in (g8 112 0 0) 700 then
                (if (g8 13 0 (g8 112 0 0).toNatClampNeg) = (45 : Int32) then
                (am_bi (ct 48 [.inr (.inr (11, 0)), .inl ((g8 112 0 0) + (1 : Int32))] g8) (fun r9 g9 =>
                if r9 = 0 then
                  (if g9 110 0 0 = 0 then none else
                  bif am_in (g9 112 0 0) 700 then
                    (if (g9 13 0 (g9 112 0 0).toNatClampNeg) = (59 : Int32) then
                    (some (none, am_put (am_put g9 113 0 (4 : Int32)) 112 0 (((am_put g9 113 0 (4 : Int32)) 112 0 0) + (1 : Int32))))
                  else
                    (some (none, am_put (am_put g9 113 0 (5 : Int32)) 112 0 (((am_put g9 113 0 (5 : Int32)) 112 0 0) + (1 : Int32)))))
                  else none)
                else
                  (am_bv (ct 50 [.inr (.inr (11, 0))] (am_put (am_put g9 113 0 (3 : Int32)) 112 0 (((am_put g9 113 0 (3 : Int32)) 112 0 0) + (1 : Int32)))) (fun g10 =>
                  some (none, am_put g10 116 0 (-(g10 116 0 0)))))))
              else
                (if g8 110 0 0 = 0 then none else
                bif am_in (g8 112 0 0) 700 then
                  (if (g8 13 0 (g8 112 0 0).toNatClampNeg) = (59 : Int32) then
                  (some (none, am_put (am_put g8 113 0 (4 : Int32)) 112 0 (((am_put g8 113 0 (4 : Int32)) 112 0 0) + (1 : Int32))))
                else
                  (some (none, am_put (am_put g8 113 0 (5 : Int32)) 112 0 (((am_put g8 113 0 (5 : Int32)) 112 0 0) + (1 : Int32)))))
                else none))
              else none)
            else
              (am_bv (ct 50 [.inr (.inr (11, 0))] (am_put g8 113 0 (2 : Int32))) (fun g11 =>
              some (none, g11)))))
          else
            (am_bv (ct 49 [.inr (.inr (11, 0))] g7) (fun g12 =>
            some (none, g12)))))
        else
          (some (none, am_put (am_put g 114 0 (g 112 0 0)) 113 0 (0 : Int32)))))
      else none))
    else none) := rfl
set_option maxRecDepth 50000 in
theorem eR_isLetterAt_0 (ct : am_T) (n : Nat) (x1 : Int32) (g : am_G) : am_run ct 47 (n + 1) 0 [some (.inr (.inr (11, 0))), some (.inl x1)] [] g =
  if (g 111 0 0) ≤ x1 then
    (some (some (.inl (0 : Int32)), g))
  else
    (if g 110 0 0 = 0 then none else
    bif am_in x1 700 then
      (if (g 13 0 x1.toNatClampNeg) < (97 : Int32) then
      (some (some (.inl (0 : Int32)), g))
    else
      (if g 110 0 0 = 0 then none else
      bif am_in x1 700 then
        (if (122 : Int32) < (g 13 0 x1.toNatClampNeg) then
        (some (some (.inl (0 : Int32)), g))
      else
        (some (some (.inl (1 : Int32)), g)))
      else none))
    else none) := rfl
set_option maxRecDepth 50000 in
theorem eR_isDigitAt_0 (ct : am_T) (n : Nat) (x1 : Int32) (g : am_G) : am_run ct 48 (n + 1) 0 [some (.inr (.inr (11, 0))), some (.inl x1)] [] g =
  if (g 111 0 0) ≤ x1 then
    (some (some (.inl (0 : Int32)), g))
  else
    (if g 110 0 0 = 0 then none else
    bif am_in x1 700 then
      (if (g 13 0 x1.toNatClampNeg) < (48 : Int32) then
      (some (some (.inl (0 : Int32)), g))
    else
      (if g 110 0 0 = 0 then none else
      bif am_in x1 700 then
        (if (57 : Int32) < (g 13 0 x1.toNatClampNeg) then
        (some (some (.inl (0 : Int32)), g))
      else
        (some (some (.inl (1 : Int32)), g)))
      else none))
    else none) := rfl
set_option maxRecDepth 50000 in
theorem eR_readWord_0 (ct : am_T) (n : Nat)  (g : am_G) : am_run ct 49 (n + 1) 0 [some (.inr (.inr (11, 0))), none] [] g =
  am_run ct 49 n 5 [some (.inr (.inr (11, 0))), some (.inl (25 : Int32))] [] (am_put g 115 0 (0 : Int32)) := rfl
set_option maxRecDepth 50000 in
theorem eR_readWord_5 (ct : am_T) (n : Nat) (x1 : Int32) (g : am_G) : am_run ct 49 (n + 1) 5 [some (.inr (.inr (11, 0))), some (.inl x1)] [] g =
  if (g 111 0 0) ≤ (g 112 0 0) then
    (if ((g 112 0 0) - (g 114 0 0)) ≤ (6 : Int32) then
      (some (none, am_put g 113 0 (1 : Int32)))
    else
      (some (none, am_put g 113 0 (5 : Int32))))
  else
    (am_bi (ct 47 [.inr (.inr (11, 0)), .inl (g 112 0 0)] g) (fun r1 g1 =>
    if r1 = 0 then
      (if ((g1 112 0 0) - (g1 114 0 0)) ≤ (6 : Int32) then
        (some (none, am_put g1 113 0 (1 : Int32)))
      else
        (some (none, am_put g1 113 0 (5 : Int32))))
    else
      (if x1 < 0 then
        (am_run ct 49 n 5 [some (.inr (.inr (11, 0))), some (.inl (x1 + (-5)))] [] (am_put g1 112 0 ((g1 112 0 0) + (1 : Int32))))
      else
        (if g1 110 0 0 = 0 then none else
        bif am_in (g1 112 0 0) 700 then
          (am_run ct 49 n 5 [some (.inr (.inr (11, 0))), some (.inl (x1 + (-5)))] [] (am_put (am_put g1 115 0 ((g1 115 0 0) ||| (((g1 13 0 (g1 112 0 0).toNatClampNeg) - (96 : Int32)) <<< (x1 &&& 31)))) 112 0 (((am_put g1 115 0 ((g1 115 0 0) ||| (((g1 13 0 (g1 112 0 0).toNatClampNeg) - (96 : Int32)) <<< (x1 &&& 31)))) 112 0 0) + (1 : Int32))))
        else none)))) := rfl
set_option maxRecDepth 50000 in
theorem eR_readDigits_0 (ct : am_T) (n : Nat)  (g : am_G) : am_run ct 50 (n + 1) 0 [some (.inr (.inr (11, 0)))] [] g =
  am_run ct 50 n 3 [some (.inr (.inr (11, 0)))] [] (am_put g 116 0 (0 : Int32)) := rfl
set_option maxRecDepth 50000 in
theorem eR_readDigits_3 (ct : am_T) (n : Nat)  (g : am_G) : am_run ct 50 (n + 1) 3 [some (.inr (.inr (11, 0)))] [] g =
  if (g 111 0 0) ≤ (g 112 0 0) then
    (some (none, g))
  else
    (am_bi (ct 48 [.inr (.inr (11, 0)), .inl (g 112 0 0)] g) (fun r1 g1 =>
    if r1 = 0 then
      (some (none, g1))
    else
      (if (99999 : Int32) < (g1 116 0 0) then
        (am_run ct 50 n 3 [some (.inr (.inr (11, 0)))] [] (am_put g1 112 0 ((g1 112 0 0) + (1 : Int32))))
      else
        (if g1 110 0 0 = 0 then none else
        bif am_in (g1 112 0 0) 700 then
          (am_run ct 50 n 3 [some (.inr (.inr (11, 0)))] [] (am_put (am_put g1 116 0 ((((g1 116 0 0) * (10 : Int32)) + (g1 13 0 (g1 112 0 0).toNatClampNeg)) - (48 : Int32))) 112 0 (((am_put g1 116 0 ((((g1 116 0 0) * (10 : Int32)) + (g1 13 0 (g1 112 0 0).toNatClampNeg)) - (48 : Int32))) 112 0 0) + (1 : Int32))))
        else none)))) := rfl
set_option maxRecDepth 50000 in
theorem eS_look_0 (ct : am_T) (n : Nat) (i w : Nat) (x3 : Int32) (g : am_G) : am_run ct 51 (n + 1) 0 [some (.inr (.inr (18, 0))), some (.inr (.inr (1, i))), some (.inr (.inr (16, w))), some (.inl x3), none] [] g =
  am_bi (ct 78 [.inr (.inr (16, w)), .inr (.inr (1, i))] g) (fun r1 g1 =>
  am_bi (ct 76 [.inr (.inr (16, w)), .inr (.inr (1, i))] (am_put g1 120 0 (1 : Int32))) (fun r2 g2 =>
  bif am_in (0 : Int32) 9 then
    (am_bi (ct 79 [.inr (.inr (16, w)), .inr (.inr (1, i))] (am_sto g2 19 0 (0 : Int32).toNatClampNeg r2)) (fun r3 g3 =>
  bif am_in (1 : Int32) 9 then
    (if r1 = (-1 : Int32) then
    (bif am_in (2 : Int32) 9 then
      (if r1 = (-1 : Int32) then
      (bif am_in (3 : Int32) 9 then
        (am_bi (ct 81 [.inr (.inr (16, w)), .inr (.inr (1, i)), .inr (.inr (5, i))] (am_sto (am_sto (am_sto g3 19 0 (1 : Int32).toNatClampNeg r3) 19 0 (2 : Int32).toNatClampNeg (-2 : Int32)) 19 0 (3 : Int32).toNatClampNeg (-2 : Int32))) (fun r13 g13 =>
      bif am_in (4 : Int32) 9 then
        (am_bi (ct 77 [.inr (.inr (16, w)), .inr (.inr (1, i))] (am_sto g13 19 0 (4 : Int32).toNatClampNeg r13)) (fun r14 g14 =>
      bif am_in (5 : Int32) 9 then
        (bif am_in (6 : Int32) 9 then
        (bif am_in (7 : Int32) 9 then
        (am_bi (ct 81 [.inr (.inr (16, w)), .inr (.inr (1, i)), .inr (.inr (4, i))] (am_sto (am_sto (am_sto g14 19 0 (5 : Int32).toNatClampNeg r14) 19 0 (6 : Int32).toNatClampNeg ((am_sto g14 19 0 (5 : Int32).toNatClampNeg r14) 119 w 0)) 19 0 (7 : Int32).toNatClampNeg x3)) (fun r15 g15 =>
      bif am_in (8 : Int32) 9 then
        (some (none, am_sto g15 19 0 (8 : Int32).toNatClampNeg r15))
      else none))
      else none)
      else none)
      else none))
      else none))
      else none)
    else
      (bif am_in (r1 + (1 : Int32)) 24 then
        (bif am_in (3 : Int32) 9 then
        (am_bi (ct 81 [.inr (.inr (16, w)), .inr (.inr (1, i)), .inr (.inr (5, i))] (am_sto (am_sto (am_sto g3 19 0 (1 : Int32).toNatClampNeg r3) 19 0 (2 : Int32).toNatClampNeg (-2 : Int32)) 19 0 (3 : Int32).toNatClampNeg ((am_sto (am_sto g3 19 0 (1 : Int32).toNatClampNeg r3) 19 0 (2 : Int32).toNatClampNeg (-2 : Int32)) 17 w (r1 + (1 : Int32)).toNatClampNeg))) (fun r10 g10 =>
      bif am_in (4 : Int32) 9 then
        (am_bi (ct 77 [.inr (.inr (16, w)), .inr (.inr (1, i))] (am_sto g10 19 0 (4 : Int32).toNatClampNeg r10)) (fun r11 g11 =>
      bif am_in (5 : Int32) 9 then
        (bif am_in (6 : Int32) 9 then
        (bif am_in (7 : Int32) 9 then
        (am_bi (ct 81 [.inr (.inr (16, w)), .inr (.inr (1, i)), .inr (.inr (4, i))] (am_sto (am_sto (am_sto g11 19 0 (5 : Int32).toNatClampNeg r11) 19 0 (6 : Int32).toNatClampNeg ((am_sto g11 19 0 (5 : Int32).toNatClampNeg r11) 119 w 0)) 19 0 (7 : Int32).toNatClampNeg x3)) (fun r12 g12 =>
      bif am_in (8 : Int32) 9 then
        (some (none, am_sto g12 19 0 (8 : Int32).toNatClampNeg r12))
      else none))
      else none)
      else none)
      else none))
      else none))
      else none)
      else none))
    else none)
  else
    (bif am_in r1 24 then
      (bif am_in (2 : Int32) 9 then
      (if r1 = (-1 : Int32) then
      (bif am_in (3 : Int32) 9 then
        (am_bi (ct 81 [.inr (.inr (16, w)), .inr (.inr (1, i)), .inr (.inr (5, i))] (am_sto (am_sto (am_sto g3 19 0 (1 : Int32).toNatClampNeg r3) 19 0 (2 : Int32).toNatClampNeg ((am_sto g3 19 0 (1 : Int32).toNatClampNeg r3) 17 w r1.toNatClampNeg)) 19 0 (3 : Int32).toNatClampNeg (-2 : Int32))) (fun r7 g7 =>
      bif am_in (4 : Int32) 9 then
        (am_bi (ct 77 [.inr (.inr (16, w)), .inr (.inr (1, i))] (am_sto g7 19 0 (4 : Int32).toNatClampNeg r7)) (fun r8 g8 =>
      bif am_in (5 : Int32) 9 then
        (bif am_in (6 : Int32) 9 then
        (bif am_in (7 : Int32) 9 then
        (am_bi (ct 81 [.inr (.inr (16, w)), .inr (.inr (1, i)), .inr (.inr (4, i))] (am_sto (am_sto (am_sto g8 19 0 (5 : Int32).toNatClampNeg r8) 19 0 (6 : Int32).toNatClampNeg ((am_sto g8 19 0 (5 : Int32).toNatClampNeg r8) 119 w 0)) 19 0 (7 : Int32).toNatClampNeg x3)) (fun r9 g9 =>
      bif am_in (8 : Int32) 9 then
        (some (none, am_sto g9 19 0 (8 : Int32).toNatClampNeg r9))
      else none))
      else none)
      else none)
      else none))
      else none))
      else none)
    else
      (bif am_in (r1 + (1 : Int32)) 24 then
        (bif am_in (3 : Int32) 9 then
        (am_bi (ct 81 [.inr (.inr (16, w)), .inr (.inr (1, i)), .inr (.inr (5, i))] (am_sto (am_sto (am_sto g3 19 0 (1 : Int32).toNatClampNeg r3) 19 0 (2 : Int32).toNatClampNeg ((am_sto g3 19 0 (1 : Int32).toNatClampNeg r3) 17 w r1.toNatClampNeg)) 19 0 (3 : Int32).toNatClampNeg ((am_sto (am_sto g3 19 0 (1 : Int32).toNatClampNeg r3) 19 0 (2 : Int32).toNatClampNeg ((am_sto g3 19 0 (1 : Int32).toNatClampNeg r3) 17 w r1.toNatClampNeg)) 17 w (r1 + (1 : Int32)).toNatClampNeg))) (fun r4 g4 =>
      bif am_in (4 : Int32) 9 then
        (am_bi (ct 77 [.inr (.inr (16, w)), .inr (.inr (1, i))] (am_sto g4 19 0 (4 : Int32).toNatClampNeg r4)) (fun r5 g5 =>
      bif am_in (5 : Int32) 9 then
        (bif am_in (6 : Int32) 9 then
        (bif am_in (7 : Int32) 9 then
        (am_bi (ct 81 [.inr (.inr (16, w)), .inr (.inr (1, i)), .inr (.inr (4, i))] (am_sto (am_sto (am_sto g5 19 0 (5 : Int32).toNatClampNeg r5) 19 0 (6 : Int32).toNatClampNeg ((am_sto g5 19 0 (5 : Int32).toNatClampNeg r5) 119 w 0)) 19 0 (7 : Int32).toNatClampNeg x3)) (fun r6 g6 =>
      bif am_in (8 : Int32) 9 then
        (some (none, am_sto g6 19 0 (8 : Int32).toNatClampNeg r6))
      else none))
      else none)
      else none)
      else none))
      else none))
      else none)
      else none))
    else none)
    else none))
  else none))
  else none)) := rfl
set_option maxRecDepth 50000 in
theorem eV_lineUp_0 (ct : am_T) (n : Nat) (i : Nat) (x2 : Int32) (g : am_G) : am_run ct 52 (n + 1) 0 [some (.inr (.inr (20, 0))), some (.inr (.inr (1, i))), some (.inl x2), none, none, none] [] g =
  bif am_in (0 : Int32) 24 then
    (am_run ct 52 n 12 [some (.inr (.inr (20, 0))), some (.inr (.inr (1, i))), some (.inl x2), some (.inl (1 : Int32)), some (.inl (0 : Int32)), none] [] (am_sto (am_put g 121 0 (0 : Int32)) 22 0 (0 : Int32).toNatClampNeg x2))
  else none := rfl
set_option maxRecDepth 50000 in
theorem eV_lineUp_12 (ct : am_T) (n : Nat) (i : Nat) (x2 : Int32) (x3 : Int32) (x4 : Int32) (o5 : Option am_V) (g : am_G) : am_run ct 52 (n + 1) 12 [some (.inr (.inr (20, 0))), some (.inr (.inr (1, i))), some (.inl x2), some (.inl x3), some (.inl x4), o5] [] g =
  if (24 : Int32) ≤ x4 then
    (some (none, g))
  else
    (if x3 ≤ 0 then
      (some (none, g))
    else
      (am_run ct 52 n 18 [some (.inr (.inr (20, 0))), some (.inr (.inr (1, i))), some (.inl x2), some (.inl (x3 + (-1))), some (.inl x4), o5] [] g)) := rfl
set_option maxRecDepth 50000 in
theorem eV_lineUp_18 (ct : am_T) (n : Nat) (i : Nat) (x2 : Int32) (x3 : Int32) (x4 : Int32) (o5 : Option am_V) (g : am_G) : am_run ct 52 (n + 1) 18 [some (.inr (.inr (20, 0))), some (.inr (.inr (1, i))), some (.inl x2), some (.inl x3), some (.inl x4), o5] [] g =
  bif am_in x3 24 then
    (bif am_in (g 121 0 0) 24 then
    (am_bi (ct 53 [.inr (.inr (20, 0)), .inr (.inr (1, i)), .inl (g 22 0 x3.toNatClampNeg), .inl x3] (am_put (am_sto g 21 0 (g 121 0 0).toNatClampNeg (g 22 0 x3.toNatClampNeg)) 121 0 (((am_sto g 21 0 (g 121 0 0).toNatClampNeg (g 22 0 x3.toNatClampNeg)) 121 0 0) + (1 : Int32)))) (fun r1 g1 =>
  am_run ct 52 n 12 [some (.inr (.inr (20, 0))), some (.inr (.inr (1, i))), some (.inl x2), some (.inl r1), some (.inl (x4 + 1)), some (.inl (g 22 0 x3.toNatClampNeg))] [] g1))
  else none)
  else none := rfl
set_option maxRecDepth 50000 in
theorem eV_opnChildren_0 (ct : am_T) (n : Nat) (i : Nat) (x2 : Int32) (x3 : Int32) (g : am_G) : am_run ct 53 (n + 1) 0 [some (.inr (.inr (20, 0))), some (.inr (.inr (1, i))), some (.inl x2), some (.inl x3), none, none, none] [] g =
  bif am_in x2 24 then
    (am_run ct 53 n 12 [some (.inr (.inr (20, 0))), some (.inr (.inr (1, i))), some (.inl x2), some (.inl x3), some (.inl x3), some (.inl (g 3 i x2.toNatClampNeg)), some (.inl ((g 102 i 0) - (1 : Int32)))] [] g)
  else none := rfl
set_option maxRecDepth 50000 in
theorem eV_opnChildren_12 (ct : am_T) (n : Nat) (i : Nat) (x2 : Int32) (x3 : Int32) (x4 : Int32) (x5 : Int32) (x6 : Int32) (g : am_G) : am_run ct 53 (n + 1) 12 [some (.inr (.inr (20, 0))), some (.inr (.inr (1, i))), some (.inl x2), some (.inl x3), some (.inl x4), some (.inl x5), some (.inl x6)] [] g =
  if x6 < 0 then
    (if x5 = (-1 : Int32) then
      (some (some (.inl x4), g))
    else
      (if (24 : Int32) ≤ x4 then
        (some (some (.inl x4), g))
      else
        (bif am_in x4 24 then
          (some (some (.inl (x4 + 1)), am_sto g 22 0 x4.toNatClampNeg x5))
        else none)))
  else
    (bif am_in x6 24 then
      (if (g 2 i x6.toNatClampNeg) = x2 then
      (if x6 = x5 then
        (am_run ct 53 n 12 [some (.inr (.inr (20, 0))), some (.inr (.inr (1, i))), some (.inl x2), some (.inl x3), some (.inl x4), some (.inl x5), some (.inl (x6 + (-1)))] [] g)
      else
        (if (24 : Int32) ≤ x4 then
          (am_run ct 53 n 12 [some (.inr (.inr (20, 0))), some (.inr (.inr (1, i))), some (.inl x2), some (.inl x3), some (.inl x4), some (.inl x5), some (.inl (x6 + (-1)))] [] g)
        else
          (bif am_in x4 24 then
            (am_run ct 53 n 12 [some (.inr (.inr (20, 0))), some (.inr (.inr (1, i))), some (.inl x2), some (.inl x3), some (.inl (x4 + 1)), some (.inl x5), some (.inl (x6 + (-1)))] [] (am_sto g 22 0 x4.toNatClampNeg x6))
          else none)))
    else
      (am_run ct 53 n 12 [some (.inr (.inr (20, 0))), some (.inr (.inr (1, i))), some (.inl x2), some (.inl x3), some (.inl x4), some (.inl x5), some (.inl (x6 + (-1)))] [] g))
    else none) := rfl
set_option maxRecDepth 50000 in
theorem eV_placeOf_0 (ct : am_T) (n : Nat) (x1 : Int32) (g : am_G) : am_run ct 54 (n + 1) 0 [some (.inr (.inr (20, 0))), some (.inl x1), none] [] g =
  am_run ct 54 n 2 [some (.inr (.inr (20, 0))), some (.inl x1), some (.inl (0 : Int32))] [] g := rfl
set_option maxRecDepth 50000 in
theorem eV_placeOf_2 (ct : am_T) (n : Nat) (x1 : Int32) (x2 : Int32) (g : am_G) : am_run ct 54 (n + 1) 2 [some (.inr (.inr (20, 0))), some (.inl x1), some (.inl x2)] [] g =
  if (g 121 0 0) ≤ x2 then
    (some (some (.inl (-1 : Int32)), g))
  else
    (bif am_in x2 24 then
      (if (g 21 0 x2.toNatClampNeg) = x1 then
      (some (some (.inl x2), g))
    else
      (am_run ct 54 n 2 [some (.inr (.inr (20, 0))), some (.inl x1), some (.inl (x2 + 1))] [] g))
    else none) := rfl
set_option maxRecDepth 50000 in
theorem eV_measure_0 (ct : am_T) (n : Nat) (i : Nat) (x2 : Int32) (g : am_G) : am_run ct 55 (n + 1) 0 [some (.inr (.inr (20, 0))), some (.inr (.inr (1, i))), some (.inl x2), none, none, none, none, none, none] [] g =
  am_bv (ct 52 [.inr (.inr (20, 0)), .inr (.inr (1, i)), .inl x2] g) (fun g1 =>
  am_run ct 55 n 6 [some (.inr (.inr (20, 0))), some (.inr (.inr (1, i))), some (.inl x2), some (.inl (0 : Int32)), none, none, none, none, none] [] g1) := rfl
set_option maxRecDepth 50000 in
theorem eV_measure_6 (ct : am_T) (n : Nat) (i : Nat) (x2 : Int32) (x3 : Int32) (o4 : Option am_V) (o5 : Option am_V) (o6 : Option am_V) (o7 : Option am_V) (o8 : Option am_V) (g : am_G) : am_run ct 55 (n + 1) 6 [some (.inr (.inr (20, 0))), some (.inr (.inr (1, i))), some (.inl x2), some (.inl x3), o4, o5, o6, o7, o8] [] g =
  if (g 121 0 0) ≤ x3 then
    (am_run ct 55 n 72 [some (.inr (.inr (20, 0))), some (.inr (.inr (1, i))), some (.inl x2), some (.inl (0 : Int32)), o4, o5, o6, o7, o8] [] g)
  else
    (bif am_in x3 24 then
      (bif am_in (g 21 0 x3.toNatClampNeg) 24 then
      (bif am_in (g 21 0 x3.toNatClampNeg) 24 then
      (bif am_in (g 21 0 x3.toNatClampNeg) 24 then
      (am_run ct 55 n 29 [some (.inr (.inr (20, 0))), some (.inr (.inr (1, i))), some (.inl x2), some (.inl x3), some (.inl (g 21 0 x3.toNatClampNeg)), some (.inl (g 2 i (g 21 0 x3.toNatClampNeg).toNatClampNeg)), some (.inl (0 : Int32)), o7, o8] [] (am_sto g 25 (0 + (g 21 0 x3.toNatClampNeg).toNatClampNeg) (g 21 0 x3.toNatClampNeg).toNatClampNeg (0 : Int32)))
    else none)
    else none)
    else none)
    else none) := rfl
set_option maxRecDepth 50000 in
theorem eV_measure_29 (ct : am_T) (n : Nat) (i : Nat) (x2 : Int32) (x3 : Int32) (x4 : Int32) (x5 : Int32) (x6 : Int32) (o7 : Option am_V) (o8 : Option am_V) (g : am_G) : am_run ct 55 (n + 1) 29 [some (.inr (.inr (20, 0))), some (.inr (.inr (1, i))), some (.inl x2), some (.inl x3), some (.inl x4), some (.inl x5), some (.inl x6), o7, o8] [] g =
  if x3 ≤ x6 then
    (am_run ct 55 n 6 [some (.inr (.inr (20, 0))), some (.inr (.inr (1, i))), some (.inl x2), some (.inl (x3 + 1)), some (.inl x4), some (.inl x5), some (.inl x6), o7, o8] [] g)
  else
    (if x5 = (-1 : Int32) then
      (am_run ct 55 n 6 [some (.inr (.inr (20, 0))), some (.inr (.inr (1, i))), some (.inl x2), some (.inl (x3 + 1)), some (.inl x4), some (.inl x5), some (.inl x6), o7, o8] [] g)
    else
      (bif am_in x6 24 then
        (bif am_in x5 24 then
        (bif am_in (g 21 0 x6.toNatClampNeg) 24 then
        (bif am_in x4 24 then
        (bif am_in x4 24 then
        (bif am_in (g 21 0 x6.toNatClampNeg) 24 then
        (bif am_in (g 21 0 x6.toNatClampNeg) 24 then
        (bif am_in x4 24 then
        (am_run ct 55 n 29 [some (.inr (.inr (20, 0))), some (.inr (.inr (1, i))), some (.inl x2), some (.inl x3), some (.inl x4), some (.inl x5), some (.inl (x6 + 1)), some (.inl (g 21 0 x6.toNatClampNeg)), some (.inl ((g 25 (0 + x5.toNatClampNeg) (g 21 0 x6.toNatClampNeg).toNatClampNeg) + (g 4 i x4.toNatClampNeg)))] [] (am_sto (am_sto g 25 (0 + x4.toNatClampNeg) (g 21 0 x6.toNatClampNeg).toNatClampNeg ((g 25 (0 + x5.toNatClampNeg) (g 21 0 x6.toNatClampNeg).toNatClampNeg) + (g 4 i x4.toNatClampNeg))) 25 (0 + (g 21 0 x6.toNatClampNeg).toNatClampNeg) x4.toNatClampNeg ((g 25 (0 + x5.toNatClampNeg) (g 21 0 x6.toNatClampNeg).toNatClampNeg) + (g 4 i x4.toNatClampNeg))))
      else none)
      else none)
      else none)
      else none)
      else none)
      else none)
      else none)
      else none)) := rfl
set_option maxRecDepth 50000 in
theorem eV_measure_72 (ct : am_T) (n : Nat) (i : Nat) (x2 : Int32) (x3 : Int32) (o4 : Option am_V) (o5 : Option am_V) (o6 : Option am_V) (o7 : Option am_V) (o8 : Option am_V) (g : am_G) : am_run ct 55 (n + 1) 72 [some (.inr (.inr (20, 0))), some (.inr (.inr (1, i))), some (.inl x2), some (.inl x3), o4, o5, o6, o7, o8] [] g =
  if (g 121 0 0) ≤ x3 then
    (some (none, g))
  else
    (bif am_in x3 24 then
      (bif am_in x3 24 then
      (am_bi (ct 56 [.inr (.inr (20, 0)), .inl (g 21 0 x3.toNatClampNeg)] g) (fun r1 g1 =>
    bif am_in (g 21 0 x3.toNatClampNeg) 24 then
      (am_run ct 55 n 72 [some (.inr (.inr (20, 0))), some (.inr (.inr (1, i))), some (.inl x2), some (.inl (x3 + 1)), o4, o5, o6, o7, o8] [] (am_sto g1 26 0 (g 21 0 x3.toNatClampNeg).toNatClampNeg r1))
    else none))
    else none)
    else none) := rfl
set_option maxRecDepth 50000 in
theorem eV_farthestFrom_0 (ct : am_T) (n : Nat) (x1 : Int32) (g : am_G) : am_run ct 56 (n + 1) 0 [some (.inr (.inr (20, 0))), some (.inl x1), none, none] [] g =
  am_run ct 56 n 4 [some (.inr (.inr (20, 0))), some (.inl x1), some (.inl (0 : Int32)), some (.inl (0 : Int32))] [] g := rfl
set_option maxRecDepth 50000 in
theorem eV_farthestFrom_4 (ct : am_T) (n : Nat) (x1 : Int32) (x2 : Int32) (x3 : Int32) (g : am_G) : am_run ct 56 (n + 1) 4 [some (.inr (.inr (20, 0))), some (.inl x1), some (.inl x2), some (.inl x3)] [] g =
  if (g 121 0 0) ≤ x3 then
    (some (some (.inl x2), g))
  else
    (bif am_in x1 24 then
      (bif am_in x3 24 then
      (bif am_in (g 21 0 x3.toNatClampNeg) 24 then
      (am_run ct 56 n 4 [some (.inr (.inr (20, 0))), some (.inl x1), some (.inl (if x2 < (g 25 (0 + x1.toNatClampNeg) (g 21 0 x3.toNatClampNeg).toNatClampNeg) then (g 25 (0 + x1.toNatClampNeg) (g 21 0 x3.toNatClampNeg).toNatClampNeg) else x2)), some (.inl (x3 + 1))] [] g)
    else none)
    else none)
    else none) := rfl
set_option maxRecDepth 50000 in
theorem eV_widestReach_0 (ct : am_T) (n : Nat)  (g : am_G) : am_run ct 57 (n + 1) 0 [some (.inr (.inr (20, 0))), none, none] [] g =
  am_run ct 57 n 4 [some (.inr (.inr (20, 0))), some (.inl (0 : Int32)), some (.inl (0 : Int32))] [] g := rfl
set_option maxRecDepth 50000 in
theorem eV_widestReach_4 (ct : am_T) (n : Nat) (x1 : Int32) (x2 : Int32) (g : am_G) : am_run ct 57 (n + 1) 4 [some (.inr (.inr (20, 0))), some (.inl x1), some (.inl x2)] [] g =
  if (g 121 0 0) ≤ x2 then
    (some (some (.inl x1), g))
  else
    (bif am_in x2 24 then
      (bif am_in (g 21 0 x2.toNatClampNeg) 24 then
      (am_run ct 57 n 4 [some (.inr (.inr (20, 0))), some (.inl (if x1 < (g 26 0 (g 21 0 x2.toNatClampNeg).toNatClampNeg) then (g 26 0 (g 21 0 x2.toNatClampNeg).toNatClampNeg) else x1)), some (.inl (x2 + 1))] [] g)
    else none)
    else none) := rfl
set_option maxRecDepth 50000 in
theorem eV_findHomes_0 (ct : am_T) (n : Nat) (i : Nat) (g : am_G) : am_run ct 58 (n + 1) 0 [some (.inr (.inr (20, 0))), some (.inr (.inr (1, i))), none] [] g =
  am_run ct 58 n 2 [some (.inr (.inr (20, 0))), some (.inr (.inr (1, i))), some (.inl (0 : Int32))] [] g := rfl
set_option maxRecDepth 50000 in
theorem eV_findHomes_2 (ct : am_T) (n : Nat) (i : Nat) (x2 : Int32) (g : am_G) : am_run ct 58 (n + 1) 2 [some (.inr (.inr (20, 0))), some (.inr (.inr (1, i))), some (.inl x2)] [] g =
  if (g 102 i 0) ≤ x2 then
    (some (none, g))
  else
    (am_bi (ct 11 [.inr (.inr (1, i)), .inl x2] g) (fun r1 g1 =>
    bif am_in x2 24 then
      (am_run ct 58 n 2 [some (.inr (.inr (20, 0))), some (.inr (.inr (1, i))), some (.inl (x2 + 1))] [] (am_sto g1 23 0 x2.toNatClampNeg r1))
    else none)) := rfl
set_option maxRecDepth 50000 in
theorem eV_setPair_0 (ct : am_T) (n : Nat) (x1 : Int32) (x2 : Int32) (x3 : Int32) (g : am_G) : am_run ct 59 (n + 1) 0 [some (.inr (.inr (20, 0))), some (.inl x1), some (.inl x2), some (.inl x3)] [] g =
  bif am_in (0 : Int32) 3 then
    (bif am_in (1 : Int32) 3 then
    (bif am_in (2 : Int32) 3 then
    (some (none, am_sto (am_sto (am_sto g 27 0 (0 : Int32).toNatClampNeg x1) 27 0 (1 : Int32).toNatClampNeg x2) 27 0 (2 : Int32).toNatClampNeg x3))
  else none)
  else none)
  else none := rfl
set_option maxRecDepth 50000 in
theorem eV_findWidest_0 (ct : am_T) (n : Nat) (i : Nat) (x2 : Int32) (g : am_G) : am_run ct 60 (n + 1) 0 [some (.inr (.inr (20, 0))), some (.inr (.inr (1, i))), some (.inl x2), none, none, none] [] g =
  am_bi (ct 11 [.inr (.inr (1, i)), .inl x2] g) (fun r1 g1 =>
  am_bv (ct 58 [.inr (.inr (20, 0)), .inr (.inr (1, i))] g1) (fun g2 =>
  am_bv (ct 55 [.inr (.inr (20, 0)), .inr (.inr (1, i)), .inl r1] g2) (fun g3 =>
  am_bv (ct 59 [.inr (.inr (20, 0)), .inl (0 : Int32), .inl x2, .inl x2] g3) (fun g4 =>
  am_run ct 60 n 18 [some (.inr (.inr (20, 0))), some (.inr (.inr (1, i))), some (.inl x2), some (.inl r1), some (.inl (0 : Int32)), none] [] g4)))) := rfl
set_option maxRecDepth 50000 in
theorem eV_findWidest_18 (ct : am_T) (n : Nat) (i : Nat) (x2 : Int32) (x3 : Int32) (x4 : Int32) (o5 : Option am_V) (g : am_G) : am_run ct 60 (n + 1) 18 [some (.inr (.inr (20, 0))), some (.inr (.inr (1, i))), some (.inl x2), some (.inl x3), some (.inl x4), o5] [] g =
  if (g 102 i 0) ≤ x4 then
    (some (none, g))
  else
    (am_run ct 60 n 26 [some (.inr (.inr (20, 0))), some (.inr (.inr (1, i))), some (.inl x2), some (.inl x3), some (.inl x4), some (.inl (x4 + (1 : Int32)))] [] g) := rfl
set_option maxRecDepth 50000 in
theorem eV_findWidest_26 (ct : am_T) (n : Nat) (i : Nat) (x2 : Int32) (x3 : Int32) (x4 : Int32) (x5 : Int32) (g : am_G) : am_run ct 60 (n + 1) 26 [some (.inr (.inr (20, 0))), some (.inr (.inr (1, i))), some (.inl x2), some (.inl x3), some (.inl x4), some (.inl x5)] [] g =
  if (g 102 i 0) ≤ x5 then
    (am_run ct 60 n 18 [some (.inr (.inr (20, 0))), some (.inr (.inr (1, i))), some (.inl x2), some (.inl x3), some (.inl (x4 + 1)), some (.inl x5)] [] g)
  else
    (bif am_in x4 24 then
      (if (g 23 0 x4.toNatClampNeg) = x3 then
      (bif am_in x5 24 then
        (if (g 23 0 x5.toNatClampNeg) = x3 then
        (bif am_in x4 24 then
          (bif am_in x5 24 then
          (bif am_in (0 : Int32) 3 then
          (if (g 25 (0 + x4.toNatClampNeg) x5.toNatClampNeg) ≤ (g 27 0 (0 : Int32).toNatClampNeg) then
          (am_run ct 60 n 26 [some (.inr (.inr (20, 0))), some (.inr (.inr (1, i))), some (.inl x2), some (.inl x3), some (.inl x4), some (.inl (x5 + 1))] [] g)
        else
          (bif am_in x4 24 then
            (bif am_in x5 24 then
            (am_bv (ct 59 [.inr (.inr (20, 0)), .inl (g 25 (0 + x4.toNatClampNeg) x5.toNatClampNeg), .inl x4, .inl x5] g) (fun g1 =>
          am_run ct 60 n 26 [some (.inr (.inr (20, 0))), some (.inr (.inr (1, i))), some (.inl x2), some (.inl x3), some (.inl x4), some (.inl (x5 + 1))] [] g1))
          else none)
          else none))
        else none)
        else none)
        else none)
      else
        (am_run ct 60 n 26 [some (.inr (.inr (20, 0))), some (.inr (.inr (1, i))), some (.inl x2), some (.inl x3), some (.inl x4), some (.inl (x5 + 1))] [] g))
      else none)
    else
      (am_run ct 60 n 26 [some (.inr (.inr (20, 0))), some (.inr (.inr (1, i))), some (.inl x2), some (.inl x3), some (.inl x4), some (.inl (x5 + 1))] [] g))
    else none) := rfl
set_option maxRecDepth 50000 in
theorem eV_findJoint_0 (ct : am_T) (n : Nat) (i : Nat) (x2 : Int32) (x3 : Int32) (g : am_G) : am_run ct 61 (n + 1) 0 [some (.inr (.inr (20, 0))), some (.inr (.inr (1, i))), some (.inl x2), some (.inl x3), none, none, none, none, none, none] [] g =
  am_bi (ct 11 [.inr (.inr (1, i)), .inl x2] g) (fun r1 g1 =>
  am_bi (ct 11 [.inr (.inr (1, i)), .inl x3] g1) (fun r2 g2 =>
  am_bv (ct 58 [.inr (.inr (20, 0)), .inr (.inr (1, i))] g2) (fun g3 =>
  am_bv (ct 55 [.inr (.inr (20, 0)), .inr (.inr (1, i)), .inl r1] g3) (fun g4 =>
  am_bi (ct 57 [.inr (.inr (20, 0))] g4) (fun r5 g5 =>
  am_bv (ct 55 [.inr (.inr (20, 0)), .inr (.inr (1, i)), .inl r2] g5) (fun g6 =>
  am_bi (ct 57 [.inr (.inr (20, 0))] g6) (fun r7 g7 =>
  am_bv (ct 59 [.inr (.inr (20, 0)), .inl (-1 : Int32), .inl (-1 : Int32), .inl (-1 : Int32)] g7) (fun g8 =>
  am_run ct 61 n 34 [some (.inr (.inr (20, 0))), some (.inr (.inr (1, i))), some (.inl x2), some (.inl x3), some (.inl r1), some (.inl r2), some (.inl (if r5 < r7 then r7 else r5)), some (.inl (0 : Int32)), none, none] [] g8)))))))) := rfl
set_option maxRecDepth 50000 in
theorem eV_findJoint_34 (ct : am_T) (n : Nat) (i : Nat) (x2 : Int32) (x3 : Int32) (x4 : Int32) (x5 : Int32) (x6 : Int32) (x7 : Int32) (o8 : Option am_V) (o9 : Option am_V) (g : am_G) : am_run ct 61 (n + 1) 34 [some (.inr (.inr (20, 0))), some (.inr (.inr (1, i))), some (.inl x2), some (.inl x3), some (.inl x4), some (.inl x5), some (.inl x6), some (.inl x7), o8, o9] [] g =
  if (g 102 i 0) ≤ x7 then
    (some (none, g))
  else
    (am_run ct 61 n 40 [some (.inr (.inr (20, 0))), some (.inr (.inr (1, i))), some (.inl x2), some (.inl x3), some (.inl x4), some (.inl x5), some (.inl x6), some (.inl x7), some (.inl (0 : Int32)), o9] [] g) := rfl
set_option maxRecDepth 50000 in
theorem eV_findJoint_40 (ct : am_T) (n : Nat) (i : Nat) (x2 : Int32) (x3 : Int32) (x4 : Int32) (x5 : Int32) (x6 : Int32) (x7 : Int32) (x8 : Int32) (o9 : Option am_V) (g : am_G) : am_run ct 61 (n + 1) 40 [some (.inr (.inr (20, 0))), some (.inr (.inr (1, i))), some (.inl x2), some (.inl x3), some (.inl x4), some (.inl x5), some (.inl x6), some (.inl x7), some (.inl x8), o9] [] g =
  if (g 102 i 0) ≤ x8 then
    (am_run ct 61 n 34 [some (.inr (.inr (20, 0))), some (.inr (.inr (1, i))), some (.inl x2), some (.inl x3), some (.inl x4), some (.inl x5), some (.inl x6), some (.inl (x7 + 1)), some (.inl x8), o9] [] g)
  else
    (bif am_in x7 24 then
      (if (g 23 0 x7.toNatClampNeg) = x4 then
      (bif am_in x8 24 then
        (if (g 23 0 x8.toNatClampNeg) = x5 then
        (bif am_in x7 24 then
          (bif am_in x8 24 then
          (bif am_in (0 : Int32) 3 then
          (if (g 27 0 (0 : Int32).toNatClampNeg) = (-1 : Int32) then
          (am_bv (ct 59 [.inr (.inr (20, 0)), .inl (if x6 < (((g 26 0 x7.toNatClampNeg) + (1 : Int32)) + (g 26 0 x8.toNatClampNeg)) then (((g 26 0 x7.toNatClampNeg) + (1 : Int32)) + (g 26 0 x8.toNatClampNeg)) else x6), .inl x7, .inl x8] g) (fun g1 =>
          am_run ct 61 n 40 [some (.inr (.inr (20, 0))), some (.inr (.inr (1, i))), some (.inl x2), some (.inl x3), some (.inl x4), some (.inl x5), some (.inl x6), some (.inl x7), some (.inl (x8 + 1)), some (.inl (if x6 < (((g 26 0 x7.toNatClampNeg) + (1 : Int32)) + (g 26 0 x8.toNatClampNeg)) then (((g 26 0 x7.toNatClampNeg) + (1 : Int32)) + (g 26 0 x8.toNatClampNeg)) else x6))] [] g1))
        else
          (bif am_in (0 : Int32) 3 then
            (if (g 27 0 (0 : Int32).toNatClampNeg) ≤ (if x6 < (((g 26 0 x7.toNatClampNeg) + (1 : Int32)) + (g 26 0 x8.toNatClampNeg)) then (((g 26 0 x7.toNatClampNeg) + (1 : Int32)) + (g 26 0 x8.toNatClampNeg)) else x6) then
            (am_run ct 61 n 40 [some (.inr (.inr (20, 0))), some (.inr (.inr (1, i))), some (.inl x2), some (.inl x3), some (.inl x4), some (.inl x5), some (.inl x6), some (.inl x7), some (.inl (x8 + 1)), some (.inl (if x6 < (((g 26 0 x7.toNatClampNeg) + (1 : Int32)) + (g 26 0 x8.toNatClampNeg)) then (((g 26 0 x7.toNatClampNeg) + (1 : Int32)) + (g 26 0 x8.toNatClampNeg)) else x6))] [] g)
          else
            (am_bv (ct 59 [.inr (.inr (20, 0)), .inl (if x6 < (((g 26 0 x7.toNatClampNeg) + (1 : Int32)) + (g 26 0 x8.toNatClampNeg)) then (((g 26 0 x7.toNatClampNeg) + (1 : Int32)) + (g 26 0 x8.toNatClampNeg)) else x6), .inl x7, .inl x8] g) (fun g2 =>
            am_run ct 61 n 40 [some (.inr (.inr (20, 0))), some (.inr (.inr (1, i))), some (.inl x2), some (.inl x3), some (.inl x4), some (.inl x5), some (.inl x6), some (.inl x7), some (.inl (x8 + 1)), some (.inl (if x6 < (((g 26 0 x7.toNatClampNeg) + (1 : Int32)) + (g 26 0 x8.toNatClampNeg)) then (((g 26 0 x7.toNatClampNeg) + (1 : Int32)) + (g 26 0 x8.toNatClampNeg)) else x6))] [] g2)))
          else none))
        else none)
        else none)
        else none)
      else
        (am_run ct 61 n 40 [some (.inr (.inr (20, 0))), some (.inr (.inr (1, i))), some (.inl x2), some (.inl x3), some (.inl x4), some (.inl x5), some (.inl x6), some (.inl x7), some (.inl (x8 + 1)), o9] [] g))
      else none)
    else
      (am_run ct 61 n 40 [some (.inr (.inr (20, 0))), some (.inr (.inr (1, i))), some (.inl x2), some (.inl x3), some (.inl x4), some (.inl x5), some (.inl x6), some (.inl x7), some (.inl (x8 + 1)), o9] [] g))
    else none) := rfl
set_option maxRecDepth 50000 in
theorem eT_tell_0 (ct : am_T) (n : Nat) (x2 : Int32) (g : am_G) : am_run ct 62 (n + 1) 0 [some (.inr (.inr (10, 0))), some (.inr (.inr (13, 0))), some (.inl x2), none] [] g =
  am_bv (ct 0 [.inr (.inr (1, 1))] g) (fun g1 =>
  am_bv (ct 41 [.inr (.inr (8, 1))] g1) (fun g2 =>
  am_bv (ct 45 [.inr (.inr (11, 0)), .inr (.inr (13, 0)), .inl x2] (am_put (am_put (am_put g2 107 0 (0 : Int32)) 108 0 (0 : Int32)) 109 0 (-1 : Int32))) (fun g3 =>
  am_run ct 62 n 22 [some (.inr (.inr (10, 0))), some (.inr (.inr (13, 0))), some (.inl x2), some (.inl (0 : Int32))] [] g3))) := rfl
set_option maxRecDepth 50000 in
theorem eT_tell_22 (ct : am_T) (n : Nat) (x2 : Int32) (x3 : Int32) (g : am_G) : am_run ct 62 (n + 1) 22 [some (.inr (.inr (10, 0))), some (.inr (.inr (13, 0))), some (.inl x2), some (.inl x3)] [] g =
  if (700 : Int32) < x3 then
    (some (some (.inl (1 : Int32)), g))
  else
    (if (g 113 0 0) = 0 then
      (some (some (.inl (1 : Int32)), g))
    else
      (am_bi (ct 64 [.inr (.inr (10, 0))] g) (fun r1 g1 =>
      if r1 = 0 then
        (some (some (.inl (0 : Int32)), g1))
      else
        (am_run ct 62 n 22 [some (.inr (.inr (10, 0))), some (.inr (.inr (13, 0))), some (.inl x2), some (.inl (x3 + 1))] [] (am_put g1 107 0 ((g1 107 0 0) + (1 : Int32))))))) := rfl
set_option maxRecDepth 50000 in
theorem eT_fail_0 (ct : am_T) (n : Nat) (x1 : Int32) (g : am_G) : am_run ct 63 (n + 1) 0 [some (.inr (.inr (10, 0))), some (.inl x1)] [] g =
  some (some (.inl (0 : Int32)), am_put (am_put g 108 0 x1) 109 0 ((am_put g 108 0 x1) 114 0 0)) := rfl
set_option maxRecDepth 50000 in
theorem eT_tellLine_0 (ct : am_T) (n : Nat)  (g : am_G) : am_run ct 64 (n + 1) 0 [some (.inr (.inr (10, 0))), none] [] g =
  if (g 113 0 0) = (1 : Int32) then
    (if (g 115 0 0) = 412560384 then
      (am_bi (ct 66 [.inr (.inr (10, 0))] g) (fun r1 g1 =>
      bif am_01 r1 then some (some (.inl r1), g1) else none))
    else if (g 115 0 0) = 620220416 then
      (am_bi (ct 67 [.inr (.inr (10, 0)), .inl (g 115 0 0)] g) (fun r2 g2 =>
      bif am_01 r2 then some (some (.inl r2), g2) else none))
    else if (g 115 0 0) = 642945024 then
      (am_bi (ct 68 [.inr (.inr (10, 0))] g) (fun r3 g3 =>
      bif am_01 r3 then some (some (.inl r3), g3) else none))
    else if (g 115 0 0) = 643453317 then
      (am_bi (ct 67 [.inr (.inr (10, 0)), .inl (g 115 0 0)] g) (fun r4 g4 =>
      bif am_01 r4 then some (some (.inl r4), g4) else none))
    else if (g 115 0 0) = 687508736 then
      (am_bi (ct 67 [.inr (.inr (10, 0)), .inl (g 115 0 0)] g) (fun r5 g5 =>
      bif am_01 r5 then some (some (.inl r5), g5) else none))
    else if (g 115 0 0) = 687585280 then
      (am_bi (ct 65 [.inr (.inr (10, 0))] g) (fun r6 g6 =>
      bif am_01 r6 then some (some (.inl r6), g6) else none))
    else (am_bi (ct 63 [.inr (.inr (10, 0)), .inl (1 : Int32)] g) (fun r7 g7 =>
      bif am_01 r7 then some (some (.inl r7), g7) else none)))
  else
    (am_bi (ct 63 [.inr (.inr (10, 0)), .inl (1 : Int32)] g) (fun r8 g8 =>
    bif am_01 r8 then some (some (.inl r8), g8) else none)) := rfl
set_option maxRecDepth 50000 in
theorem eT_tellTown_0 (ct : am_T) (n : Nat)  (g : am_G) : am_run ct 65 (n + 1) 0 [some (.inr (.inr (10, 0))), none, none] [] g =
  if (g 104 1 0) < (24 : Int32) then
    (am_bv (ct 46 [.inr (.inr (11, 0))] g) (fun g1 =>
    am_bi (ct 69 [.inr (.inr (10, 0))] g1) (fun r2 g2 =>
    if r2 = 0 then
      (am_bi (ct 63 [.inr (.inr (10, 0)), .inl (1 : Int32)] g2) (fun r17 g17 =>
      bif am_01 r17 then some (some (.inl r17), g17) else none))
    else
      (am_bi (ct 44 [.inr (.inr (8, 1)), .inl (g2 115 0 0)] g2) (fun r3 g3 =>
      if r3 = (-1 : Int32) then
        (am_bv (ct 46 [.inr (.inr (11, 0))] g3) (fun g4 =>
        if (g4 113 0 0) = (3 : Int32) then
          (am_bi (ct 127 [.inl (g4 116 0 0), .inl (-9999 : Int32), .inl (9999 : Int32)] g4) (fun r5 g5 =>
          if r5 = 0 then
            (am_bi (ct 63 [.inr (.inr (10, 0)), .inl (2 : Int32)] g5) (fun r9 g9 =>
            bif am_01 r9 then some (some (.inl r9), g9) else none))
          else
            (am_bi (ct 73 [.inr (.inr (10, 0))] g5) (fun r6 g6 =>
            if r6 = 0 then
              (some (some (.inl (0 : Int32)), g6))
            else
              (am_bv (ct 43 [.inr (.inr (8, 1)), .inl (g2 115 0 0)] g6) (fun g7 =>
              am_bv (ct 2 [.inr (.inr (1, 1)), .inl (g4 116 0 0)] g7) (fun g8 =>
              some (some (.inl (1 : Int32)), g8))))))))
        else
          (am_bi (ct 71 [.inr (.inr (10, 0))] g4) (fun r10 g10 =>
          if r10 = 0 then
            (some (some (.inl (0 : Int32)), g10))
          else
            (am_bi (ct 127 [.inl (g10 116 0 0), .inl (-9999 : Int32), .inl (9999 : Int32)] g10) (fun r11 g11 =>
            if r11 = 0 then
              (am_bi (ct 63 [.inr (.inr (10, 0)), .inl (2 : Int32)] g11) (fun r15 g15 =>
              bif am_01 r15 then some (some (.inl r15), g15) else none))
            else
              (am_bi (ct 73 [.inr (.inr (10, 0))] g11) (fun r12 g12 =>
              if r12 = 0 then
                (some (some (.inl (0 : Int32)), g12))
              else
                (am_bv (ct 43 [.inr (.inr (8, 1)), .inl (g2 115 0 0)] g12) (fun g13 =>
                am_bv (ct 2 [.inr (.inr (1, 1)), .inl (g10 116 0 0)] g13) (fun g14 =>
                some (some (.inl (1 : Int32)), g14))))))))))))
      else
        (am_bi (ct 63 [.inr (.inr (10, 0)), .inl (3 : Int32)] g3) (fun r16 g16 =>
        bif am_01 r16 then some (some (.inl r16), g16) else none)))))))
  else
    (am_bi (ct 63 [.inr (.inr (10, 0)), .inl (2 : Int32)] g) (fun r18 g18 =>
    bif am_01 r18 then some (some (.inl r18), g18) else none)) := rfl
set_option maxRecDepth 50000 in
theorem eT_tellLink_0 (ct : am_T) (n : Nat)  (g : am_G) : am_run ct 66 (n + 1) 0 [some (.inr (.inr (10, 0))), none, none, none, none] [] g =
  am_bv (ct 46 [.inr (.inr (11, 0))] g) (fun g1 =>
  am_bi (ct 70 [.inr (.inr (10, 0))] g1) (fun r2 g2 =>
  if r2 = 0 then
    (some (some (.inl (0 : Int32)), g2))
  else
    (am_bi (ct 44 [.inr (.inr (8, 1)), .inl (g2 115 0 0)] g2) (fun r3 g3 =>
    am_bv (ct 46 [.inr (.inr (11, 0))] g3) (fun g4 =>
    am_bi (ct 70 [.inr (.inr (10, 0))] g4) (fun r5 g5 =>
    if r5 = 0 then
      (some (some (.inl (0 : Int32)), g5))
    else
      (am_bi (ct 44 [.inr (.inr (8, 1)), .inl (g5 115 0 0)] g5) (fun r6 g6 =>
      am_bi (ct 4 [.inr (.inr (1, 1)), .inl r3, .inl r6] g6) (fun r7 g7 =>
      if r7 = 0 then
        (am_bi (ct 63 [.inr (.inr (10, 0)), .inl (3 : Int32)] g7) (fun r8 g8 =>
        bif am_01 r8 then some (some (.inl r8), g8) else none))
      else
        (am_bi (ct 15 [.inr (.inr (1, 1)), .inl r3, .inl r6] g7) (fun r9 g9 =>
        if r9 = 0 then
          (am_bv (ct 46 [.inr (.inr (11, 0))] g9) (fun g10 =>
          am_bi (ct 72 [.inr (.inr (10, 0)), .inl (1 : Int32), .inl (9999 : Int32)] g10) (fun r11 g11 =>
          if r11 = 0 then
            (some (some (.inl (0 : Int32)), g11))
          else
            (am_bv (ct 46 [.inr (.inr (11, 0))] g11) (fun g12 =>
            am_bi (ct 72 [.inr (.inr (10, 0)), .inl (1 : Int32), .inl (9999 : Int32)] g12) (fun r13 g13 =>
            if r13 = 0 then
              (some (some (.inl (0 : Int32)), g13))
            else
              (am_bi (ct 73 [.inr (.inr (10, 0))] g13) (fun r14 g14 =>
              if r14 = 0 then
                (some (some (.inl (0 : Int32)), g14))
              else
                (am_bv (ct 8 [.inr (.inr (1, 1)), .inl r3, .inl r6, .inl (g11 116 0 0), .inl (g13 116 0 0)] g14) (fun g15 =>
                some (some (.inl (1 : Int32)), g15)))))))))))
        else
          (am_bi (ct 63 [.inr (.inr (10, 0)), .inl (3 : Int32)] g9) (fun r16 g16 =>
          bif am_01 r16 then some (some (.inl r16), g16) else none))))))))))))) := rfl
set_option maxRecDepth 50000 in
theorem eT_tellDeed_0 (ct : am_T) (n : Nat) (x1 : Int32) (g : am_G) : am_run ct 67 (n + 1) 0 [some (.inr (.inr (10, 0))), some (.inl x1), none] [] g =
  am_bv (ct 46 [.inr (.inr (11, 0))] g) (fun g1 =>
  am_bi (ct 70 [.inr (.inr (10, 0))] g1) (fun r2 g2 =>
  if r2 = 0 then
    (some (some (.inl (0 : Int32)), g2))
  else
    (am_bi (ct 44 [.inr (.inr (8, 1)), .inl (g2 115 0 0)] g2) (fun r3 g3 =>
    am_bi (ct 73 [.inr (.inr (10, 0))] g3) (fun r4 g4 =>
    if r4 = 0 then
      (some (some (.inl (0 : Int32)), g4))
    else
      (am_bi (ct 3 [.inr (.inr (1, 1)), .inl r3] g4) (fun r5 g5 =>
      if r5 = 0 then
        (some (some (.inl (0 : Int32)), g5))
      else
        (if x1 = (620220416 : Int32) then
          (am_bv (ct 6 [.inr (.inr (1, 1)), .inl r3] g5) (fun g8 =>
          some (some (.inl (1 : Int32)), g8)))
        else
          (if x1 = (687508736 : Int32) then
            (am_bv (ct 5 [.inr (.inr (1, 1)), .inl r3] g5) (fun g7 =>
            some (some (.inl (1 : Int32)), g7)))
          else
            (am_bi (ct 10 [.inr (.inr (1, 1)), .inl r3] g5) (fun r6 g6 =>
            some (some (.inl (1 : Int32)), g6)))))))))))) := rfl
set_option maxRecDepth 50000 in
theorem eT_tellSeed_0 (ct : am_T) (n : Nat)  (g : am_G) : am_run ct 68 (n + 1) 0 [some (.inr (.inr (10, 0)))] [] g =
  if (g 106 1 0) = 0 then
    (am_bv (ct 46 [.inr (.inr (11, 0))] g) (fun g1 =>
    am_bi (ct 72 [.inr (.inr (10, 0)), .inl (0 : Int32), .inl (99999 : Int32)] g1) (fun r2 g2 =>
    if r2 = 0 then
      (some (some (.inl (0 : Int32)), g2))
    else
      (am_bi (ct 73 [.inr (.inr (10, 0))] (am_put (am_put g2 105 1 (g2 116 0 0)) 106 1 (1 : Int32))) (fun r3 g3 =>
      bif am_01 r3 then some (some (.inl r3), g3) else none)))))
  else
    (am_bi (ct 63 [.inr (.inr (10, 0)), .inl (3 : Int32)] g) (fun r4 g4 =>
    bif am_01 r4 then some (some (.inl r4), g4) else none)) := rfl
set_option maxRecDepth 50000 in
theorem eT_isAtName_0 (ct : am_T) (n : Nat)  (g : am_G) : am_run ct 69 (n + 1) 0 [some (.inr (.inr (10, 0)))] [] g =
  if (g 113 0 0) = (1 : Int32) then
    (if (g 115 0 0) = 412560384 then
      (some (some (.inl (0 : Int32)), g))
    else if (g 115 0 0) = 620220416 then
      (some (some (.inl (0 : Int32)), g))
    else if (g 115 0 0) = 642945024 then
      (some (some (.inl (0 : Int32)), g))
    else if (g 115 0 0) = 643453317 then
      (some (some (.inl (0 : Int32)), g))
    else if (g 115 0 0) = 687508736 then
      (some (some (.inl (0 : Int32)), g))
    else if (g 115 0 0) = 687585280 then
      (some (some (.inl (0 : Int32)), g))
    else (some (some (.inl (1 : Int32)), g)))
  else
    (some (some (.inl (0 : Int32)), g)) := rfl
set_option maxRecDepth 50000 in
theorem eT_takesTown_0 (ct : am_T) (n : Nat)  (g : am_G) : am_run ct 70 (n + 1) 0 [some (.inr (.inr (10, 0)))] [] g =
  am_bi (ct 69 [.inr (.inr (10, 0))] g) (fun r1 g1 =>
  if r1 = 0 then
    (am_bi (ct 63 [.inr (.inr (10, 0)), .inl (1 : Int32)] g1) (fun r4 g4 =>
    bif am_01 r4 then some (some (.inl r4), g4) else none))
  else
    (am_bi (ct 44 [.inr (.inr (8, 1)), .inl (g1 115 0 0)] g1) (fun r2 g2 =>
    if r2 = (-1 : Int32) then
      (am_bi (ct 63 [.inr (.inr (10, 0)), .inl (4 : Int32)] g2) (fun r3 g3 =>
      if r3 = 0 then
        (some (some (.inl (0 : Int32)), g3))
      else
        (some (some (.inl (1 : Int32)), g3))))
    else
      (some (some (.inl (1 : Int32)), g2))))) := rfl
set_option maxRecDepth 50000 in
theorem eT_takesNumber_0 (ct : am_T) (n : Nat)  (g : am_G) : am_run ct 71 (n + 1) 0 [some (.inr (.inr (10, 0)))] [] g =
  if (g 113 0 0) = (2 : Int32) then
    (some (some (.inl (1 : Int32)), g))
  else
    (am_bi (ct 63 [.inr (.inr (10, 0)), .inl (1 : Int32)] g) (fun r1 g1 =>
    if r1 = 0 then
      (some (some (.inl (0 : Int32)), g1))
    else
      (some (some (.inl (1 : Int32)), g1)))) := rfl
set_option maxRecDepth 50000 in
theorem eT_takesNumberWithin_0 (ct : am_T) (n : Nat) (x1 : Int32) (x2 : Int32) (g : am_G) : am_run ct 72 (n + 1) 0 [some (.inr (.inr (10, 0))), some (.inl x1), some (.inl x2)] [] g =
  am_bi (ct 71 [.inr (.inr (10, 0))] g) (fun r1 g1 =>
  if r1 = 0 then
    (some (some (.inl (0 : Int32)), g1))
  else
    (am_bi (ct 127 [.inl (g1 116 0 0), .inl x1, .inl x2] g1) (fun r2 g2 =>
    if r2 = 0 then
      (am_bi (ct 63 [.inr (.inr (10, 0)), .inl (2 : Int32)] g2) (fun r3 g3 =>
      if r3 = 0 then
        (some (some (.inl (0 : Int32)), g3))
      else
        (some (some (.inl (1 : Int32)), g3))))
    else
      (some (some (.inl (1 : Int32)), g2))))) := rfl
set_option maxRecDepth 50000 in
theorem eT_endsLine_0 (ct : am_T) (n : Nat)  (g : am_G) : am_run ct 73 (n + 1) 0 [some (.inr (.inr (10, 0)))] [] g =
  am_bv (ct 46 [.inr (.inr (11, 0))] g) (fun g1 =>
  if (g1 113 0 0) = (4 : Int32) then
    (am_bv (ct 46 [.inr (.inr (11, 0))] g1) (fun g2 =>
    some (some (.inl (1 : Int32)), g2)))
  else
    (am_bi (ct 63 [.inr (.inr (10, 0)), .inl (1 : Int32)] g1) (fun r3 g3 =>
    bif am_01 r3 then some (some (.inl r3), g3) else none))) := rfl
set_option maxRecDepth 50000 in
theorem eY_lay_0 (ct : am_T) (n : Nat) (w i : Nat) (x2 : Int32) (x3 : Int32) (g : am_G) : am_run ct 74 (n + 1) 0 [some (.inr (.inr (16, w))), some (.inr (.inr (1, i))), some (.inl x2), some (.inl x3), none, none, none, none, none] [] g =
  am_bi (ct 16 [.inr (.inr (1, i)), .inl x2, .inl x3] (am_put g 119 w (0 : Int32))) (fun r1 g1 =>
  if r1 = (-1 : Int32) then
    (some (none, g1))
  else
    (am_bi (ct 12 [.inr (.inr (1, i)), .inl x2] g1) (fun r2 g2 =>
    am_bi (ct 12 [.inr (.inr (1, i)), .inl r1] g2) (fun r3 g3 =>
    am_bi (ct 12 [.inr (.inr (1, i)), .inl x3] g3) (fun r4 g4 =>
    am_bi (ct 12 [.inr (.inr (1, i)), .inl r1] g4) (fun r5 g5 =>
    am_run ct 74 n 41 [some (.inr (.inr (16, w))), some (.inr (.inr (1, i))), some (.inl x2), some (.inl x3), some (.inl r1), some (.inl (r2 - r3)), some (.inl (r4 - r5)), some (.inl x2), some (.inl (0 : Int32))] [] (am_put g5 119 w (if (24 : Int32) < (((r2 - r3) + (1 : Int32)) + (r4 - r5)) then (24 : Int32) else (((r2 - r3) + (1 : Int32)) + (r4 - r5)))))))))) := rfl
set_option maxRecDepth 50000 in
theorem eY_lay_41 (ct : am_T) (n : Nat) (w i : Nat) (x2 : Int32) (x3 : Int32) (x4 : Int32) (x5 : Int32) (x6 : Int32) (x7 : Int32) (x8 : Int32) (g : am_G) : am_run ct 74 (n + 1) 41 [some (.inr (.inr (16, w))), some (.inr (.inr (1, i))), some (.inl x2), some (.inl x3), some (.inl x4), some (.inl x5), some (.inl x6), some (.inl x7), some (.inl x8)] [] g =
  if x5 < x8 then
    (am_run ct 74 n 70 [some (.inr (.inr (16, w))), some (.inr (.inr (1, i))), some (.inl x2), some (.inl x3), some (.inl x4), some (.inl x5), some (.inl x6), some (.inl x3), some (.inl ((g 119 w 0) - (1 : Int32)))] [] g)
  else
    (if (g 119 w 0) ≤ x8 then
      (am_run ct 74 n 70 [some (.inr (.inr (16, w))), some (.inr (.inr (1, i))), some (.inl x2), some (.inl x3), some (.inl x4), some (.inl x5), some (.inl x6), some (.inl x3), some (.inl ((g 119 w 0) - (1 : Int32)))] [] g)
    else
      (if x7 = (-1 : Int32) then
        (am_run ct 74 n 70 [some (.inr (.inr (16, w))), some (.inr (.inr (1, i))), some (.inl x2), some (.inl x3), some (.inl x4), some (.inl x5), some (.inl x6), some (.inl x3), some (.inl ((g 119 w 0) - (1 : Int32)))] [] g)
      else
        (bif am_in x8 24 then
          (bif am_in x7 24 then
          (am_run ct 74 n 41 [some (.inr (.inr (16, w))), some (.inr (.inr (1, i))), some (.inl x2), some (.inl x3), some (.inl x4), some (.inl x5), some (.inl x6), some (.inl ((am_sto g 17 w x8.toNatClampNeg x7) 2 i x7.toNatClampNeg)), some (.inl (x8 + 1))] [] (am_sto g 17 w x8.toNatClampNeg x7))
        else none)
        else none))) := rfl
set_option maxRecDepth 50000 in
theorem eY_lay_70 (ct : am_T) (n : Nat) (w i : Nat) (x2 : Int32) (x3 : Int32) (x4 : Int32) (x5 : Int32) (x6 : Int32) (x7 : Int32) (x8 : Int32) (g : am_G) : am_run ct 74 (n + 1) 70 [some (.inr (.inr (16, w))), some (.inr (.inr (1, i))), some (.inl x2), some (.inl x3), some (.inl x4), some (.inl x5), some (.inl x6), some (.inl x7), some (.inl x8)] [] g =
  if x8 ≤ x5 then
    (some (none, g))
  else
    (if x7 = (-1 : Int32) then
      (some (none, g))
    else
      (bif am_in x8 24 then
        (bif am_in x7 24 then
        (am_run ct 74 n 70 [some (.inr (.inr (16, w))), some (.inr (.inr (1, i))), some (.inl x2), some (.inl x3), some (.inl x4), some (.inl x5), some (.inl x6), some (.inl ((am_sto g 17 w x8.toNatClampNeg x7) 2 i x7.toNatClampNeg)), some (.inl (x8 + (-1)))] [] (am_sto g 17 w x8.toNatClampNeg x7))
      else none)
      else none)) := rfl
set_option maxRecDepth 50000 in
theorem eY_lowerOfLink_0 (ct : am_T) (n : Nat) (w i : Nat) (x2 : Int32) (g : am_G) : am_run ct 75 (n + 1) 0 [some (.inr (.inr (16, w))), some (.inr (.inr (1, i))), some (.inl x2), none] [] g =
  bif am_in x2 24 then
    (bif am_in (x2 + (1 : Int32)) 24 then
    (am_bi (ct 17 [.inr (.inr (1, i)), .inl (g 17 w x2.toNatClampNeg), .inl (g 17 w (x2 + (1 : Int32)).toNatClampNeg)] g) (fun r1 g1 =>
  if r1 = (-1 : Int32) then
    (bif am_in x2 24 then
      (some (some (.inl (g1 17 w x2.toNatClampNeg)), g1))
    else none)
  else
    (some (some (.inl r1), g1))))
  else none)
  else none := rfl
set_option maxRecDepth 50000 in
theorem eY_lengths_0 (ct : am_T) (n : Nat) (w i : Nat) (g : am_G) : am_run ct 76 (n + 1) 0 [some (.inr (.inr (16, w))), some (.inr (.inr (1, i))), none, none] [] g =
  am_run ct 76 n 4 [some (.inr (.inr (16, w))), some (.inr (.inr (1, i))), some (.inl (0 : Int32)), some (.inl (0 : Int32))] [] g := rfl
set_option maxRecDepth 50000 in
theorem eY_lengths_4 (ct : am_T) (n : Nat) (w i : Nat) (x2 : Int32) (x3 : Int32) (g : am_G) : am_run ct 76 (n + 1) 4 [some (.inr (.inr (16, w))), some (.inr (.inr (1, i))), some (.inl x2), some (.inl x3)] [] g =
  if (g 119 w 0) ≤ (x3 + (1 : Int32)) then
    (some (some (.inl x2), g))
  else
    (am_bi (ct 75 [.inr (.inr (16, w)), .inr (.inr (1, i)), .inl x3] g) (fun r1 g1 =>
    bif am_in r1 24 then
      (am_run ct 76 n 4 [some (.inr (.inr (16, w))), some (.inr (.inr (1, i))), some (.inl (x2 + (g1 4 i r1.toNatClampNeg))), some (.inl (x3 + 1))] [] g1)
    else none)) := rfl
set_option maxRecDepth 50000 in
theorem eY_values_0 (ct : am_T) (n : Nat) (w i : Nat) (g : am_G) : am_run ct 77 (n + 1) 0 [some (.inr (.inr (16, w))), some (.inr (.inr (1, i))), none, none] [] g =
  am_run ct 77 n 4 [some (.inr (.inr (16, w))), some (.inr (.inr (1, i))), some (.inl (0 : Int32)), some (.inl (0 : Int32))] [] g := rfl
set_option maxRecDepth 50000 in
theorem eY_values_4 (ct : am_T) (n : Nat) (w i : Nat) (x2 : Int32) (x3 : Int32) (g : am_G) : am_run ct 77 (n + 1) 4 [some (.inr (.inr (16, w))), some (.inr (.inr (1, i))), some (.inl x2), some (.inl x3)] [] g =
  if (g 119 w 0) ≤ x3 then
    (some (some (.inl x2), g))
  else
    (bif am_in x3 24 then
      (bif am_in (g 17 w x3.toNatClampNeg) 24 then
      (am_run ct 77 n 4 [some (.inr (.inr (16, w))), some (.inr (.inr (1, i))), some (.inl (x2 + (g 6 i (g 17 w x3.toNatClampNeg).toNatClampNeg))), some (.inl (x3 + 1))] [] g)
    else none)
    else none) := rfl
set_option maxRecDepth 50000 in
theorem eY_dearestLink_0 (ct : am_T) (n : Nat) (w i : Nat) (g : am_G) : am_run ct 78 (n + 1) 0 [some (.inr (.inr (16, w))), some (.inr (.inr (1, i))), none, none, none, none] [] g =
  am_run ct 78 n 6 [some (.inr (.inr (16, w))), some (.inr (.inr (1, i))), some (.inl (-1 : Int32)), some (.inl (0 : Int32)), some (.inl (0 : Int32)), none] [] g := rfl
set_option maxRecDepth 50000 in
theorem eY_dearestLink_6 (ct : am_T) (n : Nat) (w i : Nat) (x2 : Int32) (x3 : Int32) (x4 : Int32) (o5 : Option am_V) (g : am_G) : am_run ct 78 (n + 1) 6 [some (.inr (.inr (16, w))), some (.inr (.inr (1, i))), some (.inl x2), some (.inl x3), some (.inl x4), o5] [] g =
  if (g 119 w 0) ≤ (x4 + (1 : Int32)) then
    (some (some (.inl x2), g))
  else
    (am_bi (ct 75 [.inr (.inr (16, w)), .inr (.inr (1, i)), .inl x4] g) (fun r1 g1 =>
    bif am_in r1 24 then
      (if (g1 4 i r1.toNatClampNeg) ≤ x3 then
      (am_run ct 78 n 6 [some (.inr (.inr (16, w))), some (.inr (.inr (1, i))), some (.inl x2), some (.inl x3), some (.inl (x4 + 1)), some (.inl (g1 4 i r1.toNatClampNeg))] [] g1)
    else
      (am_run ct 78 n 6 [some (.inr (.inr (16, w))), some (.inr (.inr (1, i))), some (.inl x4), some (.inl (g1 4 i r1.toNatClampNeg)), some (.inl (x4 + 1)), some (.inl (g1 4 i r1.toNatClampNeg))] [] g1))
    else none)) := rfl
set_option maxRecDepth 50000 in
theorem eY_dearestLength_0 (ct : am_T) (n : Nat) (w i : Nat) (g : am_G) : am_run ct 79 (n + 1) 0 [some (.inr (.inr (16, w))), some (.inr (.inr (1, i))), none] [] g =
  am_bi (ct 78 [.inr (.inr (16, w)), .inr (.inr (1, i))] g) (fun r1 g1 =>
  if r1 = (-1 : Int32) then
    (some (some (.inl (-2 : Int32)), g1))
  else
    (am_bi (ct 75 [.inr (.inr (16, w)), .inr (.inr (1, i)), .inl r1] g1) (fun r2 g2 =>
    bif am_in r2 24 then
      (some (some (.inl (g2 4 i r2.toNatClampNeg)), g2))
    else none))) := rfl
set_option maxRecDepth 50000 in
theorem eY_cutDearestLink_0 (ct : am_T) (n : Nat) (w i : Nat) (g : am_G) : am_run ct 80 (n + 1) 0 [some (.inr (.inr (16, w))), some (.inr (.inr (1, i))), none] [] g =
  am_bi (ct 78 [.inr (.inr (16, w)), .inr (.inr (1, i))] g) (fun r1 g1 =>
  if r1 = (-1 : Int32) then
    (some (none, g1))
  else
    (bif am_in r1 24 then
      (bif am_in (r1 + (1 : Int32)) 24 then
      (am_bv (ct 9 [.inr (.inr (1, i)), .inl (g1 17 w r1.toNatClampNeg), .inl (g1 17 w (r1 + (1 : Int32)).toNatClampNeg)] g1) (fun g2 =>
    some (none, g2)))
    else none)
    else none)) := rfl
set_option maxRecDepth 50000 in
theorem eY_leastOf_5_0 (ct : am_T) (n : Nat) (w i : Nat) (g : am_G) : am_run ct 81 (n + 1) 0 [some (.inr (.inr (16, w))), some (.inr (.inr (1, i))), some (.inr (.inr (5, i))), none, none, none] [] g =
  am_run ct 81 n 4 [some (.inr (.inr (16, w))), some (.inr (.inr (1, i))), some (.inr (.inr (5, i))), some (.inl (-2 : Int32)), some (.inl (0 : Int32)), none] [] g := rfl
set_option maxRecDepth 50000 in
theorem eY_leastOf_5_4 (ct : am_T) (n : Nat) (w i : Nat) (x3 : Int32) (x4 : Int32) (o5 : Option am_V) (g : am_G) : am_run ct 81 (n + 1) 4 [some (.inr (.inr (16, w))), some (.inr (.inr (1, i))), some (.inr (.inr (5, i))), some (.inl x3), some (.inl x4), o5] [] g =
  if (g 119 w 0) ≤ (x4 + (1 : Int32)) then
    (some (some (.inl x3), g))
  else
    (am_bi (ct 75 [.inr (.inr (16, w)), .inr (.inr (1, i)), .inl x4] g) (fun r1 g1 =>
    bif am_in r1 24 then
      (if x4 = 0 then
      (am_run ct 81 n 4 [some (.inr (.inr (16, w))), some (.inr (.inr (1, i))), some (.inr (.inr (5, i))), some (.inl (g1 5 i r1.toNatClampNeg)), some (.inl (x4 + 1)), some (.inl (g1 5 i r1.toNatClampNeg))] [] g1)
    else
      (if x3 ≤ (g1 5 i r1.toNatClampNeg) then
        (am_run ct 81 n 4 [some (.inr (.inr (16, w))), some (.inr (.inr (1, i))), some (.inr (.inr (5, i))), some (.inl x3), some (.inl (x4 + 1)), some (.inl (g1 5 i r1.toNatClampNeg))] [] g1)
      else
        (am_run ct 81 n 4 [some (.inr (.inr (16, w))), some (.inr (.inr (1, i))), some (.inr (.inr (5, i))), some (.inl (g1 5 i r1.toNatClampNeg)), some (.inl (x4 + 1)), some (.inl (g1 5 i r1.toNatClampNeg))] [] g1)))
    else none)) := rfl
set_option maxRecDepth 50000 in
theorem eY_leastOf_4_0 (ct : am_T) (n : Nat) (w i : Nat) (g : am_G) : am_run ct 81 (n + 1) 0 [some (.inr (.inr (16, w))), some (.inr (.inr (1, i))), some (.inr (.inr (4, i))), none, none, none] [] g =
  am_run ct 81 n 4 [some (.inr (.inr (16, w))), some (.inr (.inr (1, i))), some (.inr (.inr (4, i))), some (.inl (-2 : Int32)), some (.inl (0 : Int32)), none] [] g := rfl
set_option maxRecDepth 50000 in
theorem eY_leastOf_4_4 (ct : am_T) (n : Nat) (w i : Nat) (x3 : Int32) (x4 : Int32) (o5 : Option am_V) (g : am_G) : am_run ct 81 (n + 1) 4 [some (.inr (.inr (16, w))), some (.inr (.inr (1, i))), some (.inr (.inr (4, i))), some (.inl x3), some (.inl x4), o5] [] g =
  if (g 119 w 0) ≤ (x4 + (1 : Int32)) then
    (some (some (.inl x3), g))
  else
    (am_bi (ct 75 [.inr (.inr (16, w)), .inr (.inr (1, i)), .inl x4] g) (fun r1 g1 =>
    bif am_in r1 24 then
      (if x4 = 0 then
      (am_run ct 81 n 4 [some (.inr (.inr (16, w))), some (.inr (.inr (1, i))), some (.inr (.inr (4, i))), some (.inl (g1 4 i r1.toNatClampNeg)), some (.inl (x4 + 1)), some (.inl (g1 4 i r1.toNatClampNeg))] [] g1)
    else
      (if x3 ≤ (g1 4 i r1.toNatClampNeg) then
        (am_run ct 81 n 4 [some (.inr (.inr (16, w))), some (.inr (.inr (1, i))), some (.inr (.inr (4, i))), some (.inl x3), some (.inl (x4 + 1)), some (.inl (g1 4 i r1.toNatClampNeg))] [] g1)
      else
        (am_run ct 81 n 4 [some (.inr (.inr (16, w))), some (.inr (.inr (1, i))), some (.inr (.inr (4, i))), some (.inl (g1 4 i r1.toNatClampNeg)), some (.inl (x4 + 1)), some (.inl (g1 4 i r1.toNatClampNeg))] [] g1)))
    else none)) := rfl
set_option maxRecDepth 50000 in
theorem eY_keepsWithin_4_0 (ct : am_T) (n : Nat) (w i : Nat) (x3 : Int32) (x4 : Int32) (g : am_G) : am_run ct 82 (n + 1) 0 [some (.inr (.inr (16, w))), some (.inr (.inr (1, i))), some (.inr (.inr (4, i))), some (.inl x3), some (.inl x4), none] [] g =
  am_run ct 82 n 2 [some (.inr (.inr (16, w))), some (.inr (.inr (1, i))), some (.inr (.inr (4, i))), some (.inl x3), some (.inl x4), some (.inl (0 : Int32))] [] g := rfl
set_option maxRecDepth 50000 in
theorem eY_keepsWithin_4_2 (ct : am_T) (n : Nat) (w i : Nat) (x3 : Int32) (x4 : Int32) (x5 : Int32) (g : am_G) : am_run ct 82 (n + 1) 2 [some (.inr (.inr (16, w))), some (.inr (.inr (1, i))), some (.inr (.inr (4, i))), some (.inl x3), some (.inl x4), some (.inl x5)] [] g =
  if (g 119 w 0) ≤ (x5 + (1 : Int32)) then
    (some (some (.inl (1 : Int32)), g))
  else
    (am_bi (ct 75 [.inr (.inr (16, w)), .inr (.inr (1, i)), .inl x5] g) (fun r1 g1 =>
    bif am_in r1 24 then
      (am_bi (ct 127 [.inl ((g1 4 i r1.toNatClampNeg) + x3), .inl x4, .inl (9999 : Int32)] g1) (fun r2 g2 =>
    if r2 = 0 then
      (some (some (.inl (0 : Int32)), g2))
    else
      (am_run ct 82 n 2 [some (.inr (.inr (16, w))), some (.inr (.inr (1, i))), some (.inr (.inr (4, i))), some (.inl x3), some (.inl x4), some (.inl (x5 + 1))] [] g2)))
    else none)) := rfl
set_option maxRecDepth 50000 in
theorem eY_keepsWithin_5_0 (ct : am_T) (n : Nat) (w i : Nat) (x3 : Int32) (x4 : Int32) (g : am_G) : am_run ct 82 (n + 1) 0 [some (.inr (.inr (16, w))), some (.inr (.inr (1, i))), some (.inr (.inr (5, i))), some (.inl x3), some (.inl x4), none] [] g =
  am_run ct 82 n 2 [some (.inr (.inr (16, w))), some (.inr (.inr (1, i))), some (.inr (.inr (5, i))), some (.inl x3), some (.inl x4), some (.inl (0 : Int32))] [] g := rfl
set_option maxRecDepth 50000 in
theorem eY_keepsWithin_5_2 (ct : am_T) (n : Nat) (w i : Nat) (x3 : Int32) (x4 : Int32) (x5 : Int32) (g : am_G) : am_run ct 82 (n + 1) 2 [some (.inr (.inr (16, w))), some (.inr (.inr (1, i))), some (.inr (.inr (5, i))), some (.inl x3), some (.inl x4), some (.inl x5)] [] g =
  if (g 119 w 0) ≤ (x5 + (1 : Int32)) then
    (some (some (.inl (1 : Int32)), g))
  else
    (am_bi (ct 75 [.inr (.inr (16, w)), .inr (.inr (1, i)), .inl x5] g) (fun r1 g1 =>
    bif am_in r1 24 then
      (am_bi (ct 127 [.inl ((g1 5 i r1.toNatClampNeg) + x3), .inl x4, .inl (9999 : Int32)] g1) (fun r2 g2 =>
    if r2 = 0 then
      (some (some (.inl (0 : Int32)), g2))
    else
      (am_run ct 82 n 2 [some (.inr (.inr (16, w))), some (.inr (.inr (1, i))), some (.inr (.inr (5, i))), some (.inl x3), some (.inl x4), some (.inl (x5 + 1))] [] g2)))
    else none)) := rfl
set_option maxRecDepth 50000 in
theorem eY_addToAll_4_0 (ct : am_T) (n : Nat) (w i : Nat) (x3 : Int32) (g : am_G) : am_run ct 83 (n + 1) 0 [some (.inr (.inr (16, w))), some (.inr (.inr (1, i))), some (.inr (.inr (4, i))), some (.inl x3), none] [] g =
  am_run ct 83 n 2 [some (.inr (.inr (16, w))), some (.inr (.inr (1, i))), some (.inr (.inr (4, i))), some (.inl x3), some (.inl (0 : Int32))] [] g := rfl
set_option maxRecDepth 50000 in
theorem eY_addToAll_4_2 (ct : am_T) (n : Nat) (w i : Nat) (x3 : Int32) (x4 : Int32) (g : am_G) : am_run ct 83 (n + 1) 2 [some (.inr (.inr (16, w))), some (.inr (.inr (1, i))), some (.inr (.inr (4, i))), some (.inl x3), some (.inl x4)] [] g =
  if (g 119 w 0) ≤ (x4 + (1 : Int32)) then
    (some (none, g))
  else
    (am_bi (ct 75 [.inr (.inr (16, w)), .inr (.inr (1, i)), .inl x4] g) (fun r1 g1 =>
    bif am_in r1 24 then
      (bif am_in r1 24 then
      (am_run ct 83 n 2 [some (.inr (.inr (16, w))), some (.inr (.inr (1, i))), some (.inr (.inr (4, i))), some (.inl x3), some (.inl (x4 + 1))] [] (am_sto g1 4 i r1.toNatClampNeg ((g1 4 i r1.toNatClampNeg) + x3)))
    else none)
    else none)) := rfl
set_option maxRecDepth 50000 in
theorem eY_addToAll_5_0 (ct : am_T) (n : Nat) (w i : Nat) (x3 : Int32) (g : am_G) : am_run ct 83 (n + 1) 0 [some (.inr (.inr (16, w))), some (.inr (.inr (1, i))), some (.inr (.inr (5, i))), some (.inl x3), none] [] g =
  am_run ct 83 n 2 [some (.inr (.inr (16, w))), some (.inr (.inr (1, i))), some (.inr (.inr (5, i))), some (.inl x3), some (.inl (0 : Int32))] [] g := rfl
set_option maxRecDepth 50000 in
theorem eY_addToAll_5_2 (ct : am_T) (n : Nat) (w i : Nat) (x3 : Int32) (x4 : Int32) (g : am_G) : am_run ct 83 (n + 1) 2 [some (.inr (.inr (16, w))), some (.inr (.inr (1, i))), some (.inr (.inr (5, i))), some (.inl x3), some (.inl x4)] [] g =
  if (g 119 w 0) ≤ (x4 + (1 : Int32)) then
    (some (none, g))
  else
    (am_bi (ct 75 [.inr (.inr (16, w)), .inr (.inr (1, i)), .inl x4] g) (fun r1 g1 =>
    bif am_in r1 24 then
      (bif am_in r1 24 then
      (am_run ct 83 n 2 [some (.inr (.inr (16, w))), some (.inr (.inr (1, i))), some (.inr (.inr (5, i))), some (.inl x3), some (.inl (x4 + 1))] [] (am_sto g1 5 i r1.toNatClampNeg ((g1 5 i r1.toNatClampNeg) + x3)))
    else none)
    else none)) := rfl
end
section
/-! ===== what a run from a cut is: by wip/whole/write.py ===== -/
set_option maxRecDepth 50000 in
theorem eC_feed_0 (ct : am_T) (n : Nat) (x1 : Int32) (x2 : Int32) (x3 : Int32) (x4 : Int32) (x5 : Int32) (g : am_G) : am_run ct 84 (n + 1) 0 [some (.inr (.inr (0, 0))), some (.inl x1), some (.inl x2), some (.inl x3), some (.inl x4), some (.inl x5)] [] g =
  if ((g 100 0 0) + (20 : Int32)) ≤ (700 : Int32) then
    (am_bv (ct 129 [.inr (.inr (0, 0)), .inl x1] g) (fun g1 =>
    am_bv (ct 129 [.inr (.inr (0, 0)), .inl x2] g1) (fun g2 =>
    am_bv (ct 129 [.inr (.inr (0, 0)), .inl x3] g2) (fun g3 =>
    am_bv (ct 129 [.inr (.inr (0, 0)), .inl x4] g3) (fun g4 =>
    am_bv (ct 129 [.inr (.inr (0, 0)), .inl x5] g4) (fun g5 =>
    some (some (.inl (g5 100 0 0)), g5)))))))
  else
    (some (some (.inl (-1 : Int32)), g)) := rfl
set_option maxRecDepth 50000 in
theorem eC_text_0 (ct : am_T) (n : Nat) (x1 : Int32) (g : am_G) : am_run ct 85 (n + 1) 0 [some (.inr (.inr (0, 0))), some (.inl x1)] [] g =
  if x1 < 0 then
    (some (some (.inl (-2 : Int32)), g))
  else
    (if x1 ≤ (g 100 0 0) then
      (am_bi (ct 62 [.inr (.inr (10, 0)), .inr (.inr (13, 0)), .inl x1] (am_put g 100 0 (0 : Int32))) (fun r1 g1 =>
      if r1 = 0 then
        (some (some (.inl (-1 : Int32)), g1))
      else
        (am_bv (ct 130 [.inr (.inr (0, 0))] g1) (fun g2 =>
        some (some (.inl (g2 107 0 0)), g2)))))
    else
      (some (some (.inl (-2 : Int32)), g))) := rfl
set_option maxRecDepth 50000 in
theorem eC_fault_0 (ct : am_T) (n : Nat) (x1 : Int32) (g : am_G) : am_run ct 86 (n + 1) 0 [some (.inr (.inr (0, 0))), some (.inl x1)] [] g =
  if x1 = 0 then
    (some (some (.inl (g 108 0 0)), g))
  else if x1 = 1 then
    (some (some (.inl (g 109 0 0)), g))
  else (some (some (.inl (-1 : Int32)), g)) := rfl
set_option maxRecDepth 50000 in
theorem eC_named_0 (ct : am_T) (n : Nat) (x1 : Int32) (g : am_G) : am_run ct 87 (n + 1) 0 [some (.inr (.inr (0, 0))), some (.inl x1)] [] g =
  am_bi (ct 44 [.inr (.inr (8, 0)), .inl x1] g) (fun r1 g1 =>
  some (some (.inl r1), g1)) := rfl
set_option maxRecDepth 50000 in
theorem eC_touch_0 (ct : am_T) (n : Nat) (x1 : Int32) (g : am_G) : am_run ct 88 (n + 1) 0 [some (.inr (.inr (0, 0))), some (.inl x1), none] [] g =
  am_bi (ct 3 [.inr (.inr (1, 0)), .inl x1] g) (fun r1 g1 =>
  if r1 = 0 then
    (some (some (.inl (-1 : Int32)), g1))
  else
    (am_bv (ct 39 [.inr (.inr (14, 0)), .inr (.inr (1, 0))] g1) (fun g2 =>
    am_bv (ct 5 [.inr (.inr (1, 0)), .inl x1] g2) (fun g3 =>
    some (some (.inl ((g3 103 0 0) - (g2 103 0 0))), g3))))) := rfl
set_option maxRecDepth 50000 in
theorem eC_reroot_0 (ct : am_T) (n : Nat) (x1 : Int32) (g : am_G) : am_run ct 89 (n + 1) 0 [some (.inr (.inr (0, 0))), some (.inl x1), none] [] g =
  am_bi (ct 3 [.inr (.inr (1, 0)), .inl x1] g) (fun r1 g1 =>
  if r1 = 0 then
    (some (some (.inl (-1 : Int32)), g1))
  else
    (am_bv (ct 39 [.inr (.inr (14, 0)), .inr (.inr (1, 0))] g1) (fun g2 =>
    am_bv (ct 6 [.inr (.inr (1, 0)), .inl x1] g2) (fun g3 =>
    some (some (.inl ((g3 103 0 0) - (g2 103 0 0))), g3))))) := rfl
set_option maxRecDepth 50000 in
theorem eC_link_0 (ct : am_T) (n : Nat) (x1 : Int32) (x2 : Int32) (x3 : Int32) (x4 : Int32) (g : am_G) : am_run ct 90 (n + 1) 0 [some (.inr (.inr (0, 0))), some (.inl x1), some (.inl x2), some (.inl x3), some (.inl x4)] [] g =
  am_bi (ct 128 [.inr (.inr (0, 0)), .inl x1, .inl x2, .inl x3, .inl x4] g) (fun r1 g1 =>
  if r1 = 0 then
    (some (some (.inl (-1 : Int32)), g1))
  else
    (am_bi (ct 15 [.inr (.inr (1, 0)), .inl x1, .inl x2] g1) (fun r2 g2 =>
    if r2 = 0 then
      (am_bv (ct 39 [.inr (.inr (14, 0)), .inr (.inr (1, 0))] g2) (fun g3 =>
      am_bv (ct 8 [.inr (.inr (1, 0)), .inl x1, .inl x2, .inl x3, .inl x4] g3) (fun g4 =>
      am_bi (ct 11 [.inr (.inr (1, 0)), .inl x1] g4) (fun r5 g5 =>
      am_bi (ct 23 [.inr (.inr (1, 0)), .inl r5] g5) (fun r6 g6 =>
      some (some (.inl r6), g6))))))
    else
      (some (some (.inl (-2 : Int32)), g2))))) := rfl
set_option maxRecDepth 50000 in
theorem eC_cut_0 (ct : am_T) (n : Nat) (x1 : Int32) (x2 : Int32) (g : am_G) : am_run ct 91 (n + 1) 0 [some (.inr (.inr (0, 0))), some (.inl x1), some (.inl x2), none, none] [] g =
  am_bi (ct 4 [.inr (.inr (1, 0)), .inl x1, .inl x2] g) (fun r1 g1 =>
  if r1 = 0 then
    (some (some (.inl (-1 : Int32)), g1))
  else
    (am_bi (ct 17 [.inr (.inr (1, 0)), .inl x1, .inl x2] g1) (fun r2 g2 =>
    if r2 = (-1 : Int32) then
      (some (some (.inl (-2 : Int32)), g2))
    else
      (bif am_in r2 24 then
        (am_bv (ct 39 [.inr (.inr (14, 0)), .inr (.inr (1, 0))] g2) (fun g3 =>
      am_bv (ct 9 [.inr (.inr (1, 0)), .inl x1, .inl x2] g3) (fun g4 =>
      some (some (.inl (g2 4 0 r2.toNatClampNeg)), g4))))
      else none)))) := rfl
set_option maxRecDepth 50000 in
theorem eC_walk_0 (ct : am_T) (n : Nat) (x1 : Int32) (x2 : Int32) (g : am_G) : am_run ct 92 (n + 1) 0 [some (.inr (.inr (0, 0))), some (.inl x1), some (.inl x2), none] [] g =
  am_bi (ct 4 [.inr (.inr (1, 0)), .inl x1, .inl x2] g) (fun r1 g1 =>
  if r1 = 0 then
    (some (some (.inl (-1 : Int32)), g1))
  else
    (am_bv (ct 74 [.inr (.inr (16, 0)), .inr (.inr (1, 0)), .inl x1, .inl x2] g1) (fun g2 =>
    if (g2 119 0 0) = 0 then
      (some (some (.inl (-2 : Int32)), g2))
    else
      (am_bv (ct 39 [.inr (.inr (14, 0)), .inr (.inr (1, 0))] g2) (fun g3 =>
      am_bv (ct 7 [.inr (.inr (1, 0)), .inl x1, .inl x2] g3) (fun g4 =>
      am_bv (ct 51 [.inr (.inr (18, 0)), .inr (.inr (1, 0)), .inr (.inr (16, 0)), .inl ((g4 103 0 0) - (g3 103 0 0))] g4) (fun g5 =>
      am_bi (ct 76 [.inr (.inr (16, 0)), .inr (.inr (1, 0))] g5) (fun r6 g6 =>
      some (some (.inl r6), g6))))))))) := rfl
set_option maxRecDepth 50000 in
theorem eC_seen_0 (ct : am_T) (n : Nat) (x1 : Int32) (g : am_G) : am_run ct 93 (n + 1) 0 [some (.inr (.inr (0, 0))), some (.inl x1)] [] g =
  if x1 < 0 then
    (some (some (.inl (-1 : Int32)), g))
  else
    (if x1 < (9 : Int32) then
      (if (g 120 0 0) = 0 then
        (some (some (.inl (-3 : Int32)), g))
      else
        (bif am_in x1 9 then
          (some (some (.inl (g 19 0 x1.toNatClampNeg)), g))
        else none))
    else
      (some (some (.inl (-1 : Int32)), g))) := rfl
set_option maxRecDepth 50000 in
theorem eC_meet_0 (ct : am_T) (n : Nat) (x1 : Int32) (x2 : Int32) (g : am_G) : am_run ct 94 (n + 1) 0 [some (.inr (.inr (0, 0))), some (.inl x1), some (.inl x2), none] [] g =
  am_bi (ct 4 [.inr (.inr (1, 0)), .inl x1, .inl x2] g) (fun r1 g1 =>
  if r1 = 0 then
    (some (some (.inl (-1 : Int32)), g1))
  else
    (am_bi (ct 16 [.inr (.inr (1, 0)), .inl x1, .inl x2] g1) (fun r2 g2 =>
    if r2 = (-1 : Int32) then
      (some (some (.inl (-2 : Int32)), g2))
    else
      (am_bv (ct 39 [.inr (.inr (14, 0)), .inr (.inr (1, 0))] g2) (fun g3 =>
      am_bv (ct 5 [.inr (.inr (1, 0)), .inl x1] g3) (fun g4 =>
      am_bv (ct 5 [.inr (.inr (1, 0)), .inl x2] g4) (fun g5 =>
      some (some (.inl r2), g5)))))))) := rfl
set_option maxRecDepth 50000 in
theorem eC_raise_0 (ct : am_T) (n : Nat) (x1 : Int32) (x2 : Int32) (x3 : Int32) (g : am_G) : am_run ct 95 (n + 1) 0 [some (.inr (.inr (0, 0))), some (.inl x1), some (.inl x2), some (.inl x3)] [] g =
  am_bi (ct 4 [.inr (.inr (1, 0)), .inl x1, .inl x2] g) (fun r1 g1 =>
  if r1 = 0 then
    (some (some (.inl (-1 : Int32)), g1))
  else
    (am_bi (ct 127 [.inl x3, .inl (-9999 : Int32), .inl (9999 : Int32)] g1) (fun r2 g2 =>
    if r2 = 0 then
      (some (some (.inl (-1 : Int32)), g2))
    else
      (am_bv (ct 74 [.inr (.inr (16, 0)), .inr (.inr (1, 0)), .inl x1, .inl x2] g2) (fun g3 =>
      if (g3 119 0 0) = 0 then
        (some (some (.inl (-2 : Int32)), g3))
      else
        (am_bi (ct 82 [.inr (.inr (16, 0)), .inr (.inr (1, 0)), .inr (.inr (4, 0)), .inl x3, .inl (1 : Int32)] g3) (fun r4 g4 =>
        if r4 = 0 then
          (some (some (.inl (-3 : Int32)), g4))
        else
          (am_bv (ct 39 [.inr (.inr (14, 0)), .inr (.inr (1, 0))] g4) (fun g5 =>
          am_bv (ct 7 [.inr (.inr (1, 0)), .inl x1, .inl x2] g5) (fun g6 =>
          am_bv (ct 83 [.inr (.inr (16, 0)), .inr (.inr (1, 0)), .inr (.inr (4, 0)), .inl x3] g6) (fun g7 =>
          some (some (.inl ((g7 119 0 0) - (1 : Int32))), g7)))))))))))) := rfl
set_option maxRecDepth 50000 in
theorem eC_cutDearest_0 (ct : am_T) (n : Nat) (x1 : Int32) (x2 : Int32) (g : am_G) : am_run ct 96 (n + 1) 0 [some (.inr (.inr (0, 0))), some (.inl x1), some (.inl x2), none] [] g =
  am_bi (ct 4 [.inr (.inr (1, 0)), .inl x1, .inl x2] g) (fun r1 g1 =>
  if r1 = 0 then
    (some (some (.inl (-1 : Int32)), g1))
  else
    (am_bv (ct 74 [.inr (.inr (16, 0)), .inr (.inr (1, 0)), .inl x1, .inl x2] g1) (fun g2 =>
    if (2 : Int32) ≤ (g2 119 0 0) then
      (am_bi (ct 79 [.inr (.inr (16, 0)), .inr (.inr (1, 0))] g2) (fun r3 g3 =>
      am_bv (ct 39 [.inr (.inr (14, 0)), .inr (.inr (1, 0))] g3) (fun g4 =>
      am_bv (ct 7 [.inr (.inr (1, 0)), .inl x1, .inl x2] g4) (fun g5 =>
      am_bv (ct 80 [.inr (.inr (16, 0)), .inr (.inr (1, 0))] g5) (fun g6 =>
      some (some (.inl r3), g6))))))
    else
      (some (some (.inl (-2 : Int32)), g2))))) := rfl
set_option maxRecDepth 50000 in
theorem eC_send_0 (ct : am_T) (n : Nat) (x1 : Int32) (x2 : Int32) (x3 : Int32) (g : am_G) : am_run ct 97 (n + 1) 0 [some (.inr (.inr (0, 0))), some (.inl x1), some (.inl x2), some (.inl x3)] [] g =
  am_bi (ct 4 [.inr (.inr (1, 0)), .inl x1, .inl x2] g) (fun r1 g1 =>
  if r1 = 0 then
    (some (some (.inl (-1 : Int32)), g1))
  else
    (am_bi (ct 127 [.inl x3, .inl (-9999 : Int32), .inl (9999 : Int32)] g1) (fun r2 g2 =>
    if r2 = 0 then
      (some (some (.inl (-1 : Int32)), g2))
    else
      (am_bv (ct 74 [.inr (.inr (16, 0)), .inr (.inr (1, 0)), .inl x1, .inl x2] g2) (fun g3 =>
      if (g3 119 0 0) = 0 then
        (some (some (.inl (-2 : Int32)), g3))
      else
        (am_bi (ct 82 [.inr (.inr (16, 0)), .inr (.inr (1, 0)), .inr (.inr (5, 0)), .inl (-x3), .inl (0 : Int32)] g3) (fun r4 g4 =>
        if r4 = 0 then
          (some (some (.inl (-3 : Int32)), g4))
        else
          (am_bv (ct 39 [.inr (.inr (14, 0)), .inr (.inr (1, 0))] g4) (fun g5 =>
          am_bv (ct 7 [.inr (.inr (1, 0)), .inl x1, .inl x2] g5) (fun g6 =>
          am_bv (ct 83 [.inr (.inr (16, 0)), .inr (.inr (1, 0)), .inr (.inr (5, 0)), .inl (-x3)] g6) (fun g7 =>
          some (some (.inl ((g7 119 0 0) - (1 : Int32))), g7)))))))))))) := rfl
set_option maxRecDepth 50000 in
theorem eC_settle_0 (ct : am_T) (n : Nat) (x1 : Int32) (g : am_G) : am_run ct 98 (n + 1) 0 [some (.inr (.inr (0, 0))), some (.inl x1)] [] g =
  am_bi (ct 3 [.inr (.inr (1, 0)), .inl x1] g) (fun r1 g1 =>
  if r1 = 0 then
    (some (some (.inl (-1 : Int32)), g1))
  else
    (am_bv (ct 39 [.inr (.inr (14, 0)), .inr (.inr (1, 0))] g1) (fun g2 =>
    am_bi (ct 10 [.inr (.inr (1, 0)), .inl x1] g2) (fun r3 g3 =>
    some (some (.inl r3), g3))))) := rfl
set_option maxRecDepth 50000 in
theorem eC_exchange_0 (ct : am_T) (n : Nat) (x1 : Int32) (x2 : Int32) (x3 : Int32) (x4 : Int32) (g : am_G) : am_run ct 99 (n + 1) 0 [some (.inr (.inr (0, 0))), some (.inl x1), some (.inl x2), some (.inl x3), some (.inl x4), none] [] g =
  am_bi (ct 128 [.inr (.inr (0, 0)), .inl x1, .inl x2, .inl x3, .inl x4] g) (fun r1 g1 =>
  if r1 = 0 then
    (some (some (.inl (-1 : Int32)), g1))
  else
    (am_bv (ct 74 [.inr (.inr (16, 0)), .inr (.inr (1, 0)), .inl x1, .inl x2] g1) (fun g2 =>
    if (g2 119 0 0) = (1 : Int32) then
      (some (some (.inl (-2 : Int32)), g2))
    else
      (if (g2 119 0 0) ≤ (1 : Int32) then
        (am_bv (ct 39 [.inr (.inr (14, 0)), .inr (.inr (1, 0))] g2) (fun g3 =>
        if (g3 119 0 0) ≤ (1 : Int32) then
          (am_bv (ct 8 [.inr (.inr (1, 0)), .inl x1, .inl x2, .inl x3, .inl x4] g3) (fun g4 =>
          some (some (.inl (0 : Int32)), g4)))
        else
          (am_bi (ct 79 [.inr (.inr (16, 0)), .inr (.inr (1, 0))] g3) (fun r5 g5 =>
          am_bv (ct 7 [.inr (.inr (1, 0)), .inl x1, .inl x2] g5) (fun g6 =>
          am_bv (ct 80 [.inr (.inr (16, 0)), .inr (.inr (1, 0))] g6) (fun g7 =>
          am_bv (ct 8 [.inr (.inr (1, 0)), .inl x1, .inl x2, .inl x3, .inl x4] g7) (fun g8 =>
          some (some (.inl r5), g8))))))))
      else
        (am_bi (ct 79 [.inr (.inr (16, 0)), .inr (.inr (1, 0))] g2) (fun r9 g9 =>
        if x3 < r9 then
          (am_bv (ct 39 [.inr (.inr (14, 0)), .inr (.inr (1, 0))] g9) (fun g10 =>
          if (g10 119 0 0) ≤ (1 : Int32) then
            (am_bv (ct 8 [.inr (.inr (1, 0)), .inl x1, .inl x2, .inl x3, .inl x4] g10) (fun g11 =>
            some (some (.inl (0 : Int32)), g11)))
          else
            (am_bi (ct 79 [.inr (.inr (16, 0)), .inr (.inr (1, 0))] g10) (fun r12 g12 =>
            am_bv (ct 7 [.inr (.inr (1, 0)), .inl x1, .inl x2] g12) (fun g13 =>
            am_bv (ct 80 [.inr (.inr (16, 0)), .inr (.inr (1, 0))] g13) (fun g14 =>
            am_bv (ct 8 [.inr (.inr (1, 0)), .inl x1, .inl x2, .inl x3, .inl x4] g14) (fun g15 =>
            some (some (.inl r12), g15))))))))
        else
          (some (some (.inl (-2 : Int32)), g9)))))))) := rfl
set_option maxRecDepth 50000 in
theorem eC_shed_0 (ct : am_T) (n : Nat) (x1 : Int32) (g : am_G) : am_run ct 100 (n + 1) 0 [some (.inr (.inr (0, 0))), some (.inl x1), none, none] [] g =
  am_bi (ct 3 [.inr (.inr (1, 0)), .inl x1] g) (fun r1 g1 =>
  if r1 = 0 then
    (some (some (.inl (-1 : Int32)), g1))
  else
    (bif am_in x1 24 then
      (if (g1 2 0 x1.toNatClampNeg) = (-1 : Int32) then
      (some (some (.inl (-2 : Int32)), g1))
    else
      (bif am_in x1 24 then
        (am_bv (ct 39 [.inr (.inr (14, 0)), .inr (.inr (1, 0))] g1) (fun g2 =>
      am_bv (ct 9 [.inr (.inr (1, 0)), .inl (g1 2 0 x1.toNatClampNeg), .inl x1] g2) (fun g3 =>
      some (some (.inl (g1 4 0 x1.toNatClampNeg)), g3))))
      else none))
    else none)) := rfl
set_option maxRecDepth 50000 in
theorem eC_value_0 (ct : am_T) (n : Nat) (x1 : Int32) (x2 : Int32) (g : am_G) : am_run ct 101 (n + 1) 0 [some (.inr (.inr (0, 0))), some (.inl x1), some (.inl x2), none] [] g =
  am_bi (ct 3 [.inr (.inr (1, 0)), .inl x1] g) (fun r1 g1 =>
  if r1 = 0 then
    (some (some (.inl (-20000 : Int32)), g1))
  else
    (am_bi (ct 127 [.inl x2, .inl (-9999 : Int32), .inl (9999 : Int32)] g1) (fun r2 g2 =>
    if r2 = 0 then
      (some (some (.inl (-20000 : Int32)), g2))
    else
      (am_bv (ct 39 [.inr (.inr (14, 0)), .inr (.inr (1, 0))] g2) (fun g3 =>
      bif am_in x1 24 then
        (bif am_in x1 24 then
        (some (some (.inl (g3 6 0 x1.toNatClampNeg)), am_sto g3 6 0 x1.toNatClampNeg x2))
      else none)
      else none))))) := rfl
set_option maxRecDepth 50000 in
theorem eC_town_0 (ct : am_T) (n : Nat) (x1 : Int32) (x2 : Int32) (g : am_G) : am_run ct 102 (n + 1) 0 [some (.inr (.inr (0, 0))), some (.inl x1), some (.inl x2)] [] g =
  am_bi (ct 3 [.inr (.inr (1, 0)), .inl x1] g) (fun r1 g1 =>
  if r1 = 0 then
    (none)
  else
    (if x2 < 0 then
      (none)
    else
      (if x2 < (10 : Int32) then
        (am_bi (ct 131 [.inr (.inr (0, 0)), .inl x1, .inl x2] g1) (fun r2 g2 =>
        some (some (.inl r2), g2)))
      else
        (none)))) := rfl
set_option maxRecDepth 50000 in
theorem eC_chain_0 (ct : am_T) (n : Nat) (x1 : Int32) (x2 : Int32) (g : am_G) : am_run ct 103 (n + 1) 0 [some (.inr (.inr (0, 0))), some (.inl x1), some (.inl x2), none, none] [] g =
  am_bi (ct 3 [.inr (.inr (1, 0)), .inl x1] g) (fun r1 g1 =>
  if r1 = 0 then
    (some (some (.inl (-1 : Int32)), g1))
  else
    (if x2 < 0 then
      (some (some (.inl (-1 : Int32)), g1))
    else
      (if x2 < (5 : Int32) then
        (am_bi (ct 18 [.inr (.inr (1, 0)), .inl x1] g1) (fun r2 g2 =>
        am_bi (ct 19 [.inr (.inr (1, 0)), .inl x1] g2) (fun r3 g3 =>
        if x2 = 0 then
          (some (some (.inl r2), g3))
        else if x2 = 1 then
          (some (some (.inl r3), g3))
        else if x2 = 2 then
          (am_bi (ct 12 [.inr (.inr (1, 0)), .inl r3] g3) (fun r4 g4 =>
          am_bi (ct 12 [.inr (.inr (1, 0)), .inl r2] g4) (fun r5 g5 =>
          some (some (.inl ((r4 - r5) + (1 : Int32))), g5))))
        else if x2 = 3 then
          (am_bi (ct 12 [.inr (.inr (1, 0)), .inl x1] g3) (fun r6 g6 =>
          am_bi (ct 12 [.inr (.inr (1, 0)), .inl r2] g6) (fun r7 g7 =>
          some (some (.inl (r6 - r7)), g7))))
        else (am_bv (ct 74 [.inr (.inr (16, 0)), .inr (.inr (1, 0)), .inl r2, .inl r3] g3) (fun g8 =>
          am_bi (ct 76 [.inr (.inr (16, 0)), .inr (.inr (1, 0))] g8) (fun r9 g9 =>
          some (some (.inl r9), g9)))))))
      else
        (some (some (.inl (-1 : Int32)), g1))))) := rfl
set_option maxRecDepth 50000 in
theorem eC_above_0 (ct : am_T) (n : Nat) (x1 : Int32) (x2 : Int32) (g : am_G) : am_run ct 104 (n + 1) 0 [some (.inr (.inr (0, 0))), some (.inl x1), some (.inl x2)] [] g =
  am_bi (ct 3 [.inr (.inr (1, 0)), .inl x1] g) (fun r1 g1 =>
  if r1 = 0 then
    (some (some (.inl (-1 : Int32)), g1))
  else
    (if 0 ≤ x2 then
      (am_bi (ct 12 [.inr (.inr (1, 0)), .inl x1] g1) (fun r2 g2 =>
      if x2 ≤ r2 then
        (am_bi (ct 13 [.inr (.inr (1, 0)), .inl x1, .inl x2] g2) (fun r3 g3 =>
        some (some (.inl r3), g3)))
      else
        (some (some (.inl (-2 : Int32)), g2))))
    else
      (some (some (.inl (-1 : Int32)), g1)))) := rfl
set_option maxRecDepth 50000 in
theorem eC_along_0 (ct : am_T) (n : Nat) (x1 : Int32) (x2 : Int32) (x3 : Int32) (g : am_G) : am_run ct 105 (n + 1) 0 [some (.inr (.inr (0, 0))), some (.inl x1), some (.inl x2), some (.inl x3)] [] g =
  am_bi (ct 4 [.inr (.inr (1, 0)), .inl x1, .inl x2] g) (fun r1 g1 =>
  if r1 = 0 then
    (some (some (.inl (-1 : Int32)), g1))
  else
    (if 0 ≤ x3 then
      (am_bv (ct 74 [.inr (.inr (16, 0)), .inr (.inr (1, 0)), .inl x1, .inl x2] g1) (fun g2 =>
      if (g2 119 0 0) ≤ x3 then
        (some (some (.inl (-2 : Int32)), g2))
      else
        (bif am_in x3 24 then
          (some (some (.inl (g2 17 0 x3.toNatClampNeg)), g2))
        else none)))
    else
      (some (some (.inl (-1 : Int32)), g1)))) := rfl
set_option maxRecDepth 50000 in
theorem eC_together_0 (ct : am_T) (n : Nat) (x1 : Int32) (x2 : Int32) (g : am_G) : am_run ct 106 (n + 1) 0 [some (.inr (.inr (0, 0))), some (.inl x1), some (.inl x2)] [] g =
  am_bi (ct 4 [.inr (.inr (1, 0)), .inl x1, .inl x2] g) (fun r1 g1 =>
  if r1 = 0 then
    (some (some (.inl (-1 : Int32)), g1))
  else
    (am_bi (ct 15 [.inr (.inr (1, 0)), .inl x1, .inl x2] g1) (fun r2 g2 =>
    if r2 = 0 then
      (some (some (.inl (0 : Int32)), g2))
    else
      (some (some (.inl (1 : Int32)), g2))))) := rfl
set_option maxRecDepth 50000 in
theorem eC_far_0 (ct : am_T) (n : Nat) (x1 : Int32) (x2 : Int32) (g : am_G) : am_run ct 107 (n + 1) 0 [some (.inr (.inr (0, 0))), some (.inl x1), some (.inl x2)] [] g =
  am_bi (ct 4 [.inr (.inr (1, 0)), .inl x1, .inl x2] g) (fun r1 g1 =>
  if r1 = 0 then
    (some (some (.inl (-1 : Int32)), g1))
  else
    (am_bv (ct 74 [.inr (.inr (16, 0)), .inr (.inr (1, 0)), .inl x1, .inl x2] g1) (fun g2 =>
    if (g2 119 0 0) = 0 then
      (some (some (.inl (-2 : Int32)), g2))
    else
      (am_bi (ct 76 [.inr (.inr (16, 0)), .inr (.inr (1, 0))] g2) (fun r3 g3 =>
      some (some (.inl r3), g3)))))) := rfl
set_option maxRecDepth 50000 in
theorem eC_meets_0 (ct : am_T) (n : Nat) (x1 : Int32) (x2 : Int32) (g : am_G) : am_run ct 108 (n + 1) 0 [some (.inr (.inr (0, 0))), some (.inl x1), some (.inl x2), none] [] g =
  am_bi (ct 4 [.inr (.inr (1, 0)), .inl x1, .inl x2] g) (fun r1 g1 =>
  if r1 = 0 then
    (some (some (.inl (-1 : Int32)), g1))
  else
    (am_bi (ct 16 [.inr (.inr (1, 0)), .inl x1, .inl x2] g1) (fun r2 g2 =>
    if r2 = (-1 : Int32) then
      (some (some (.inl (-2 : Int32)), g2))
    else
      (some (some (.inl r2), g2))))) := rfl
set_option maxRecDepth 50000 in
theorem eC_room_0 (ct : am_T) (n : Nat) (x1 : Int32) (x2 : Int32) (g : am_G) : am_run ct 109 (n + 1) 0 [some (.inr (.inr (0, 0))), some (.inl x1), some (.inl x2)] [] g =
  am_bi (ct 4 [.inr (.inr (1, 0)), .inl x1, .inl x2] g) (fun r1 g1 =>
  if r1 = 0 then
    (some (some (.inl (-1 : Int32)), g1))
  else
    (am_bv (ct 74 [.inr (.inr (16, 0)), .inr (.inr (1, 0)), .inl x1, .inl x2] g1) (fun g2 =>
    am_bi (ct 81 [.inr (.inr (16, 0)), .inr (.inr (1, 0)), .inr (.inr (5, 0))] g2) (fun r3 g3 =>
    some (some (.inl r3), g3))))) := rfl
set_option maxRecDepth 50000 in
theorem eC_order_0 (ct : am_T) (n : Nat) (x1 : Int32) (x2 : Int32) (g : am_G) : am_run ct 110 (n + 1) 0 [some (.inr (.inr (0, 0))), some (.inl x1), some (.inl x2)] [] g =
  am_bi (ct 3 [.inr (.inr (1, 0)), .inl x1] g) (fun r1 g1 =>
  if r1 = 0 then
    (some (some (.inl (-1 : Int32)), g1))
  else
    (if 0 ≤ x2 then
      (am_bi (ct 11 [.inr (.inr (1, 0)), .inl x1] g1) (fun r2 g2 =>
      am_bv (ct 52 [.inr (.inr (20, 0)), .inr (.inr (1, 0)), .inl r2] g2) (fun g3 =>
      if (g3 121 0 0) ≤ x2 then
        (some (some (.inl (-2 : Int32)), g3))
      else
        (bif am_in x2 24 then
          (some (some (.inl (g3 21 0 x2.toNatClampNeg)), g3))
        else none))))
    else
      (some (some (.inl (-1 : Int32)), g1)))) := rfl
set_option maxRecDepth 50000 in
theorem eC_place_0 (ct : am_T) (n : Nat) (x1 : Int32) (g : am_G) : am_run ct 111 (n + 1) 0 [some (.inr (.inr (0, 0))), some (.inl x1)] [] g =
  am_bi (ct 3 [.inr (.inr (1, 0)), .inl x1] g) (fun r1 g1 =>
  if r1 = 0 then
    (some (some (.inl (-1 : Int32)), g1))
  else
    (am_bi (ct 11 [.inr (.inr (1, 0)), .inl x1] g1) (fun r2 g2 =>
    am_bv (ct 52 [.inr (.inr (20, 0)), .inr (.inr (1, 0)), .inl r2] g2) (fun g3 =>
    am_bi (ct 54 [.inr (.inr (20, 0)), .inl x1] g3) (fun r4 g4 =>
    some (some (.inl r4), g4)))))) := rfl
set_option maxRecDepth 50000 in
theorem eC_joint_0 (ct : am_T) (n : Nat) (x1 : Int32) (x2 : Int32) (x3 : Int32) (g : am_G) : am_run ct 112 (n + 1) 0 [some (.inr (.inr (0, 0))), some (.inl x1), some (.inl x2), some (.inl x3)] [] g =
  am_bi (ct 4 [.inr (.inr (1, 0)), .inl x1, .inl x2] g) (fun r1 g1 =>
  if r1 = 0 then
    (some (some (.inl (-1 : Int32)), g1))
  else
    (if x3 < 0 then
      (some (some (.inl (-1 : Int32)), g1))
    else
      (if x3 < (3 : Int32) then
        (am_bi (ct 15 [.inr (.inr (1, 0)), .inl x1, .inl x2] g1) (fun r2 g2 =>
        if r2 = 0 then
          (am_bv (ct 61 [.inr (.inr (20, 0)), .inr (.inr (1, 0)), .inl x1, .inl x2] g2) (fun g3 =>
          bif am_in x3 3 then
            (some (some (.inl (g3 27 0 x3.toNatClampNeg)), g3))
          else none))
        else
          (some (some (.inl (-2 : Int32)), g2))))
      else
        (some (some (.inl (-1 : Int32)), g1))))) := rfl
set_option maxRecDepth 50000 in
theorem eC_tightest_0 (ct : am_T) (n : Nat) (x1 : Int32) (g : am_G) : am_run ct 113 (n + 1) 0 [some (.inr (.inr (0, 0))), some (.inl x1)] [] g =
  am_bi (ct 3 [.inr (.inr (1, 0)), .inl x1] g) (fun r1 g1 =>
  if r1 = 0 then
    (some (some (.inl (-1 : Int32)), g1))
  else
    (am_bi (ct 30 [.inr (.inr (1, 0)), .inl x1, .inr (.inr (5, 0)), .inl (-1 : Int32)] g1) (fun r2 g2 =>
    some (some (.inl r2), g2)))) := rfl
set_option maxRecDepth 50000 in
theorem eC_heavy_0 (ct : am_T) (n : Nat) (x1 : Int32) (g : am_G) : am_run ct 114 (n + 1) 0 [some (.inr (.inr (0, 0))), some (.inl x1), none] [] g =
  am_bi (ct 3 [.inr (.inr (1, 0)), .inl x1] g) (fun r1 g1 =>
  if r1 = 0 then
    (some (some (.inl (-1 : Int32)), g1))
  else
    (am_bi (ct 26 [.inr (.inr (1, 0)), .inl x1] g1) (fun r2 g2 =>
    if r2 = (-1 : Int32) then
      (some (some (.inl (-2 : Int32)), g2))
    else
      (some (some (.inl r2), g2))))) := rfl
set_option maxRecDepth 50000 in
theorem eC_potential_0 (ct : am_T) (n : Nat)  (g : am_G) : am_run ct 115 (n + 1) 0 [some (.inr (.inr (0, 0)))] [] g =
  am_bi (ct 28 [.inr (.inr (1, 0))] g) (fun r1 g1 =>
  some (some (.inl r1), g1)) := rfl
set_option maxRecDepth 50000 in
theorem eC_would_0 (ct : am_T) (n : Nat) (x1 : Int32) (g : am_G) : am_run ct 116 (n + 1) 0 [some (.inr (.inr (0, 0))), some (.inl x1)] [] g =
  am_bi (ct 3 [.inr (.inr (1, 0)), .inl x1] g) (fun r1 g1 =>
  if r1 = 0 then
    (some (some (.inl (-1 : Int32)), g1))
  else
    (am_bi (ct 29 [.inr (.inr (1, 0)), .inl x1] g1) (fun r2 g2 =>
    some (some (.inl r2), g2)))) := rfl
set_option maxRecDepth 50000 in
theorem eC_widest_0 (ct : am_T) (n : Nat) (x1 : Int32) (x2 : Int32) (g : am_G) : am_run ct 117 (n + 1) 0 [some (.inr (.inr (0, 0))), some (.inl x1), some (.inl x2)] [] g =
  am_bi (ct 3 [.inr (.inr (1, 0)), .inl x1] g) (fun r1 g1 =>
  if r1 = 0 then
    (some (some (.inl (-1 : Int32)), g1))
  else
    (if x2 < 0 then
      (some (some (.inl (-1 : Int32)), g1))
    else
      (if x2 < (3 : Int32) then
        (am_bv (ct 60 [.inr (.inr (20, 0)), .inr (.inr (1, 0)), .inl x1] g1) (fun g2 =>
        bif am_in x2 3 then
          (some (some (.inl (g2 27 0 x2.toNatClampNeg)), g2))
        else none))
      else
        (some (some (.inl (-1 : Int32)), g1))))) := rfl
set_option maxRecDepth 50000 in
theorem eC_midst_0 (ct : am_T) (n : Nat) (x1 : Int32) (g : am_G) : am_run ct 118 (n + 1) 0 [some (.inr (.inr (0, 0))), some (.inl x1)] [] g =
  am_bi (ct 3 [.inr (.inr (1, 0)), .inl x1] g) (fun r1 g1 =>
  if r1 = 0 then
    (some (some (.inl (-1 : Int32)), g1))
  else
    (am_bi (ct 31 [.inr (.inr (1, 0)), .inl x1] g1) (fun r2 g2 =>
    some (some (.inl r2), g2)))) := rfl
set_option maxRecDepth 50000 in
theorem eC_parts_0 (ct : am_T) (n : Nat) (x1 : Int32) (g : am_G) : am_run ct 119 (n + 1) 0 [some (.inr (.inr (0, 0))), some (.inl x1)] [] g =
  am_bi (ct 127 [.inl x1, .inl (0 : Int32), .inl (9999 : Int32)] g) (fun r1 g1 =>
  if r1 = 0 then
    (some (some (.inl (-1 : Int32)), g1))
  else
    (am_bi (ct 33 [.inr (.inr (1, 0)), .inl x1] g1) (fun r2 g2 =>
    some (some (.inl r2), g2)))) := rfl
set_option maxRecDepth 50000 in
theorem eC_dearest_0 (ct : am_T) (n : Nat) (x1 : Int32) (g : am_G) : am_run ct 120 (n + 1) 0 [some (.inr (.inr (0, 0))), some (.inl x1)] [] g =
  am_bi (ct 3 [.inr (.inr (1, 0)), .inl x1] g) (fun r1 g1 =>
  if r1 = 0 then
    (some (some (.inl (-1 : Int32)), g1))
  else
    (am_bi (ct 30 [.inr (.inr (1, 0)), .inl x1, .inr (.inr (4, 0)), .inl (1 : Int32)] g1) (fun r2 g2 =>
    some (some (.inl r2), g2)))) := rfl
set_option maxRecDepth 50000 in
theorem eC_leastFor_0 (ct : am_T) (n : Nat) (x1 : Int32) (g : am_G) : am_run ct 121 (n + 1) 0 [some (.inr (.inr (0, 0))), some (.inl x1), none] [] g =
  am_bi (ct 127 [.inl x1, .inl (1 : Int32), .inl (24 : Int32)] g) (fun r1 g1 =>
  if r1 = 0 then
    (some (some (.inl (-1 : Int32)), g1))
  else
    (am_bi (ct 34 [.inr (.inr (1, 0)), .inl x1] g1) (fun r2 g2 =>
    if r2 = (-1 : Int32) then
      (some (some (.inl (-2 : Int32)), g2))
    else
      (some (some (.inl r2), g2))))) := rfl
set_option maxRecDepth 50000 in
theorem eC_chance_0 (ct : am_T) (n : Nat) (x1 : Int32) (x2 : Int32) (x3 : Int32) (g : am_G) : am_run ct 122 (n + 1) 0 [some (.inr (.inr (0, 0))), some (.inl x1), some (.inl x2), some (.inl x3), none] [] g =
  if x1 < (-1 : Int32) then
    (some (some (.inl (-1 : Int32)), g))
  else
    (am_bi (ct 127 [.inl x2, .inl (1 : Int32), .inl (60 : Int32)] g) (fun r1 g1 =>
    if r1 = 0 then
      (some (some (.inl (-1 : Int32)), g1))
    else
      (if x3 < 0 then
        (some (some (.inl (-1 : Int32)), g1))
      else
        (if (4 : Int32) ≤ x3 then
          (some (some (.inl (-1 : Int32)), g1))
        else
          (if (g1 102 0 0) = 0 then
            (some (some (.inl (-1 : Int32)), g1))
          else
            (if x1 = (-1 : Int32) then
              (am_bv (ct 35 [.inr (.inr (28, 0)), .inr (.inr (1, 0)), .inl (g1 105 0 0)] g1) (fun g3 =>
              am_run ct 122 n 36 [some (.inr (.inr (0, 0))), some (.inl x1), some (.inl x2), some (.inl x3), some (.inl (0 : Int32))] [] g3))
            else
              (am_bv (ct 35 [.inr (.inr (28, 0)), .inr (.inr (1, 0)), .inl x1] g1) (fun g2 =>
              am_run ct 122 n 36 [some (.inr (.inr (0, 0))), some (.inl x1), some (.inl x2), some (.inl x3), some (.inl (0 : Int32))] [] g2)))))))) := rfl
set_option maxRecDepth 50000 in
theorem eC_chance_36 (ct : am_T) (n : Nat) (x1 : Int32) (x2 : Int32) (x3 : Int32) (x4 : Int32) (g : am_G) : am_run ct 122 (n + 1) 36 [some (.inr (.inr (0, 0))), some (.inl x1), some (.inl x2), some (.inl x3), some (.inl x4)] [] g =
  if x2 ≤ x4 then
    (if x3 = 0 then
      (am_bi (ct 20 [.inr (.inr (1, 3))] g) (fun r1 g1 =>
      some (some (.inl r1), g1)))
    else if x3 = 1 then
      (some (some (.inl (g 103 3 0)), g))
    else if x3 = 2 then
      (am_bi (ct 28 [.inr (.inr (1, 3))] g) (fun r2 g2 =>
      some (some (.inl r2), g2)))
    else (am_bi (ct 11 [.inr (.inr (1, 3)), .inl (0 : Int32)] g) (fun r3 g3 =>
      some (some (.inl r3), g3))))
  else
    (am_bv (ct 37 [.inr (.inr (28, 0))] g) (fun g4 =>
    am_run ct 122 n 36 [some (.inr (.inr (0, 0))), some (.inl x1), some (.inl x2), some (.inl x3), some (.inl (x4 + 1))] [] g4)) := rfl
set_option maxRecDepth 50000 in
theorem eC_undo_0 (ct : am_T) (n : Nat)  (g : am_G) : am_run ct 123 (n + 1) 0 [some (.inr (.inr (0, 0)))] [] g =
  am_bi (ct 40 [.inr (.inr (14, 0)), .inr (.inr (1, 0))] g) (fun r1 g1 =>
  if r1 = 0 then
    (some (some (.inl (-1 : Int32)), g1))
  else
    (some (some (.inl (g1 118 0 0)), g1))) := rfl
set_option maxRecDepth 50000 in
theorem eC_keep_0 (ct : am_T) (n : Nat)  (g : am_G) : am_run ct 124 (n + 1) 0 [some (.inr (.inr (0, 0)))] [] g =
  am_bv (ct 1 [.inr (.inr (1, 2)), .inr (.inr (1, 0))] g) (fun g1 =>
  am_bi (ct 20 [.inr (.inr (1, 0))] (am_put g1 101 0 (1 : Int32))) (fun r2 g2 =>
  some (some (.inl r2), g2))) := rfl
set_option maxRecDepth 50000 in
theorem eC_back_0 (ct : am_T) (n : Nat)  (g : am_G) : am_run ct 125 (n + 1) 0 [some (.inr (.inr (0, 0)))] [] g =
  if (g 101 0 0) = 0 then
    (some (some (.inl (-1 : Int32)), g))
  else
    (am_bv (ct 1 [.inr (.inr (1, 0)), .inr (.inr (1, 2))] g) (fun g1 =>
    am_bv (ct 38 [.inr (.inr (14, 0))] g1) (fun g2 =>
    am_bi (ct 20 [.inr (.inr (1, 0))] g2) (fun r3 g3 =>
    some (some (.inl r3), g3))))) := rfl
set_option maxRecDepth 50000 in
theorem eC_count_0 (ct : am_T) (n : Nat) (x1 : Int32) (g : am_G) : am_run ct 126 (n + 1) 0 [some (.inr (.inr (0, 0))), some (.inl x1)] [] g =
  if x1 = 0 then
    (some (some (.inl (g 102 0 0)), g))
  else if x1 = 1 then
    (am_bi (ct 20 [.inr (.inr (1, 0))] g) (fun r1 g1 =>
    some (some (.inl ((g 102 0 0) - r1)), g1)))
  else if x1 = 2 then
    (am_bi (ct 20 [.inr (.inr (1, 0))] g) (fun r2 g2 =>
    some (some (.inl r2), g2)))
  else if x1 = 3 then
    (am_bi (ct 21 [.inr (.inr (1, 0))] g) (fun r3 g3 =>
    some (some (.inl r3), g3)))
  else if x1 = 4 then
    (some (some (.inl (g 103 0 0)), g))
  else if x1 = 5 then
    (some (some (.inl (g 118 0 0)), g))
  else if x1 = 6 then
    (some (some (.inl (g 100 0 0)), g))
  else (some (some (.inl (-1 : Int32)), g)) := rfl
set_option maxRecDepth 50000 in
theorem eC_isWithin_0 (ct : am_T) (n : Nat) (x0 : Int32) (x1 : Int32) (x2 : Int32) (g : am_G) : am_run ct 127 (n + 1) 0 [some (.inl x0), some (.inl x1), some (.inl x2)] [] g =
  if x0 < x1 then
    (some (some (.inl (0 : Int32)), g))
  else
    (if x2 < x0 then
      (some (some (.inl (0 : Int32)), g))
    else
      (some (some (.inl (1 : Int32)), g))) := rfl
set_option maxRecDepth 50000 in
theorem eC_canBeLink_0 (ct : am_T) (n : Nat) (x1 : Int32) (x2 : Int32) (x3 : Int32) (x4 : Int32) (g : am_G) : am_run ct 128 (n + 1) 0 [some (.inr (.inr (0, 0))), some (.inl x1), some (.inl x2), some (.inl x3), some (.inl x4)] [] g =
  am_bi (ct 4 [.inr (.inr (1, 0)), .inl x1, .inl x2] g) (fun r1 g1 =>
  if r1 = 0 then
    (some (some (.inl (0 : Int32)), g1))
  else
    (am_bi (ct 127 [.inl x3, .inl (1 : Int32), .inl (9999 : Int32)] g1) (fun r2 g2 =>
    if r2 = 0 then
      (some (some (.inl (0 : Int32)), g2))
    else
      (am_bi (ct 127 [.inl x4, .inl (1 : Int32), .inl (9999 : Int32)] g2) (fun r3 g3 =>
      if r3 = 0 then
        (some (some (.inl (0 : Int32)), g3))
      else
        (some (some (.inl (1 : Int32)), g3))))))) := rfl
set_option maxRecDepth 50000 in
theorem eC_feedNumber_0 (ct : am_T) (n : Nat) (x1 : Int32) (g : am_G) : am_run ct 129 (n + 1) 0 [some (.inr (.inr (0, 0))), some (.inl x1), none] [] g =
  am_run ct 129 n 2 [some (.inr (.inr (0, 0))), some (.inl x1), some (.inl (24 : Int32))] [] g := rfl
set_option maxRecDepth 50000 in
theorem eC_feedNumber_2 (ct : am_T) (n : Nat) (x1 : Int32) (x2 : Int32) (g : am_G) : am_run ct 129 (n + 1) 2 [some (.inr (.inr (0, 0))), some (.inl x1), some (.inl x2)] [] g =
  if x2 < 0 then
    (some (none, g))
  else
    (if (700 : Int32) ≤ (g 100 0 0) then
      (am_run ct 129 n 2 [some (.inr (.inr (0, 0))), some (.inl x1), some (.inl (x2 + (-8)))] [] g)
    else
      (bif am_in (g 100 0 0) 700 then
        (am_run ct 129 n 2 [some (.inr (.inr (0, 0))), some (.inl x1), some (.inl (x2 + (-8)))] [] (am_put (am_sto g 13 0 (g 100 0 0).toNatClampNeg ((x1 >>> (x2 &&& 31)) &&& (255 : Int32))) 100 0 (((am_sto g 13 0 (g 100 0 0).toNatClampNeg ((x1 >>> (x2 &&& 31)) &&& (255 : Int32))) 100 0 0) + (1 : Int32))))
      else none)) := rfl
set_option maxRecDepth 50000 in
theorem eC_takeTold_0 (ct : am_T) (n : Nat)  (g : am_G) : am_run ct 130 (n + 1) 0 [some (.inr (.inr (0, 0)))] [] g =
  am_bv (ct 1 [.inr (.inr (1, 0)), .inr (.inr (1, 1))] g) (fun g1 =>
  am_bv (ct 42 [.inr (.inr (8, 0)), .inr (.inr (8, 1))] g1) (fun g2 =>
  am_bv (ct 38 [.inr (.inr (14, 0))] (am_put (am_put g2 103 0 (0 : Int32)) 101 0 (0 : Int32))) (fun g3 =>
  some (none, am_put g3 120 0 (0 : Int32))))) := rfl
set_option maxRecDepth 50000 in
theorem eC_factOfTown_0 (ct : am_T) (n : Nat) (x1 : Int32) (x2 : Int32) (g : am_G) : am_run ct 131 (n + 1) 0 [some (.inr (.inr (0, 0))), some (.inl x1), some (.inl x2), none] [] g =
  bif am_in x1 24 then
    (if (g 2 0 x1.toNatClampNeg) = (-1 : Int32) then
    (if x2 = 0 then
      (bif am_in x1 24 then
        (some (some (.inl (g 6 0 x1.toNatClampNeg)), g))
      else none)
    else if x2 = 1 then
      (if (1 : Int32) = 0 then
        (bif am_in x1 24 then
          (some (some (.inl (g 2 0 x1.toNatClampNeg)), g))
        else none)
      else
        (some (some (.inl (-2 : Int32)), g)))
    else if x2 = 2 then
      (bif am_in x1 24 then
        (if (g 3 0 x1.toNatClampNeg) = (-1 : Int32) then
        (some (some (.inl (-2 : Int32)), g))
      else
        (bif am_in x1 24 then
          (some (some (.inl (g 3 0 x1.toNatClampNeg)), g))
        else none))
      else none)
    else if x2 = 3 then
      (am_bi (ct 11 [.inr (.inr (1, 0)), .inl x1] g) (fun r6 g6 =>
      some (some (.inl r6), g6)))
    else if x2 = 4 then
      (am_bi (ct 12 [.inr (.inr (1, 0)), .inl x1] g) (fun r7 g7 =>
      some (some (.inl r7), g7)))
    else if x2 = 5 then
      (am_bi (ct 23 [.inr (.inr (1, 0)), .inl x1] g) (fun r8 g8 =>
      some (some (.inl r8), g8)))
    else if x2 = 6 then
      (am_bi (ct 24 [.inr (.inr (1, 0)), .inl x1] g) (fun r9 g9 =>
      some (some (.inl r9), g9)))
    else if x2 = 7 then
      (if (1 : Int32) = 0 then
        (bif am_in x1 24 then
          (some (some (.inl (g 4 0 x1.toNatClampNeg)), g))
        else none)
      else
        (some (some (.inl (-2 : Int32)), g)))
    else if x2 = 8 then
      (if (1 : Int32) = 0 then
        (bif am_in x1 24 then
          (some (some (.inl (g 5 0 x1.toNatClampNeg)), g))
        else none)
      else
        (some (some (.inl (-2 : Int32)), g)))
    else (am_bi (ct 25 [.inr (.inr (1, 0)), .inl x1] g) (fun r10 g10 =>
      some (some (.inl r10), g10))))
  else
    (if x2 = 0 then
      (bif am_in x1 24 then
        (some (some (.inl (g 6 0 x1.toNatClampNeg)), g))
      else none)
    else if x2 = 1 then
      (if (0 : Int32) = 0 then
        (bif am_in x1 24 then
          (some (some (.inl (g 2 0 x1.toNatClampNeg)), g))
        else none)
      else
        (some (some (.inl (-2 : Int32)), g)))
    else if x2 = 2 then
      (bif am_in x1 24 then
        (if (g 3 0 x1.toNatClampNeg) = (-1 : Int32) then
        (some (some (.inl (-2 : Int32)), g))
      else
        (bif am_in x1 24 then
          (some (some (.inl (g 3 0 x1.toNatClampNeg)), g))
        else none))
      else none)
    else if x2 = 3 then
      (am_bi (ct 11 [.inr (.inr (1, 0)), .inl x1] g) (fun r1 g1 =>
      some (some (.inl r1), g1)))
    else if x2 = 4 then
      (am_bi (ct 12 [.inr (.inr (1, 0)), .inl x1] g) (fun r2 g2 =>
      some (some (.inl r2), g2)))
    else if x2 = 5 then
      (am_bi (ct 23 [.inr (.inr (1, 0)), .inl x1] g) (fun r3 g3 =>
      some (some (.inl r3), g3)))
    else if x2 = 6 then
      (am_bi (ct 24 [.inr (.inr (1, 0)), .inl x1] g) (fun r4 g4 =>
      some (some (.inl r4), g4)))
    else if x2 = 7 then
      (if (0 : Int32) = 0 then
        (bif am_in x1 24 then
          (some (some (.inl (g 4 0 x1.toNatClampNeg)), g))
        else none)
      else
        (some (some (.inl (-2 : Int32)), g)))
    else if x2 = 8 then
      (if (0 : Int32) = 0 then
        (bif am_in x1 24 then
          (some (some (.inl (g 5 0 x1.toNatClampNeg)), g))
        else none)
      else
        (some (some (.inl (-2 : Int32)), g)))
    else (am_bi (ct 25 [.inr (.inr (1, 0)), .inl x1] g) (fun r5 g5 =>
      some (some (.inl r5), g5)))))
  else none := rfl
end
section
/-! ===== what a run from a cut is: by wip/whole/write.py ===== -/
set_option maxRecDepth 50000 in
theorem eM_thrown_0 (ct : am_T) (n : Nat)  (g : am_G) : am_run ct 132 (n + 1) 0 [some (.inr (.inr (29, 0)))] [] g =
  some (some (.inl (g 131 0 0)), g) := rfl
set_option maxRecDepth 50000 in
theorem eM_feed_0 (ct : am_T) (n : Nat) (x1 : Int32) (x2 : Int32) (x3 : Int32) (x4 : Int32) (x5 : Int32) (g : am_G) : am_run ct 133 (n + 1) 0 [some (.inr (.inr (29, 0))), some (.inl x1), some (.inl x2), some (.inl x3), some (.inl x4), some (.inl x5), none, none] [] g =
  if (((am_put g 131 0 (0 : Int32)) 130 0 0) + (20 : Int32)) ≤ (700 : Int32) then
    (am_run ct 133 n 13 [some (.inr (.inr (29, 0))), some (.inl x1), some (.inl x2), some (.inl x3), some (.inl x4), some (.inl x5), some (.inl (0 : Int32)), none] [] (am_put g 131 0 (0 : Int32)))
  else
    (some (some (.inl (-1 : Int32)), am_put g 131 0 (0 : Int32))) := rfl
set_option maxRecDepth 50000 in
theorem eM_feed_13 (ct : am_T) (n : Nat) (x1 : Int32) (x2 : Int32) (x3 : Int32) (x4 : Int32) (x5 : Int32) (x6 : Int32) (o7 : Option am_V) (g : am_G) : am_run ct 133 (n + 1) 13 [some (.inr (.inr (29, 0))), some (.inl x1), some (.inl x2), some (.inl x3), some (.inl x4), some (.inl x5), some (.inl x6), o7] [] g =
  if (20 : Int32) ≤ x6 then
    (some (some (.inl ((am_put g 130 0 ((g 130 0 0) + (20 : Int32))) 130 0 0)), am_put g 130 0 ((g 130 0 0) + (20 : Int32))))
  else
    (if (4 : Int32) ≤ x6 then
      (if (8 : Int32) ≤ x6 then
        (if (12 : Int32) ≤ x6 then
          (if (16 : Int32) ≤ x6 then
            (if (4 : Int32) = 0 then none else
            bif am_in ((g 130 0 0) + x6) 700 then
              (am_run ct 133 n 13 [some (.inr (.inr (29, 0))), some (.inl x1), some (.inl x2), some (.inl x3), some (.inl x4), some (.inl x5), some (.inl (x6 + 1)), some (.inl x5)] [] (am_sto g 30 0 ((g 130 0 0) + x6).toNatClampNeg ((x5 >>> (((24 : Int32) - ((8 : Int32) * (x6 - x6 / (4 : Int32) * (4 : Int32)))) &&& 31)) &&& (255 : Int32))))
            else none)
          else
            (if (4 : Int32) = 0 then none else
            bif am_in ((g 130 0 0) + x6) 700 then
              (am_run ct 133 n 13 [some (.inr (.inr (29, 0))), some (.inl x1), some (.inl x2), some (.inl x3), some (.inl x4), some (.inl x5), some (.inl (x6 + 1)), some (.inl x4)] [] (am_sto g 30 0 ((g 130 0 0) + x6).toNatClampNeg ((x4 >>> (((24 : Int32) - ((8 : Int32) * (x6 - x6 / (4 : Int32) * (4 : Int32)))) &&& 31)) &&& (255 : Int32))))
            else none))
        else
          (if (4 : Int32) = 0 then none else
          bif am_in ((g 130 0 0) + x6) 700 then
            (am_run ct 133 n 13 [some (.inr (.inr (29, 0))), some (.inl x1), some (.inl x2), some (.inl x3), some (.inl x4), some (.inl x5), some (.inl (x6 + 1)), some (.inl x3)] [] (am_sto g 30 0 ((g 130 0 0) + x6).toNatClampNeg ((x3 >>> (((24 : Int32) - ((8 : Int32) * (x6 - x6 / (4 : Int32) * (4 : Int32)))) &&& 31)) &&& (255 : Int32))))
          else none))
      else
        (if (4 : Int32) = 0 then none else
        bif am_in ((g 130 0 0) + x6) 700 then
          (am_run ct 133 n 13 [some (.inr (.inr (29, 0))), some (.inl x1), some (.inl x2), some (.inl x3), some (.inl x4), some (.inl x5), some (.inl (x6 + 1)), some (.inl x2)] [] (am_sto g 30 0 ((g 130 0 0) + x6).toNatClampNeg ((x2 >>> (((24 : Int32) - ((8 : Int32) * (x6 - x6 / (4 : Int32) * (4 : Int32)))) &&& 31)) &&& (255 : Int32))))
        else none))
    else
      (if (4 : Int32) = 0 then none else
      bif am_in ((g 130 0 0) + x6) 700 then
        (am_run ct 133 n 13 [some (.inr (.inr (29, 0))), some (.inl x1), some (.inl x2), some (.inl x3), some (.inl x4), some (.inl x5), some (.inl (x6 + 1)), some (.inl x1)] [] (am_sto g 30 0 ((g 130 0 0) + x6).toNatClampNeg ((x1 >>> (((24 : Int32) - ((8 : Int32) * (x6 - x6 / (4 : Int32) * (4 : Int32)))) &&& 31)) &&& (255 : Int32))))
      else none)) := rfl
set_option maxRecDepth 50000 in
theorem eM_isIn_0 (ct : am_T) (n : Nat) (x0 : Int32) (x1 : Int32) (x2 : Int32) (g : am_G) : am_run ct 134 (n + 1) 0 [some (.inl x0), some (.inl x1), some (.inl x2)] [] g =
  if x0 < x1 then
    (some (some (.inl (0 : Int32)), g))
  else
    (if x2 < x0 then
      (some (some (.inl (0 : Int32)), g))
    else
      (some (some (.inl (1 : Int32)), g))) := rfl
set_option maxRecDepth 50000 in
theorem eM_wrong_0 (ct : am_T) (n : Nat) (x1 : Int32) (g : am_G) : am_run ct 135 (n + 1) 0 [some (.inr (.inr (29, 0))), some (.inl x1)] [] g =
  some (some (.inl (0 : Int32)), am_put (am_put g 132 0 x1) 133 0 ((am_put g 132 0 x1) 138 0 0)) := rfl
set_option maxRecDepth 50000 in
theorem eM_wordAt_0 (ct : am_T) (n : Nat) (x1 : Int32) (x2 : Int32) (g : am_G) : am_run ct 136 (n + 1) 0 [some (.inr (.inr (29, 0))), some (.inl x1), some (.inl x2), none, none, none, none, none] [] g =
  am_run ct 136 n 4 [some (.inr (.inr (29, 0))), some (.inl x1), some (.inl x2), some (.inl (0 : Int32)), some (.inl (0 : Int32)), none, none, none] [] g := rfl
set_option maxRecDepth 50000 in
theorem eM_wordAt_4 (ct : am_T) (n : Nat) (x1 : Int32) (x2 : Int32) (x3 : Int32) (x4 : Int32) (o5 : Option am_V) (o6 : Option am_V) (o7 : Option am_V) (g : am_G) : am_run ct 136 (n + 1) 4 [some (.inr (.inr (29, 0))), some (.inl x1), some (.inl x2), some (.inl x3), some (.inl x4), o5, o6, o7] [] g =
  if (nI 33) ≤ x4 then
    (some (some (.inl (-1 : Int32)), g))
  else
    (am_run ct 136 n 11 [some (.inr (.inr (29, 0))), some (.inl x1), some (.inl x2), some (.inl x3), some (.inl x4), some (.inl (0 : Int32)), o6, o7] [] g) := rfl
set_option maxRecDepth 50000 in
theorem eM_wordAt_11 (ct : am_T) (n : Nat) (x1 : Int32) (x2 : Int32) (x3 : Int32) (x4 : Int32) (x5 : Int32) (o6 : Option am_V) (o7 : Option am_V) (g : am_G) : am_run ct 136 (n + 1) 11 [some (.inr (.inr (29, 0))), some (.inl x1), some (.inl x2), some (.inl x3), some (.inl x4), some (.inl x5), o6, o7] [] g =
  bif am_in (x4 + x5) 33 then
    (if (g 31 0 (x4 + x5).toNatClampNeg) = (32 : Int32) then
    (if x5 = (x2 - x1) then
      (am_run ct 136 n 32 [some (.inr (.inr (29, 0))), some (.inl x1), some (.inl x2), some (.inl x3), some (.inl x4), some (.inl x5), some (.inl (1 : Int32)), some (.inl (0 : Int32))] [] g)
    else
      (am_run ct 136 n 32 [some (.inr (.inr (29, 0))), some (.inl x1), some (.inl x2), some (.inl x3), some (.inl x4), some (.inl x5), some (.inl (0 : Int32)), some (.inl (0 : Int32))] [] g))
  else
    (am_run ct 136 n 11 [some (.inr (.inr (29, 0))), some (.inl x1), some (.inl x2), some (.inl x3), some (.inl x4), some (.inl (x5 + 1)), o6, o7] [] g))
  else none := rfl
set_option maxRecDepth 50000 in
theorem eM_wordAt_32 (ct : am_T) (n : Nat) (x1 : Int32) (x2 : Int32) (x3 : Int32) (x4 : Int32) (x5 : Int32) (x6 : Int32) (x7 : Int32) (g : am_G) : am_run ct 136 (n + 1) 32 [some (.inr (.inr (29, 0))), some (.inl x1), some (.inl x2), some (.inl x3), some (.inl x4), some (.inl x5), some (.inl x6), some (.inl x7)] [] g =
  if x5 ≤ x7 then
    (if x6 = 0 then
      (am_run ct 136 n 4 [some (.inr (.inr (29, 0))), some (.inl x1), some (.inl x2), some (.inl (x3 + 1)), some (.inl (x4 + (x5 + (1 : Int32)))), some (.inl x5), some (.inl x6), some (.inl x7)] [] g)
    else
      (some (some (.inl x3), g)))
  else
    (if x6 = 0 then
      (if x6 = 0 then
        (am_run ct 136 n 4 [some (.inr (.inr (29, 0))), some (.inl x1), some (.inl x2), some (.inl (x3 + 1)), some (.inl (x4 + (x5 + (1 : Int32)))), some (.inl x5), some (.inl x6), some (.inl x7)] [] g)
      else
        (some (some (.inl x3), g)))
    else
      (bif am_in (x4 + x7) 33 then
        (bif am_in (x1 + x7) 700 then
        (if (g 31 0 (x4 + x7).toNatClampNeg) = (g 30 0 (x1 + x7).toNatClampNeg) then
        (am_run ct 136 n 32 [some (.inr (.inr (29, 0))), some (.inl x1), some (.inl x2), some (.inl x3), some (.inl x4), some (.inl x5), some (.inl (1 : Int32)), some (.inl (x7 + 1))] [] g)
      else
        (am_run ct 136 n 32 [some (.inr (.inr (29, 0))), some (.inl x1), some (.inl x2), some (.inl x3), some (.inl x4), some (.inl x5), some (.inl (0 : Int32)), some (.inl (x7 + 1))] [] g))
      else none)
      else none)) := rfl
set_option maxRecDepth 50000 in
theorem eM_isSmall_0 (ct : am_T) (n : Nat) (x1 : Int32) (g : am_G) : am_run ct 137 (n + 1) 0 [some (.inr (.inr (29, 0))), some (.inl x1)] [] g =
  if (g 134 0 0) ≤ x1 then
    (some (some (.inl (0 : Int32)), g))
  else
    (bif am_in x1 700 then
      (if (g 30 0 x1.toNatClampNeg) < (97 : Int32) then
      (some (some (.inl (0 : Int32)), g))
    else
      (bif am_in x1 700 then
        (if (122 : Int32) < (g 30 0 x1.toNatClampNeg) then
        (some (some (.inl (0 : Int32)), g))
      else
        (some (some (.inl (1 : Int32)), g)))
      else none))
    else none) := rfl
set_option maxRecDepth 50000 in
theorem eM_isDigit_0 (ct : am_T) (n : Nat) (x1 : Int32) (g : am_G) : am_run ct 138 (n + 1) 0 [some (.inr (.inr (29, 0))), some (.inl x1)] [] g =
  if (g 134 0 0) ≤ x1 then
    (some (some (.inl (0 : Int32)), g))
  else
    (bif am_in x1 700 then
      (if (g 30 0 x1.toNatClampNeg) < (48 : Int32) then
      (some (some (.inl (0 : Int32)), g))
    else
      (bif am_in x1 700 then
        (if (57 : Int32) < (g 30 0 x1.toNatClampNeg) then
        (some (some (.inl (0 : Int32)), g))
      else
        (some (some (.inl (1 : Int32)), g)))
      else none))
    else none) := rfl
set_option maxRecDepth 50000 in
theorem eM_token_0 (ct : am_T) (n : Nat)  (g : am_G) : am_run ct 139 (n + 1) 0 [some (.inr (.inr (29, 0)))] [] g =
  if (g 134 0 0) ≤ (g 135 0 0) then
    (if ((am_put g 138 0 (g 135 0 0)) 135 0 0) = ((am_put g 138 0 (g 135 0 0)) 134 0 0) then
      (some (none, am_put (am_put g 138 0 (g 135 0 0)) 136 0 (0 : Int32)))
    else
      (am_bi (ct 137 [.inr (.inr (29, 0)), .inl ((am_put g 138 0 (g 135 0 0)) 135 0 0)] (am_put g 138 0 (g 135 0 0))) (fun r1 g1 =>
      if r1 = 0 then
        (am_bi (ct 138 [.inr (.inr (29, 0)), .inl (g1 135 0 0)] g1) (fun r2 g2 =>
        if r2 = 0 then
          (if (g2 134 0 0) ≤ (g2 135 0 0) then
            (bif am_in (g2 135 0 0) 700 then
              (if (g2 30 0 (g2 135 0 0).toNatClampNeg) = (59 : Int32) then
              (some (none, am_put (am_put g2 136 0 (4 : Int32)) 135 0 (((am_put g2 136 0 (4 : Int32)) 135 0 0) + (1 : Int32))))
            else
              (some (none, am_put (am_put g2 136 0 (5 : Int32)) 135 0 (((am_put g2 136 0 (5 : Int32)) 135 0 0) + (1 : Int32)))))
            else none)
          else
            (bif am_in (g2 135 0 0) 700 then
              (if (g2 30 0 (g2 135 0 0).toNatClampNeg) = (45 : Int32) then
              (am_bi (ct 138 [.inr (.inr (29, 0)), .inl ((g2 135 0 0) + (1 : Int32))] g2) (fun r3 g3 =>
              if r3 = 0 then
                (bif am_in (g3 135 0 0) 700 then
                  (if (g3 30 0 (g3 135 0 0).toNatClampNeg) = (59 : Int32) then
                  (some (none, am_put (am_put g3 136 0 (4 : Int32)) 135 0 (((am_put g3 136 0 (4 : Int32)) 135 0 0) + (1 : Int32))))
                else
                  (some (none, am_put (am_put g3 136 0 (5 : Int32)) 135 0 (((am_put g3 136 0 (5 : Int32)) 135 0 0) + (1 : Int32)))))
                else none)
              else
                (bif am_in (g3 135 0 0) 700 then
                  (if (g3 30 0 (g3 135 0 0).toNatClampNeg) = (45 : Int32) then
                  (if ((am_put g3 136 0 (6 : Int32)) 136 0 0) = (6 : Int32) then
                    (am_run ct 139 n 143 [some (.inr (.inr (29, 0)))] [] (am_put (am_put (am_put g3 136 0 (6 : Int32)) 135 0 (((am_put g3 136 0 (6 : Int32)) 135 0 0) + (1 : Int32))) 137 0 (0 : Int32)))
                  else
                    (am_run ct 139 n 143 [some (.inr (.inr (29, 0)))] [] (am_put (am_put g3 136 0 (6 : Int32)) 137 0 (0 : Int32))))
                else
                  (if ((am_put g3 136 0 (3 : Int32)) 136 0 0) = (6 : Int32) then
                    (am_run ct 139 n 143 [some (.inr (.inr (29, 0)))] [] (am_put (am_put (am_put g3 136 0 (3 : Int32)) 135 0 (((am_put g3 136 0 (3 : Int32)) 135 0 0) + (1 : Int32))) 137 0 (0 : Int32)))
                  else
                    (am_run ct 139 n 143 [some (.inr (.inr (29, 0)))] [] (am_put (am_put g3 136 0 (3 : Int32)) 137 0 (0 : Int32)))))
                else none)))
            else
              (bif am_in (g2 135 0 0) 700 then
                (if (g2 30 0 (g2 135 0 0).toNatClampNeg) = (59 : Int32) then
                (some (none, am_put (am_put g2 136 0 (4 : Int32)) 135 0 (((am_put g2 136 0 (4 : Int32)) 135 0 0) + (1 : Int32))))
              else
                (some (none, am_put (am_put g2 136 0 (5 : Int32)) 135 0 (((am_put g2 136 0 (5 : Int32)) 135 0 0) + (1 : Int32)))))
              else none))
            else none))
        else
          (bif am_in (g2 135 0 0) 700 then
            (if (g2 30 0 (g2 135 0 0).toNatClampNeg) = (45 : Int32) then
            (if ((am_put g2 136 0 (6 : Int32)) 136 0 0) = (6 : Int32) then
              (am_run ct 139 n 143 [some (.inr (.inr (29, 0)))] [] (am_put (am_put (am_put g2 136 0 (6 : Int32)) 135 0 (((am_put g2 136 0 (6 : Int32)) 135 0 0) + (1 : Int32))) 137 0 (0 : Int32)))
            else
              (am_run ct 139 n 143 [some (.inr (.inr (29, 0)))] [] (am_put (am_put g2 136 0 (6 : Int32)) 137 0 (0 : Int32))))
          else
            (if ((am_put g2 136 0 (3 : Int32)) 136 0 0) = (6 : Int32) then
              (am_run ct 139 n 143 [some (.inr (.inr (29, 0)))] [] (am_put (am_put (am_put g2 136 0 (3 : Int32)) 135 0 (((am_put g2 136 0 (3 : Int32)) 135 0 0) + (1 : Int32))) 137 0 (0 : Int32)))
            else
              (am_run ct 139 n 143 [some (.inr (.inr (29, 0)))] [] (am_put (am_put g2 136 0 (3 : Int32)) 137 0 (0 : Int32)))))
          else none)))
      else
        (am_run ct 139 n 44 [some (.inr (.inr (29, 0)))] [] g1))))
  else
    (bif am_in (g 135 0 0) 700 then
      (if (g 30 0 (g 135 0 0).toNatClampNeg) = (10 : Int32) then
      (am_run ct 139 n 0 [some (.inr (.inr (29, 0)))] [] (am_put g 135 0 ((g 135 0 0) + (1 : Int32))))
    else
      (bif am_in (g 135 0 0) 700 then
        (if (g 30 0 (g 135 0 0).toNatClampNeg) = (32 : Int32) then
        (am_run ct 139 n 0 [some (.inr (.inr (29, 0)))] [] (am_put g 135 0 ((g 135 0 0) + (1 : Int32))))
      else
        (if ((am_put g 138 0 (g 135 0 0)) 135 0 0) = ((am_put g 138 0 (g 135 0 0)) 134 0 0) then
          (some (none, am_put (am_put g 138 0 (g 135 0 0)) 136 0 (0 : Int32)))
        else
          (am_bi (ct 137 [.inr (.inr (29, 0)), .inl ((am_put g 138 0 (g 135 0 0)) 135 0 0)] (am_put g 138 0 (g 135 0 0))) (fun r4 g4 =>
          if r4 = 0 then
            (am_bi (ct 138 [.inr (.inr (29, 0)), .inl (g4 135 0 0)] g4) (fun r5 g5 =>
            if r5 = 0 then
              (if (g5 134 0 0) ≤ (g5 135 0 0) then
                (bif am_in (g5 135 0 0) 700 then
                  (if (g5 30 0 (g5 135 0 0).toNatClampNeg) = (59 : Int32) then
                  (some (none, am_put (am_put g5 136 0 (4 : Int32)) 135 0 (((am_put g5 136 0 (4 : Int32)) 135 0 0) + (1 : Int32))))
                else
                  (some (none, am_put (am_put g5 136 0 (5 : Int32)) 135 0 (((am_put g5 136 0 (5 : Int32)) 135 0 0) + (1 : Int32)))))
                else none)
              else
                (bif am_in (g5 135 0 0) 700 then
                  (if (g5 30 0 (g5 135 0 0).toNatClampNeg) = (45 : Int32) then
                  (am_bi (ct 138 [.inr (.inr (29, 0)), .inl ((g5 135 0 0) + (1 : Int32))] g5) (fun r6 g6 =>
                  if r6 = 0 then
                    (bif am_in (g6 135 0 0) 700 then
                      (if (g6 30 0 (g6 135 0 0).toNatClampNeg) = (59 : Int32) then
                      (some (none, am_put (am_put g6 136 0 (4 : Int32)) 135 0 (((am_put g6 136 0 (4 : Int32)) 135 0 0) + (1 : Int32))))
                    else
                      (some (none, am_put (am_put g6 136 0 (5 : Int32)) 135 0 (((am_put g6 136 0 (5 : Int32)) 135 0 0) + (1 : Int32)))))
                    else none)
                  else
                    (bif am_in (g6 135 0 0) 700 then
                      (if (g6 30 0 (g6 135 0 0).toNatClampNeg) = (45 : Int32) then
                      (if ((am_put g6 136 0 (6 : Int32)) 136 0 0) = (6 : Int32) then
                        (am_run ct 139 n 143 [some (.inr (.inr (29, 0)))] [] (am_put (am_put (am_put g6 136 0 (6 : Int32)) 135 0 (((am_put g6 136 0 (6 : Int32)) 135 0 0) + (1 : Int32))) 137 0 (0 : Int32)))
                      else
                        (am_run ct 139 n 143 [some (.inr (.inr (29, 0)))] [] (am_put (am_put g6 136 0 (6 : Int32)) 137 0 (0 : Int32))))
                    else
                      (if ((am_put g6 136 0 (3 : Int32)) 136 0 0) = (6 : Int32) then
                        (am_run ct 139 n 143 [some (.inr (.inr (29, 0)))] [] (am_put (am_put (am_put g6 136 0 (3 : Int32)) 135 0 (((am_put g6 136 0 (3 : Int32)) 135 0 0) + (1 : Int32))) 137 0 (0 : Int32)))
                      else
                        (am_run ct 139 n 143 [some (.inr (.inr (29, 0)))] [] (am_put (am_put g6 136 0 (3 : Int32)) 137 0 (0 : Int32)))))
                    else none)))
                else
                  (bif am_in (g5 135 0 0) 700 then
                    (if (g5 30 0 (g5 135 0 0).toNatClampNeg) = (59 : Int32) then
                    (some (none, am_put (am_put g5 136 0 (4 : Int32)) 135 0 (((am_put g5 136 0 (4 : Int32)) 135 0 0) + (1 : Int32))))
                  else
                    (some (none, am_put (am_put g5 136 0 (5 : Int32)) 135 0 (((am_put g5 136 0 (5 : Int32)) 135 0 0) + (1 : Int32)))))
                  else none))
                else none))
            else
              (bif am_in (g5 135 0 0) 700 then
                (if (g5 30 0 (g5 135 0 0).toNatClampNeg) = (45 : Int32) then
                (if ((am_put g5 136 0 (6 : Int32)) 136 0 0) = (6 : Int32) then
                  (am_run ct 139 n 143 [some (.inr (.inr (29, 0)))] [] (am_put (am_put (am_put g5 136 0 (6 : Int32)) 135 0 (((am_put g5 136 0 (6 : Int32)) 135 0 0) + (1 : Int32))) 137 0 (0 : Int32)))
                else
                  (am_run ct 139 n 143 [some (.inr (.inr (29, 0)))] [] (am_put (am_put g5 136 0 (6 : Int32)) 137 0 (0 : Int32))))
              else
                (if ((am_put g5 136 0 (3 : Int32)) 136 0 0) = (6 : Int32) then
                  (am_run ct 139 n 143 [some (.inr (.inr (29, 0)))] [] (am_put (am_put (am_put g5 136 0 (3 : Int32)) 135 0 (((am_put g5 136 0 (3 : Int32)) 135 0 0) + (1 : Int32))) 137 0 (0 : Int32)))
                else
                  (am_run ct 139 n 143 [some (.inr (.inr (29, 0)))] [] (am_put (am_put g5 136 0 (3 : Int32)) 137 0 (0 : Int32)))))
              else none)))
          else
            (am_run ct 139 n 44 [some (.inr (.inr (29, 0)))] [] g4)))))
      else none))
    else none) := rfl
set_option maxRecDepth 50000 in
theorem eM_token_44 (ct : am_T) (n : Nat)  (g : am_G) : am_run ct 139 (n + 1) 44 [some (.inr (.inr (29, 0)))] [] g =
  am_bi (ct 137 [.inr (.inr (29, 0)), .inl (g 135 0 0)] g) (fun r1 g1 =>
  if r1 = 0 then
    (am_bi (ct 136 [.inr (.inr (29, 0)), .inl (g1 138 0 0), .inl (g1 135 0 0)] g1) (fun r2 g2 =>
    if ((am_put g2 137 0 r2) 137 0 0) < 0 then
      (if (((am_put g2 137 0 r2) 135 0 0) - ((am_put g2 137 0 r2) 138 0 0)) ≤ (6 : Int32) then
        (if ((am_put (am_put g2 137 0 r2) 136 0 (2 : Int32)) 136 0 0) = (2 : Int32) then
          (am_bi (ct 140 [.inr (.inr (29, 0)), .inl ((am_put (am_put g2 137 0 r2) 136 0 (2 : Int32)) 138 0 0), .inl ((am_put (am_put g2 137 0 r2) 136 0 (2 : Int32)) 135 0 0)] (am_put (am_put g2 137 0 r2) 136 0 (2 : Int32))) (fun r3 g3 =>
          some (none, am_put g3 137 0 r3)))
        else
          (some (none, am_put (am_put g2 137 0 r2) 136 0 (2 : Int32))))
      else
        (if ((am_put (am_put g2 137 0 r2) 136 0 (5 : Int32)) 136 0 0) = (2 : Int32) then
          (am_bi (ct 140 [.inr (.inr (29, 0)), .inl ((am_put (am_put g2 137 0 r2) 136 0 (5 : Int32)) 138 0 0), .inl ((am_put (am_put g2 137 0 r2) 136 0 (5 : Int32)) 135 0 0)] (am_put (am_put g2 137 0 r2) 136 0 (5 : Int32))) (fun r4 g4 =>
          some (none, am_put g4 137 0 r4)))
        else
          (some (none, am_put (am_put g2 137 0 r2) 136 0 (5 : Int32)))))
    else
      (if ((am_put (am_put g2 137 0 r2) 136 0 (1 : Int32)) 136 0 0) = (2 : Int32) then
        (am_bi (ct 140 [.inr (.inr (29, 0)), .inl ((am_put (am_put g2 137 0 r2) 136 0 (1 : Int32)) 138 0 0), .inl ((am_put (am_put g2 137 0 r2) 136 0 (1 : Int32)) 135 0 0)] (am_put (am_put g2 137 0 r2) 136 0 (1 : Int32))) (fun r5 g5 =>
        some (none, am_put g5 137 0 r5)))
      else
        (some (none, am_put (am_put g2 137 0 r2) 136 0 (1 : Int32))))))
  else
    (am_run ct 139 n 44 [some (.inr (.inr (29, 0)))] [] (am_put g1 135 0 ((g1 135 0 0) + (1 : Int32))))) := rfl
set_option maxRecDepth 50000 in
theorem eM_token_143 (ct : am_T) (n : Nat)  (g : am_G) : am_run ct 139 (n + 1) 143 [some (.inr (.inr (29, 0)))] [] g =
  am_bi (ct 138 [.inr (.inr (29, 0)), .inl (g 135 0 0)] g) (fun r1 g1 =>
  if r1 = 0 then
    (if (g1 136 0 0) = (6 : Int32) then
      (some (none, am_put g1 137 0 (-(g1 137 0 0))))
    else
      (some (none, g1)))
  else
    (if (g1 137 0 0) ≤ (99999 : Int32) then
      (bif am_in (g1 135 0 0) 700 then
        (am_run ct 139 n 143 [some (.inr (.inr (29, 0)))] [] (am_put (am_put g1 137 0 ((((10 : Int32) * (g1 137 0 0)) + (g1 30 0 (g1 135 0 0).toNatClampNeg)) - (48 : Int32))) 135 0 (((am_put g1 137 0 ((((10 : Int32) * (g1 137 0 0)) + (g1 30 0 (g1 135 0 0).toNatClampNeg)) - (48 : Int32))) 135 0 0) + (1 : Int32))))
      else none)
    else
      (am_run ct 139 n 143 [some (.inr (.inr (29, 0)))] [] (am_put (am_put g1 137 0 (g1 137 0 0)) 135 0 (((am_put g1 137 0 (g1 137 0 0)) 135 0 0) + (1 : Int32)))))) := rfl
set_option maxRecDepth 50000 in
theorem eM_packed_0 (ct : am_T) (n : Nat) (x1 : Int32) (x2 : Int32) (g : am_G) : am_run ct 140 (n + 1) 0 [some (.inr (.inr (29, 0))), some (.inl x1), some (.inl x2), none, none] [] g =
  am_run ct 140 n 4 [some (.inr (.inr (29, 0))), some (.inl x1), some (.inl x2), some (.inl (0 : Int32)), some (.inl x1)] [] g := rfl
set_option maxRecDepth 50000 in
theorem eM_packed_4 (ct : am_T) (n : Nat) (x1 : Int32) (x2 : Int32) (x3 : Int32) (x4 : Int32) (g : am_G) : am_run ct 140 (n + 1) 4 [some (.inr (.inr (29, 0))), some (.inl x1), some (.inl x2), some (.inl x3), some (.inl x4)] [] g =
  if (x1 + (6 : Int32)) ≤ x4 then
    (some (some (.inl x3), g))
  else
    (if x2 ≤ x4 then
      (am_run ct 140 n 4 [some (.inr (.inr (29, 0))), some (.inl x1), some (.inl x2), some (.inl ((x3 <<< ((5 : Int32) &&& 31)) ||| (0 : Int32))), some (.inl (x4 + 1))] [] g)
    else
      (bif am_in x4 700 then
        (am_run ct 140 n 4 [some (.inr (.inr (29, 0))), some (.inl x1), some (.inl x2), some (.inl ((x3 <<< ((5 : Int32) &&& 31)) ||| ((g 30 0 x4.toNatClampNeg) - (96 : Int32)))), some (.inl (x4 + 1))] [] g)
      else none)) := rfl
set_option maxRecDepth 50000 in
theorem eM_of_0 (ct : am_T) (n : Nat) (x1 : Int32) (g : am_G) : am_run ct 141 (n + 1) 0 [some (.inr (.inr (29, 0))), some (.inl x1)] [] g =
  bif am_in (((121 : Int32) * (g 139 0 0)) + x1) 2904 then
    (some (some (.inl (g 32 0 (((121 : Int32) * (g 139 0 0)) + x1).toNatClampNeg)), g))
  else none := rfl
set_option maxRecDepth 50000 in
theorem eM_lay_0 (ct : am_T) (n : Nat) (x1 : Int32) (x2 : Int32) (g : am_G) : am_run ct 142 (n + 1) 0 [some (.inr (.inr (29, 0))), some (.inl x1), some (.inl x2)] [] g =
  bif am_in (((121 : Int32) * (g 139 0 0)) + x1) 2904 then
    (some (none, am_sto g 32 0 (((121 : Int32) * (g 139 0 0)) + x1).toNatClampNeg x2))
  else none := rfl
set_option maxRecDepth 50000 in
theorem eM_copyBank_0 (ct : am_T) (n : Nat) (x1 : Int32) (x2 : Int32) (g : am_G) : am_run ct 143 (n + 1) 0 [some (.inr (.inr (29, 0))), some (.inl x1), some (.inl x2), none] [] g =
  am_run ct 143 n 2 [some (.inr (.inr (29, 0))), some (.inl x1), some (.inl x2), some (.inl (0 : Int32))] [] g := rfl
set_option maxRecDepth 50000 in
theorem eM_copyBank_2 (ct : am_T) (n : Nat) (x1 : Int32) (x2 : Int32) (x3 : Int32) (g : am_G) : am_run ct 143 (n + 1) 2 [some (.inr (.inr (29, 0))), some (.inl x1), some (.inl x2), some (.inl x3)] [] g =
  if (121 : Int32) ≤ x3 then
    (some (none, g))
  else
    (bif am_in (((121 : Int32) * x1) + x3) 2904 then
      (bif am_in (((121 : Int32) * x2) + x3) 2904 then
      (am_run ct 143 n 2 [some (.inr (.inr (29, 0))), some (.inl x1), some (.inl x2), some (.inl (x3 + 1))] [] (am_sto g 32 0 (((121 : Int32) * x2) + x3).toNatClampNeg (g 32 0 (((121 : Int32) * x1) + x3).toNatClampNeg)))
    else none)
    else none) := rfl
set_option maxRecDepth 50000 in
theorem eM_canUndo_0 (ct : am_T) (n : Nat)  (g : am_G) : am_run ct 144 (n + 1) 0 [some (.inr (.inr (29, 0))), none] [] g =
  if (g 140 0 0) = (20 : Int32) then
    (am_run ct 144 n 6 [some (.inr (.inr (29, 0))), some (.inl (1 : Int32))] [] g)
  else
    (am_bv (ct 143 [.inr (.inr (29, 0)), .inl (0 : Int32), .inl ((4 : Int32) + (g 140 0 0))] g) (fun g1 =>
    some (none, am_put g1 140 0 ((g1 140 0 0) + (1 : Int32))))) := rfl
set_option maxRecDepth 50000 in
theorem eM_canUndo_6 (ct : am_T) (n : Nat) (x1 : Int32) (g : am_G) : am_run ct 144 (n + 1) 6 [some (.inr (.inr (29, 0))), some (.inl x1)] [] g =
  if (20 : Int32) ≤ x1 then
    (am_bv (ct 143 [.inr (.inr (29, 0)), .inl (0 : Int32), .inl ((4 : Int32) + ((am_put g 140 0 (19 : Int32)) 140 0 0))] (am_put g 140 0 (19 : Int32))) (fun g1 =>
    some (none, am_put g1 140 0 ((g1 140 0 0) + (1 : Int32)))))
  else
    (am_bv (ct 143 [.inr (.inr (29, 0)), .inl ((4 : Int32) + x1), .inl ((3 : Int32) + x1)] g) (fun g2 =>
    am_run ct 144 n 6 [some (.inr (.inr (29, 0))), some (.inl (x1 + 1))] [] g2)) := rfl
set_option maxRecDepth 50000 in
theorem eM_undo_0 (ct : am_T) (n : Nat)  (g : am_G) : am_run ct 145 (n + 1) 0 [some (.inr (.inr (29, 0)))] [] g =
  if ((am_put g 131 0 (0 : Int32)) 140 0 0) = 0 then
    (some (some (.inl (-1 : Int32)), am_put g 131 0 (0 : Int32)))
  else
    (am_bv (ct 143 [.inr (.inr (29, 0)), .inl ((4 : Int32) + ((am_put (am_put g 131 0 (0 : Int32)) 140 0 (((am_put g 131 0 (0 : Int32)) 140 0 0) - (1 : Int32))) 140 0 0)), .inl (0 : Int32)] (am_put (am_put g 131 0 (0 : Int32)) 140 0 (((am_put g 131 0 (0 : Int32)) 140 0 0) - (1 : Int32)))) (fun g1 =>
    some (some (.inl (g1 140 0 0)), g1))) := rfl
set_option maxRecDepth 50000 in
theorem eM_keep_0 (ct : am_T) (n : Nat)  (g : am_G) : am_run ct 146 (n + 1) 0 [some (.inr (.inr (29, 0)))] [] g =
  am_bv (ct 143 [.inr (.inr (29, 0)), .inl (0 : Int32), .inl (2 : Int32)] (am_put g 131 0 (0 : Int32))) (fun g1 =>
  am_bi (ct 235 [.inr (.inr (29, 0))] (am_put g1 141 0 (1 : Int32))) (fun r2 g2 =>
  some (some (.inl r2), g2))) := rfl
set_option maxRecDepth 50000 in
theorem eM_back_0 (ct : am_T) (n : Nat)  (g : am_G) : am_run ct 147 (n + 1) 0 [some (.inr (.inr (29, 0)))] [] g =
  if ((am_put g 131 0 (0 : Int32)) 141 0 0) = 0 then
    (some (some (.inl (-1 : Int32)), am_put g 131 0 (0 : Int32)))
  else
    (am_bv (ct 143 [.inr (.inr (29, 0)), .inl (2 : Int32), .inl (0 : Int32)] (am_put g 131 0 (0 : Int32))) (fun g1 =>
    am_bi (ct 235 [.inr (.inr (29, 0))] (am_put g1 140 0 (0 : Int32))) (fun r2 g2 =>
    some (some (.inl r2), g2)))) := rfl
set_option maxRecDepth 50000 in
theorem eM_isTown_0 (ct : am_T) (n : Nat) (x1 : Int32) (g : am_G) : am_run ct 148 (n + 1) 0 [some (.inr (.inr (29, 0))), some (.inl x1)] [] g =
  am_bi (ct 134 [.inl x1, .inl (0 : Int32), .inl ((g 142 0 0) - (1 : Int32))] g) (fun r1 g1 =>
  bif am_01 r1 then some (some (.inl r1), g1) else none) := rfl
set_option maxRecDepth 50000 in
theorem eM_areTowns_0 (ct : am_T) (n : Nat) (x1 : Int32) (x2 : Int32) (g : am_G) : am_run ct 149 (n + 1) 0 [some (.inr (.inr (29, 0))), some (.inl x1), some (.inl x2)] [] g =
  am_bi (ct 148 [.inr (.inr (29, 0)), .inl x1] g) (fun r1 g1 =>
  if r1 = 0 then
    (some (some (.inl (0 : Int32)), g1))
  else
    (am_bi (ct 148 [.inr (.inr (29, 0)), .inl x2] g1) (fun r2 g2 =>
    if r2 = 0 then
      (some (some (.inl (0 : Int32)), g2))
    else
      (some (some (.inl (1 : Int32)), g2))))) := rfl
set_option maxRecDepth 50000 in
theorem eM_parent_0 (ct : am_T) (n : Nat) (x1 : Int32) (g : am_G) : am_run ct 150 (n + 1) 0 [some (.inr (.inr (29, 0))), some (.inl x1)] [] g =
  am_bi (ct 141 [.inr (.inr (29, 0)), .inl ((0 : Int32) + x1)] g) (fun r1 g1 =>
  some (some (.inl r1), g1)) := rfl
set_option maxRecDepth 50000 in
theorem eM_prefers_0 (ct : am_T) (n : Nat) (x1 : Int32) (g : am_G) : am_run ct 151 (n + 1) 0 [some (.inr (.inr (29, 0))), some (.inl x1)] [] g =
  am_bi (ct 141 [.inr (.inr (29, 0)), .inl ((24 : Int32) + x1)] g) (fun r1 g1 =>
  some (some (.inl r1), g1)) := rfl
set_option maxRecDepth 50000 in
theorem eM_free_0 (ct : am_T) (n : Nat) (x1 : Int32) (g : am_G) : am_run ct 152 (n + 1) 0 [some (.inr (.inr (29, 0))), some (.inl x1)] [] g =
  am_bv (ct 142 [.inr (.inr (29, 0)), .inl ((0 : Int32) + x1), .inl (-2 : Int32)] g) (fun g1 =>
  am_bv (ct 142 [.inr (.inr (29, 0)), .inl ((48 : Int32) + x1), .inl (-2 : Int32)] g1) (fun g2 =>
  am_bv (ct 142 [.inr (.inr (29, 0)), .inl ((72 : Int32) + x1), .inl (-2 : Int32)] g2) (fun g3 =>
  some (none, g3)))) := rfl
set_option maxRecDepth 50000 in
theorem eM_plain_0 (ct : am_T) (n : Nat)  (g : am_G) : am_run ct 153 (n + 1) 0 [some (.inr (.inr (29, 0)))] [] g =
  some (none, am_put (am_put (am_put g 144 0 (0 : Int32)) 145 0 (0 : Int32)) 146 0 (0 : Int32)) := rfl
set_option maxRecDepth 50000 in
theorem eM_keepText_0 (ct : am_T) (n : Nat)  (g : am_G) : am_run ct 154 (n + 1) 0 [some (.inr (.inr (29, 0))), none] [] g =
  am_bv (ct 143 [.inr (.inr (29, 0)), .inl (3 : Int32), .inl (0 : Int32)] g) (fun g1 =>
  am_run ct 154 n 6 [some (.inr (.inr (29, 0))), some (.inl (0 : Int32))] [] g1) := rfl
set_option maxRecDepth 50000 in
theorem eM_keepText_6 (ct : am_T) (n : Nat) (x1 : Int32) (g : am_G) : am_run ct 154 (n + 1) 6 [some (.inr (.inr (29, 0))), some (.inl x1)] [] g =
  if (24 : Int32) ≤ x1 then
    (am_bv (ct 142 [.inr (.inr (29, 0)), .inl (120 : Int32), .inl (0 : Int32)] (am_put (am_put (am_put (am_put (am_put g 142 0 (g 144 0 0)) 143 0 ((am_put g 142 0 (g 144 0 0)) 145 0 0)) 140 0 (0 : Int32)) 141 0 (0 : Int32)) 148 0 (0 : Int32))) (fun g1 =>
    some (none, g1)))
  else
    (bif am_in x1 24 then
      (bif am_in x1 24 then
      (am_run ct 154 n 6 [some (.inr (.inr (29, 0))), some (.inl (x1 + 1))] [] (am_sto g 33 0 x1.toNatClampNeg (g 34 0 x1.toNatClampNeg)))
    else none)
    else none) := rfl
set_option maxRecDepth 50000 in
theorem eM_nameAt_33_0 (ct : am_T) (n : Nat) (x0 : Int32) (x2 : Int32) (g : am_G) : am_run ct 155 (n + 1) 0 [some (.inl x0), some (.inr (.inr (33, 0))), some (.inl x2), none] [] g =
  am_run ct 155 n 2 [some (.inl x0), some (.inr (.inr (33, 0))), some (.inl x2), some (.inl (0 : Int32))] [] g := rfl
set_option maxRecDepth 50000 in
theorem eM_nameAt_33_2 (ct : am_T) (n : Nat) (x0 : Int32) (x2 : Int32) (x3 : Int32) (g : am_G) : am_run ct 155 (n + 1) 2 [some (.inl x0), some (.inr (.inr (33, 0))), some (.inl x2), some (.inl x3)] [] g =
  if x2 ≤ x3 then
    (some (some (.inl (-1 : Int32)), g))
  else
    (bif am_in x3 24 then
      (if (g 33 0 x3.toNatClampNeg) = x0 then
      (some (some (.inl x3), g))
    else
      (am_run ct 155 n 2 [some (.inl x0), some (.inr (.inr (33, 0))), some (.inl x2), some (.inl (x3 + 1))] [] g))
    else none) := rfl
set_option maxRecDepth 50000 in
theorem eM_nameAt_34_0 (ct : am_T) (n : Nat) (x0 : Int32) (x2 : Int32) (g : am_G) : am_run ct 155 (n + 1) 0 [some (.inl x0), some (.inr (.inr (34, 0))), some (.inl x2), none] [] g =
  am_run ct 155 n 2 [some (.inl x0), some (.inr (.inr (34, 0))), some (.inl x2), some (.inl (0 : Int32))] [] g := rfl
set_option maxRecDepth 50000 in
theorem eM_nameAt_34_2 (ct : am_T) (n : Nat) (x0 : Int32) (x2 : Int32) (x3 : Int32) (g : am_G) : am_run ct 155 (n + 1) 2 [some (.inl x0), some (.inr (.inr (34, 0))), some (.inl x2), some (.inl x3)] [] g =
  if x2 ≤ x3 then
    (some (some (.inl (-1 : Int32)), g))
  else
    (bif am_in x3 24 then
      (if (g 34 0 x3.toNatClampNeg) = x0 then
      (some (some (.inl x3), g))
    else
      (am_run ct 155 n 2 [some (.inl x0), some (.inr (.inr (34, 0))), some (.inl x2), some (.inl (x3 + 1))] [] g))
    else none) := rfl
set_option maxRecDepth 50000 in
theorem eM_signed_0 (ct : am_T) (n : Nat) (x1 : Int32) (x2 : Int32) (g : am_G) : am_run ct 156 (n + 1) 0 [some (.inr (.inr (29, 0))), some (.inl x1), some (.inl x2)] [] g =
  if (g 136 0 0) = (3 : Int32) then
    (am_bi (ct 134 [.inl (g 137 0 0), .inl x1, .inl x2] g) (fun r1 g1 =>
    if r1 = 0 then
      (am_bi (ct 135 [.inr (.inr (29, 0)), .inl (2 : Int32)] g1) (fun r3 g3 =>
      bif am_01 r3 then some (some (.inl r3), g3) else none))
    else
      (am_bv (ct 139 [.inr (.inr (29, 0))] (am_put g1 147 0 (g1 137 0 0))) (fun g2 =>
      some (some (.inl (1 : Int32)), g2)))))
  else
    (if (g 136 0 0) = (6 : Int32) then
      (am_bi (ct 134 [.inl (g 137 0 0), .inl x1, .inl x2] g) (fun r4 g4 =>
      if r4 = 0 then
        (am_bi (ct 135 [.inr (.inr (29, 0)), .inl (2 : Int32)] g4) (fun r6 g6 =>
        bif am_01 r6 then some (some (.inl r6), g6) else none))
      else
        (am_bv (ct 139 [.inr (.inr (29, 0))] (am_put g4 147 0 (g4 137 0 0))) (fun g5 =>
        some (some (.inl (1 : Int32)), g5)))))
    else
      (am_bi (ct 135 [.inr (.inr (29, 0)), .inl (1 : Int32)] g) (fun r7 g7 =>
      bif am_01 r7 then some (some (.inl r7), g7) else none))) := rfl
set_option maxRecDepth 50000 in
theorem eM_number_0 (ct : am_T) (n : Nat) (x1 : Int32) (x2 : Int32) (g : am_G) : am_run ct 157 (n + 1) 0 [some (.inr (.inr (29, 0))), some (.inl x1), some (.inl x2)] [] g =
  if (g 136 0 0) = (3 : Int32) then
    (am_bi (ct 156 [.inr (.inr (29, 0)), .inl x1, .inl x2] g) (fun r2 g2 =>
    bif am_01 r2 then some (some (.inl r2), g2) else none))
  else
    (am_bi (ct 135 [.inr (.inr (29, 0)), .inl (1 : Int32)] g) (fun r1 g1 =>
    bif am_01 r1 then some (some (.inl r1), g1) else none)) := rfl
set_option maxRecDepth 50000 in
theorem eM_townRead_0 (ct : am_T) (n : Nat)  (g : am_G) : am_run ct 158 (n + 1) 0 [some (.inr (.inr (29, 0)))] [] g =
  am_bv (ct 139 [.inr (.inr (29, 0))] g) (fun g1 =>
  if (g1 136 0 0) = (2 : Int32) then
    (am_bi (ct 155 [.inl (g1 137 0 0), .inr (.inr (34, 0)), .inl (g1 144 0 0)] g1) (fun r2 g2 =>
    if 0 ≤ ((am_put g2 147 0 r2) 147 0 0) then
      (some (some (.inl (1 : Int32)), am_put g2 147 0 r2))
    else
      (am_bi (ct 135 [.inr (.inr (29, 0)), .inl (4 : Int32)] (am_put g2 147 0 r2)) (fun r3 g3 =>
      if r3 = 0 then
        (some (some (.inl (0 : Int32)), g3))
      else
        (some (some (.inl (1 : Int32)), g3))))))
  else
    (am_bi (ct 135 [.inr (.inr (29, 0)), .inl (1 : Int32)] g1) (fun r4 g4 =>
    bif am_01 r4 then some (some (.inl r4), g4) else none))) := rfl
set_option maxRecDepth 50000 in
theorem eM_townLine_0 (ct : am_T) (n : Nat)  (g : am_G) : am_run ct 159 (n + 1) 0 [some (.inr (.inr (29, 0)))] [] g =
  if (g 144 0 0) = (24 : Int32) then
    (am_bi (ct 135 [.inr (.inr (29, 0)), .inl (2 : Int32)] g) (fun r10 g10 =>
    bif am_01 r10 then some (some (.inl r10), g10) else none))
  else
    (am_bv (ct 139 [.inr (.inr (29, 0))] g) (fun g1 =>
    if (g1 136 0 0) = (2 : Int32) then
      (am_bi (ct 155 [.inl (g1 137 0 0), .inr (.inr (34, 0)), .inl (g1 144 0 0)] g1) (fun r2 g2 =>
      if r2 < 0 then
        (bif am_in (g2 144 0 0) 24 then
          (am_bv (ct 139 [.inr (.inr (29, 0))] (am_sto g2 34 0 (g2 144 0 0).toNatClampNeg (g2 137 0 0))) (fun g3 =>
        am_bi (ct 156 [.inr (.inr (29, 0)), .inl (-9999 : Int32), .inl (9999 : Int32)] g3) (fun r4 g4 =>
        if r4 = 0 then
          (some (some (.inl (0 : Int32)), g4))
        else
          (am_bv (ct 152 [.inr (.inr (29, 0)), .inl (g4 144 0 0)] g4) (fun g5 =>
          am_bv (ct 142 [.inr (.inr (29, 0)), .inl ((24 : Int32) + (g5 144 0 0)), .inl (-2 : Int32)] g5) (fun g6 =>
          am_bv (ct 142 [.inr (.inr (29, 0)), .inl ((96 : Int32) + (g6 144 0 0)), .inl (g6 147 0 0)] g6) (fun g7 =>
          some (some (.inl (1 : Int32)), am_put g7 144 0 ((g7 144 0 0) + (1 : Int32))))))))))
        else none)
      else
        (am_bi (ct 135 [.inr (.inr (29, 0)), .inl (3 : Int32)] g2) (fun r8 g8 =>
        bif am_01 r8 then some (some (.inl r8), g8) else none))))
    else
      (am_bi (ct 135 [.inr (.inr (29, 0)), .inl (1 : Int32)] g1) (fun r9 g9 =>
      bif am_01 r9 then some (some (.inl r9), g9) else none)))) := rfl
set_option maxRecDepth 50000 in
theorem eM_linkLine_0 (ct : am_T) (n : Nat)  (g : am_G) : am_run ct 160 (n + 1) 0 [some (.inr (.inr (29, 0))), none, none, none] [] g =
  am_bi (ct 158 [.inr (.inr (29, 0))] g) (fun r1 g1 =>
  if r1 = 0 then
    (some (some (.inl (0 : Int32)), g1))
  else
    (am_bi (ct 158 [.inr (.inr (29, 0))] g1) (fun r2 g2 =>
    if r2 = 0 then
      (some (some (.inl (0 : Int32)), g2))
    else
      (am_bi (ct 166 [.inr (.inr (29, 0)), .inl (g1 147 0 0)] g2) (fun r3 g3 =>
      am_bi (ct 166 [.inr (.inr (29, 0)), .inl (g2 147 0 0)] g3) (fun r4 g4 =>
      if r3 = r4 then
        (am_bi (ct 135 [.inr (.inr (29, 0)), .inl (3 : Int32)] g4) (fun r9 g9 =>
        bif am_01 r9 then some (some (.inl r9), g9) else none))
      else
        (am_bv (ct 139 [.inr (.inr (29, 0))] g4) (fun g5 =>
        am_bi (ct 157 [.inr (.inr (29, 0)), .inl (1 : Int32), .inl (9999 : Int32)] g5) (fun r6 g6 =>
        if r6 = 0 then
          (some (some (.inl (0 : Int32)), g6))
        else
          (am_bi (ct 157 [.inr (.inr (29, 0)), .inl (1 : Int32), .inl (9999 : Int32)] g6) (fun r7 g7 =>
          if r7 = 0 then
            (some (some (.inl (0 : Int32)), g7))
          else
            (am_bv (ct 171 [.inr (.inr (29, 0)), .inl (g1 147 0 0), .inl (g2 147 0 0), .inl (g6 147 0 0), .inl (g7 147 0 0)] g7) (fun g8 =>
            some (some (.inl (1 : Int32)), g8)))))))))))))) := rfl
set_option maxRecDepth 50000 in
theorem eM_wordLine_0 (ct : am_T) (n : Nat)  (g : am_G) : am_run ct 161 (n + 1) 0 [some (.inr (.inr (29, 0))), none] [] g =
  if (g 137 0 0) = (5 : Int32) then
    (if (g 146 0 0) = 0 then
      (am_bv (ct 139 [.inr (.inr (29, 0))] (am_put g 146 0 (1 : Int32))) (fun g8 =>
      am_bi (ct 157 [.inr (.inr (29, 0)), .inl (0 : Int32), .inl (99999 : Int32)] g8) (fun r9 g9 =>
      if r9 = 0 then
        (some (some (.inl (0 : Int32)), g9))
      else
        (some (some (.inl (1 : Int32)), am_put g9 145 0 (g9 147 0 0))))))
    else
      (am_bi (ct 135 [.inr (.inr (29, 0)), .inl (3 : Int32)] g) (fun r10 g10 =>
      bif am_01 r10 then some (some (.inl r10), g10) else none)))
  else
    (am_bi (ct 158 [.inr (.inr (29, 0))] g) (fun r1 g1 =>
    if r1 = 0 then
      (some (some (.inl (0 : Int32)), g1))
    else
      (if (g 137 0 0) = (2 : Int32) then
        (am_bi (ct 170 [.inr (.inr (29, 0)), .inl (g1 147 0 0)] g1) (fun r6 g6 =>
        am_bv (ct 139 [.inr (.inr (29, 0))] g6) (fun g7 =>
        some (some (.inl (1 : Int32)), g7))))
      else
        (if (g 137 0 0) = (3 : Int32) then
          (am_bi (ct 169 [.inr (.inr (29, 0)), .inl (g1 147 0 0)] g1) (fun r4 g4 =>
          am_bv (ct 139 [.inr (.inr (29, 0))] g4) (fun g5 =>
          some (some (.inl (1 : Int32)), g5))))
        else
          (am_bi (ct 190 [.inr (.inr (29, 0)), .inl (g1 147 0 0)] g1) (fun r2 g2 =>
          am_bv (ct 139 [.inr (.inr (29, 0))] g2) (fun g3 =>
          some (some (.inl (1 : Int32)), g3)))))))) := rfl
set_option maxRecDepth 50000 in
theorem eM_lineRead_0 (ct : am_T) (n : Nat)  (g : am_G) : am_run ct 162 (n + 1) 0 [some (.inr (.inr (29, 0))), none] [] g =
  if (g 136 0 0) = (1 : Int32) then
    (if (g 137 0 0) = 0 then
      (am_bi (ct 159 [.inr (.inr (29, 0))] g) (fun r7 g7 =>
      if r7 = 0 then
        (some (some (.inl (0 : Int32)), g7))
      else
        (if (g7 136 0 0) = (4 : Int32) then
          (am_bv (ct 139 [.inr (.inr (29, 0))] g7) (fun g8 =>
          some (some (.inl (1 : Int32)), g8)))
        else
          (am_bi (ct 135 [.inr (.inr (29, 0)), .inl (1 : Int32)] g7) (fun r9 g9 =>
          bif am_01 r9 then some (some (.inl r9), g9) else none)))))
    else
      (if (g 137 0 0) = (1 : Int32) then
        (am_bi (ct 160 [.inr (.inr (29, 0))] g) (fun r4 g4 =>
        if r4 = 0 then
          (some (some (.inl (0 : Int32)), g4))
        else
          (if (g4 136 0 0) = (4 : Int32) then
            (am_bv (ct 139 [.inr (.inr (29, 0))] g4) (fun g5 =>
            some (some (.inl (1 : Int32)), g5)))
          else
            (am_bi (ct 135 [.inr (.inr (29, 0)), .inl (1 : Int32)] g4) (fun r6 g6 =>
            bif am_01 r6 then some (some (.inl r6), g6) else none)))))
      else
        (am_bi (ct 161 [.inr (.inr (29, 0))] g) (fun r1 g1 =>
        if r1 = 0 then
          (some (some (.inl (0 : Int32)), g1))
        else
          (if (g1 136 0 0) = (4 : Int32) then
            (am_bv (ct 139 [.inr (.inr (29, 0))] g1) (fun g2 =>
            some (some (.inl (1 : Int32)), g2)))
          else
            (am_bi (ct 135 [.inr (.inr (29, 0)), .inl (1 : Int32)] g1) (fun r3 g3 =>
            bif am_01 r3 then some (some (.inl r3), g3) else none)))))))
  else
    (am_bi (ct 135 [.inr (.inr (29, 0)), .inl (1 : Int32)] g) (fun r10 g10 =>
    bif am_01 r10 then some (some (.inl r10), g10) else none)) := rfl
set_option maxRecDepth 50000 in
theorem eM_text_0 (ct : am_T) (n : Nat) (x1 : Int32) (g : am_G) : am_run ct 163 (n + 1) 0 [some (.inr (.inr (29, 0))), some (.inl x1), none, none, none] [] g =
  if x1 < 0 then
    (some (some (.inl (-2 : Int32)), am_put g 131 0 (0 : Int32)))
  else
    (if x1 ≤ ((am_put g 131 0 (0 : Int32)) 130 0 0) then
      (am_bv (ct 153 [.inr (.inr (29, 0))] (am_put (am_put (am_put (am_put (am_put (am_put g 131 0 (0 : Int32)) 134 0 x1) 130 0 (0 : Int32)) 132 0 (0 : Int32)) 133 0 (-1 : Int32)) 135 0 (0 : Int32))) (fun g1 =>
      am_bv (ct 139 [.inr (.inr (29, 0))] g1) (fun g2 =>
      am_run ct 163 n 43 [some (.inr (.inr (29, 0))), some (.inl x1), some (.inl ((am_put g2 139 0 (3 : Int32)) 142 0 0)), some (.inl (0 : Int32)), some (.inl (1 : Int32))] [] (am_put (am_put g2 139 0 (3 : Int32)) 142 0 (0 : Int32)))))
    else
      (some (some (.inl (-2 : Int32)), am_put g 131 0 (0 : Int32)))) := rfl
set_option maxRecDepth 50000 in
theorem eM_text_43 (ct : am_T) (n : Nat) (x1 : Int32) (x2 : Int32) (x3 : Int32) (x4 : Int32) (g : am_G) : am_run ct 163 (n + 1) 43 [some (.inr (.inr (29, 0))), some (.inl x1), some (.inl x2), some (.inl x3), some (.inl x4)] [] g =
  if x4 = 0 then
    (if x4 = 0 then
      (some (some (.inl (-1 : Int32)), am_put (am_put g 142 0 x2) 139 0 (0 : Int32)))
    else
      (am_bv (ct 154 [.inr (.inr (29, 0))] (am_put (am_put g 142 0 x2) 139 0 (0 : Int32))) (fun g1 =>
      some (some (.inl x3), g1))))
  else
    (if (g 136 0 0) = 0 then
      (if x4 = 0 then
        (some (some (.inl (-1 : Int32)), am_put (am_put g 142 0 x2) 139 0 (0 : Int32)))
      else
        (am_bv (ct 154 [.inr (.inr (29, 0))] (am_put (am_put g 142 0 x2) 139 0 (0 : Int32))) (fun g2 =>
        some (some (.inl x3), g2))))
    else
      (am_bi (ct 162 [.inr (.inr (29, 0))] g) (fun r3 g3 =>
      am_run ct 163 n 43 [some (.inr (.inr (29, 0))), some (.inl x1), some (.inl x2), some (.inl (x3 + 1)), some (.inl r3)] [] (am_put g3 142 0 (g3 144 0 0))))) := rfl
set_option maxRecDepth 50000 in
theorem eM_fault_0 (ct : am_T) (n : Nat) (x1 : Int32) (g : am_G) : am_run ct 164 (n + 1) 0 [some (.inr (.inr (29, 0))), some (.inl x1)] [] g =
  if x1 = 0 then
    (some (some (.inl ((am_put g 131 0 (0 : Int32)) 132 0 0)), am_put g 131 0 (0 : Int32)))
  else
    (if x1 = (1 : Int32) then
      (some (some (.inl ((am_put g 131 0 (0 : Int32)) 133 0 0)), am_put g 131 0 (0 : Int32)))
    else
      (some (some (.inl (-1 : Int32)), am_put g 131 0 (0 : Int32)))) := rfl
set_option maxRecDepth 50000 in
theorem eM_named_0 (ct : am_T) (n : Nat) (x1 : Int32) (g : am_G) : am_run ct 165 (n + 1) 0 [some (.inr (.inr (29, 0))), some (.inl x1)] [] g =
  am_bi (ct 155 [.inl x1, .inr (.inr (33, 0)), .inl ((am_put g 131 0 (0 : Int32)) 142 0 0)] (am_put g 131 0 (0 : Int32))) (fun r1 g1 =>
  some (some (.inl r1), g1)) := rfl
set_option maxRecDepth 50000 in
theorem eM_rootOf_0 (ct : am_T) (n : Nat) (x1 : Int32) (g : am_G) : am_run ct 166 (n + 1) 0 [some (.inr (.inr (29, 0))), some (.inl x1), none] [] g =
  am_run ct 166 n 2 [some (.inr (.inr (29, 0))), some (.inl x1), some (.inl x1)] [] g := rfl
set_option maxRecDepth 50000 in
theorem eM_rootOf_2 (ct : am_T) (n : Nat) (x1 : Int32) (x2 : Int32) (g : am_G) : am_run ct 166 (n + 1) 2 [some (.inr (.inr (29, 0))), some (.inl x1), some (.inl x2)] [] g =
  am_bi (ct 150 [.inr (.inr (29, 0)), .inl x2] g) (fun r1 g1 =>
  if r1 < 0 then
    (some (some (.inl x2), g1))
  else
    (am_bi (ct 150 [.inr (.inr (29, 0)), .inl x2] g1) (fun r2 g2 =>
    am_run ct 166 n 2 [some (.inr (.inr (29, 0))), some (.inl x1), some (.inl r2)] [] g2))) := rfl
set_option maxRecDepth 50000 in
theorem eM_areTogether_0 (ct : am_T) (n : Nat) (x1 : Int32) (x2 : Int32) (g : am_G) : am_run ct 167 (n + 1) 0 [some (.inr (.inr (29, 0))), some (.inl x1), some (.inl x2)] [] g =
  am_bi (ct 166 [.inr (.inr (29, 0)), .inl x1] g) (fun r1 g1 =>
  am_bi (ct 166 [.inr (.inr (29, 0)), .inl x2] g1) (fun r2 g2 =>
  if r1 = r2 then
    (some (some (.inl (1 : Int32)), g2))
  else
    (some (some (.inl (0 : Int32)), g2)))) := rfl
set_option maxRecDepth 50000 in
theorem eM_would1_0 (ct : am_T) (n : Nat) (x1 : Int32) (g : am_G) : am_run ct 168 (n + 1) 0 [some (.inr (.inr (29, 0))), some (.inl x1), none, none] [] g =
  am_run ct 168 n 4 [some (.inr (.inr (29, 0))), some (.inl x1), some (.inl (0 : Int32)), some (.inl x1)] [] g := rfl
set_option maxRecDepth 50000 in
theorem eM_would1_4 (ct : am_T) (n : Nat) (x1 : Int32) (x2 : Int32) (x3 : Int32) (g : am_G) : am_run ct 168 (n + 1) 4 [some (.inr (.inr (29, 0))), some (.inl x1), some (.inl x2), some (.inl x3)] [] g =
  am_bi (ct 150 [.inr (.inr (29, 0)), .inl x3] g) (fun r1 g1 =>
  if r1 < 0 then
    (some (some (.inl x2), g1))
  else
    (am_bi (ct 150 [.inr (.inr (29, 0)), .inl x3] g1) (fun r2 g2 =>
    am_bi (ct 151 [.inr (.inr (29, 0)), .inl r2] g2) (fun r3 g3 =>
    if r3 = x3 then
      (am_bi (ct 150 [.inr (.inr (29, 0)), .inl x3] g3) (fun r5 g5 =>
      am_run ct 168 n 4 [some (.inr (.inr (29, 0))), some (.inl x1), some (.inl (x2 + (0 : Int32))), some (.inl r5)] [] g5))
    else
      (am_bi (ct 150 [.inr (.inr (29, 0)), .inl x3] g3) (fun r4 g4 =>
      am_run ct 168 n 4 [some (.inr (.inr (29, 0))), some (.inl x1), some (.inl (x2 + (1 : Int32))), some (.inl r4)] [] g4)))))) := rfl
set_option maxRecDepth 50000 in
theorem eM_touches_0 (ct : am_T) (n : Nat) (x1 : Int32) (g : am_G) : am_run ct 169 (n + 1) 0 [some (.inr (.inr (29, 0))), some (.inl x1), none, none] [] g =
  am_bi (ct 168 [.inr (.inr (29, 0)), .inl x1] g) (fun r1 g1 =>
  am_bv (ct 142 [.inr (.inr (29, 0)), .inl ((24 : Int32) + x1), .inl (-2 : Int32)] g1) (fun g2 =>
  am_run ct 169 n 12 [some (.inr (.inr (29, 0))), some (.inl x1), some (.inl r1), some (.inl x1)] [] g2)) := rfl
set_option maxRecDepth 50000 in
theorem eM_touches_12 (ct : am_T) (n : Nat) (x1 : Int32) (x2 : Int32) (x3 : Int32) (g : am_G) : am_run ct 169 (n + 1) 12 [some (.inr (.inr (29, 0))), some (.inl x1), some (.inl x2), some (.inl x3)] [] g =
  am_bi (ct 150 [.inr (.inr (29, 0)), .inl x3] g) (fun r1 g1 =>
  if r1 < 0 then
    (am_bi (ct 141 [.inr (.inr (29, 0)), .inl (120 : Int32)] g1) (fun r2 g2 =>
    am_bv (ct 142 [.inr (.inr (29, 0)), .inl (120 : Int32), .inl (r2 + x2)] g2) (fun g3 =>
    some (some (.inl x2), g3))))
  else
    (am_bi (ct 150 [.inr (.inr (29, 0)), .inl x3] g1) (fun r4 g4 =>
    am_bv (ct 142 [.inr (.inr (29, 0)), .inl ((24 : Int32) + r4), .inl x3] g4) (fun g5 =>
    am_bi (ct 150 [.inr (.inr (29, 0)), .inl x3] g5) (fun r6 g6 =>
    am_run ct 169 n 12 [some (.inr (.inr (29, 0))), some (.inl x1), some (.inl x2), some (.inl r6)] [] g6))))) := rfl
set_option maxRecDepth 50000 in
theorem eM_reroots_0 (ct : am_T) (n : Nat) (x1 : Int32) (g : am_G) : am_run ct 170 (n + 1) 0 [some (.inr (.inr (29, 0))), some (.inl x1), none, none, none, none, none, none, none, none] [] g =
  am_bi (ct 169 [.inr (.inr (29, 0)), .inl x1] g) (fun r1 g1 =>
  am_run ct 170 n 12 [some (.inr (.inr (29, 0))), some (.inl x1), some (.inl r1), some (.inl x1), some (.inl (-2 : Int32)), some (.inl (-2 : Int32)), some (.inl (-2 : Int32)), none, none, none] [] g1) := rfl
set_option maxRecDepth 50000 in
theorem eM_reroots_12 (ct : am_T) (n : Nat) (x1 : Int32) (x2 : Int32) (x3 : Int32) (x4 : Int32) (x5 : Int32) (x6 : Int32) (o7 : Option am_V) (o8 : Option am_V) (o9 : Option am_V) (g : am_G) : am_run ct 170 (n + 1) 12 [some (.inr (.inr (29, 0))), some (.inl x1), some (.inl x2), some (.inl x3), some (.inl x4), some (.inl x5), some (.inl x6), o7, o8, o9] [] g =
  if x3 < 0 then
    (some (some (.inl x2), g))
  else
    (am_bi (ct 150 [.inr (.inr (29, 0)), .inl x3] g) (fun r1 g1 =>
    am_bi (ct 141 [.inr (.inr (29, 0)), .inl ((48 : Int32) + x3)] g1) (fun r2 g2 =>
    am_bi (ct 141 [.inr (.inr (29, 0)), .inl ((72 : Int32) + x3)] g2) (fun r3 g3 =>
    am_bv (ct 142 [.inr (.inr (29, 0)), .inl ((0 : Int32) + x3), .inl x4] g3) (fun g4 =>
    am_bv (ct 142 [.inr (.inr (29, 0)), .inl ((48 : Int32) + x3), .inl x5] g4) (fun g5 =>
    am_bv (ct 142 [.inr (.inr (29, 0)), .inl ((72 : Int32) + x3), .inl x6] g5) (fun g6 =>
    if 0 ≤ r1 then
      (am_bv (ct 142 [.inr (.inr (29, 0)), .inl ((24 : Int32) + x3), .inl r1] g6) (fun g7 =>
      am_run ct 170 n 12 [some (.inr (.inr (29, 0))), some (.inl x1), some (.inl x2), some (.inl r1), some (.inl x3), some (.inl r2), some (.inl r3), some (.inl r1), some (.inl r2), some (.inl r3)] [] g7))
    else
      (am_bv (ct 142 [.inr (.inr (29, 0)), .inl ((24 : Int32) + x3), .inl (-2 : Int32)] g6) (fun g8 =>
      am_run ct 170 n 12 [some (.inr (.inr (29, 0))), some (.inl x1), some (.inl x2), some (.inl r1), some (.inl x3), some (.inl r2), some (.inl r3), some (.inl r1), some (.inl r2), some (.inl r3)] [] g8))))))))) := rfl
set_option maxRecDepth 50000 in
theorem eM_links_0 (ct : am_T) (n : Nat) (x1 : Int32) (x2 : Int32) (x3 : Int32) (x4 : Int32) (g : am_G) : am_run ct 171 (n + 1) 0 [some (.inr (.inr (29, 0))), some (.inl x1), some (.inl x2), some (.inl x3), some (.inl x4)] [] g =
  am_bi (ct 170 [.inr (.inr (29, 0)), .inl x1] g) (fun r1 g1 =>
  am_bi (ct 169 [.inr (.inr (29, 0)), .inl x2] g1) (fun r2 g2 =>
  am_bv (ct 142 [.inr (.inr (29, 0)), .inl ((0 : Int32) + x1), .inl x2] g2) (fun g3 =>
  am_bv (ct 142 [.inr (.inr (29, 0)), .inl ((48 : Int32) + x1), .inl x3] g3) (fun g4 =>
  am_bv (ct 142 [.inr (.inr (29, 0)), .inl ((72 : Int32) + x1), .inl x4] g4) (fun g5 =>
  some (none, g5)))))) := rfl
set_option maxRecDepth 50000 in
theorem eM_walks_0 (ct : am_T) (n : Nat) (x1 : Int32) (x2 : Int32) (g : am_G) : am_run ct 172 (n + 1) 0 [some (.inr (.inr (29, 0))), some (.inl x1), some (.inl x2), none] [] g =
  am_bi (ct 170 [.inr (.inr (29, 0)), .inl x1] g) (fun r1 g1 =>
  am_bi (ct 169 [.inr (.inr (29, 0)), .inl x2] g1) (fun r2 g2 =>
  some (some (.inl (r1 + r2)), g2))) := rfl
set_option maxRecDepth 50000 in
theorem eM_cuts_0 (ct : am_T) (n : Nat) (x1 : Int32) (x2 : Int32) (g : am_G) : am_run ct 173 (n + 1) 0 [some (.inr (.inr (29, 0))), some (.inl x1), some (.inl x2)] [] g =
  am_bi (ct 172 [.inr (.inr (29, 0)), .inl x1, .inl x2] g) (fun r1 g1 =>
  am_bv (ct 152 [.inr (.inr (29, 0)), .inl x2] g1) (fun g2 =>
  am_bv (ct 142 [.inr (.inr (29, 0)), .inl ((24 : Int32) + x1), .inl (-2 : Int32)] g2) (fun g3 =>
  some (none, g3)))) := rfl
set_option maxRecDepth 50000 in
theorem eM_dearestTo_0 (ct : am_T) (n : Nat) (x1 : Int32) (g : am_G) : am_run ct 174 (n + 1) 0 [some (.inr (.inr (29, 0))), some (.inl x1), none, none] [] g =
  am_run ct 174 n 4 [some (.inr (.inr (29, 0))), some (.inl x1), some (.inl (-1 : Int32)), some (.inl x1)] [] g := rfl
set_option maxRecDepth 50000 in
theorem eM_dearestTo_4 (ct : am_T) (n : Nat) (x1 : Int32) (x2 : Int32) (x3 : Int32) (g : am_G) : am_run ct 174 (n + 1) 4 [some (.inr (.inr (29, 0))), some (.inl x1), some (.inl x2), some (.inl x3)] [] g =
  am_bi (ct 150 [.inr (.inr (29, 0)), .inl x3] g) (fun r1 g1 =>
  if r1 < 0 then
    (some (some (.inl x2), g1))
  else
    (if x2 < 0 then
      (am_bi (ct 150 [.inr (.inr (29, 0)), .inl x3] g1) (fun r2 g2 =>
      am_run ct 174 n 4 [some (.inr (.inr (29, 0))), some (.inl x1), some (.inl x3), some (.inl r2)] [] g2))
    else
      (am_bi (ct 141 [.inr (.inr (29, 0)), .inl ((48 : Int32) + x3)] g1) (fun r3 g3 =>
      am_bi (ct 141 [.inr (.inr (29, 0)), .inl ((48 : Int32) + x2)] g3) (fun r4 g4 =>
      if r3 < r4 then
        (am_bi (ct 150 [.inr (.inr (29, 0)), .inl x3] g4) (fun r5 g5 =>
        am_run ct 174 n 4 [some (.inr (.inr (29, 0))), some (.inl x1), some (.inl x2), some (.inl r5)] [] g5))
      else
        (am_bi (ct 150 [.inr (.inr (29, 0)), .inl x3] g4) (fun r6 g6 =>
        am_run ct 174 n 4 [some (.inr (.inr (29, 0))), some (.inl x1), some (.inl x3), some (.inl r6)] [] g6))))))) := rfl
set_option maxRecDepth 50000 in
theorem eM_cutsDearest_0 (ct : am_T) (n : Nat) (x1 : Int32) (x2 : Int32) (g : am_G) : am_run ct 175 (n + 1) 0 [some (.inr (.inr (29, 0))), some (.inl x1), some (.inl x2), none, none] [] g =
  am_bi (ct 172 [.inr (.inr (29, 0)), .inl x1, .inl x2] g) (fun r1 g1 =>
  am_bi (ct 174 [.inr (.inr (29, 0)), .inl x2] g1) (fun r2 g2 =>
  am_bi (ct 141 [.inr (.inr (29, 0)), .inl ((48 : Int32) + r2)] g2) (fun r3 g3 =>
  am_bi (ct 150 [.inr (.inr (29, 0)), .inl r2] g3) (fun r4 g4 =>
  am_bv (ct 173 [.inr (.inr (29, 0)), .inl r4, .inl r2] g4) (fun g5 =>
  some (some (.inl r3), g5)))))) := rfl
set_option maxRecDepth 50000 in
theorem eM_touch_0 (ct : am_T) (n : Nat) (x1 : Int32) (g : am_G) : am_run ct 176 (n + 1) 0 [some (.inr (.inr (29, 0))), some (.inl x1)] [] g =
  am_bi (ct 148 [.inr (.inr (29, 0)), .inl x1] (am_put g 131 0 (0 : Int32))) (fun r1 g1 =>
  if r1 = 0 then
    (some (some (.inl (-1 : Int32)), g1))
  else
    (am_bv (ct 144 [.inr (.inr (29, 0))] g1) (fun g2 =>
    am_bi (ct 169 [.inr (.inr (29, 0)), .inl x1] g2) (fun r3 g3 =>
    some (some (.inl r3), g3))))) := rfl
set_option maxRecDepth 50000 in
theorem eM_reroot_0 (ct : am_T) (n : Nat) (x1 : Int32) (g : am_G) : am_run ct 177 (n + 1) 0 [some (.inr (.inr (29, 0))), some (.inl x1)] [] g =
  am_bi (ct 148 [.inr (.inr (29, 0)), .inl x1] (am_put g 131 0 (0 : Int32))) (fun r1 g1 =>
  if r1 = 0 then
    (some (some (.inl (-1 : Int32)), g1))
  else
    (am_bv (ct 144 [.inr (.inr (29, 0))] g1) (fun g2 =>
    am_bi (ct 170 [.inr (.inr (29, 0)), .inl x1] g2) (fun r3 g3 =>
    some (some (.inl r3), g3))))) := rfl
set_option maxRecDepth 50000 in
theorem eM_isLength_0 (ct : am_T) (n : Nat) (x0 : Int32) (g : am_G) : am_run ct 178 (n + 1) 0 [some (.inl x0)] [] g =
  am_bi (ct 134 [.inl x0, .inl (1 : Int32), .inl (9999 : Int32)] g) (fun r1 g1 =>
  bif am_01 r1 then some (some (.inl r1), g1) else none) := rfl
set_option maxRecDepth 50000 in
theorem eM_size_0 (ct : am_T) (n : Nat) (x1 : Int32) (g : am_G) : am_run ct 179 (n + 1) 0 [some (.inr (.inr (29, 0))), some (.inl x1), none, none] [] g =
  am_run ct 179 n 4 [some (.inr (.inr (29, 0))), some (.inl x1), some (.inl (0 : Int32)), some (.inl (0 : Int32))] [] g := rfl
set_option maxRecDepth 50000 in
theorem eM_size_4 (ct : am_T) (n : Nat) (x1 : Int32) (x2 : Int32) (x3 : Int32) (g : am_G) : am_run ct 179 (n + 1) 4 [some (.inr (.inr (29, 0))), some (.inl x1), some (.inl x2), some (.inl x3)] [] g =
  if (g 142 0 0) ≤ x3 then
    (some (some (.inl x2), g))
  else
    (am_bi (ct 180 [.inr (.inr (29, 0)), .inl x1, .inl x3] g) (fun r1 g1 =>
    if r1 = 0 then
      (am_run ct 179 n 4 [some (.inr (.inr (29, 0))), some (.inl x1), some (.inl (x2 + (0 : Int32))), some (.inl (x3 + 1))] [] g1)
    else
      (am_run ct 179 n 4 [some (.inr (.inr (29, 0))), some (.inl x1), some (.inl (x2 + (1 : Int32))), some (.inl (x3 + 1))] [] g1))) := rfl
set_option maxRecDepth 50000 in
theorem eM_isAbove_0 (ct : am_T) (n : Nat) (x1 : Int32) (x2 : Int32) (g : am_G) : am_run ct 180 (n + 1) 0 [some (.inr (.inr (29, 0))), some (.inl x1), some (.inl x2), none] [] g =
  am_run ct 180 n 2 [some (.inr (.inr (29, 0))), some (.inl x1), some (.inl x2), some (.inl x2)] [] g := rfl
set_option maxRecDepth 50000 in
theorem eM_isAbove_2 (ct : am_T) (n : Nat) (x1 : Int32) (x2 : Int32) (x3 : Int32) (g : am_G) : am_run ct 180 (n + 1) 2 [some (.inr (.inr (29, 0))), some (.inl x1), some (.inl x2), some (.inl x3)] [] g =
  if x3 = x1 then
    (if x3 = x1 then
      (some (some (.inl (1 : Int32)), g))
    else
      (some (some (.inl (0 : Int32)), g)))
  else
    (am_bi (ct 150 [.inr (.inr (29, 0)), .inl x3] g) (fun r1 g1 =>
    if r1 < 0 then
      (if x3 = x1 then
        (some (some (.inl (1 : Int32)), g1))
      else
        (some (some (.inl (0 : Int32)), g1)))
    else
      (am_bi (ct 150 [.inr (.inr (29, 0)), .inl x3] g1) (fun r2 g2 =>
      am_run ct 180 n 2 [some (.inr (.inr (29, 0))), some (.inl x1), some (.inl x2), some (.inl r2)] [] g2)))) := rfl
set_option maxRecDepth 50000 in
theorem eM_link_0 (ct : am_T) (n : Nat) (x1 : Int32) (x2 : Int32) (x3 : Int32) (x4 : Int32) (g : am_G) : am_run ct 181 (n + 1) 0 [some (.inr (.inr (29, 0))), some (.inl x1), some (.inl x2), some (.inl x3), some (.inl x4)] [] g =
  am_bi (ct 149 [.inr (.inr (29, 0)), .inl x1, .inl x2] (am_put g 131 0 (0 : Int32))) (fun r1 g1 =>
  if r1 = 0 then
    (some (some (.inl (-1 : Int32)), g1))
  else
    (am_bi (ct 178 [.inl x3] g1) (fun r2 g2 =>
    if r2 = 0 then
      (some (some (.inl (-1 : Int32)), g2))
    else
      (am_bi (ct 178 [.inl x4] g2) (fun r3 g3 =>
      if r3 = 0 then
        (some (some (.inl (-1 : Int32)), g3))
      else
        (am_bi (ct 167 [.inr (.inr (29, 0)), .inl x1, .inl x2] g3) (fun r4 g4 =>
        if r4 = 0 then
          (am_bv (ct 144 [.inr (.inr (29, 0))] g4) (fun g5 =>
          am_bv (ct 171 [.inr (.inr (29, 0)), .inl x1, .inl x2, .inl x3, .inl x4] g5) (fun g6 =>
          am_bi (ct 166 [.inr (.inr (29, 0)), .inl x1] g6) (fun r7 g7 =>
          am_bi (ct 179 [.inr (.inr (29, 0)), .inl r7] g7) (fun r8 g8 =>
          some (some (.inl r8), g8))))))
        else
          (some (some (.inl (-2 : Int32)), g4))))))))) := rfl
set_option maxRecDepth 50000 in
theorem eM_cut_0 (ct : am_T) (n : Nat) (x1 : Int32) (x2 : Int32) (g : am_G) : am_run ct 182 (n + 1) 0 [some (.inr (.inr (29, 0))), some (.inl x1), some (.inl x2), none] [] g =
  am_bi (ct 149 [.inr (.inr (29, 0)), .inl x1, .inl x2] (am_put g 131 0 (0 : Int32))) (fun r1 g1 =>
  if r1 = 0 then
    (some (some (.inl (-1 : Int32)), g1))
  else
    (am_bi (ct 150 [.inr (.inr (29, 0)), .inl x1] g1) (fun r2 g2 =>
    if r2 = x2 then
      (am_bv (ct 144 [.inr (.inr (29, 0))] g2) (fun g3 =>
      am_bi (ct 150 [.inr (.inr (29, 0)), .inl x1] g3) (fun r4 g4 =>
      if r4 = x2 then
        (am_bi (ct 141 [.inr (.inr (29, 0)), .inl ((48 : Int32) + x1)] g4) (fun r7 g7 =>
        am_bv (ct 173 [.inr (.inr (29, 0)), .inl x1, .inl x2] g7) (fun g8 =>
        some (some (.inl r7), g8))))
      else
        (am_bi (ct 141 [.inr (.inr (29, 0)), .inl ((48 : Int32) + x2)] g4) (fun r5 g5 =>
        am_bv (ct 173 [.inr (.inr (29, 0)), .inl x1, .inl x2] g5) (fun g6 =>
        some (some (.inl r5), g6)))))))
    else
      (am_bi (ct 150 [.inr (.inr (29, 0)), .inl x2] g2) (fun r9 g9 =>
      if r9 = x1 then
        (am_bv (ct 144 [.inr (.inr (29, 0))] g9) (fun g10 =>
        am_bi (ct 150 [.inr (.inr (29, 0)), .inl x1] g10) (fun r11 g11 =>
        if r11 = x2 then
          (am_bi (ct 141 [.inr (.inr (29, 0)), .inl ((48 : Int32) + x1)] g11) (fun r14 g14 =>
          am_bv (ct 173 [.inr (.inr (29, 0)), .inl x1, .inl x2] g14) (fun g15 =>
          some (some (.inl r14), g15))))
        else
          (am_bi (ct 141 [.inr (.inr (29, 0)), .inl ((48 : Int32) + x2)] g11) (fun r12 g12 =>
          am_bv (ct 173 [.inr (.inr (29, 0)), .inl x1, .inl x2] g12) (fun g13 =>
          some (some (.inl r12), g13)))))))
      else
        (some (some (.inl (-2 : Int32)), g9))))))) := rfl
set_option maxRecDepth 50000 in
theorem eM_walk_0 (ct : am_T) (n : Nat) (x1 : Int32) (x2 : Int32) (g : am_G) : am_run ct 183 (n + 1) 0 [some (.inr (.inr (29, 0))), some (.inl x1), some (.inl x2), none, none] [] g =
  am_bi (ct 149 [.inr (.inr (29, 0)), .inl x1, .inl x2] (am_put g 131 0 (0 : Int32))) (fun r1 g1 =>
  if r1 = 0 then
    (some (some (.inl (-1 : Int32)), g1))
  else
    (am_bi (ct 167 [.inr (.inr (29, 0)), .inl x1, .inl x2] g1) (fun r2 g2 =>
    if r2 = 0 then
      (some (some (.inl (-2 : Int32)), g2))
    else
      (am_bv (ct 144 [.inr (.inr (29, 0))] g2) (fun g3 =>
      am_run ct 183 n 21 [some (.inr (.inr (29, 0))), some (.inl x1), some (.inl x2), some (.inl (0 : Int32)), none] [] g3))))) := rfl
set_option maxRecDepth 50000 in
theorem eM_walk_21 (ct : am_T) (n : Nat) (x1 : Int32) (x2 : Int32) (x3 : Int32) (g : am_G) : am_run ct 183 (n + 1) 21 [some (.inr (.inr (29, 0))), some (.inl x1), some (.inl x2), some (.inl x3), none] [] g =
  if (9 : Int32) ≤ x3 then
    (am_bi (ct 172 [.inr (.inr (29, 0)), .inl x1, .inl x2] g) (fun r1 g1 =>
    bif am_in (7 : Int32) 9 then
      (am_bi (ct 174 [.inr (.inr (29, 0)), .inl x2] (am_sto g1 35 0 (7 : Int32).toNatClampNeg r1)) (fun r2 g2 =>
    if r2 < 0 then
      (am_run ct 183 n 78 [some (.inr (.inr (29, 0))), some (.inl x1), some (.inl x2), some (.inl r2), some (.inl x2)] [] g2)
    else
      (am_bi (ct 141 [.inr (.inr (29, 0)), .inl ((48 : Int32) + r2)] g2) (fun r3 g3 =>
      bif am_in (1 : Int32) 9 then
        (am_bi (ct 150 [.inr (.inr (29, 0)), .inl r2] (am_sto g3 35 0 (1 : Int32).toNatClampNeg r3)) (fun r4 g4 =>
      bif am_in (2 : Int32) 9 then
        (bif am_in (3 : Int32) 9 then
        (am_run ct 183 n 78 [some (.inr (.inr (29, 0))), some (.inl x1), some (.inl x2), some (.inl r2), some (.inl x2)] [] (am_sto (am_sto g4 35 0 (2 : Int32).toNatClampNeg r4) 35 0 (3 : Int32).toNatClampNeg r2))
      else none)
      else none))
      else none))))
    else none))
  else
    (am_bi (ct 134 [.inl x3, .inl (1 : Int32), .inl (4 : Int32)] g) (fun r5 g5 =>
    if r5 = 0 then
      (if x3 = (8 : Int32) then
        (bif am_in x3 9 then
          (am_run ct 183 n 21 [some (.inr (.inr (29, 0))), some (.inl x1), some (.inl x2), some (.inl (x3 + 1)), none] [] (am_sto g5 35 0 x3.toNatClampNeg (-2 : Int32)))
        else none)
      else
        (bif am_in x3 9 then
          (am_run ct 183 n 21 [some (.inr (.inr (29, 0))), some (.inl x1), some (.inl x2), some (.inl (x3 + 1)), none] [] (am_sto g5 35 0 x3.toNatClampNeg (0 : Int32)))
        else none))
    else
      (bif am_in x3 9 then
        (am_run ct 183 n 21 [some (.inr (.inr (29, 0))), some (.inl x1), some (.inl x2), some (.inl (x3 + 1)), none] [] (am_sto g5 35 0 x3.toNatClampNeg (-2 : Int32)))
      else none))) := rfl
set_option maxRecDepth 50000 in
theorem eM_walk_78 (ct : am_T) (n : Nat) (x1 : Int32) (x2 : Int32) (x3 : Int32) (x4 : Int32) (g : am_G) : am_run ct 183 (n + 1) 78 [some (.inr (.inr (29, 0))), some (.inl x1), some (.inl x2), some (.inl x3), some (.inl x4)] [] g =
  if x4 < 0 then
    (bif am_in (0 : Int32) 9 then
      (some (some (.inl ((am_put g 148 0 (1 : Int32)) 35 0 (0 : Int32).toNatClampNeg)), am_put g 148 0 (1 : Int32)))
    else none)
  else
    (bif am_in (5 : Int32) 9 then
      (am_bi (ct 141 [.inr (.inr (29, 0)), .inl ((96 : Int32) + x4)] g) (fun r1 g1 =>
    bif am_in (5 : Int32) 9 then
      (bif am_in (6 : Int32) 9 then
      (bif am_in (6 : Int32) 9 then
      (am_bi (ct 150 [.inr (.inr (29, 0)), .inl x4] (am_sto (am_sto g1 35 0 (5 : Int32).toNatClampNeg ((g 35 0 (5 : Int32).toNatClampNeg) + r1)) 35 0 (6 : Int32).toNatClampNeg (((am_sto g1 35 0 (5 : Int32).toNatClampNeg ((g 35 0 (5 : Int32).toNatClampNeg) + r1)) 35 0 (6 : Int32).toNatClampNeg) + (1 : Int32)))) (fun r2 g2 =>
    if 0 ≤ r2 then
      (bif am_in (0 : Int32) 9 then
        (am_bi (ct 141 [.inr (.inr (29, 0)), .inl ((48 : Int32) + x4)] g2) (fun r3 g3 =>
      bif am_in (0 : Int32) 9 then
        (bif am_in (4 : Int32) 9 then
        (if ((am_sto g3 35 0 (0 : Int32).toNatClampNeg ((g2 35 0 (0 : Int32).toNatClampNeg) + r3)) 35 0 (4 : Int32).toNatClampNeg) < 0 then
        (am_bi (ct 141 [.inr (.inr (29, 0)), .inl ((72 : Int32) + x4)] (am_sto g3 35 0 (0 : Int32).toNatClampNeg ((g2 35 0 (0 : Int32).toNatClampNeg) + r3))) (fun r4 g4 =>
        bif am_in (4 : Int32) 9 then
          (bif am_in (8 : Int32) 9 then
          (if ((am_sto g4 35 0 (4 : Int32).toNatClampNeg r4) 35 0 (8 : Int32).toNatClampNeg) < 0 then
          (am_bi (ct 141 [.inr (.inr (29, 0)), .inl ((48 : Int32) + x4)] (am_sto g4 35 0 (4 : Int32).toNatClampNeg r4)) (fun r5 g5 =>
          bif am_in (8 : Int32) 9 then
            (am_bi (ct 150 [.inr (.inr (29, 0)), .inl x4] (am_sto g5 35 0 (8 : Int32).toNatClampNeg r5)) (fun r6 g6 =>
          am_run ct 183 n 78 [some (.inr (.inr (29, 0))), some (.inl x1), some (.inl x2), some (.inl x3), some (.inl r6)] [] g6))
          else none))
        else
          (am_bi (ct 141 [.inr (.inr (29, 0)), .inl ((48 : Int32) + x4)] (am_sto g4 35 0 (4 : Int32).toNatClampNeg r4)) (fun r7 g7 =>
          bif am_in (8 : Int32) 9 then
            (if (g7 35 0 (8 : Int32).toNatClampNeg) ≤ r7 then
            (bif am_in (8 : Int32) 9 then
              (bif am_in (8 : Int32) 9 then
              (am_bi (ct 150 [.inr (.inr (29, 0)), .inl x4] (am_sto g7 35 0 (8 : Int32).toNatClampNeg (g7 35 0 (8 : Int32).toNatClampNeg))) (fun r8 g8 =>
            am_run ct 183 n 78 [some (.inr (.inr (29, 0))), some (.inl x1), some (.inl x2), some (.inl x3), some (.inl r8)] [] g8))
            else none)
            else none)
          else
            (am_bi (ct 141 [.inr (.inr (29, 0)), .inl ((48 : Int32) + x4)] g7) (fun r9 g9 =>
            bif am_in (8 : Int32) 9 then
              (am_bi (ct 150 [.inr (.inr (29, 0)), .inl x4] (am_sto g9 35 0 (8 : Int32).toNatClampNeg r9)) (fun r10 g10 =>
            am_run ct 183 n 78 [some (.inr (.inr (29, 0))), some (.inl x1), some (.inl x2), some (.inl x3), some (.inl r10)] [] g10))
            else none)))
          else none)))
        else none)
        else none))
      else
        (am_bi (ct 141 [.inr (.inr (29, 0)), .inl ((72 : Int32) + x4)] (am_sto g3 35 0 (0 : Int32).toNatClampNeg ((g2 35 0 (0 : Int32).toNatClampNeg) + r3))) (fun r11 g11 =>
        bif am_in (4 : Int32) 9 then
          (if (g11 35 0 (4 : Int32).toNatClampNeg) ≤ r11 then
          (bif am_in (4 : Int32) 9 then
            (bif am_in (4 : Int32) 9 then
            (bif am_in (8 : Int32) 9 then
            (if ((am_sto g11 35 0 (4 : Int32).toNatClampNeg (g11 35 0 (4 : Int32).toNatClampNeg)) 35 0 (8 : Int32).toNatClampNeg) < 0 then
            (am_bi (ct 141 [.inr (.inr (29, 0)), .inl ((48 : Int32) + x4)] (am_sto g11 35 0 (4 : Int32).toNatClampNeg (g11 35 0 (4 : Int32).toNatClampNeg))) (fun r12 g12 =>
            bif am_in (8 : Int32) 9 then
              (am_bi (ct 150 [.inr (.inr (29, 0)), .inl x4] (am_sto g12 35 0 (8 : Int32).toNatClampNeg r12)) (fun r13 g13 =>
            am_run ct 183 n 78 [some (.inr (.inr (29, 0))), some (.inl x1), some (.inl x2), some (.inl x3), some (.inl r13)] [] g13))
            else none))
          else
            (am_bi (ct 141 [.inr (.inr (29, 0)), .inl ((48 : Int32) + x4)] (am_sto g11 35 0 (4 : Int32).toNatClampNeg (g11 35 0 (4 : Int32).toNatClampNeg))) (fun r14 g14 =>
            bif am_in (8 : Int32) 9 then
              (if (g14 35 0 (8 : Int32).toNatClampNeg) ≤ r14 then
              (bif am_in (8 : Int32) 9 then
                (bif am_in (8 : Int32) 9 then
                (am_bi (ct 150 [.inr (.inr (29, 0)), .inl x4] (am_sto g14 35 0 (8 : Int32).toNatClampNeg (g14 35 0 (8 : Int32).toNatClampNeg))) (fun r15 g15 =>
              am_run ct 183 n 78 [some (.inr (.inr (29, 0))), some (.inl x1), some (.inl x2), some (.inl x3), some (.inl r15)] [] g15))
              else none)
              else none)
            else
              (am_bi (ct 141 [.inr (.inr (29, 0)), .inl ((48 : Int32) + x4)] g14) (fun r16 g16 =>
              bif am_in (8 : Int32) 9 then
                (am_bi (ct 150 [.inr (.inr (29, 0)), .inl x4] (am_sto g16 35 0 (8 : Int32).toNatClampNeg r16)) (fun r17 g17 =>
              am_run ct 183 n 78 [some (.inr (.inr (29, 0))), some (.inl x1), some (.inl x2), some (.inl x3), some (.inl r17)] [] g17))
              else none)))
            else none)))
          else none)
          else none)
          else none)
        else
          (am_bi (ct 141 [.inr (.inr (29, 0)), .inl ((72 : Int32) + x4)] g11) (fun r18 g18 =>
          bif am_in (4 : Int32) 9 then
            (bif am_in (8 : Int32) 9 then
            (if ((am_sto g18 35 0 (4 : Int32).toNatClampNeg r18) 35 0 (8 : Int32).toNatClampNeg) < 0 then
            (am_bi (ct 141 [.inr (.inr (29, 0)), .inl ((48 : Int32) + x4)] (am_sto g18 35 0 (4 : Int32).toNatClampNeg r18)) (fun r19 g19 =>
            bif am_in (8 : Int32) 9 then
              (am_bi (ct 150 [.inr (.inr (29, 0)), .inl x4] (am_sto g19 35 0 (8 : Int32).toNatClampNeg r19)) (fun r20 g20 =>
            am_run ct 183 n 78 [some (.inr (.inr (29, 0))), some (.inl x1), some (.inl x2), some (.inl x3), some (.inl r20)] [] g20))
            else none))
          else
            (am_bi (ct 141 [.inr (.inr (29, 0)), .inl ((48 : Int32) + x4)] (am_sto g18 35 0 (4 : Int32).toNatClampNeg r18)) (fun r21 g21 =>
            bif am_in (8 : Int32) 9 then
              (if (g21 35 0 (8 : Int32).toNatClampNeg) ≤ r21 then
              (bif am_in (8 : Int32) 9 then
                (bif am_in (8 : Int32) 9 then
                (am_bi (ct 150 [.inr (.inr (29, 0)), .inl x4] (am_sto g21 35 0 (8 : Int32).toNatClampNeg (g21 35 0 (8 : Int32).toNatClampNeg))) (fun r22 g22 =>
              am_run ct 183 n 78 [some (.inr (.inr (29, 0))), some (.inl x1), some (.inl x2), some (.inl x3), some (.inl r22)] [] g22))
              else none)
              else none)
            else
              (am_bi (ct 141 [.inr (.inr (29, 0)), .inl ((48 : Int32) + x4)] g21) (fun r23 g23 =>
              bif am_in (8 : Int32) 9 then
                (am_bi (ct 150 [.inr (.inr (29, 0)), .inl x4] (am_sto g23 35 0 (8 : Int32).toNatClampNeg r23)) (fun r24 g24 =>
              am_run ct 183 n 78 [some (.inr (.inr (29, 0))), some (.inl x1), some (.inl x2), some (.inl x3), some (.inl r24)] [] g24))
              else none)))
            else none)))
          else none)
          else none)))
        else none)))
      else none)
      else none))
      else none)
    else
      (am_bi (ct 150 [.inr (.inr (29, 0)), .inl x4] g2) (fun r25 g25 =>
      am_run ct 183 n 78 [some (.inr (.inr (29, 0))), some (.inl x1), some (.inl x2), some (.inl x3), some (.inl r25)] [] g25))))
    else none)
    else none)
    else none))
    else none) := rfl
set_option maxRecDepth 50000 in
theorem eM_seen_0 (ct : am_T) (n : Nat) (x1 : Int32) (g : am_G) : am_run ct 184 (n + 1) 0 [some (.inr (.inr (29, 0))), some (.inl x1)] [] g =
  am_bi (ct 134 [.inl x1, .inl (0 : Int32), .inl (8 : Int32)] (am_put g 131 0 (0 : Int32))) (fun r1 g1 =>
  if r1 = 0 then
    (some (some (.inl (-1 : Int32)), g1))
  else
    (if (g1 148 0 0) = 0 then
      (some (some (.inl (-3 : Int32)), g1))
    else
      (bif am_in x1 9 then
        (some (some (.inl (g1 35 0 x1.toNatClampNeg)), g1))
      else none))) := rfl
set_option maxRecDepth 50000 in
theorem eM_depth_0 (ct : am_T) (n : Nat) (x1 : Int32) (g : am_G) : am_run ct 185 (n + 1) 0 [some (.inr (.inr (29, 0))), some (.inl x1), none, none] [] g =
  am_run ct 185 n 4 [some (.inr (.inr (29, 0))), some (.inl x1), some (.inl (0 : Int32)), some (.inl x1)] [] g := rfl
set_option maxRecDepth 50000 in
theorem eM_depth_4 (ct : am_T) (n : Nat) (x1 : Int32) (x2 : Int32) (x3 : Int32) (g : am_G) : am_run ct 185 (n + 1) 4 [some (.inr (.inr (29, 0))), some (.inl x1), some (.inl x2), some (.inl x3)] [] g =
  am_bi (ct 150 [.inr (.inr (29, 0)), .inl x3] g) (fun r1 g1 =>
  if r1 < 0 then
    (some (some (.inl x2), g1))
  else
    (am_bi (ct 150 [.inr (.inr (29, 0)), .inl x3] g1) (fun r2 g2 =>
    am_run ct 185 n 4 [some (.inr (.inr (29, 0))), some (.inl x1), some (.inl (x2 + 1)), some (.inl r2)] [] g2))) := rfl
set_option maxRecDepth 50000 in
theorem eM_meetOf_0 (ct : am_T) (n : Nat) (x1 : Int32) (x2 : Int32) (g : am_G) : am_run ct 186 (n + 1) 0 [some (.inr (.inr (29, 0))), some (.inl x1), some (.inl x2), none] [] g =
  am_run ct 186 n 2 [some (.inr (.inr (29, 0))), some (.inl x1), some (.inl x2), some (.inl x1)] [] g := rfl
set_option maxRecDepth 50000 in
theorem eM_meetOf_2 (ct : am_T) (n : Nat) (x1 : Int32) (x2 : Int32) (x3 : Int32) (g : am_G) : am_run ct 186 (n + 1) 2 [some (.inr (.inr (29, 0))), some (.inl x1), some (.inl x2), some (.inl x3)] [] g =
  am_bi (ct 180 [.inr (.inr (29, 0)), .inl x3, .inl x2] g) (fun r1 g1 =>
  if r1 = 0 then
    (am_bi (ct 150 [.inr (.inr (29, 0)), .inl x3] g1) (fun r2 g2 =>
    am_run ct 186 n 2 [some (.inr (.inr (29, 0))), some (.inl x1), some (.inl x2), some (.inl r2)] [] g2))
  else
    (some (some (.inl x3), g1))) := rfl
set_option maxRecDepth 50000 in
theorem eM_meet_0 (ct : am_T) (n : Nat) (x1 : Int32) (x2 : Int32) (g : am_G) : am_run ct 187 (n + 1) 0 [some (.inr (.inr (29, 0))), some (.inl x1), some (.inl x2)] [] g =
  am_bi (ct 149 [.inr (.inr (29, 0)), .inl x1, .inl x2] (am_put g 131 0 (0 : Int32))) (fun r1 g1 =>
  if r1 = 0 then
    (some (some (.inl (-1 : Int32)), g1))
  else
    (am_bi (ct 167 [.inr (.inr (29, 0)), .inl x1, .inl x2] g1) (fun r2 g2 =>
    if r2 = 0 then
      (some (some (.inl (-2 : Int32)), g2))
    else
      (am_bv (ct 144 [.inr (.inr (29, 0))] g2) (fun g3 =>
      am_bi (ct 169 [.inr (.inr (29, 0)), .inl x1] g3) (fun r4 g4 =>
      am_bi (ct 169 [.inr (.inr (29, 0)), .inl x2] g4) (fun r5 g5 =>
      am_bi (ct 186 [.inr (.inr (29, 0)), .inl x1, .inl x2] g5) (fun r6 g6 =>
      some (some (.inl r6), g6))))))))) := rfl
set_option maxRecDepth 50000 in
theorem eM_raise_0 (ct : am_T) (n : Nat) (x1 : Int32) (x2 : Int32) (x3 : Int32) (g : am_G) : am_run ct 188 (n + 1) 0 [some (.inr (.inr (29, 0))), some (.inl x1), some (.inl x2), some (.inl x3), none, none, none] [] g =
  am_bi (ct 149 [.inr (.inr (29, 0)), .inl x1, .inl x2] (am_put g 131 0 (0 : Int32))) (fun r1 g1 =>
  if r1 = 0 then
    (some (some (.inl (-1 : Int32)), g1))
  else
    (am_bi (ct 134 [.inl x3, .inl (-9999 : Int32), .inl (9999 : Int32)] g1) (fun r2 g2 =>
    if r2 = 0 then
      (some (some (.inl (-1 : Int32)), g2))
    else
      (am_bi (ct 167 [.inr (.inr (29, 0)), .inl x1, .inl x2] g2) (fun r3 g3 =>
      if r3 = 0 then
        (some (some (.inl (-2 : Int32)), g3))
      else
        (am_bv (ct 143 [.inr (.inr (29, 0)), .inl (0 : Int32), .inl (1 : Int32)] g3) (fun g4 =>
        am_bi (ct 172 [.inr (.inr (29, 0)), .inl x1, .inl x2] (am_put g4 139 0 (1 : Int32))) (fun r5 g5 =>
        am_run ct 188 n 40 [some (.inr (.inr (29, 0))), some (.inl x1), some (.inl x2), some (.inl x3), some (.inl (0 : Int32)), some (.inl (1 : Int32)), some (.inl x2)] [] g5)))))))) := rfl
set_option maxRecDepth 50000 in
theorem eM_raise_40 (ct : am_T) (n : Nat) (x1 : Int32) (x2 : Int32) (x3 : Int32) (x4 : Int32) (x5 : Int32) (x6 : Int32) (g : am_G) : am_run ct 188 (n + 1) 40 [some (.inr (.inr (29, 0))), some (.inl x1), some (.inl x2), some (.inl x3), some (.inl x4), some (.inl x5), some (.inl x6)] [] g =
  am_bi (ct 150 [.inr (.inr (29, 0)), .inl x6] g) (fun r1 g1 =>
  if r1 < 0 then
    (if x5 = 0 then
      (some (some (.inl (-3 : Int32)), am_put g1 139 0 (0 : Int32)))
    else
      (am_bv (ct 144 [.inr (.inr (29, 0))] (am_put g1 139 0 (0 : Int32))) (fun g2 =>
      am_bv (ct 143 [.inr (.inr (29, 0)), .inl (1 : Int32), .inl (0 : Int32)] g2) (fun g3 =>
      some (some (.inl x4), g3)))))
  else
    (if x5 = 0 then
      (am_bi (ct 141 [.inr (.inr (29, 0)), .inl ((48 : Int32) + x6)] g1) (fun r4 g4 =>
      am_bv (ct 142 [.inr (.inr (29, 0)), .inl ((48 : Int32) + x6), .inl (r4 + x3)] g4) (fun g5 =>
      am_bi (ct 150 [.inr (.inr (29, 0)), .inl x6] g5) (fun r6 g6 =>
      am_run ct 188 n 40 [some (.inr (.inr (29, 0))), some (.inl x1), some (.inl x2), some (.inl x3), some (.inl (x4 + 1)), some (.inl (0 : Int32)), some (.inl r6)] [] g6))))
    else
      (am_bi (ct 141 [.inr (.inr (29, 0)), .inl ((48 : Int32) + x6)] g1) (fun r7 g7 =>
      am_bi (ct 178 [.inl (r7 + x3)] g7) (fun r8 g8 =>
      if r8 = 0 then
        (am_bi (ct 141 [.inr (.inr (29, 0)), .inl ((48 : Int32) + x6)] g8) (fun r9 g9 =>
        am_bv (ct 142 [.inr (.inr (29, 0)), .inl ((48 : Int32) + x6), .inl (r9 + x3)] g9) (fun g10 =>
        am_bi (ct 150 [.inr (.inr (29, 0)), .inl x6] g10) (fun r11 g11 =>
        am_run ct 188 n 40 [some (.inr (.inr (29, 0))), some (.inl x1), some (.inl x2), some (.inl x3), some (.inl (x4 + 1)), some (.inl (0 : Int32)), some (.inl r11)] [] g11))))
      else
        (am_bi (ct 141 [.inr (.inr (29, 0)), .inl ((48 : Int32) + x6)] g8) (fun r12 g12 =>
        am_bv (ct 142 [.inr (.inr (29, 0)), .inl ((48 : Int32) + x6), .inl (r12 + x3)] g12) (fun g13 =>
        am_bi (ct 150 [.inr (.inr (29, 0)), .inl x6] g13) (fun r14 g14 =>
        am_run ct 188 n 40 [some (.inr (.inr (29, 0))), some (.inl x1), some (.inl x2), some (.inl x3), some (.inl (x4 + 1)), some (.inl (1 : Int32)), some (.inl r14)] [] g14))))))))) := rfl
set_option maxRecDepth 50000 in
theorem eM_send_0 (ct : am_T) (n : Nat) (x1 : Int32) (x2 : Int32) (x3 : Int32) (g : am_G) : am_run ct 189 (n + 1) 0 [some (.inr (.inr (29, 0))), some (.inl x1), some (.inl x2), some (.inl x3), none, none, none] [] g =
  am_bi (ct 149 [.inr (.inr (29, 0)), .inl x1, .inl x2] (am_put g 131 0 (0 : Int32))) (fun r1 g1 =>
  if r1 = 0 then
    (some (some (.inl (-1 : Int32)), g1))
  else
    (am_bi (ct 134 [.inl x3, .inl (-9999 : Int32), .inl (9999 : Int32)] g1) (fun r2 g2 =>
    if r2 = 0 then
      (some (some (.inl (-1 : Int32)), g2))
    else
      (am_bi (ct 167 [.inr (.inr (29, 0)), .inl x1, .inl x2] g2) (fun r3 g3 =>
      if r3 = 0 then
        (some (some (.inl (-2 : Int32)), g3))
      else
        (am_bv (ct 143 [.inr (.inr (29, 0)), .inl (0 : Int32), .inl (1 : Int32)] g3) (fun g4 =>
        am_bi (ct 172 [.inr (.inr (29, 0)), .inl x1, .inl x2] (am_put g4 139 0 (1 : Int32))) (fun r5 g5 =>
        am_run ct 189 n 40 [some (.inr (.inr (29, 0))), some (.inl x1), some (.inl x2), some (.inl x3), some (.inl (0 : Int32)), some (.inl (1 : Int32)), some (.inl x2)] [] g5)))))))) := rfl
set_option maxRecDepth 50000 in
theorem eM_send_40 (ct : am_T) (n : Nat) (x1 : Int32) (x2 : Int32) (x3 : Int32) (x4 : Int32) (x5 : Int32) (x6 : Int32) (g : am_G) : am_run ct 189 (n + 1) 40 [some (.inr (.inr (29, 0))), some (.inl x1), some (.inl x2), some (.inl x3), some (.inl x4), some (.inl x5), some (.inl x6)] [] g =
  am_bi (ct 150 [.inr (.inr (29, 0)), .inl x6] g) (fun r1 g1 =>
  if r1 < 0 then
    (if x5 = 0 then
      (some (some (.inl (-3 : Int32)), am_put g1 139 0 (0 : Int32)))
    else
      (am_bv (ct 144 [.inr (.inr (29, 0))] (am_put g1 139 0 (0 : Int32))) (fun g2 =>
      am_bv (ct 143 [.inr (.inr (29, 0)), .inl (1 : Int32), .inl (0 : Int32)] g2) (fun g3 =>
      some (some (.inl x4), g3)))))
  else
    (if x5 = 0 then
      (am_bi (ct 141 [.inr (.inr (29, 0)), .inl ((72 : Int32) + x6)] g1) (fun r4 g4 =>
      am_bv (ct 142 [.inr (.inr (29, 0)), .inl ((72 : Int32) + x6), .inl (r4 - x3)] g4) (fun g5 =>
      am_bi (ct 150 [.inr (.inr (29, 0)), .inl x6] g5) (fun r6 g6 =>
      am_run ct 189 n 40 [some (.inr (.inr (29, 0))), some (.inl x1), some (.inl x2), some (.inl x3), some (.inl (x4 + 1)), some (.inl (0 : Int32)), some (.inl r6)] [] g6))))
    else
      (am_bi (ct 141 [.inr (.inr (29, 0)), .inl ((72 : Int32) + x6)] g1) (fun r7 g7 =>
      am_bi (ct 134 [.inl (r7 - x3), .inl (0 : Int32), .inl (9999 : Int32)] g7) (fun r8 g8 =>
      if r8 = 0 then
        (am_bi (ct 141 [.inr (.inr (29, 0)), .inl ((72 : Int32) + x6)] g8) (fun r9 g9 =>
        am_bv (ct 142 [.inr (.inr (29, 0)), .inl ((72 : Int32) + x6), .inl (r9 - x3)] g9) (fun g10 =>
        am_bi (ct 150 [.inr (.inr (29, 0)), .inl x6] g10) (fun r11 g11 =>
        am_run ct 189 n 40 [some (.inr (.inr (29, 0))), some (.inl x1), some (.inl x2), some (.inl x3), some (.inl (x4 + 1)), some (.inl (0 : Int32)), some (.inl r11)] [] g11))))
      else
        (am_bi (ct 141 [.inr (.inr (29, 0)), .inl ((72 : Int32) + x6)] g8) (fun r12 g12 =>
        am_bv (ct 142 [.inr (.inr (29, 0)), .inl ((72 : Int32) + x6), .inl (r12 - x3)] g12) (fun g13 =>
        am_bi (ct 150 [.inr (.inr (29, 0)), .inl x6] g13) (fun r14 g14 =>
        am_run ct 189 n 40 [some (.inr (.inr (29, 0))), some (.inl x1), some (.inl x2), some (.inl x3), some (.inl (x4 + 1)), some (.inl (1 : Int32)), some (.inl r14)] [] g14))))))))) := rfl
set_option maxRecDepth 50000 in
theorem eM_settles_0 (ct : am_T) (n : Nat) (x1 : Int32) (g : am_G) : am_run ct 190 (n + 1) 0 [some (.inr (.inr (29, 0))), some (.inl x1), none, none] [] g =
  am_run ct 190 n 4 [some (.inr (.inr (29, 0))), some (.inl x1), some (.inl (0 : Int32)), some (.inl (0 : Int32))] [] g := rfl
set_option maxRecDepth 50000 in
theorem eM_settles_4 (ct : am_T) (n : Nat) (x1 : Int32) (x2 : Int32) (x3 : Int32) (g : am_G) : am_run ct 190 (n + 1) 4 [some (.inr (.inr (29, 0))), some (.inl x1), some (.inl x2), some (.inl x3)] [] g =
  if (g 142 0 0) ≤ x3 then
    (some (some (.inl x2), g))
  else
    (am_bi (ct 167 [.inr (.inr (29, 0)), .inl x3, .inl x1] g) (fun r1 g1 =>
    if r1 = 0 then
      (am_run ct 190 n 4 [some (.inr (.inr (29, 0))), some (.inl x1), some (.inl x2), some (.inl (x3 + 1))] [] g1)
    else
      (am_bi (ct 151 [.inr (.inr (29, 0)), .inl x3] g1) (fun r2 g2 =>
      am_bi (ct 218 [.inr (.inr (29, 0)), .inl x3] g2) (fun r3 g3 =>
      if r2 = r3 then
        (am_run ct 190 n 4 [some (.inr (.inr (29, 0))), some (.inl x1), some (.inl x2), some (.inl (x3 + 1))] [] g3)
      else
        (am_bi (ct 218 [.inr (.inr (29, 0)), .inl x3] g3) (fun r4 g4 =>
        am_bv (ct 142 [.inr (.inr (29, 0)), .inl ((24 : Int32) + x3), .inl r4] g4) (fun g5 =>
        am_run ct 190 n 4 [some (.inr (.inr (29, 0))), some (.inl x1), some (.inl (x2 + 1)), some (.inl (x3 + 1))] [] g5)))))))) := rfl
set_option maxRecDepth 50000 in
theorem eM_settle_0 (ct : am_T) (n : Nat) (x1 : Int32) (g : am_G) : am_run ct 191 (n + 1) 0 [some (.inr (.inr (29, 0))), some (.inl x1)] [] g =
  am_bi (ct 148 [.inr (.inr (29, 0)), .inl x1] (am_put g 131 0 (0 : Int32))) (fun r1 g1 =>
  if r1 = 0 then
    (some (some (.inl (-1 : Int32)), g1))
  else
    (am_bv (ct 144 [.inr (.inr (29, 0))] g1) (fun g2 =>
    am_bi (ct 190 [.inr (.inr (29, 0)), .inl x1] g2) (fun r3 g3 =>
    some (some (.inl r3), g3))))) := rfl
set_option maxRecDepth 50000 in
theorem eM_cutDearest_0 (ct : am_T) (n : Nat) (x1 : Int32) (x2 : Int32) (g : am_G) : am_run ct 192 (n + 1) 0 [some (.inr (.inr (29, 0))), some (.inl x1), some (.inl x2)] [] g =
  am_bi (ct 149 [.inr (.inr (29, 0)), .inl x1, .inl x2] (am_put g 131 0 (0 : Int32))) (fun r1 g1 =>
  if r1 = 0 then
    (some (some (.inl (-1 : Int32)), g1))
  else
    (if x1 = x2 then
      (some (some (.inl (-2 : Int32)), g1))
    else
      (am_bi (ct 167 [.inr (.inr (29, 0)), .inl x1, .inl x2] g1) (fun r2 g2 =>
      if r2 = 0 then
        (some (some (.inl (-2 : Int32)), g2))
      else
        (am_bv (ct 144 [.inr (.inr (29, 0))] g2) (fun g3 =>
        am_bi (ct 175 [.inr (.inr (29, 0)), .inl x1, .inl x2] g3) (fun r4 g4 =>
        some (some (.inl r4), g4)))))))) := rfl
set_option maxRecDepth 50000 in
theorem eM_exchange_0 (ct : am_T) (n : Nat) (x1 : Int32) (x2 : Int32) (x3 : Int32) (x4 : Int32) (g : am_G) : am_run ct 193 (n + 1) 0 [some (.inr (.inr (29, 0))), some (.inl x1), some (.inl x2), some (.inl x3), some (.inl x4), none] [] g =
  am_bi (ct 149 [.inr (.inr (29, 0)), .inl x1, .inl x2] (am_put g 131 0 (0 : Int32))) (fun r1 g1 =>
  if r1 = 0 then
    (some (some (.inl (-1 : Int32)), g1))
  else
    (am_bi (ct 178 [.inl x3] g1) (fun r2 g2 =>
    if r2 = 0 then
      (some (some (.inl (-1 : Int32)), g2))
    else
      (am_bi (ct 178 [.inl x4] g2) (fun r3 g3 =>
      if r3 = 0 then
        (some (some (.inl (-1 : Int32)), g3))
      else
        (if x1 = x2 then
          (some (some (.inl (-2 : Int32)), g3))
        else
          (am_bv (ct 143 [.inr (.inr (29, 0)), .inl (0 : Int32), .inl (1 : Int32)] g3) (fun g4 =>
          am_bi (ct 167 [.inr (.inr (29, 0)), .inl x1, .inl x2] (am_put g4 139 0 (1 : Int32))) (fun r5 g5 =>
          if r5 = 0 then
            (am_bv (ct 171 [.inr (.inr (29, 0)), .inl x1, .inl x2, .inl x3, .inl x4] g5) (fun g6 =>
            if (0 : Int32) ≤ 0 then
              (am_bv (ct 144 [.inr (.inr (29, 0))] (am_put g6 139 0 (0 : Int32))) (fun g7 =>
              am_bv (ct 143 [.inr (.inr (29, 0)), .inl (1 : Int32), .inl (0 : Int32)] g7) (fun g8 =>
              some (some (.inl (0 : Int32)), g8))))
            else
              (if x3 < (0 : Int32) then
                (am_bv (ct 144 [.inr (.inr (29, 0))] (am_put g6 139 0 (0 : Int32))) (fun g9 =>
                am_bv (ct 143 [.inr (.inr (29, 0)), .inl (1 : Int32), .inl (0 : Int32)] g9) (fun g10 =>
                some (some (.inl (0 : Int32)), g10))))
              else
                (some (some (.inl (-2 : Int32)), am_put g6 139 0 (0 : Int32))))))
          else
            (am_bi (ct 175 [.inr (.inr (29, 0)), .inl x1, .inl x2] g5) (fun r11 g11 =>
            am_bv (ct 171 [.inr (.inr (29, 0)), .inl x1, .inl x2, .inl x3, .inl x4] g11) (fun g12 =>
            if r11 ≤ 0 then
              (am_bv (ct 144 [.inr (.inr (29, 0))] (am_put g12 139 0 (0 : Int32))) (fun g13 =>
              am_bv (ct 143 [.inr (.inr (29, 0)), .inl (1 : Int32), .inl (0 : Int32)] g13) (fun g14 =>
              some (some (.inl r11), g14))))
            else
              (if x3 < r11 then
                (am_bv (ct 144 [.inr (.inr (29, 0))] (am_put g12 139 0 (0 : Int32))) (fun g15 =>
                am_bv (ct 143 [.inr (.inr (29, 0)), .inl (1 : Int32), .inl (0 : Int32)] g15) (fun g16 =>
                some (some (.inl r11), g16))))
              else
                (some (some (.inl (-2 : Int32)), am_put g12 139 0 (0 : Int32)))))))))))))))) := rfl
set_option maxRecDepth 50000 in
theorem eM_shed_0 (ct : am_T) (n : Nat) (x1 : Int32) (g : am_G) : am_run ct 194 (n + 1) 0 [some (.inr (.inr (29, 0))), some (.inl x1), none] [] g =
  am_bi (ct 148 [.inr (.inr (29, 0)), .inl x1] (am_put g 131 0 (0 : Int32))) (fun r1 g1 =>
  if r1 = 0 then
    (some (some (.inl (-1 : Int32)), g1))
  else
    (am_bi (ct 150 [.inr (.inr (29, 0)), .inl x1] g1) (fun r2 g2 =>
    if 0 ≤ r2 then
      (am_bv (ct 144 [.inr (.inr (29, 0))] g2) (fun g3 =>
      am_bi (ct 141 [.inr (.inr (29, 0)), .inl ((48 : Int32) + x1)] g3) (fun r4 g4 =>
      am_bi (ct 150 [.inr (.inr (29, 0)), .inl x1] g4) (fun r5 g5 =>
      am_bv (ct 173 [.inr (.inr (29, 0)), .inl r5, .inl x1] g5) (fun g6 =>
      some (some (.inl r4), g6))))))
    else
      (some (some (.inl (-2 : Int32)), g2))))) := rfl
set_option maxRecDepth 50000 in
theorem eM_value_0 (ct : am_T) (n : Nat) (x1 : Int32) (x2 : Int32) (g : am_G) : am_run ct 195 (n + 1) 0 [some (.inr (.inr (29, 0))), some (.inl x1), some (.inl x2), none] [] g =
  am_bi (ct 148 [.inr (.inr (29, 0)), .inl x1] (am_put g 131 0 (0 : Int32))) (fun r1 g1 =>
  if r1 = 0 then
    (some (some (.inl (-20000 : Int32)), g1))
  else
    (am_bi (ct 134 [.inl x2, .inl (-9999 : Int32), .inl (9999 : Int32)] g1) (fun r2 g2 =>
    if r2 = 0 then
      (some (some (.inl (-20000 : Int32)), g2))
    else
      (am_bv (ct 144 [.inr (.inr (29, 0))] g2) (fun g3 =>
      am_bi (ct 141 [.inr (.inr (29, 0)), .inl ((96 : Int32) + x1)] g3) (fun r4 g4 =>
      am_bv (ct 142 [.inr (.inr (29, 0)), .inl ((96 : Int32) + x1), .inl x2] g4) (fun g5 =>
      some (some (.inl r4), g5)))))))) := rfl
set_option maxRecDepth 50000 in
theorem eM_fails_0 (ct : am_T) (n : Nat) (x1 : Int32) (g : am_G) : am_run ct 196 (n + 1) 0 [some (.inr (.inr (29, 0))), some (.inl x1)] [] g =
  some (some (.inl (0 : Int32)), am_put g 131 0 x1) := rfl
set_option maxRecDepth 50000 in
theorem eM_children_0 (ct : am_T) (n : Nat) (x1 : Int32) (g : am_G) : am_run ct 197 (n + 1) 0 [some (.inr (.inr (29, 0))), some (.inl x1), none, none] [] g =
  am_run ct 197 n 4 [some (.inr (.inr (29, 0))), some (.inl x1), some (.inl (0 : Int32)), some (.inl (0 : Int32))] [] g := rfl
set_option maxRecDepth 50000 in
theorem eM_children_4 (ct : am_T) (n : Nat) (x1 : Int32) (x2 : Int32) (x3 : Int32) (g : am_G) : am_run ct 197 (n + 1) 4 [some (.inr (.inr (29, 0))), some (.inl x1), some (.inl x2), some (.inl x3)] [] g =
  if (g 142 0 0) ≤ x3 then
    (some (some (.inl x2), g))
  else
    (am_bi (ct 150 [.inr (.inr (29, 0)), .inl x3] g) (fun r1 g1 =>
    if r1 = x1 then
      (am_run ct 197 n 4 [some (.inr (.inr (29, 0))), some (.inl x1), some (.inl (x2 + (1 : Int32))), some (.inl (x3 + 1))] [] g1)
    else
      (am_run ct 197 n 4 [some (.inr (.inr (29, 0))), some (.inl x1), some (.inl (x2 + (0 : Int32))), some (.inl (x3 + 1))] [] g1))) := rfl
set_option maxRecDepth 50000 in
theorem eM_under_0 (ct : am_T) (n : Nat) (x1 : Int32) (g : am_G) : am_run ct 198 (n + 1) 0 [some (.inr (.inr (29, 0))), some (.inl x1), none, none] [] g =
  am_run ct 198 n 4 [some (.inr (.inr (29, 0))), some (.inl x1), some (.inl (0 : Int32)), some (.inl (0 : Int32))] [] g := rfl
set_option maxRecDepth 50000 in
theorem eM_under_4 (ct : am_T) (n : Nat) (x1 : Int32) (x2 : Int32) (x3 : Int32) (g : am_G) : am_run ct 198 (n + 1) 4 [some (.inr (.inr (29, 0))), some (.inl x1), some (.inl x2), some (.inl x3)] [] g =
  if (g 142 0 0) ≤ x3 then
    (some (some (.inl x2), g))
  else
    (am_bi (ct 180 [.inr (.inr (29, 0)), .inl x1, .inl x3] g) (fun r1 g1 =>
    if r1 = 0 then
      (am_run ct 198 n 4 [some (.inr (.inr (29, 0))), some (.inl x1), some (.inl (x2 + (0 : Int32))), some (.inl (x3 + 1))] [] g1)
    else
      (am_bi (ct 141 [.inr (.inr (29, 0)), .inl ((96 : Int32) + x3)] g1) (fun r2 g2 =>
      am_run ct 198 n 4 [some (.inr (.inr (29, 0))), some (.inl x1), some (.inl (x2 + r2)), some (.inl (x3 + 1))] [] g2)))) := rfl
set_option maxRecDepth 50000 in
theorem eM_town_0 (ct : am_T) (n : Nat) (x1 : Int32) (x2 : Int32) (g : am_G) : am_run ct 199 (n + 1) 0 [some (.inr (.inr (29, 0))), some (.inl x1), some (.inl x2)] [] g =
  am_bi (ct 148 [.inr (.inr (29, 0)), .inl x1] (am_put g 131 0 (0 : Int32))) (fun r1 g1 =>
  if r1 = 0 then
    (am_bi (ct 196 [.inr (.inr (29, 0)), .inl (1 : Int32)] g1) (fun r13 g13 =>
    some (some (.inl r13), g13)))
  else
    (if x2 = 0 then
      (am_bi (ct 141 [.inr (.inr (29, 0)), .inl ((96 : Int32) + x1)] g1) (fun r2 g2 =>
      some (some (.inl r2), g2)))
    else if x2 = 1 then
      (am_bi (ct 150 [.inr (.inr (29, 0)), .inl x1] g1) (fun r3 g3 =>
      some (some (.inl r3), g3)))
    else if x2 = 2 then
      (am_bi (ct 151 [.inr (.inr (29, 0)), .inl x1] g1) (fun r4 g4 =>
      some (some (.inl r4), g4)))
    else if x2 = 3 then
      (am_bi (ct 166 [.inr (.inr (29, 0)), .inl x1] g1) (fun r5 g5 =>
      some (some (.inl r5), g5)))
    else if x2 = 4 then
      (am_bi (ct 185 [.inr (.inr (29, 0)), .inl x1] g1) (fun r6 g6 =>
      some (some (.inl r6), g6)))
    else if x2 = 5 then
      (am_bi (ct 179 [.inr (.inr (29, 0)), .inl x1] g1) (fun r7 g7 =>
      some (some (.inl r7), g7)))
    else if x2 = 6 then
      (am_bi (ct 198 [.inr (.inr (29, 0)), .inl x1] g1) (fun r8 g8 =>
      some (some (.inl r8), g8)))
    else if x2 = 7 then
      (am_bi (ct 141 [.inr (.inr (29, 0)), .inl ((48 : Int32) + x1)] g1) (fun r9 g9 =>
      some (some (.inl r9), g9)))
    else if x2 = 8 then
      (am_bi (ct 141 [.inr (.inr (29, 0)), .inl ((72 : Int32) + x1)] g1) (fun r10 g10 =>
      some (some (.inl r10), g10)))
    else if x2 = 9 then
      (am_bi (ct 197 [.inr (.inr (29, 0)), .inl x1] g1) (fun r11 g11 =>
      some (some (.inl r11), g11)))
    else (am_bi (ct 196 [.inr (.inr (29, 0)), .inl (2 : Int32)] g1) (fun r12 g12 =>
      some (some (.inl r12), g12))))) := rfl
set_option maxRecDepth 50000 in
theorem eM_isHead_0 (ct : am_T) (n : Nat) (x1 : Int32) (g : am_G) : am_run ct 200 (n + 1) 0 [some (.inr (.inr (29, 0))), some (.inl x1)] [] g =
  am_bi (ct 150 [.inr (.inr (29, 0)), .inl x1] g) (fun r1 g1 =>
  if r1 < 0 then
    (some (some (.inl (1 : Int32)), g1))
  else
    (am_bi (ct 150 [.inr (.inr (29, 0)), .inl x1] g1) (fun r2 g2 =>
    am_bi (ct 151 [.inr (.inr (29, 0)), .inl r2] g2) (fun r3 g3 =>
    if r3 = x1 then
      (some (some (.inl (0 : Int32)), g3))
    else
      (some (some (.inl (1 : Int32)), g3)))))) := rfl
set_option maxRecDepth 50000 in
theorem eM_chain_0 (ct : am_T) (n : Nat) (x1 : Int32) (x2 : Int32) (g : am_G) : am_run ct 201 (n + 1) 0 [some (.inr (.inr (29, 0))), some (.inl x1), some (.inl x2), none, none, none, none, none] [] g =
  am_bi (ct 148 [.inr (.inr (29, 0)), .inl x1] (am_put g 131 0 (0 : Int32))) (fun r1 g1 =>
  if r1 = 0 then
    (some (some (.inl (-1 : Int32)), g1))
  else
    (am_bi (ct 134 [.inl x2, .inl (0 : Int32), .inl (4 : Int32)] g1) (fun r2 g2 =>
    if r2 = 0 then
      (some (some (.inl (-1 : Int32)), g2))
    else
      (am_run ct 201 n 18 [some (.inr (.inr (29, 0))), some (.inl x1), some (.inl x2), some (.inl x1), some (.inl (0 : Int32)), none, none, none] [] g2)))) := rfl
set_option maxRecDepth 50000 in
theorem eM_chain_18 (ct : am_T) (n : Nat) (x1 : Int32) (x2 : Int32) (x3 : Int32) (x4 : Int32) (g : am_G) : am_run ct 201 (n + 1) 18 [some (.inr (.inr (29, 0))), some (.inl x1), some (.inl x2), some (.inl x3), some (.inl x4), none, none, none] [] g =
  am_bi (ct 200 [.inr (.inr (29, 0)), .inl x3] g) (fun r1 g1 =>
  if r1 = 0 then
    (am_bi (ct 150 [.inr (.inr (29, 0)), .inl x3] g1) (fun r2 g2 =>
    am_run ct 201 n 18 [some (.inr (.inr (29, 0))), some (.inl x1), some (.inl x2), some (.inl r2), some (.inl (x4 + 1)), none, none, none] [] g2))
  else
    (am_run ct 201 n 34 [some (.inr (.inr (29, 0))), some (.inl x1), some (.inl x2), some (.inl x3), some (.inl x4), some (.inl x3), some (.inl (1 : Int32)), some (.inl (0 : Int32))] [] g1)) := rfl
set_option maxRecDepth 50000 in
theorem eM_chain_34 (ct : am_T) (n : Nat) (x1 : Int32) (x2 : Int32) (x3 : Int32) (x4 : Int32) (x5 : Int32) (x6 : Int32) (x7 : Int32) (g : am_G) : am_run ct 201 (n + 1) 34 [some (.inr (.inr (29, 0))), some (.inl x1), some (.inl x2), some (.inl x3), some (.inl x4), some (.inl x5), some (.inl x6), some (.inl x7)] [] g =
  am_bi (ct 151 [.inr (.inr (29, 0)), .inl x5] g) (fun r1 g1 =>
  if r1 < 0 then
    (if x2 = 0 then
      (some (some (.inl x3), g1))
    else
      (if x2 = (1 : Int32) then
        (some (some (.inl x5), g1))
      else
        (if x2 = (2 : Int32) then
          (some (some (.inl x6), g1))
        else
          (if x2 = (3 : Int32) then
            (some (some (.inl x4), g1))
          else
            (some (some (.inl x7), g1))))))
  else
    (am_bi (ct 151 [.inr (.inr (29, 0)), .inl x5] g1) (fun r2 g2 =>
    am_bi (ct 141 [.inr (.inr (29, 0)), .inl ((48 : Int32) + r2)] g2) (fun r3 g3 =>
    am_bi (ct 151 [.inr (.inr (29, 0)), .inl x5] g3) (fun r4 g4 =>
    am_run ct 201 n 34 [some (.inr (.inr (29, 0))), some (.inl x1), some (.inl x2), some (.inl x3), some (.inl x4), some (.inl r4), some (.inl (x6 + 1)), some (.inl (x7 + r3))] [] g4))))) := rfl
set_option maxRecDepth 50000 in
theorem eM_above_0 (ct : am_T) (n : Nat) (x1 : Int32) (x2 : Int32) (g : am_G) : am_run ct 202 (n + 1) 0 [some (.inr (.inr (29, 0))), some (.inl x1), some (.inl x2), none, none] [] g =
  am_bi (ct 148 [.inr (.inr (29, 0)), .inl x1] (am_put g 131 0 (0 : Int32))) (fun r1 g1 =>
  if r1 = 0 then
    (some (some (.inl (-1 : Int32)), g1))
  else
    (if 0 ≤ x2 then
      (am_run ct 202 n 15 [some (.inr (.inr (29, 0))), some (.inl x1), some (.inl x2), some (.inl x1), some (.inl (0 : Int32))] [] g1)
    else
      (some (some (.inl (-1 : Int32)), g1)))) := rfl
set_option maxRecDepth 50000 in
theorem eM_above_15 (ct : am_T) (n : Nat) (x1 : Int32) (x2 : Int32) (x3 : Int32) (x4 : Int32) (g : am_G) : am_run ct 202 (n + 1) 15 [some (.inr (.inr (29, 0))), some (.inl x1), some (.inl x2), some (.inl x3), some (.inl x4)] [] g =
  if x2 ≤ x4 then
    (if 0 ≤ x3 then
      (some (some (.inl x3), g))
    else
      (some (some (.inl (-2 : Int32)), g)))
  else
    (if x3 < 0 then
      (if 0 ≤ x3 then
        (some (some (.inl x3), g))
      else
        (some (some (.inl (-2 : Int32)), g)))
    else
      (am_bi (ct 150 [.inr (.inr (29, 0)), .inl x3] g) (fun r1 g1 =>
      am_run ct 202 n 15 [some (.inr (.inr (29, 0))), some (.inl x1), some (.inl x2), some (.inl r1), some (.inl (x4 + 1))] [] g1))) := rfl
set_option maxRecDepth 50000 in
theorem eM_along_0 (ct : am_T) (n : Nat) (x1 : Int32) (x2 : Int32) (x3 : Int32) (g : am_G) : am_run ct 203 (n + 1) 0 [some (.inr (.inr (29, 0))), some (.inl x1), some (.inl x2), some (.inl x3), none, none, none, none, none] [] g =
  am_bi (ct 149 [.inr (.inr (29, 0)), .inl x1, .inl x2] (am_put g 131 0 (0 : Int32))) (fun r1 g1 =>
  if r1 = 0 then
    (some (some (.inl (-1 : Int32)), g1))
  else
    (if 0 ≤ x3 then
      (am_bi (ct 167 [.inr (.inr (29, 0)), .inl x1, .inl x2] g1) (fun r2 g2 =>
      if r2 = 0 then
        (some (some (.inl (-2 : Int32)), g2))
      else
        (am_bi (ct 186 [.inr (.inr (29, 0)), .inl x1, .inl x2] g2) (fun r3 g3 =>
        am_bi (ct 185 [.inr (.inr (29, 0)), .inl x1] g3) (fun r4 g4 =>
        am_bi (ct 185 [.inr (.inr (29, 0)), .inl r3] g4) (fun r5 g5 =>
        am_bi (ct 185 [.inr (.inr (29, 0)), .inl x2] g5) (fun r6 g6 =>
        am_bi (ct 185 [.inr (.inr (29, 0)), .inl r3] g6) (fun r7 g7 =>
        if x3 ≤ (((r4 - r5) + r6) - r7) then
          (if (r4 - r5) < x3 then
            (if (r4 - r5) < x3 then
              (am_run ct 203 n 63 [some (.inr (.inr (29, 0))), some (.inl x1), some (.inl x2), some (.inl x3), some (.inl r3), some (.inl (r4 - r5)), some (.inl (((r4 - r5) + r6) - r7)), some (.inl x2), some (.inl ((((r4 - r5) + r6) - r7) - x3))] [] g7)
            else
              (am_run ct 203 n 63 [some (.inr (.inr (29, 0))), some (.inl x1), some (.inl x2), some (.inl x3), some (.inl r3), some (.inl (r4 - r5)), some (.inl (((r4 - r5) + r6) - r7)), some (.inl x2), some (.inl x3)] [] g7))
          else
            (if (r4 - r5) < x3 then
              (am_run ct 203 n 63 [some (.inr (.inr (29, 0))), some (.inl x1), some (.inl x2), some (.inl x3), some (.inl r3), some (.inl (r4 - r5)), some (.inl (((r4 - r5) + r6) - r7)), some (.inl x1), some (.inl ((((r4 - r5) + r6) - r7) - x3))] [] g7)
            else
              (am_run ct 203 n 63 [some (.inr (.inr (29, 0))), some (.inl x1), some (.inl x2), some (.inl x3), some (.inl r3), some (.inl (r4 - r5)), some (.inl (((r4 - r5) + r6) - r7)), some (.inl x1), some (.inl x3)] [] g7)))
        else
          (some (some (.inl (-2 : Int32)), g7))))))))))
    else
      (some (some (.inl (-1 : Int32)), g1)))) := rfl
set_option maxRecDepth 50000 in
theorem eM_along_63 (ct : am_T) (n : Nat) (x1 : Int32) (x2 : Int32) (x3 : Int32) (x4 : Int32) (x5 : Int32) (x6 : Int32) (x7 : Int32) (x8 : Int32) (g : am_G) : am_run ct 203 (n + 1) 63 [some (.inr (.inr (29, 0))), some (.inl x1), some (.inl x2), some (.inl x3), some (.inl x4), some (.inl x5), some (.inl x6), some (.inl x7), some (.inl x8)] [] g =
  if x8 ≤ 0 then
    (some (some (.inl x7), g))
  else
    (am_bi (ct 150 [.inr (.inr (29, 0)), .inl x7] g) (fun r1 g1 =>
    am_run ct 203 n 63 [some (.inr (.inr (29, 0))), some (.inl x1), some (.inl x2), some (.inl x3), some (.inl x4), some (.inl x5), some (.inl x6), some (.inl r1), some (.inl (x8 + (-1)))] [] g1)) := rfl
set_option maxRecDepth 50000 in
theorem eM_together_0 (ct : am_T) (n : Nat) (x1 : Int32) (x2 : Int32) (g : am_G) : am_run ct 204 (n + 1) 0 [some (.inr (.inr (29, 0))), some (.inl x1), some (.inl x2)] [] g =
  am_bi (ct 149 [.inr (.inr (29, 0)), .inl x1, .inl x2] (am_put g 131 0 (0 : Int32))) (fun r1 g1 =>
  if r1 = 0 then
    (some (some (.inl (-1 : Int32)), g1))
  else
    (am_bi (ct 167 [.inr (.inr (29, 0)), .inl x1, .inl x2] g1) (fun r2 g2 =>
    if r2 = 0 then
      (some (some (.inl (0 : Int32)), g2))
    else
      (some (some (.inl (1 : Int32)), g2))))) := rfl
set_option maxRecDepth 50000 in
theorem eM_farUp_0 (ct : am_T) (n : Nat) (x1 : Int32) (x2 : Int32) (g : am_G) : am_run ct 205 (n + 1) 0 [some (.inr (.inr (29, 0))), some (.inl x1), some (.inl x2), none, none] [] g =
  am_run ct 205 n 4 [some (.inr (.inr (29, 0))), some (.inl x1), some (.inl x2), some (.inl (0 : Int32)), some (.inl x1)] [] g := rfl
set_option maxRecDepth 50000 in
theorem eM_farUp_4 (ct : am_T) (n : Nat) (x1 : Int32) (x2 : Int32) (x3 : Int32) (x4 : Int32) (g : am_G) : am_run ct 205 (n + 1) 4 [some (.inr (.inr (29, 0))), some (.inl x1), some (.inl x2), some (.inl x3), some (.inl x4)] [] g =
  if x4 = x2 then
    (some (some (.inl x3), g))
  else
    (am_bi (ct 141 [.inr (.inr (29, 0)), .inl ((48 : Int32) + x4)] g) (fun r1 g1 =>
    am_bi (ct 150 [.inr (.inr (29, 0)), .inl x4] g1) (fun r2 g2 =>
    am_run ct 205 n 4 [some (.inr (.inr (29, 0))), some (.inl x1), some (.inl x2), some (.inl (x3 + r1)), some (.inl r2)] [] g2))) := rfl
set_option maxRecDepth 50000 in
theorem eM_farOf_0 (ct : am_T) (n : Nat) (x1 : Int32) (x2 : Int32) (g : am_G) : am_run ct 206 (n + 1) 0 [some (.inr (.inr (29, 0))), some (.inl x1), some (.inl x2), none] [] g =
  am_bi (ct 186 [.inr (.inr (29, 0)), .inl x1, .inl x2] g) (fun r1 g1 =>
  am_bi (ct 205 [.inr (.inr (29, 0)), .inl x1, .inl r1] g1) (fun r2 g2 =>
  am_bi (ct 205 [.inr (.inr (29, 0)), .inl x2, .inl r1] g2) (fun r3 g3 =>
  some (some (.inl (r2 + r3)), g3)))) := rfl
set_option maxRecDepth 50000 in
theorem eM_far_0 (ct : am_T) (n : Nat) (x1 : Int32) (x2 : Int32) (g : am_G) : am_run ct 207 (n + 1) 0 [some (.inr (.inr (29, 0))), some (.inl x1), some (.inl x2)] [] g =
  am_bi (ct 149 [.inr (.inr (29, 0)), .inl x1, .inl x2] (am_put g 131 0 (0 : Int32))) (fun r1 g1 =>
  if r1 = 0 then
    (some (some (.inl (-1 : Int32)), g1))
  else
    (am_bi (ct 167 [.inr (.inr (29, 0)), .inl x1, .inl x2] g1) (fun r2 g2 =>
    if r2 = 0 then
      (some (some (.inl (-2 : Int32)), g2))
    else
      (am_bi (ct 206 [.inr (.inr (29, 0)), .inl x1, .inl x2] g2) (fun r3 g3 =>
      some (some (.inl r3), g3)))))) := rfl
set_option maxRecDepth 50000 in
theorem eM_meets_0 (ct : am_T) (n : Nat) (x1 : Int32) (x2 : Int32) (g : am_G) : am_run ct 208 (n + 1) 0 [some (.inr (.inr (29, 0))), some (.inl x1), some (.inl x2)] [] g =
  am_bi (ct 149 [.inr (.inr (29, 0)), .inl x1, .inl x2] (am_put g 131 0 (0 : Int32))) (fun r1 g1 =>
  if r1 = 0 then
    (some (some (.inl (-1 : Int32)), g1))
  else
    (am_bi (ct 167 [.inr (.inr (29, 0)), .inl x1, .inl x2] g1) (fun r2 g2 =>
    if r2 = 0 then
      (some (some (.inl (-2 : Int32)), g2))
    else
      (am_bi (ct 186 [.inr (.inr (29, 0)), .inl x1, .inl x2] g2) (fun r3 g3 =>
      some (some (.inl r3), g3)))))) := rfl
set_option maxRecDepth 50000 in
theorem eM_room_0 (ct : am_T) (n : Nat) (x1 : Int32) (x2 : Int32) (g : am_G) : am_run ct 209 (n + 1) 0 [some (.inr (.inr (29, 0))), some (.inl x1), some (.inl x2), none, none, none] [] g =
  am_bi (ct 149 [.inr (.inr (29, 0)), .inl x1, .inl x2] (am_put g 131 0 (0 : Int32))) (fun r1 g1 =>
  if r1 = 0 then
    (some (some (.inl (-1 : Int32)), g1))
  else
    (if x1 = x2 then
      (some (some (.inl (-2 : Int32)), g1))
    else
      (am_bi (ct 167 [.inr (.inr (29, 0)), .inl x1, .inl x2] g1) (fun r2 g2 =>
      if r2 = 0 then
        (some (some (.inl (-2 : Int32)), g2))
      else
        (am_bi (ct 186 [.inr (.inr (29, 0)), .inl x1, .inl x2] g2) (fun r3 g3 =>
        am_run ct 209 n 29 [some (.inr (.inr (29, 0))), some (.inl x1), some (.inl x2), some (.inl r3), some (.inl (99999 : Int32)), some (.inl x1)] [] g3)))))) := rfl
set_option maxRecDepth 50000 in
theorem eM_room_29 (ct : am_T) (n : Nat) (x1 : Int32) (x2 : Int32) (x3 : Int32) (x4 : Int32) (x5 : Int32) (g : am_G) : am_run ct 209 (n + 1) 29 [some (.inr (.inr (29, 0))), some (.inl x1), some (.inl x2), some (.inl x3), some (.inl x4), some (.inl x5)] [] g =
  if x5 = x3 then
    (am_run ct 209 n 54 [some (.inr (.inr (29, 0))), some (.inl x1), some (.inl x2), some (.inl x3), some (.inl x4), some (.inl x2)] [] g)
  else
    (am_bi (ct 141 [.inr (.inr (29, 0)), .inl ((72 : Int32) + x5)] g) (fun r1 g1 =>
    if x4 ≤ r1 then
      (am_bi (ct 150 [.inr (.inr (29, 0)), .inl x5] g1) (fun r2 g2 =>
      am_run ct 209 n 29 [some (.inr (.inr (29, 0))), some (.inl x1), some (.inl x2), some (.inl x3), some (.inl x4), some (.inl r2)] [] g2))
    else
      (am_bi (ct 141 [.inr (.inr (29, 0)), .inl ((72 : Int32) + x5)] g1) (fun r3 g3 =>
      am_bi (ct 150 [.inr (.inr (29, 0)), .inl x5] g3) (fun r4 g4 =>
      am_run ct 209 n 29 [some (.inr (.inr (29, 0))), some (.inl x1), some (.inl x2), some (.inl x3), some (.inl r3), some (.inl r4)] [] g4))))) := rfl
set_option maxRecDepth 50000 in
theorem eM_room_54 (ct : am_T) (n : Nat) (x1 : Int32) (x2 : Int32) (x3 : Int32) (x4 : Int32) (x5 : Int32) (g : am_G) : am_run ct 209 (n + 1) 54 [some (.inr (.inr (29, 0))), some (.inl x1), some (.inl x2), some (.inl x3), some (.inl x4), some (.inl x5)] [] g =
  if x5 = x3 then
    (some (some (.inl x4), g))
  else
    (am_bi (ct 141 [.inr (.inr (29, 0)), .inl ((72 : Int32) + x5)] g) (fun r1 g1 =>
    if x4 ≤ r1 then
      (am_bi (ct 150 [.inr (.inr (29, 0)), .inl x5] g1) (fun r2 g2 =>
      am_run ct 209 n 54 [some (.inr (.inr (29, 0))), some (.inl x1), some (.inl x2), some (.inl x3), some (.inl x4), some (.inl r2)] [] g2))
    else
      (am_bi (ct 141 [.inr (.inr (29, 0)), .inl ((72 : Int32) + x5)] g1) (fun r3 g3 =>
      am_bi (ct 150 [.inr (.inr (29, 0)), .inl x5] g3) (fun r4 g4 =>
      am_run ct 209 n 54 [some (.inr (.inr (29, 0))), some (.inl x1), some (.inl x2), some (.inl x3), some (.inl r3), some (.inl r4)] [] g4))))) := rfl
set_option maxRecDepth 50000 in
theorem eM_childBehind_0 (ct : am_T) (n : Nat) (x1 : Int32) (x2 : Int32) (g : am_G) : am_run ct 210 (n + 1) 0 [some (.inr (.inr (29, 0))), some (.inl x1), some (.inl x2), none, none] [] g =
  if 0 ≤ x2 then
    (if x2 < 0 then
      (am_run ct 210 n 25 [some (.inr (.inr (29, 0))), some (.inl x1), some (.inl x2), some (.inl (0 : Int32)), some (.inl (0 : Int32))] [] g)
    else
      (am_bi (ct 151 [.inr (.inr (29, 0)), .inl x1] g) (fun r1 g1 =>
      if x2 = r1 then
        (am_run ct 210 n 25 [some (.inr (.inr (29, 0))), some (.inl x1), some (.inl x2), some (.inl (0 : Int32)), some (.inl (0 : Int32))] [] g1)
      else
        (am_run ct 210 n 25 [some (.inr (.inr (29, 0))), some (.inl x1), some (.inl x2), some (.inl (x2 + (1 : Int32))), some (.inl (x2 + (1 : Int32)))] [] g1))))
  else
    (am_bi (ct 151 [.inr (.inr (29, 0)), .inl x1] g) (fun r2 g2 =>
    if r2 < 0 then
      (if x2 < 0 then
        (am_run ct 210 n 25 [some (.inr (.inr (29, 0))), some (.inl x1), some (.inl x2), some (.inl (0 : Int32)), some (.inl (0 : Int32))] [] g2)
      else
        (am_bi (ct 151 [.inr (.inr (29, 0)), .inl x1] g2) (fun r3 g3 =>
        if x2 = r3 then
          (am_run ct 210 n 25 [some (.inr (.inr (29, 0))), some (.inl x1), some (.inl x2), some (.inl (0 : Int32)), some (.inl (0 : Int32))] [] g3)
        else
          (am_run ct 210 n 25 [some (.inr (.inr (29, 0))), some (.inl x1), some (.inl x2), some (.inl (x2 + (1 : Int32))), some (.inl (x2 + (1 : Int32)))] [] g3))))
    else
      (am_bi (ct 151 [.inr (.inr (29, 0)), .inl x1] g2) (fun r4 g4 =>
      some (some (.inl r4), g4))))) := rfl
set_option maxRecDepth 50000 in
theorem eM_childBehind_25 (ct : am_T) (n : Nat) (x1 : Int32) (x2 : Int32) (x3 : Int32) (x4 : Int32) (g : am_G) : am_run ct 210 (n + 1) 25 [some (.inr (.inr (29, 0))), some (.inl x1), some (.inl x2), some (.inl x3), some (.inl x4)] [] g =
  if (g 142 0 0) ≤ x4 then
    (some (some (.inl (-1 : Int32)), g))
  else
    (am_bi (ct 150 [.inr (.inr (29, 0)), .inl x4] g) (fun r1 g1 =>
    if r1 = x1 then
      (am_bi (ct 151 [.inr (.inr (29, 0)), .inl x1] g1) (fun r2 g2 =>
      if x4 = r2 then
        (am_run ct 210 n 25 [some (.inr (.inr (29, 0))), some (.inl x1), some (.inl x2), some (.inl x3), some (.inl (x4 + 1))] [] g2)
      else
        (some (some (.inl x4), g2))))
    else
      (am_run ct 210 n 25 [some (.inr (.inr (29, 0))), some (.inl x1), some (.inl x2), some (.inl x3), some (.inl (x4 + 1))] [] g1))) := rfl
set_option maxRecDepth 50000 in
theorem eM_behind_0 (ct : am_T) (n : Nat) (x1 : Int32) (g : am_G) : am_run ct 211 (n + 1) 0 [some (.inr (.inr (29, 0))), some (.inl x1), none, none, none] [] g =
  am_bi (ct 210 [.inr (.inr (29, 0)), .inl x1, .inl (-1 : Int32)] g) (fun r1 g1 =>
  if r1 < 0 then
    (am_run ct 211 n 11 [some (.inr (.inr (29, 0))), some (.inl x1), some (.inl r1), some (.inl x1), none] [] g1)
  else
    (some (some (.inl r1), g1))) := rfl
set_option maxRecDepth 50000 in
theorem eM_behind_11 (ct : am_T) (n : Nat) (x1 : Int32) (x2 : Int32) (x3 : Int32) (o4 : Option am_V) (g : am_G) : am_run ct 211 (n + 1) 11 [some (.inr (.inr (29, 0))), some (.inl x1), some (.inl x2), some (.inl x3), o4] [] g =
  am_bi (ct 150 [.inr (.inr (29, 0)), .inl x3] g) (fun r1 g1 =>
  if r1 < 0 then
    (some (some (.inl (-1 : Int32)), g1))
  else
    (am_bi (ct 150 [.inr (.inr (29, 0)), .inl x3] g1) (fun r2 g2 =>
    am_bi (ct 210 [.inr (.inr (29, 0)), .inl r2, .inl x3] g2) (fun r3 g3 =>
    if r3 < 0 then
      (am_bi (ct 150 [.inr (.inr (29, 0)), .inl x3] g3) (fun r4 g4 =>
      am_run ct 211 n 11 [some (.inr (.inr (29, 0))), some (.inl x1), some (.inl x2), some (.inl r4), some (.inl r3)] [] g4))
    else
      (some (some (.inl r3), g3)))))) := rfl
set_option maxRecDepth 50000 in
theorem eM_order_0 (ct : am_T) (n : Nat) (x1 : Int32) (x2 : Int32) (g : am_G) : am_run ct 212 (n + 1) 0 [some (.inr (.inr (29, 0))), some (.inl x1), some (.inl x2), none, none] [] g =
  am_bi (ct 148 [.inr (.inr (29, 0)), .inl x1] (am_put g 131 0 (0 : Int32))) (fun r1 g1 =>
  if r1 = 0 then
    (some (some (.inl (-1 : Int32)), g1))
  else
    (if 0 ≤ x2 then
      (am_bi (ct 166 [.inr (.inr (29, 0)), .inl x1] g1) (fun r2 g2 =>
      am_run ct 212 n 17 [some (.inr (.inr (29, 0))), some (.inl x1), some (.inl x2), some (.inl r2), some (.inl (0 : Int32))] [] g2))
    else
      (some (some (.inl (-1 : Int32)), g1)))) := rfl
set_option maxRecDepth 50000 in
theorem eM_order_17 (ct : am_T) (n : Nat) (x1 : Int32) (x2 : Int32) (x3 : Int32) (x4 : Int32) (g : am_G) : am_run ct 212 (n + 1) 17 [some (.inr (.inr (29, 0))), some (.inl x1), some (.inl x2), some (.inl x3), some (.inl x4)] [] g =
  if x2 ≤ x4 then
    (if 0 ≤ x3 then
      (some (some (.inl x3), g))
    else
      (some (some (.inl (-2 : Int32)), g)))
  else
    (if x3 < 0 then
      (if 0 ≤ x3 then
        (some (some (.inl x3), g))
      else
        (some (some (.inl (-2 : Int32)), g)))
    else
      (am_bi (ct 211 [.inr (.inr (29, 0)), .inl x3] g) (fun r1 g1 =>
      am_run ct 212 n 17 [some (.inr (.inr (29, 0))), some (.inl x1), some (.inl x2), some (.inl r1), some (.inl (x4 + 1))] [] g1))) := rfl
set_option maxRecDepth 50000 in
theorem eM_place_0 (ct : am_T) (n : Nat) (x1 : Int32) (g : am_G) : am_run ct 213 (n + 1) 0 [some (.inr (.inr (29, 0))), some (.inl x1), none, none] [] g =
  am_bi (ct 148 [.inr (.inr (29, 0)), .inl x1] (am_put g 131 0 (0 : Int32))) (fun r1 g1 =>
  if r1 = 0 then
    (some (some (.inl (-1 : Int32)), g1))
  else
    (am_bi (ct 166 [.inr (.inr (29, 0)), .inl x1] g1) (fun r2 g2 =>
    am_run ct 213 n 15 [some (.inr (.inr (29, 0))), some (.inl x1), some (.inl (0 : Int32)), some (.inl r2)] [] g2))) := rfl
set_option maxRecDepth 50000 in
theorem eM_place_15 (ct : am_T) (n : Nat) (x1 : Int32) (x2 : Int32) (x3 : Int32) (g : am_G) : am_run ct 213 (n + 1) 15 [some (.inr (.inr (29, 0))), some (.inl x1), some (.inl x2), some (.inl x3)] [] g =
  if x3 = x1 then
    (some (some (.inl x2), g))
  else
    (am_bi (ct 211 [.inr (.inr (29, 0)), .inl x3] g) (fun r1 g1 =>
    am_run ct 213 n 15 [some (.inr (.inr (29, 0))), some (.inl x1), some (.inl (x2 + 1)), some (.inl r1)] [] g1)) := rfl
set_option maxRecDepth 50000 in
theorem eM_farthest_0 (ct : am_T) (n : Nat) (x1 : Int32) (g : am_G) : am_run ct 214 (n + 1) 0 [some (.inr (.inr (29, 0))), some (.inl x1), none, none] [] g =
  am_run ct 214 n 4 [some (.inr (.inr (29, 0))), some (.inl x1), some (.inl (0 : Int32)), some (.inl (0 : Int32))] [] g := rfl
set_option maxRecDepth 50000 in
theorem eM_farthest_4 (ct : am_T) (n : Nat) (x1 : Int32) (x2 : Int32) (x3 : Int32) (g : am_G) : am_run ct 214 (n + 1) 4 [some (.inr (.inr (29, 0))), some (.inl x1), some (.inl x2), some (.inl x3)] [] g =
  if (g 142 0 0) ≤ x3 then
    (some (some (.inl x2), g))
  else
    (am_bi (ct 167 [.inr (.inr (29, 0)), .inl x3, .inl x1] g) (fun r1 g1 =>
    if r1 = 0 then
      (am_run ct 214 n 4 [some (.inr (.inr (29, 0))), some (.inl x1), some (.inl x2), some (.inl (x3 + 1))] [] g1)
    else
      (am_bi (ct 206 [.inr (.inr (29, 0)), .inl x3, .inl x1] g1) (fun r2 g2 =>
      if r2 ≤ x2 then
        (am_run ct 214 n 4 [some (.inr (.inr (29, 0))), some (.inl x1), some (.inl x2), some (.inl (x3 + 1))] [] g2)
      else
        (am_bi (ct 206 [.inr (.inr (29, 0)), .inl x3, .inl x1] g2) (fun r3 g3 =>
        am_run ct 214 n 4 [some (.inr (.inr (29, 0))), some (.inl x1), some (.inl r3), some (.inl (x3 + 1))] [] g3)))))) := rfl
set_option maxRecDepth 50000 in
theorem eM_widestOf_0 (ct : am_T) (n : Nat) (x1 : Int32) (g : am_G) : am_run ct 215 (n + 1) 0 [some (.inr (.inr (29, 0))), some (.inl x1), none, none] [] g =
  am_run ct 215 n 4 [some (.inr (.inr (29, 0))), some (.inl x1), some (.inl (0 : Int32)), some (.inl (0 : Int32))] [] g := rfl
set_option maxRecDepth 50000 in
theorem eM_widestOf_4 (ct : am_T) (n : Nat) (x1 : Int32) (x2 : Int32) (x3 : Int32) (g : am_G) : am_run ct 215 (n + 1) 4 [some (.inr (.inr (29, 0))), some (.inl x1), some (.inl x2), some (.inl x3)] [] g =
  if (g 142 0 0) ≤ x3 then
    (some (some (.inl x2), g))
  else
    (am_bi (ct 167 [.inr (.inr (29, 0)), .inl x3, .inl x1] g) (fun r1 g1 =>
    if r1 = 0 then
      (am_run ct 215 n 4 [some (.inr (.inr (29, 0))), some (.inl x1), some (.inl x2), some (.inl (x3 + 1))] [] g1)
    else
      (am_bi (ct 214 [.inr (.inr (29, 0)), .inl x3] g1) (fun r2 g2 =>
      if r2 ≤ x2 then
        (am_run ct 215 n 4 [some (.inr (.inr (29, 0))), some (.inl x1), some (.inl x2), some (.inl (x3 + 1))] [] g2)
      else
        (am_bi (ct 214 [.inr (.inr (29, 0)), .inl x3] g2) (fun r3 g3 =>
        am_run ct 215 n 4 [some (.inr (.inr (29, 0))), some (.inl x1), some (.inl r3), some (.inl (x3 + 1))] [] g3)))))) := rfl
set_option maxRecDepth 50000 in
theorem eM_joint_0 (ct : am_T) (n : Nat) (x1 : Int32) (x2 : Int32) (x3 : Int32) (g : am_G) : am_run ct 216 (n + 1) 0 [some (.inr (.inr (29, 0))), some (.inl x1), some (.inl x2), some (.inl x3), none, none, none, none, none, none, none] [] g =
  am_bi (ct 149 [.inr (.inr (29, 0)), .inl x1, .inl x2] (am_put g 131 0 (0 : Int32))) (fun r1 g1 =>
  if r1 = 0 then
    (some (some (.inl (-1 : Int32)), g1))
  else
    (am_bi (ct 134 [.inl x3, .inl (0 : Int32), .inl (2 : Int32)] g1) (fun r2 g2 =>
    if r2 = 0 then
      (some (some (.inl (-1 : Int32)), g2))
    else
      (am_bi (ct 167 [.inr (.inr (29, 0)), .inl x1, .inl x2] g2) (fun r3 g3 =>
      if r3 = 0 then
        (am_bi (ct 215 [.inr (.inr (29, 0)), .inl x1] g3) (fun r4 g4 =>
        am_bi (ct 215 [.inr (.inr (29, 0)), .inl x2] g4) (fun r5 g5 =>
        if r4 ≤ r5 then
          (am_bi (ct 215 [.inr (.inr (29, 0)), .inl x2] g5) (fun r6 g6 =>
          am_run ct 216 n 45 [some (.inr (.inr (29, 0))), some (.inl x1), some (.inl x2), some (.inl x3), some (.inl r6), some (.inl (-1 : Int32)), some (.inl (-1 : Int32)), some (.inl (-1 : Int32)), some (.inl (0 : Int32)), none, none] [] g6))
        else
          (am_bi (ct 215 [.inr (.inr (29, 0)), .inl x1] g5) (fun r7 g7 =>
          am_run ct 216 n 45 [some (.inr (.inr (29, 0))), some (.inl x1), some (.inl x2), some (.inl x3), some (.inl r7), some (.inl (-1 : Int32)), some (.inl (-1 : Int32)), some (.inl (-1 : Int32)), some (.inl (0 : Int32)), none, none] [] g7)))))
      else
        (some (some (.inl (-2 : Int32)), g3))))))) := rfl
set_option maxRecDepth 50000 in
theorem eM_joint_45 (ct : am_T) (n : Nat) (x1 : Int32) (x2 : Int32) (x3 : Int32) (x4 : Int32) (x5 : Int32) (x6 : Int32) (x7 : Int32) (x8 : Int32) (o9 : Option am_V) (o10 : Option am_V) (g : am_G) : am_run ct 216 (n + 1) 45 [some (.inr (.inr (29, 0))), some (.inl x1), some (.inl x2), some (.inl x3), some (.inl x4), some (.inl x5), some (.inl x6), some (.inl x7), some (.inl x8), o9, o10] [] g =
  if (g 142 0 0) ≤ x8 then
    (if x3 = 0 then
      (some (some (.inl x5), g))
    else
      (if x3 = (1 : Int32) then
        (some (some (.inl x6), g))
      else
        (some (some (.inl x7), g))))
  else
    (am_run ct 216 n 51 [some (.inr (.inr (29, 0))), some (.inl x1), some (.inl x2), some (.inl x3), some (.inl x4), some (.inl x5), some (.inl x6), some (.inl x7), some (.inl x8), some (.inl (0 : Int32)), o10] [] g) := rfl
set_option maxRecDepth 50000 in
theorem eM_joint_51 (ct : am_T) (n : Nat) (x1 : Int32) (x2 : Int32) (x3 : Int32) (x4 : Int32) (x5 : Int32) (x6 : Int32) (x7 : Int32) (x8 : Int32) (x9 : Int32) (o10 : Option am_V) (g : am_G) : am_run ct 216 (n + 1) 51 [some (.inr (.inr (29, 0))), some (.inl x1), some (.inl x2), some (.inl x3), some (.inl x4), some (.inl x5), some (.inl x6), some (.inl x7), some (.inl x8), some (.inl x9), o10] [] g =
  if (g 142 0 0) ≤ x9 then
    (am_run ct 216 n 45 [some (.inr (.inr (29, 0))), some (.inl x1), some (.inl x2), some (.inl x3), some (.inl x4), some (.inl x5), some (.inl x6), some (.inl x7), some (.inl (x8 + 1)), some (.inl x9), o10] [] g)
  else
    (am_bi (ct 167 [.inr (.inr (29, 0)), .inl x8, .inl x1] g) (fun r1 g1 =>
    if r1 = 0 then
      (am_run ct 216 n 51 [some (.inr (.inr (29, 0))), some (.inl x1), some (.inl x2), some (.inl x3), some (.inl x4), some (.inl x5), some (.inl x6), some (.inl x7), some (.inl x8), some (.inl (x9 + 1)), o10] [] g1)
    else
      (am_bi (ct 167 [.inr (.inr (29, 0)), .inl x9, .inl x2] g1) (fun r2 g2 =>
      if r2 = 0 then
        (am_run ct 216 n 51 [some (.inr (.inr (29, 0))), some (.inl x1), some (.inl x2), some (.inl x3), some (.inl x4), some (.inl x5), some (.inl x6), some (.inl x7), some (.inl x8), some (.inl (x9 + 1)), o10] [] g2)
      else
        (am_bi (ct 214 [.inr (.inr (29, 0)), .inl x8] g2) (fun r3 g3 =>
        am_bi (ct 214 [.inr (.inr (29, 0)), .inl x9] g3) (fun r4 g4 =>
        if ((r3 + (1 : Int32)) + r4) ≤ x4 then
          (if x5 < 0 then
            (am_run ct 216 n 51 [some (.inr (.inr (29, 0))), some (.inl x1), some (.inl x2), some (.inl x3), some (.inl x4), some (.inl x4), some (.inl x8), some (.inl x9), some (.inl x8), some (.inl (x9 + 1)), some (.inl x4)] [] g4)
          else
            (if x4 < x5 then
              (am_run ct 216 n 51 [some (.inr (.inr (29, 0))), some (.inl x1), some (.inl x2), some (.inl x3), some (.inl x4), some (.inl x4), some (.inl x8), some (.inl x9), some (.inl x8), some (.inl (x9 + 1)), some (.inl x4)] [] g4)
            else
              (am_run ct 216 n 51 [some (.inr (.inr (29, 0))), some (.inl x1), some (.inl x2), some (.inl x3), some (.inl x4), some (.inl x5), some (.inl x6), some (.inl x7), some (.inl x8), some (.inl (x9 + 1)), some (.inl x4)] [] g4)))
        else
          (if x5 < 0 then
            (am_run ct 216 n 51 [some (.inr (.inr (29, 0))), some (.inl x1), some (.inl x2), some (.inl x3), some (.inl x4), some (.inl ((r3 + (1 : Int32)) + r4)), some (.inl x8), some (.inl x9), some (.inl x8), some (.inl (x9 + 1)), some (.inl ((r3 + (1 : Int32)) + r4))] [] g4)
          else
            (if ((r3 + (1 : Int32)) + r4) < x5 then
              (am_run ct 216 n 51 [some (.inr (.inr (29, 0))), some (.inl x1), some (.inl x2), some (.inl x3), some (.inl x4), some (.inl ((r3 + (1 : Int32)) + r4)), some (.inl x8), some (.inl x9), some (.inl x8), some (.inl (x9 + 1)), some (.inl ((r3 + (1 : Int32)) + r4))] [] g4)
            else
              (am_run ct 216 n 51 [some (.inr (.inr (29, 0))), some (.inl x1), some (.inl x2), some (.inl x3), some (.inl x4), some (.inl x5), some (.inl x6), some (.inl x7), some (.inl x8), some (.inl (x9 + 1)), some (.inl ((r3 + (1 : Int32)) + r4))] [] g4)))))))))) := rfl
set_option maxRecDepth 50000 in
theorem eM_tightest_0 (ct : am_T) (n : Nat) (x1 : Int32) (g : am_G) : am_run ct 217 (n + 1) 0 [some (.inr (.inr (29, 0))), some (.inl x1), none, none] [] g =
  am_bi (ct 148 [.inr (.inr (29, 0)), .inl x1] (am_put g 131 0 (0 : Int32))) (fun r1 g1 =>
  if r1 = 0 then
    (some (some (.inl (-1 : Int32)), g1))
  else
    (am_run ct 217 n 13 [some (.inr (.inr (29, 0))), some (.inl x1), some (.inl (-2 : Int32)), some (.inl (0 : Int32))] [] g1)) := rfl
set_option maxRecDepth 50000 in
theorem eM_tightest_13 (ct : am_T) (n : Nat) (x1 : Int32) (x2 : Int32) (x3 : Int32) (g : am_G) : am_run ct 217 (n + 1) 13 [some (.inr (.inr (29, 0))), some (.inl x1), some (.inl x2), some (.inl x3)] [] g =
  if (g 142 0 0) ≤ x3 then
    (some (some (.inl x2), g))
  else
    (am_bi (ct 150 [.inr (.inr (29, 0)), .inl x3] g) (fun r1 g1 =>
    if r1 < 0 then
      (am_run ct 217 n 13 [some (.inr (.inr (29, 0))), some (.inl x1), some (.inl x2), some (.inl (x3 + 1))] [] g1)
    else
      (am_bi (ct 167 [.inr (.inr (29, 0)), .inl x3, .inl x1] g1) (fun r2 g2 =>
      if r2 = 0 then
        (am_run ct 217 n 13 [some (.inr (.inr (29, 0))), some (.inl x1), some (.inl x2), some (.inl (x3 + 1))] [] g2)
      else
        (if x2 < 0 then
          (am_run ct 217 n 13 [some (.inr (.inr (29, 0))), some (.inl x1), some (.inl x3), some (.inl (x3 + 1))] [] g2)
        else
          (am_bi (ct 141 [.inr (.inr (29, 0)), .inl ((72 : Int32) + x3)] g2) (fun r3 g3 =>
          am_bi (ct 141 [.inr (.inr (29, 0)), .inl ((72 : Int32) + x2)] g3) (fun r4 g4 =>
          if r4 ≤ r3 then
            (am_run ct 217 n 13 [some (.inr (.inr (29, 0))), some (.inl x1), some (.inl x2), some (.inl (x3 + 1))] [] g4)
          else
            (am_run ct 217 n 13 [some (.inr (.inr (29, 0))), some (.inl x1), some (.inl x3), some (.inl (x3 + 1))] [] g4))))))))) := rfl
set_option maxRecDepth 50000 in
theorem eM_heavyOf_0 (ct : am_T) (n : Nat) (x1 : Int32) (g : am_G) : am_run ct 218 (n + 1) 0 [some (.inr (.inr (29, 0))), some (.inl x1), none] [] g =
  am_run ct 218 n 2 [some (.inr (.inr (29, 0))), some (.inl x1), some (.inl (0 : Int32))] [] g := rfl
set_option maxRecDepth 50000 in
theorem eM_heavyOf_2 (ct : am_T) (n : Nat) (x1 : Int32) (x2 : Int32) (g : am_G) : am_run ct 218 (n + 1) 2 [some (.inr (.inr (29, 0))), some (.inl x1), some (.inl x2)] [] g =
  if (g 142 0 0) ≤ x2 then
    (some (some (.inl (-2 : Int32)), g))
  else
    (am_bi (ct 150 [.inr (.inr (29, 0)), .inl x2] g) (fun r1 g1 =>
    if r1 = x1 then
      (am_bi (ct 179 [.inr (.inr (29, 0)), .inl x2] g1) (fun r2 g2 =>
      am_bi (ct 179 [.inr (.inr (29, 0)), .inl x1] g2) (fun r3 g3 =>
      if ((2 : Int32) * r2) ≤ r3 then
        (am_run ct 218 n 2 [some (.inr (.inr (29, 0))), some (.inl x1), some (.inl (x2 + 1))] [] g3)
      else
        (some (some (.inl x2), g3)))))
    else
      (am_run ct 218 n 2 [some (.inr (.inr (29, 0))), some (.inl x1), some (.inl (x2 + 1))] [] g1))) := rfl
set_option maxRecDepth 50000 in
theorem eM_heavy_0 (ct : am_T) (n : Nat) (x1 : Int32) (g : am_G) : am_run ct 219 (n + 1) 0 [some (.inr (.inr (29, 0))), some (.inl x1)] [] g =
  am_bi (ct 148 [.inr (.inr (29, 0)), .inl x1] (am_put g 131 0 (0 : Int32))) (fun r1 g1 =>
  if r1 = 0 then
    (some (some (.inl (-1 : Int32)), g1))
  else
    (am_bi (ct 218 [.inr (.inr (29, 0)), .inl x1] g1) (fun r2 g2 =>
    some (some (.inl r2), g2)))) := rfl
set_option maxRecDepth 50000 in
theorem eM_potentialNow_0 (ct : am_T) (n : Nat)  (g : am_G) : am_run ct 220 (n + 1) 0 [some (.inr (.inr (29, 0))), none, none] [] g =
  am_run ct 220 n 4 [some (.inr (.inr (29, 0))), some (.inl (0 : Int32)), some (.inl (0 : Int32))] [] g := rfl
set_option maxRecDepth 50000 in
theorem eM_potentialNow_4 (ct : am_T) (n : Nat) (x1 : Int32) (x2 : Int32) (g : am_G) : am_run ct 220 (n + 1) 4 [some (.inr (.inr (29, 0))), some (.inl x1), some (.inl x2)] [] g =
  if (g 142 0 0) ≤ x2 then
    (some (some (.inl x1), g))
  else
    (am_bi (ct 218 [.inr (.inr (29, 0)), .inl x2] g) (fun r1 g1 =>
    if r1 < 0 then
      (am_run ct 220 n 4 [some (.inr (.inr (29, 0))), some (.inl (x1 + (0 : Int32))), some (.inl (x2 + 1))] [] g1)
    else
      (am_bi (ct 151 [.inr (.inr (29, 0)), .inl x2] g1) (fun r2 g2 =>
      am_bi (ct 218 [.inr (.inr (29, 0)), .inl x2] g2) (fun r3 g3 =>
      if r2 = r3 then
        (am_run ct 220 n 4 [some (.inr (.inr (29, 0))), some (.inl (x1 + (0 : Int32))), some (.inl (x2 + 1))] [] g3)
      else
        (am_run ct 220 n 4 [some (.inr (.inr (29, 0))), some (.inl (x1 + (1 : Int32))), some (.inl (x2 + 1))] [] g3)))))) := rfl
set_option maxRecDepth 50000 in
theorem eM_potential_0 (ct : am_T) (n : Nat)  (g : am_G) : am_run ct 221 (n + 1) 0 [some (.inr (.inr (29, 0)))] [] g =
  am_bi (ct 220 [.inr (.inr (29, 0))] (am_put g 131 0 (0 : Int32))) (fun r1 g1 =>
  some (some (.inl r1), g1)) := rfl
set_option maxRecDepth 50000 in
theorem eM_would_0 (ct : am_T) (n : Nat) (x1 : Int32) (g : am_G) : am_run ct 222 (n + 1) 0 [some (.inr (.inr (29, 0))), some (.inl x1)] [] g =
  am_bi (ct 148 [.inr (.inr (29, 0)), .inl x1] (am_put g 131 0 (0 : Int32))) (fun r1 g1 =>
  if r1 = 0 then
    (some (some (.inl (-1 : Int32)), g1))
  else
    (am_bi (ct 168 [.inr (.inr (29, 0)), .inl x1] g1) (fun r2 g2 =>
    some (some (.inl r2), g2)))) := rfl
set_option maxRecDepth 50000 in
theorem eM_widest_0 (ct : am_T) (n : Nat) (x1 : Int32) (x2 : Int32) (g : am_G) : am_run ct 223 (n + 1) 0 [some (.inr (.inr (29, 0))), some (.inl x1), some (.inl x2), none, none, none, none, none] [] g =
  am_bi (ct 148 [.inr (.inr (29, 0)), .inl x1] (am_put g 131 0 (0 : Int32))) (fun r1 g1 =>
  if r1 = 0 then
    (some (some (.inl (-1 : Int32)), g1))
  else
    (am_bi (ct 134 [.inl x2, .inl (0 : Int32), .inl (2 : Int32)] g1) (fun r2 g2 =>
    if r2 = 0 then
      (some (some (.inl (-1 : Int32)), g2))
    else
      (am_run ct 223 n 22 [some (.inr (.inr (29, 0))), some (.inl x1), some (.inl x2), some (.inl (0 : Int32)), some (.inl x1), some (.inl x1), some (.inl (0 : Int32)), none] [] g2)))) := rfl
set_option maxRecDepth 50000 in
theorem eM_widest_22 (ct : am_T) (n : Nat) (x1 : Int32) (x2 : Int32) (x3 : Int32) (x4 : Int32) (x5 : Int32) (x6 : Int32) (o7 : Option am_V) (g : am_G) : am_run ct 223 (n + 1) 22 [some (.inr (.inr (29, 0))), some (.inl x1), some (.inl x2), some (.inl x3), some (.inl x4), some (.inl x5), some (.inl x6), o7] [] g =
  if (g 142 0 0) ≤ x6 then
    (if x2 = 0 then
      (some (some (.inl x3), g))
    else
      (if x2 = (1 : Int32) then
        (some (some (.inl x4), g))
      else
        (some (some (.inl x5), g))))
  else
    (am_run ct 223 n 30 [some (.inr (.inr (29, 0))), some (.inl x1), some (.inl x2), some (.inl x3), some (.inl x4), some (.inl x5), some (.inl x6), some (.inl (x6 + (1 : Int32)))] [] g) := rfl
set_option maxRecDepth 50000 in
theorem eM_widest_30 (ct : am_T) (n : Nat) (x1 : Int32) (x2 : Int32) (x3 : Int32) (x4 : Int32) (x5 : Int32) (x6 : Int32) (x7 : Int32) (g : am_G) : am_run ct 223 (n + 1) 30 [some (.inr (.inr (29, 0))), some (.inl x1), some (.inl x2), some (.inl x3), some (.inl x4), some (.inl x5), some (.inl x6), some (.inl x7)] [] g =
  if (g 142 0 0) ≤ x7 then
    (am_run ct 223 n 22 [some (.inr (.inr (29, 0))), some (.inl x1), some (.inl x2), some (.inl x3), some (.inl x4), some (.inl x5), some (.inl (x6 + 1)), some (.inl x7)] [] g)
  else
    (am_bi (ct 167 [.inr (.inr (29, 0)), .inl x6, .inl x1] g) (fun r1 g1 =>
    if r1 = 0 then
      (am_run ct 223 n 30 [some (.inr (.inr (29, 0))), some (.inl x1), some (.inl x2), some (.inl x3), some (.inl x4), some (.inl x5), some (.inl x6), some (.inl (x7 + 1))] [] g1)
    else
      (am_bi (ct 167 [.inr (.inr (29, 0)), .inl x7, .inl x1] g1) (fun r2 g2 =>
      if r2 = 0 then
        (am_run ct 223 n 30 [some (.inr (.inr (29, 0))), some (.inl x1), some (.inl x2), some (.inl x3), some (.inl x4), some (.inl x5), some (.inl x6), some (.inl (x7 + 1))] [] g2)
      else
        (am_bi (ct 206 [.inr (.inr (29, 0)), .inl x6, .inl x7] g2) (fun r3 g3 =>
        if x3 < r3 then
          (am_bi (ct 206 [.inr (.inr (29, 0)), .inl x6, .inl x7] g3) (fun r4 g4 =>
          am_run ct 223 n 30 [some (.inr (.inr (29, 0))), some (.inl x1), some (.inl x2), some (.inl r4), some (.inl x6), some (.inl x7), some (.inl x6), some (.inl (x7 + 1))] [] g4))
        else
          (am_run ct 223 n 30 [some (.inr (.inr (29, 0))), some (.inl x1), some (.inl x2), some (.inl x3), some (.inl x4), some (.inl x5), some (.inl x6), some (.inl (x7 + 1))] [] g3))))))) := rfl
set_option maxRecDepth 50000 in
theorem eM_greatestWithout_0 (ct : am_T) (n : Nat) (x1 : Int32) (g : am_G) : am_run ct 224 (n + 1) 0 [some (.inr (.inr (29, 0))), some (.inl x1), none, none] [] g =
  am_bi (ct 166 [.inr (.inr (29, 0)), .inl x1] g) (fun r1 g1 =>
  am_bi (ct 179 [.inr (.inr (29, 0)), .inl r1] g1) (fun r2 g2 =>
  am_bi (ct 179 [.inr (.inr (29, 0)), .inl x1] g2) (fun r3 g3 =>
  am_run ct 224 n 12 [some (.inr (.inr (29, 0))), some (.inl x1), some (.inl (r2 - r3)), some (.inl (0 : Int32))] [] g3))) := rfl
set_option maxRecDepth 50000 in
theorem eM_greatestWithout_12 (ct : am_T) (n : Nat) (x1 : Int32) (x2 : Int32) (x3 : Int32) (g : am_G) : am_run ct 224 (n + 1) 12 [some (.inr (.inr (29, 0))), some (.inl x1), some (.inl x2), some (.inl x3)] [] g =
  if (g 142 0 0) ≤ x3 then
    (some (some (.inl x2), g))
  else
    (am_bi (ct 150 [.inr (.inr (29, 0)), .inl x3] g) (fun r1 g1 =>
    if r1 = x1 then
      (am_bi (ct 179 [.inr (.inr (29, 0)), .inl x3] g1) (fun r2 g2 =>
      if r2 ≤ x2 then
        (am_run ct 224 n 12 [some (.inr (.inr (29, 0))), some (.inl x1), some (.inl x2), some (.inl (x3 + 1))] [] g2)
      else
        (am_bi (ct 179 [.inr (.inr (29, 0)), .inl x3] g2) (fun r3 g3 =>
        am_run ct 224 n 12 [some (.inr (.inr (29, 0))), some (.inl x1), some (.inl r3), some (.inl (x3 + 1))] [] g3))))
    else
      (am_run ct 224 n 12 [some (.inr (.inr (29, 0))), some (.inl x1), some (.inl x2), some (.inl (x3 + 1))] [] g1))) := rfl
set_option maxRecDepth 50000 in
theorem eM_midst_0 (ct : am_T) (n : Nat) (x1 : Int32) (g : am_G) : am_run ct 225 (n + 1) 0 [some (.inr (.inr (29, 0))), some (.inl x1), none, none] [] g =
  am_bi (ct 148 [.inr (.inr (29, 0)), .inl x1] (am_put g 131 0 (0 : Int32))) (fun r1 g1 =>
  if r1 = 0 then
    (some (some (.inl (-1 : Int32)), g1))
  else
    (am_run ct 225 n 13 [some (.inr (.inr (29, 0))), some (.inl x1), some (.inl (-1 : Int32)), some (.inl (0 : Int32))] [] g1)) := rfl
set_option maxRecDepth 50000 in
theorem eM_midst_13 (ct : am_T) (n : Nat) (x1 : Int32) (x2 : Int32) (x3 : Int32) (g : am_G) : am_run ct 225 (n + 1) 13 [some (.inr (.inr (29, 0))), some (.inl x1), some (.inl x2), some (.inl x3)] [] g =
  if (g 142 0 0) ≤ x3 then
    (some (some (.inl x2), g))
  else
    (am_bi (ct 167 [.inr (.inr (29, 0)), .inl x3, .inl x1] g) (fun r1 g1 =>
    if r1 = 0 then
      (am_run ct 225 n 13 [some (.inr (.inr (29, 0))), some (.inl x1), some (.inl x2), some (.inl (x3 + 1))] [] g1)
    else
      (if x2 < 0 then
        (am_run ct 225 n 13 [some (.inr (.inr (29, 0))), some (.inl x1), some (.inl x3), some (.inl (x3 + 1))] [] g1)
      else
        (am_bi (ct 224 [.inr (.inr (29, 0)), .inl x3] g1) (fun r2 g2 =>
        am_bi (ct 224 [.inr (.inr (29, 0)), .inl x2] g2) (fun r3 g3 =>
        if r3 ≤ r2 then
          (am_run ct 225 n 13 [some (.inr (.inr (29, 0))), some (.inl x1), some (.inl x2), some (.inl (x3 + 1))] [] g3)
        else
          (am_run ct 225 n 13 [some (.inr (.inr (29, 0))), some (.inl x1), some (.inl x3), some (.inl (x3 + 1))] [] g3))))))) := rfl
set_option maxRecDepth 50000 in
theorem eM_partsOf_0 (ct : am_T) (n : Nat) (x1 : Int32) (g : am_G) : am_run ct 226 (n + 1) 0 [some (.inr (.inr (29, 0))), some (.inl x1), none, none] [] g =
  am_run ct 226 n 4 [some (.inr (.inr (29, 0))), some (.inl x1), some (.inl (0 : Int32)), some (.inl (0 : Int32))] [] g := rfl
set_option maxRecDepth 50000 in
theorem eM_partsOf_4 (ct : am_T) (n : Nat) (x1 : Int32) (x2 : Int32) (x3 : Int32) (g : am_G) : am_run ct 226 (n + 1) 4 [some (.inr (.inr (29, 0))), some (.inl x1), some (.inl x2), some (.inl x3)] [] g =
  if (g 142 0 0) ≤ x3 then
    (some (some (.inl x2), g))
  else
    (am_bi (ct 150 [.inr (.inr (29, 0)), .inl x3] g) (fun r1 g1 =>
    if r1 < 0 then
      (am_run ct 226 n 4 [some (.inr (.inr (29, 0))), some (.inl x1), some (.inl (x2 + (1 : Int32))), some (.inl (x3 + 1))] [] g1)
    else
      (am_bi (ct 141 [.inr (.inr (29, 0)), .inl ((48 : Int32) + x3)] g1) (fun r2 g2 =>
      if r2 ≤ x1 then
        (am_run ct 226 n 4 [some (.inr (.inr (29, 0))), some (.inl x1), some (.inl (x2 + (0 : Int32))), some (.inl (x3 + 1))] [] g2)
      else
        (am_run ct 226 n 4 [some (.inr (.inr (29, 0))), some (.inl x1), some (.inl (x2 + (1 : Int32))), some (.inl (x3 + 1))] [] g2))))) := rfl
set_option maxRecDepth 50000 in
theorem eM_parts_0 (ct : am_T) (n : Nat) (x1 : Int32) (g : am_G) : am_run ct 227 (n + 1) 0 [some (.inr (.inr (29, 0))), some (.inl x1)] [] g =
  am_bi (ct 134 [.inl x1, .inl (0 : Int32), .inl (9999 : Int32)] (am_put g 131 0 (0 : Int32))) (fun r1 g1 =>
  if r1 = 0 then
    (some (some (.inl (-1 : Int32)), g1))
  else
    (am_bi (ct 226 [.inr (.inr (29, 0)), .inl x1] g1) (fun r2 g2 =>
    some (some (.inl r2), g2)))) := rfl
set_option maxRecDepth 50000 in
theorem eM_dearest_0 (ct : am_T) (n : Nat) (x1 : Int32) (g : am_G) : am_run ct 228 (n + 1) 0 [some (.inr (.inr (29, 0))), some (.inl x1), none, none] [] g =
  am_bi (ct 148 [.inr (.inr (29, 0)), .inl x1] (am_put g 131 0 (0 : Int32))) (fun r1 g1 =>
  if r1 = 0 then
    (some (some (.inl (-1 : Int32)), g1))
  else
    (am_run ct 228 n 13 [some (.inr (.inr (29, 0))), some (.inl x1), some (.inl (-2 : Int32)), some (.inl (0 : Int32))] [] g1)) := rfl
set_option maxRecDepth 50000 in
theorem eM_dearest_13 (ct : am_T) (n : Nat) (x1 : Int32) (x2 : Int32) (x3 : Int32) (g : am_G) : am_run ct 228 (n + 1) 13 [some (.inr (.inr (29, 0))), some (.inl x1), some (.inl x2), some (.inl x3)] [] g =
  if (g 142 0 0) ≤ x3 then
    (some (some (.inl x2), g))
  else
    (am_bi (ct 150 [.inr (.inr (29, 0)), .inl x3] g) (fun r1 g1 =>
    if r1 < 0 then
      (am_run ct 228 n 13 [some (.inr (.inr (29, 0))), some (.inl x1), some (.inl x2), some (.inl (x3 + 1))] [] g1)
    else
      (am_bi (ct 167 [.inr (.inr (29, 0)), .inl x3, .inl x1] g1) (fun r2 g2 =>
      if r2 = 0 then
        (am_run ct 228 n 13 [some (.inr (.inr (29, 0))), some (.inl x1), some (.inl x2), some (.inl (x3 + 1))] [] g2)
      else
        (if x2 < 0 then
          (am_run ct 228 n 13 [some (.inr (.inr (29, 0))), some (.inl x1), some (.inl x3), some (.inl (x3 + 1))] [] g2)
        else
          (am_bi (ct 141 [.inr (.inr (29, 0)), .inl ((48 : Int32) + x3)] g2) (fun r3 g3 =>
          am_bi (ct 141 [.inr (.inr (29, 0)), .inl ((48 : Int32) + x2)] g3) (fun r4 g4 =>
          if r3 ≤ r4 then
            (am_run ct 228 n 13 [some (.inr (.inr (29, 0))), some (.inl x1), some (.inl x2), some (.inl (x3 + 1))] [] g4)
          else
            (am_run ct 228 n 13 [some (.inr (.inr (29, 0))), some (.inl x1), some (.inl x3), some (.inl (x3 + 1))] [] g4))))))))) := rfl
set_option maxRecDepth 50000 in
theorem eM_leastFor_0 (ct : am_T) (n : Nat) (x1 : Int32) (g : am_G) : am_run ct 229 (n + 1) 0 [some (.inr (.inr (29, 0))), some (.inl x1), none, none, none] [] g =
  am_bi (ct 134 [.inl x1, .inl (1 : Int32), .inl (24 : Int32)] (am_put g 131 0 (0 : Int32))) (fun r1 g1 =>
  if r1 = 0 then
    (some (some (.inl (-1 : Int32)), g1))
  else
    (am_run ct 229 n 14 [some (.inr (.inr (29, 0))), some (.inl x1), some (.inl (-2 : Int32)), some (.inl (-1 : Int32)), none] [] g1)) := rfl
set_option maxRecDepth 50000 in
theorem eM_leastFor_14 (ct : am_T) (n : Nat) (x1 : Int32) (x2 : Int32) (x3 : Int32) (o4 : Option am_V) (g : am_G) : am_run ct 229 (n + 1) 14 [some (.inr (.inr (29, 0))), some (.inl x1), some (.inl x2), some (.inl x3), o4] [] g =
  if (g 142 0 0) ≤ x3 then
    (some (some (.inl x2), g))
  else
    (if 0 ≤ x3 then
      (am_bi (ct 141 [.inr (.inr (29, 0)), .inl ((48 : Int32) + x3)] g) (fun r1 g1 =>
      if r1 < 0 then
        (am_run ct 229 n 14 [some (.inr (.inr (29, 0))), some (.inl x1), some (.inl x2), some (.inl (x3 + 1)), some (.inl r1)] [] g1)
      else
        (am_bi (ct 226 [.inr (.inr (29, 0)), .inl r1] g1) (fun r2 g2 =>
        if x1 < r2 then
          (am_run ct 229 n 14 [some (.inr (.inr (29, 0))), some (.inl x1), some (.inl x2), some (.inl (x3 + 1)), some (.inl r1)] [] g2)
        else
          (if x2 < 0 then
            (am_run ct 229 n 14 [some (.inr (.inr (29, 0))), some (.inl x1), some (.inl r1), some (.inl (x3 + 1)), some (.inl r1)] [] g2)
          else
            (if x2 ≤ r1 then
              (am_run ct 229 n 14 [some (.inr (.inr (29, 0))), some (.inl x1), some (.inl x2), some (.inl (x3 + 1)), some (.inl r1)] [] g2)
            else
              (am_run ct 229 n 14 [some (.inr (.inr (29, 0))), some (.inl x1), some (.inl r1), some (.inl (x3 + 1)), some (.inl r1)] [] g2)))))))
    else
      (if (0 : Int32) < 0 then
        (am_run ct 229 n 14 [some (.inr (.inr (29, 0))), some (.inl x1), some (.inl x2), some (.inl (x3 + 1)), some (.inl (0 : Int32))] [] g)
      else
        (am_bi (ct 226 [.inr (.inr (29, 0)), .inl (0 : Int32)] g) (fun r3 g3 =>
        if x1 < r3 then
          (am_run ct 229 n 14 [some (.inr (.inr (29, 0))), some (.inl x1), some (.inl x2), some (.inl (x3 + 1)), some (.inl (0 : Int32))] [] g3)
        else
          (if x2 < 0 then
            (am_run ct 229 n 14 [some (.inr (.inr (29, 0))), some (.inl x1), some (.inl (0 : Int32)), some (.inl (x3 + 1)), some (.inl (0 : Int32))] [] g3)
          else
            (if x2 ≤ (0 : Int32) then
              (am_run ct 229 n 14 [some (.inr (.inr (29, 0))), some (.inl x1), some (.inl x2), some (.inl (x3 + 1)), some (.inl (0 : Int32))] [] g3)
            else
              (am_run ct 229 n 14 [some (.inr (.inr (29, 0))), some (.inl x1), some (.inl (0 : Int32)), some (.inl (x3 + 1)), some (.inl (0 : Int32))] [] g3))))))) := rfl
set_option maxRecDepth 50000 in
theorem eM_draw_0 (ct : am_T) (n : Nat) (x1 : Int32) (g : am_G) : am_run ct 230 (n + 1) 0 [some (.inr (.inr (29, 0))), some (.inl x1)] [] g =
  am_run ct 230 n 9 [some (.inr (.inr (29, 0))), some (.inl x1)] [.inr (.inl (((((g 149 0 0).toInt64) * ((1103515245 : Int32).toInt64)) + ((12345 : Int32).toInt64)) &&& ((2147483647 : Int32).toInt64))), .inr (.inr (29, 0))] g := rfl
set_option maxRecDepth 50000 in
theorem eM_draw_9 (ct : am_T) (n : Nat) (x1 : Int32) (s0 : Int64) (g : am_G) : am_run ct 230 (n + 1) 9 [some (.inr (.inr (29, 0))), some (.inl x1)] [.inr (.inl s0), .inr (.inr (29, 0))] g =
  if s0.toInt32.toInt64 = s0 then
    (am_run ct 230 n 10 [some (.inr (.inr (29, 0))), some (.inl x1)] [] (am_put g 149 0 s0.toInt32))
  else none := rfl
set_option maxRecDepth 50000 in
theorem eM_draw_10 (ct : am_T) (n : Nat) (x1 : Int32) (g : am_G) : am_run ct 230 (n + 1) 10 [some (.inr (.inr (29, 0))), some (.inl x1)] [] g =
  if ((65536 : Int32).toInt64) = 0 then none else
  if x1.toInt64 = 0 then none else
  some (some (.inl (((((g 149 0 0).toInt64) / ((65536 : Int32).toInt64)) - (((g 149 0 0).toInt64) / ((65536 : Int32).toInt64)) / x1.toInt64 * x1.toInt64).toInt32)), g) := rfl
set_option maxRecDepth 50000 in
theorem eM_byChance_0 (ct : am_T) (n : Nat)  (g : am_G) : am_run ct 231 (n + 1) 0 [some (.inr (.inr (29, 0))), none, none, none, none] [] g =
  am_bi (ct 230 [.inr (.inr (29, 0)), .inl (4 : Int32)] g) (fun r1 g1 =>
  am_bi (ct 230 [.inr (.inr (29, 0)), .inl (g1 142 0 0)] g1) (fun r2 g2 =>
  am_bi (ct 230 [.inr (.inr (29, 0)), .inl (g2 142 0 0)] g2) (fun r3 g3 =>
  if r1 = 0 then
    (am_bi (ct 169 [.inr (.inr (29, 0)), .inl r2] g3) (fun r13 g13 =>
    some (none, g13)))
  else
    (if r1 = (1 : Int32) then
      (am_bi (ct 170 [.inr (.inr (29, 0)), .inl r2] g3) (fun r12 g12 =>
      some (none, g12)))
    else
      (if r1 = (2 : Int32) then
        (am_bi (ct 167 [.inr (.inr (29, 0)), .inl r2, .inl r3] g3) (fun r9 g9 =>
        if r9 = 0 then
          (am_bi (ct 230 [.inr (.inr (29, 0)), .inl (100 : Int32)] g9) (fun r10 g10 =>
          am_bv (ct 171 [.inr (.inr (29, 0)), .inl r2, .inl r3, .inl (r10 + (1 : Int32)), .inl (1 : Int32)] g10) (fun g11 =>
          some (none, g11))))
        else
          (some (none, g9))))
      else
        (if r2 = r3 then
          (some (none, g3))
        else
          (am_bi (ct 167 [.inr (.inr (29, 0)), .inl r2, .inl r3] g3) (fun r4 g4 =>
          if r4 = 0 then
            (some (none, g4))
          else
            (am_bi (ct 232 [.inr (.inr (29, 0)), .inl r2, .inl r3] g4) (fun r5 g5 =>
            am_bi (ct 233 [.inr (.inr (29, 0)), .inl r5, .inl r2] g5) (fun r6 g6 =>
            am_bi (ct 234 [.inr (.inr (29, 0)), .inl r5, .inl r2] g6) (fun r7 g7 =>
            am_bv (ct 173 [.inr (.inr (29, 0)), .inl r6, .inl r7] g7) (fun g8 =>
            some (none, g8)))))))))))))) := rfl
set_option maxRecDepth 50000 in
theorem eM_dearestFrom_0 (ct : am_T) (n : Nat) (x1 : Int32) (x2 : Int32) (g : am_G) : am_run ct 232 (n + 1) 0 [some (.inr (.inr (29, 0))), some (.inl x1), some (.inl x2), none, none, none, none] [] g =
  am_bi (ct 186 [.inr (.inr (29, 0)), .inl x1, .inl x2] g) (fun r1 g1 =>
  am_run ct 232 n 9 [some (.inr (.inr (29, 0))), some (.inl x1), some (.inl x2), some (.inl r1), some (.inl (-1 : Int32)), some (.inl x1), none] [] g1) := rfl
set_option maxRecDepth 50000 in
theorem eM_dearestFrom_9 (ct : am_T) (n : Nat) (x1 : Int32) (x2 : Int32) (x3 : Int32) (x4 : Int32) (x5 : Int32) (g : am_G) : am_run ct 232 (n + 1) 9 [some (.inr (.inr (29, 0))), some (.inl x1), some (.inl x2), some (.inl x3), some (.inl x4), some (.inl x5), none] [] g =
  if x5 = x3 then
    (am_run ct 232 n 36 [some (.inr (.inr (29, 0))), some (.inl x1), some (.inl x2), some (.inl x3), some (.inl x4), some (.inl (-1 : Int32)), some (.inl x2)] [] g)
  else
    (if x4 < 0 then
      (am_bi (ct 150 [.inr (.inr (29, 0)), .inl x5] g) (fun r1 g1 =>
      am_run ct 232 n 9 [some (.inr (.inr (29, 0))), some (.inl x1), some (.inl x2), some (.inl x3), some (.inl x5), some (.inl r1), none] [] g1))
    else
      (am_bi (ct 141 [.inr (.inr (29, 0)), .inl ((48 : Int32) + x5)] g) (fun r2 g2 =>
      am_bi (ct 141 [.inr (.inr (29, 0)), .inl ((48 : Int32) + x4)] g2) (fun r3 g3 =>
      if r2 ≤ r3 then
        (am_bi (ct 150 [.inr (.inr (29, 0)), .inl x5] g3) (fun r4 g4 =>
        am_run ct 232 n 9 [some (.inr (.inr (29, 0))), some (.inl x1), some (.inl x2), some (.inl x3), some (.inl x4), some (.inl r4), none] [] g4))
      else
        (am_bi (ct 150 [.inr (.inr (29, 0)), .inl x5] g3) (fun r5 g5 =>
        am_run ct 232 n 9 [some (.inr (.inr (29, 0))), some (.inl x1), some (.inl x2), some (.inl x3), some (.inl x5), some (.inl r5), none] [] g5)))))) := rfl
set_option maxRecDepth 50000 in
theorem eM_dearestFrom_36 (ct : am_T) (n : Nat) (x1 : Int32) (x2 : Int32) (x3 : Int32) (x4 : Int32) (x5 : Int32) (x6 : Int32) (g : am_G) : am_run ct 232 (n + 1) 36 [some (.inr (.inr (29, 0))), some (.inl x1), some (.inl x2), some (.inl x3), some (.inl x4), some (.inl x5), some (.inl x6)] [] g =
  if x6 = x3 then
    (if x4 < 0 then
      (some (some (.inl x5), g))
    else
      (if x5 < 0 then
        (some (some (.inl x4), g))
      else
        (am_bi (ct 141 [.inr (.inr (29, 0)), .inl ((48 : Int32) + x5)] g) (fun r1 g1 =>
        am_bi (ct 141 [.inr (.inr (29, 0)), .inl ((48 : Int32) + x4)] g1) (fun r2 g2 =>
        if r1 ≤ r2 then
          (some (some (.inl x4), g2))
        else
          (some (some (.inl x5), g2)))))))
  else
    (if x5 < 0 then
      (am_bi (ct 150 [.inr (.inr (29, 0)), .inl x6] g) (fun r3 g3 =>
      am_run ct 232 n 36 [some (.inr (.inr (29, 0))), some (.inl x1), some (.inl x2), some (.inl x3), some (.inl x4), some (.inl x6), some (.inl r3)] [] g3))
    else
      (am_bi (ct 141 [.inr (.inr (29, 0)), .inl ((48 : Int32) + x6)] g) (fun r4 g4 =>
      am_bi (ct 141 [.inr (.inr (29, 0)), .inl ((48 : Int32) + x5)] g4) (fun r5 g5 =>
      if r4 < r5 then
        (am_bi (ct 150 [.inr (.inr (29, 0)), .inl x6] g5) (fun r6 g6 =>
        am_run ct 232 n 36 [some (.inr (.inr (29, 0))), some (.inl x1), some (.inl x2), some (.inl x3), some (.inl x4), some (.inl x5), some (.inl r6)] [] g6))
      else
        (am_bi (ct 150 [.inr (.inr (29, 0)), .inl x6] g5) (fun r7 g7 =>
        am_run ct 232 n 36 [some (.inr (.inr (29, 0))), some (.inl x1), some (.inl x2), some (.inl x3), some (.inl x4), some (.inl x6), some (.inl r7)] [] g7)))))) := rfl
set_option maxRecDepth 50000 in
theorem eM_nearer_0 (ct : am_T) (n : Nat) (x1 : Int32) (x2 : Int32) (g : am_G) : am_run ct 233 (n + 1) 0 [some (.inr (.inr (29, 0))), some (.inl x1), some (.inl x2)] [] g =
  am_bi (ct 180 [.inr (.inr (29, 0)), .inl x1, .inl x2] g) (fun r1 g1 =>
  if r1 = 0 then
    (am_bi (ct 150 [.inr (.inr (29, 0)), .inl x1] g1) (fun r2 g2 =>
    some (some (.inl r2), g2)))
  else
    (some (some (.inl x1), g1))) := rfl
set_option maxRecDepth 50000 in
theorem eM_further_0 (ct : am_T) (n : Nat) (x1 : Int32) (x2 : Int32) (g : am_G) : am_run ct 234 (n + 1) 0 [some (.inr (.inr (29, 0))), some (.inl x1), some (.inl x2)] [] g =
  am_bi (ct 180 [.inr (.inr (29, 0)), .inl x1, .inl x2] g) (fun r1 g1 =>
  if r1 = 0 then
    (some (some (.inl x1), g1))
  else
    (am_bi (ct 150 [.inr (.inr (29, 0)), .inl x1] g1) (fun r2 g2 =>
    some (some (.inl r2), g2)))) := rfl
set_option maxRecDepth 50000 in
theorem eM_trees_0 (ct : am_T) (n : Nat)  (g : am_G) : am_run ct 235 (n + 1) 0 [some (.inr (.inr (29, 0)))] [] g =
  am_bi (ct 226 [.inr (.inr (29, 0)), .inl (9999 : Int32)] g) (fun r1 g1 =>
  some (some (.inl r1), g1)) := rfl
set_option maxRecDepth 50000 in
theorem eM_chance_0 (ct : am_T) (n : Nat) (x1 : Int32) (x2 : Int32) (x3 : Int32) (g : am_G) : am_run ct 236 (n + 1) 0 [some (.inr (.inr (29, 0))), some (.inl x1), some (.inl x2), some (.inl x3), none] [] g =
  if x1 < (-1 : Int32) then
    (some (some (.inl (-1 : Int32)), am_put g 131 0 (0 : Int32)))
  else
    (am_bi (ct 134 [.inl x2, .inl (1 : Int32), .inl (60 : Int32)] (am_put g 131 0 (0 : Int32))) (fun r1 g1 =>
    if r1 = 0 then
      (some (some (.inl (-1 : Int32)), g1))
    else
      (am_bi (ct 134 [.inl x3, .inl (0 : Int32), .inl (3 : Int32)] g1) (fun r2 g2 =>
      if r2 = 0 then
        (some (some (.inl (-1 : Int32)), g2))
      else
        (if (g2 142 0 0) = 0 then
          (some (some (.inl (-1 : Int32)), g2))
        else
          (if 0 ≤ x1 then
            (if x1.toInt64.toInt32.toInt64 = x1.toInt64 then
              (am_bv (ct 143 [.inr (.inr (29, 0)), .inl (0 : Int32), .inl (1 : Int32)] (am_put g2 149 0 x1.toInt64.toInt32)) (fun g3 =>
            am_run ct 236 n 40 [some (.inr (.inr (29, 0))), some (.inl x1), some (.inl x2), some (.inl x3), some (.inl (0 : Int32))] [] (am_put g3 139 0 (1 : Int32))))
            else none)
          else
            (if ((g2 143 0 0).toInt64).toInt32.toInt64 = ((g2 143 0 0).toInt64) then
              (am_bv (ct 143 [.inr (.inr (29, 0)), .inl (0 : Int32), .inl (1 : Int32)] (am_put g2 149 0 ((g2 143 0 0).toInt64).toInt32)) (fun g4 =>
            am_run ct 236 n 40 [some (.inr (.inr (29, 0))), some (.inl x1), some (.inl x2), some (.inl x3), some (.inl (0 : Int32))] [] (am_put g4 139 0 (1 : Int32))))
            else none))))))) := rfl
set_option maxRecDepth 50000 in
theorem eM_chance_40 (ct : am_T) (n : Nat) (x1 : Int32) (x2 : Int32) (x3 : Int32) (x4 : Int32) (g : am_G) : am_run ct 236 (n + 1) 40 [some (.inr (.inr (29, 0))), some (.inl x1), some (.inl x2), some (.inl x3), some (.inl x4)] [] g =
  if x2 ≤ x4 then
    (if x3 = 0 then
      (am_bi (ct 235 [.inr (.inr (29, 0))] g) (fun r7 g7 =>
      if x3 = (1 : Int32) then
        (am_bi (ct 141 [.inr (.inr (29, 0)), .inl (120 : Int32)] (am_put g7 139 0 (0 : Int32))) (fun r8 g8 =>
        some (some (.inl (r7 - r8)), g8)))
      else
        (some (some (.inl r7), am_put g7 139 0 (0 : Int32)))))
    else
      (if x3 = (1 : Int32) then
        (am_bi (ct 141 [.inr (.inr (29, 0)), .inl (120 : Int32)] g) (fun r5 g5 =>
        if x3 = (1 : Int32) then
          (am_bi (ct 141 [.inr (.inr (29, 0)), .inl (120 : Int32)] (am_put g5 139 0 (0 : Int32))) (fun r6 g6 =>
          some (some (.inl (r5 - r6)), g6)))
        else
          (some (some (.inl r5), am_put g5 139 0 (0 : Int32)))))
      else
        (if x3 = (2 : Int32) then
          (am_bi (ct 220 [.inr (.inr (29, 0))] g) (fun r3 g3 =>
          if x3 = (1 : Int32) then
            (am_bi (ct 141 [.inr (.inr (29, 0)), .inl (120 : Int32)] (am_put g3 139 0 (0 : Int32))) (fun r4 g4 =>
            some (some (.inl (r3 - r4)), g4)))
          else
            (some (some (.inl r3), am_put g3 139 0 (0 : Int32)))))
        else
          (am_bi (ct 166 [.inr (.inr (29, 0)), .inl (0 : Int32)] g) (fun r1 g1 =>
          if x3 = (1 : Int32) then
            (am_bi (ct 141 [.inr (.inr (29, 0)), .inl (120 : Int32)] (am_put g1 139 0 (0 : Int32))) (fun r2 g2 =>
            some (some (.inl (r1 - r2)), g2)))
          else
            (some (some (.inl r1), am_put g1 139 0 (0 : Int32))))))))
  else
    (am_bv (ct 231 [.inr (.inr (29, 0))] g) (fun g9 =>
    am_run ct 236 n 40 [some (.inr (.inr (29, 0))), some (.inl x1), some (.inl x2), some (.inl x3), some (.inl (x4 + 1))] [] g9)) := rfl
set_option maxRecDepth 50000 in
theorem eM_count_0 (ct : am_T) (n : Nat) (x1 : Int32) (g : am_G) : am_run ct 237 (n + 1) 0 [some (.inr (.inr (29, 0))), some (.inl x1), none, none] [] g =
  if x1 = 0 then
    (some (some (.inl ((am_put g 131 0 (0 : Int32)) 142 0 0)), am_put g 131 0 (0 : Int32)))
  else if x1 = 1 then
    (am_bi (ct 235 [.inr (.inr (29, 0))] (am_put g 131 0 (0 : Int32))) (fun r1 g1 =>
    some (some (.inl (((am_put g 131 0 (0 : Int32)) 142 0 0) - r1)), g1)))
  else if x1 = 2 then
    (am_bi (ct 235 [.inr (.inr (29, 0))] (am_put g 131 0 (0 : Int32))) (fun r2 g2 =>
    some (some (.inl r2), g2)))
  else if x1 = 3 then
    (am_run ct 237 n 21 [some (.inr (.inr (29, 0))), some (.inl x1), some (.inl (0 : Int32)), some (.inl (0 : Int32))] [] (am_put g 131 0 (0 : Int32)))
  else if x1 = 4 then
    (am_bi (ct 141 [.inr (.inr (29, 0)), .inl (120 : Int32)] (am_put g 131 0 (0 : Int32))) (fun r3 g3 =>
    some (some (.inl r3), g3)))
  else if x1 = 5 then
    (some (some (.inl ((am_put g 131 0 (0 : Int32)) 140 0 0)), am_put g 131 0 (0 : Int32)))
  else if x1 = 6 then
    (some (some (.inl ((am_put g 131 0 (0 : Int32)) 130 0 0)), am_put g 131 0 (0 : Int32)))
  else (some (some (.inl (-1 : Int32)), am_put g 131 0 (0 : Int32))) := rfl
set_option maxRecDepth 50000 in
theorem eM_count_21 (ct : am_T) (n : Nat) (x1 : Int32) (x2 : Int32) (x3 : Int32) (g : am_G) : am_run ct 237 (n + 1) 21 [some (.inr (.inr (29, 0))), some (.inl x1), some (.inl x2), some (.inl x3)] [] g =
  if (g 142 0 0) ≤ x3 then
    (some (some (.inl x2), g))
  else
    (am_bi (ct 200 [.inr (.inr (29, 0)), .inl x3] g) (fun r1 g1 =>
    if r1 = 0 then
      (am_run ct 237 n 21 [some (.inr (.inr (29, 0))), some (.inl x1), some (.inl (x2 + (0 : Int32))), some (.inl (x3 + 1))] [] g1)
    else
      (am_run ct 237 n 21 [some (.inr (.inr (29, 0))), some (.inl x1), some (.inl (x2 + (1 : Int32))), some (.inl (x3 + 1))] [] g1))) := rfl
end
section
/-! ===== a call is a run from its first instruction: by wip/whole/write.py ===== -/
theorem am_call_run {d mi : Nat} {as : List am_V} {ls : am_L} {g : am_G} (h : as.length ≤ am_maxL mi) (he : am_ent mi as = ls) : am_call (d + 1) mi as g = am_run (am_call d) mi (99999 + 1) 0 ls [] g := by
  subst he
  have e : am_call (d + 1) mi as g = (bif decide (as.length ≤ am_maxL mi) then am_run (am_call d) mi 100000 0 (am_ent mi as) [] g else none) := rfl
  rw [e, decide_eq_true h]
  rfl
set_option maxRecDepth 20000 in
theorem cF_clear (d : Nat) (i : Nat) (g : am_G) : am_call (d + 1) 0 [.inr (.inr (1, i))] g = am_run (am_call d) 0 (99999 + 1) 0 [some (.inr (.inr (1, i)))] [] g := am_call_run (Nat.le_of_ble_eq_true rfl) rfl
set_option maxRecDepth 20000 in
theorem cF_copyFrom (d : Nat) (i j : Nat) (g : am_G) : am_call (d + 1) 1 [.inr (.inr (1, i)), .inr (.inr (1, j))] g = am_run (am_call d) 1 (99999 + 1) 0 [some (.inr (.inr (1, i))), some (.inr (.inr (1, j)))] [] g := am_call_run (Nat.le_of_ble_eq_true rfl) rfl
set_option maxRecDepth 20000 in
theorem cF_addTown (d : Nat) (i : Nat) (x1 : Int32) (g : am_G) : am_call (d + 1) 2 [.inr (.inr (1, i)), .inl x1] g = am_run (am_call d) 2 (99999 + 1) 0 [some (.inr (.inr (1, i))), some (.inl x1)] [] g := am_call_run (Nat.le_of_ble_eq_true rfl) rfl
set_option maxRecDepth 20000 in
theorem cF_has (d : Nat) (i : Nat) (x1 : Int32) (g : am_G) : am_call (d + 1) 3 [.inr (.inr (1, i)), .inl x1] g = am_run (am_call d) 3 (99999 + 1) 0 [some (.inr (.inr (1, i))), some (.inl x1)] [] g := am_call_run (Nat.le_of_ble_eq_true rfl) rfl
set_option maxRecDepth 20000 in
theorem cF_hasBoth (d : Nat) (i : Nat) (x1 : Int32) (x2 : Int32) (g : am_G) : am_call (d + 1) 4 [.inr (.inr (1, i)), .inl x1, .inl x2] g = am_run (am_call d) 4 (99999 + 1) 0 [some (.inr (.inr (1, i))), some (.inl x1), some (.inl x2)] [] g := am_call_run (Nat.le_of_ble_eq_true rfl) rfl
set_option maxRecDepth 20000 in
theorem cF_touchAt (d : Nat) (i : Nat) (x1 : Int32) (g : am_G) : am_call (d + 1) 5 [.inr (.inr (1, i)), .inl x1] g = am_run (am_call d) 5 (99999 + 1) 0 [some (.inr (.inr (1, i))), some (.inl x1), none, none, none] [] g := am_call_run (Nat.le_of_ble_eq_true rfl) rfl
set_option maxRecDepth 20000 in
theorem cF_rerootAt (d : Nat) (i : Nat) (x1 : Int32) (g : am_G) : am_call (d + 1) 6 [.inr (.inr (1, i)), .inl x1] g = am_run (am_call d) 6 (99999 + 1) 0 [some (.inr (.inr (1, i))), some (.inl x1), none, none, none, none, none, none, none, none] [] g := am_call_run (Nat.le_of_ble_eq_true rfl) rfl
set_option maxRecDepth 20000 in
theorem cF_walkFrom (d : Nat) (i : Nat) (x1 : Int32) (x2 : Int32) (g : am_G) : am_call (d + 1) 7 [.inr (.inr (1, i)), .inl x1, .inl x2] g = am_run (am_call d) 7 (99999 + 1) 0 [some (.inr (.inr (1, i))), some (.inl x1), some (.inl x2)] [] g := am_call_run (Nat.le_of_ble_eq_true rfl) rfl
set_option maxRecDepth 20000 in
theorem cF_linkUnder (d : Nat) (i : Nat) (x1 : Int32) (x2 : Int32) (x3 : Int32) (x4 : Int32) (g : am_G) : am_call (d + 1) 8 [.inr (.inr (1, i)), .inl x1, .inl x2, .inl x3, .inl x4] g = am_run (am_call d) 8 (99999 + 1) 0 [some (.inr (.inr (1, i))), some (.inl x1), some (.inl x2), some (.inl x3), some (.inl x4)] [] g := am_call_run (Nat.le_of_ble_eq_true rfl) rfl
set_option maxRecDepth 20000 in
theorem cF_cutBetween (d : Nat) (i : Nat) (x1 : Int32) (x2 : Int32) (g : am_G) : am_call (d + 1) 9 [.inr (.inr (1, i)), .inl x1, .inl x2] g = am_run (am_call d) 9 (99999 + 1) 0 [some (.inr (.inr (1, i))), some (.inl x1), some (.inl x2)] [] g := am_call_run (Nat.le_of_ble_eq_true rfl) rfl
set_option maxRecDepth 20000 in
theorem cF_settleTreeOf (d : Nat) (i : Nat) (x1 : Int32) (g : am_G) : am_call (d + 1) 10 [.inr (.inr (1, i)), .inl x1] g = am_run (am_call d) 10 (99999 + 1) 0 [some (.inr (.inr (1, i))), some (.inl x1), none, none, none, none] [] g := am_call_run (Nat.le_of_ble_eq_true rfl) rfl
set_option maxRecDepth 20000 in
theorem cF_rootOf (d : Nat) (i : Nat) (x1 : Int32) (g : am_G) : am_call (d + 1) 11 [.inr (.inr (1, i)), .inl x1] g = am_run (am_call d) 11 (99999 + 1) 0 [some (.inr (.inr (1, i))), some (.inl x1), none, none] [] g := am_call_run (Nat.le_of_ble_eq_true rfl) rfl
set_option maxRecDepth 20000 in
theorem cF_depthOf (d : Nat) (i : Nat) (x1 : Int32) (g : am_G) : am_call (d + 1) 12 [.inr (.inr (1, i)), .inl x1] g = am_run (am_call d) 12 (99999 + 1) 0 [some (.inr (.inr (1, i))), some (.inl x1), none, none, none] [] g := am_call_run (Nat.le_of_ble_eq_true rfl) rfl
set_option maxRecDepth 20000 in
theorem cF_climb (d : Nat) (i : Nat) (x1 : Int32) (x2 : Int32) (g : am_G) : am_call (d + 1) 13 [.inr (.inr (1, i)), .inl x1, .inl x2] g = am_run (am_call d) 13 (99999 + 1) 0 [some (.inr (.inr (1, i))), some (.inl x1), some (.inl x2), none, none] [] g := am_call_run (Nat.le_of_ble_eq_true rfl) rfl
set_option maxRecDepth 20000 in
theorem cF_isOver (d : Nat) (i : Nat) (x1 : Int32) (x2 : Int32) (g : am_G) : am_call (d + 1) 14 [.inr (.inr (1, i)), .inl x1, .inl x2] g = am_run (am_call d) 14 (99999 + 1) 0 [some (.inr (.inr (1, i))), some (.inl x1), some (.inl x2), none, none] [] g := am_call_run (Nat.le_of_ble_eq_true rfl) rfl
set_option maxRecDepth 20000 in
theorem cF_hangTogether (d : Nat) (i : Nat) (x1 : Int32) (x2 : Int32) (g : am_G) : am_call (d + 1) 15 [.inr (.inr (1, i)), .inl x1, .inl x2] g = am_run (am_call d) 15 (99999 + 1) 0 [some (.inr (.inr (1, i))), some (.inl x1), some (.inl x2)] [] g := am_call_run (Nat.le_of_ble_eq_true rfl) rfl
set_option maxRecDepth 20000 in
theorem cF_meetingOf (d : Nat) (i : Nat) (x1 : Int32) (x2 : Int32) (g : am_G) : am_call (d + 1) 16 [.inr (.inr (1, i)), .inl x1, .inl x2] g = am_run (am_call d) 16 (99999 + 1) 0 [some (.inr (.inr (1, i))), some (.inl x1), some (.inl x2), none, none, none, none, none] [] g := am_call_run (Nat.le_of_ble_eq_true rfl) rfl
set_option maxRecDepth 20000 in
theorem cF_lowerOf (d : Nat) (i : Nat) (x1 : Int32) (x2 : Int32) (g : am_G) : am_call (d + 1) 17 [.inr (.inr (1, i)), .inl x1, .inl x2] g = am_run (am_call d) 17 (99999 + 1) 0 [some (.inr (.inr (1, i))), some (.inl x1), some (.inl x2)] [] g := am_call_run (Nat.le_of_ble_eq_true rfl) rfl
set_option maxRecDepth 20000 in
theorem cF_headOf (d : Nat) (i : Nat) (x1 : Int32) (g : am_G) : am_call (d + 1) 18 [.inr (.inr (1, i)), .inl x1] g = am_run (am_call d) 18 (99999 + 1) 0 [some (.inr (.inr (1, i))), some (.inl x1), none, none, none] [] g := am_call_run (Nat.le_of_ble_eq_true rfl) rfl
set_option maxRecDepth 20000 in
theorem cF_tailOf (d : Nat) (i : Nat) (x1 : Int32) (g : am_G) : am_call (d + 1) 19 [.inr (.inr (1, i)), .inl x1] g = am_run (am_call d) 19 (99999 + 1) 0 [some (.inr (.inr (1, i))), some (.inl x1), none, none] [] g := am_call_run (Nat.le_of_ble_eq_true rfl) rfl
set_option maxRecDepth 20000 in
theorem cF_trees (d : Nat) (i : Nat) (g : am_G) : am_call (d + 1) 20 [.inr (.inr (1, i))] g = am_run (am_call d) 20 (99999 + 1) 0 [some (.inr (.inr (1, i))), none, none] [] g := am_call_run (Nat.le_of_ble_eq_true rfl) rfl
set_option maxRecDepth 20000 in
theorem cF_chains (d : Nat) (i : Nat) (g : am_G) : am_call (d + 1) 21 [.inr (.inr (1, i))] g = am_run (am_call d) 21 (99999 + 1) 0 [some (.inr (.inr (1, i))), none, none] [] g := am_call_run (Nat.le_of_ble_eq_true rfl) rfl
set_option maxRecDepth 20000 in
theorem cF_weigh (d : Nat) (i : Nat) (g : am_G) : am_call (d + 1) 22 [.inr (.inr (1, i))] g = am_run (am_call d) 22 (99999 + 1) 0 [some (.inr (.inr (1, i))), none, none, none] [] g := am_call_run (Nat.le_of_ble_eq_true rfl) rfl
set_option maxRecDepth 20000 in
theorem cF_sizeOf (d : Nat) (i : Nat) (x1 : Int32) (g : am_G) : am_call (d + 1) 23 [.inr (.inr (1, i)), .inl x1] g = am_run (am_call d) 23 (99999 + 1) 0 [some (.inr (.inr (1, i))), some (.inl x1)] [] g := am_call_run (Nat.le_of_ble_eq_true rfl) rfl
set_option maxRecDepth 20000 in
theorem cF_valuesUnder (d : Nat) (i : Nat) (x1 : Int32) (g : am_G) : am_call (d + 1) 24 [.inr (.inr (1, i)), .inl x1] g = am_run (am_call d) 24 (99999 + 1) 0 [some (.inr (.inr (1, i))), some (.inl x1), none, none] [] g := am_call_run (Nat.le_of_ble_eq_true rfl) rfl
set_option maxRecDepth 20000 in
theorem cF_childrenOf (d : Nat) (i : Nat) (x1 : Int32) (g : am_G) : am_call (d + 1) 25 [.inr (.inr (1, i)), .inl x1] g = am_run (am_call d) 25 (99999 + 1) 0 [some (.inr (.inr (1, i))), some (.inl x1), none, none] [] g := am_call_run (Nat.le_of_ble_eq_true rfl) rfl
set_option maxRecDepth 20000 in
theorem cF_heavyChildOf (d : Nat) (i : Nat) (x1 : Int32) (g : am_G) : am_call (d + 1) 26 [.inr (.inr (1, i)), .inl x1] g = am_run (am_call d) 26 (99999 + 1) 0 [some (.inr (.inr (1, i))), some (.inl x1)] [] g := am_call_run (Nat.le_of_ble_eq_true rfl) rfl
set_option maxRecDepth 20000 in
theorem cF_heavyOfWeighed (d : Nat) (i : Nat) (x1 : Int32) (g : am_G) : am_call (d + 1) 27 [.inr (.inr (1, i)), .inl x1] g = am_run (am_call d) 27 (99999 + 1) 0 [some (.inr (.inr (1, i))), some (.inl x1), none] [] g := am_call_run (Nat.le_of_ble_eq_true rfl) rfl
set_option maxRecDepth 20000 in
theorem cF_heavyNotPreferred (d : Nat) (i : Nat) (g : am_G) : am_call (d + 1) 28 [.inr (.inr (1, i))] g = am_run (am_call d) 28 (99999 + 1) 0 [some (.inr (.inr (1, i))), none, none, none] [] g := am_call_run (Nat.le_of_ble_eq_true rfl) rfl
set_option maxRecDepth 20000 in
theorem cF_switchesTo (d : Nat) (i : Nat) (x1 : Int32) (g : am_G) : am_call (d + 1) 29 [.inr (.inr (1, i)), .inl x1] g = am_run (am_call d) 29 (99999 + 1) 0 [some (.inr (.inr (1, i))), some (.inl x1), none, none, none, none] [] g := am_call_run (Nat.le_of_ble_eq_true rfl) rfl
set_option maxRecDepth 20000 in
theorem cF_lowerOfExtreme_5 (d : Nat) (i : Nat) (x1 : Int32) (x3 : Int32) (g : am_G) : am_call (d + 1) 30 [.inr (.inr (1, i)), .inl x1, .inr (.inr (5, i)), .inl x3] g = am_run (am_call d) 30 (99999 + 1) 0 [some (.inr (.inr (1, i))), some (.inl x1), some (.inr (.inr (5, i))), some (.inl x3), none, none, none] [] g := am_call_run (Nat.le_of_ble_eq_true rfl) rfl
set_option maxRecDepth 20000 in
theorem cF_lowerOfExtreme_4 (d : Nat) (i : Nat) (x1 : Int32) (x3 : Int32) (g : am_G) : am_call (d + 1) 30 [.inr (.inr (1, i)), .inl x1, .inr (.inr (4, i)), .inl x3] g = am_run (am_call d) 30 (99999 + 1) 0 [some (.inr (.inr (1, i))), some (.inl x1), some (.inr (.inr (4, i))), some (.inl x3), none, none, none] [] g := am_call_run (Nat.le_of_ble_eq_true rfl) rfl
set_option maxRecDepth 20000 in
theorem cF_midstOfTreeOf (d : Nat) (i : Nat) (x1 : Int32) (g : am_G) : am_call (d + 1) 31 [.inr (.inr (1, i)), .inl x1] g = am_run (am_call d) 31 (99999 + 1) 0 [some (.inr (.inr (1, i))), some (.inl x1), none, none, none, none, none] [] g := am_call_run (Nat.le_of_ble_eq_true rfl) rfl
set_option maxRecDepth 20000 in
theorem cF_greatestPartOfWeighed (d : Nat) (i : Nat) (x1 : Int32) (x2 : Int32) (g : am_G) : am_call (d + 1) 32 [.inr (.inr (1, i)), .inl x1, .inl x2] g = am_run (am_call d) 32 (99999 + 1) 0 [some (.inr (.inr (1, i))), some (.inl x1), some (.inl x2), none, none] [] g := am_call_run (Nat.le_of_ble_eq_true rfl) rfl
set_option maxRecDepth 20000 in
theorem cF_partsBy (d : Nat) (i : Nat) (x1 : Int32) (g : am_G) : am_call (d + 1) 33 [.inr (.inr (1, i)), .inl x1] g = am_run (am_call d) 33 (99999 + 1) 0 [some (.inr (.inr (1, i))), some (.inl x1), none, none] [] g := am_call_run (Nat.le_of_ble_eq_true rfl) rfl
set_option maxRecDepth 20000 in
theorem cF_leastLengthFor (d : Nat) (i : Nat) (x1 : Int32) (g : am_G) : am_call (d + 1) 34 [.inr (.inr (1, i)), .inl x1] g = am_run (am_call d) 34 (99999 + 1) 0 [some (.inr (.inr (1, i))), some (.inl x1), none, none] [] g := am_call_run (Nat.le_of_ble_eq_true rfl) rfl
set_option maxRecDepth 20000 in
theorem cB_start (d : Nat) (i : Nat) (x2 : Int32) (g : am_G) : am_call (d + 1) 35 [.inr (.inr (28, 0)), .inr (.inr (1, i)), .inl x2] g = am_run (am_call d) 35 (99999 + 1) 0 [some (.inr (.inr (28, 0))), some (.inr (.inr (1, i))), some (.inl x2)] [] g := am_call_run (Nat.le_of_ble_eq_true rfl) rfl
set_option maxRecDepth 20000 in
theorem cB_draw (d : Nat) (x1 : Int32) (g : am_G) : am_call (d + 1) 36 [.inr (.inr (28, 0)), .inl x1] g = am_run (am_call d) 36 (99999 + 1) 0 [some (.inr (.inr (28, 0))), some (.inl x1)] [] g := am_call_run (Nat.le_of_ble_eq_true rfl) rfl
set_option maxRecDepth 20000 in
theorem cB_doOne (d : Nat)  (g : am_G) : am_call (d + 1) 37 [.inr (.inr (28, 0))] g = am_run (am_call d) 37 (99999 + 1) 0 [some (.inr (.inr (28, 0))), none, none, none] [] g := am_call_run (Nat.le_of_ble_eq_true rfl) rfl
set_option maxRecDepth 20000 in
theorem cH_forget (d : Nat)  (g : am_G) : am_call (d + 1) 38 [.inr (.inr (14, 0))] g = am_run (am_call d) 38 (99999 + 1) 0 [some (.inr (.inr (14, 0)))] [] g := am_call_run (Nat.le_of_ble_eq_true rfl) rfl
set_option maxRecDepth 20000 in
theorem cH_remember (d : Nat) (i : Nat) (g : am_G) : am_call (d + 1) 39 [.inr (.inr (14, 0)), .inr (.inr (1, i))] g = am_run (am_call d) 39 (99999 + 1) 0 [some (.inr (.inr (14, 0))), some (.inr (.inr (1, i)))] [] g := am_call_run (Nat.le_of_ble_eq_true rfl) rfl
set_option maxRecDepth 20000 in
theorem cH_goBack (d : Nat) (i : Nat) (g : am_G) : am_call (d + 1) 40 [.inr (.inr (14, 0)), .inr (.inr (1, i))] g = am_run (am_call d) 40 (99999 + 1) 0 [some (.inr (.inr (14, 0))), some (.inr (.inr (1, i)))] [] g := am_call_run (Nat.le_of_ble_eq_true rfl) rfl
set_option maxRecDepth 20000 in
theorem cN_clear (d : Nat) (i : Nat) (g : am_G) : am_call (d + 1) 41 [.inr (.inr (8, i))] g = am_run (am_call d) 41 (99999 + 1) 0 [some (.inr (.inr (8, i)))] [] g := am_call_run (Nat.le_of_ble_eq_true rfl) rfl
set_option maxRecDepth 20000 in
theorem cN_copyFrom (d : Nat) (i j : Nat) (g : am_G) : am_call (d + 1) 42 [.inr (.inr (8, i)), .inr (.inr (8, j))] g = am_run (am_call d) 42 (99999 + 1) 0 [some (.inr (.inr (8, i))), some (.inr (.inr (8, j)))] [] g := am_call_run (Nat.le_of_ble_eq_true rfl) rfl
set_option maxRecDepth 20000 in
theorem cN_add (d : Nat) (i : Nat) (x1 : Int32) (g : am_G) : am_call (d + 1) 43 [.inr (.inr (8, i)), .inl x1] g = am_run (am_call d) 43 (99999 + 1) 0 [some (.inr (.inr (8, i))), some (.inl x1)] [] g := am_call_run (Nat.le_of_ble_eq_true rfl) rfl
set_option maxRecDepth 20000 in
theorem cN_find (d : Nat) (i : Nat) (x1 : Int32) (g : am_G) : am_call (d + 1) 44 [.inr (.inr (8, i)), .inl x1] g = am_run (am_call d) 44 (99999 + 1) 0 [some (.inr (.inr (8, i))), some (.inl x1), none] [] g := am_call_run (Nat.le_of_ble_eq_true rfl) rfl
set_option maxRecDepth 20000 in
theorem cR_opn (d : Nat) (x2 : Int32) (g : am_G) : am_call (d + 1) 45 [.inr (.inr (11, 0)), .inr (.inr (13, 0)), .inl x2] g = am_run (am_call d) 45 (99999 + 1) 0 [some (.inr (.inr (11, 0))), some (.inr (.inr (13, 0))), some (.inl x2)] [] g := am_call_run (Nat.le_of_ble_eq_true rfl) rfl
set_option maxRecDepth 20000 in
theorem cR_step (d : Nat)  (g : am_G) : am_call (d + 1) 46 [.inr (.inr (11, 0))] g = am_run (am_call d) 46 (99999 + 1) 0 [some (.inr (.inr (11, 0)))] [] g := am_call_run (Nat.le_of_ble_eq_true rfl) rfl
set_option maxRecDepth 20000 in
theorem cR_isLetterAt (d : Nat) (x1 : Int32) (g : am_G) : am_call (d + 1) 47 [.inr (.inr (11, 0)), .inl x1] g = am_run (am_call d) 47 (99999 + 1) 0 [some (.inr (.inr (11, 0))), some (.inl x1)] [] g := am_call_run (Nat.le_of_ble_eq_true rfl) rfl
set_option maxRecDepth 20000 in
theorem cR_isDigitAt (d : Nat) (x1 : Int32) (g : am_G) : am_call (d + 1) 48 [.inr (.inr (11, 0)), .inl x1] g = am_run (am_call d) 48 (99999 + 1) 0 [some (.inr (.inr (11, 0))), some (.inl x1)] [] g := am_call_run (Nat.le_of_ble_eq_true rfl) rfl
set_option maxRecDepth 20000 in
theorem cR_readWord (d : Nat)  (g : am_G) : am_call (d + 1) 49 [.inr (.inr (11, 0))] g = am_run (am_call d) 49 (99999 + 1) 0 [some (.inr (.inr (11, 0))), none] [] g := am_call_run (Nat.le_of_ble_eq_true rfl) rfl
set_option maxRecDepth 20000 in
theorem cR_readDigits (d : Nat)  (g : am_G) : am_call (d + 1) 50 [.inr (.inr (11, 0))] g = am_run (am_call d) 50 (99999 + 1) 0 [some (.inr (.inr (11, 0)))] [] g := am_call_run (Nat.le_of_ble_eq_true rfl) rfl
set_option maxRecDepth 20000 in
theorem cS_look (d : Nat) (i w : Nat) (x3 : Int32) (g : am_G) : am_call (d + 1) 51 [.inr (.inr (18, 0)), .inr (.inr (1, i)), .inr (.inr (16, w)), .inl x3] g = am_run (am_call d) 51 (99999 + 1) 0 [some (.inr (.inr (18, 0))), some (.inr (.inr (1, i))), some (.inr (.inr (16, w))), some (.inl x3), none] [] g := am_call_run (Nat.le_of_ble_eq_true rfl) rfl
set_option maxRecDepth 20000 in
theorem cV_lineUp (d : Nat) (i : Nat) (x2 : Int32) (g : am_G) : am_call (d + 1) 52 [.inr (.inr (20, 0)), .inr (.inr (1, i)), .inl x2] g = am_run (am_call d) 52 (99999 + 1) 0 [some (.inr (.inr (20, 0))), some (.inr (.inr (1, i))), some (.inl x2), none, none, none] [] g := am_call_run (Nat.le_of_ble_eq_true rfl) rfl
set_option maxRecDepth 20000 in
theorem cV_opnChildren (d : Nat) (i : Nat) (x2 : Int32) (x3 : Int32) (g : am_G) : am_call (d + 1) 53 [.inr (.inr (20, 0)), .inr (.inr (1, i)), .inl x2, .inl x3] g = am_run (am_call d) 53 (99999 + 1) 0 [some (.inr (.inr (20, 0))), some (.inr (.inr (1, i))), some (.inl x2), some (.inl x3), none, none, none] [] g := am_call_run (Nat.le_of_ble_eq_true rfl) rfl
set_option maxRecDepth 20000 in
theorem cV_placeOf (d : Nat) (x1 : Int32) (g : am_G) : am_call (d + 1) 54 [.inr (.inr (20, 0)), .inl x1] g = am_run (am_call d) 54 (99999 + 1) 0 [some (.inr (.inr (20, 0))), some (.inl x1), none] [] g := am_call_run (Nat.le_of_ble_eq_true rfl) rfl
set_option maxRecDepth 20000 in
theorem cV_measure (d : Nat) (i : Nat) (x2 : Int32) (g : am_G) : am_call (d + 1) 55 [.inr (.inr (20, 0)), .inr (.inr (1, i)), .inl x2] g = am_run (am_call d) 55 (99999 + 1) 0 [some (.inr (.inr (20, 0))), some (.inr (.inr (1, i))), some (.inl x2), none, none, none, none, none, none] [] g := am_call_run (Nat.le_of_ble_eq_true rfl) rfl
set_option maxRecDepth 20000 in
theorem cV_farthestFrom (d : Nat) (x1 : Int32) (g : am_G) : am_call (d + 1) 56 [.inr (.inr (20, 0)), .inl x1] g = am_run (am_call d) 56 (99999 + 1) 0 [some (.inr (.inr (20, 0))), some (.inl x1), none, none] [] g := am_call_run (Nat.le_of_ble_eq_true rfl) rfl
set_option maxRecDepth 20000 in
theorem cV_widestReach (d : Nat)  (g : am_G) : am_call (d + 1) 57 [.inr (.inr (20, 0))] g = am_run (am_call d) 57 (99999 + 1) 0 [some (.inr (.inr (20, 0))), none, none] [] g := am_call_run (Nat.le_of_ble_eq_true rfl) rfl
set_option maxRecDepth 20000 in
theorem cV_findHomes (d : Nat) (i : Nat) (g : am_G) : am_call (d + 1) 58 [.inr (.inr (20, 0)), .inr (.inr (1, i))] g = am_run (am_call d) 58 (99999 + 1) 0 [some (.inr (.inr (20, 0))), some (.inr (.inr (1, i))), none] [] g := am_call_run (Nat.le_of_ble_eq_true rfl) rfl
set_option maxRecDepth 20000 in
theorem cV_setPair (d : Nat) (x1 : Int32) (x2 : Int32) (x3 : Int32) (g : am_G) : am_call (d + 1) 59 [.inr (.inr (20, 0)), .inl x1, .inl x2, .inl x3] g = am_run (am_call d) 59 (99999 + 1) 0 [some (.inr (.inr (20, 0))), some (.inl x1), some (.inl x2), some (.inl x3)] [] g := am_call_run (Nat.le_of_ble_eq_true rfl) rfl
set_option maxRecDepth 20000 in
theorem cV_findWidest (d : Nat) (i : Nat) (x2 : Int32) (g : am_G) : am_call (d + 1) 60 [.inr (.inr (20, 0)), .inr (.inr (1, i)), .inl x2] g = am_run (am_call d) 60 (99999 + 1) 0 [some (.inr (.inr (20, 0))), some (.inr (.inr (1, i))), some (.inl x2), none, none, none] [] g := am_call_run (Nat.le_of_ble_eq_true rfl) rfl
set_option maxRecDepth 20000 in
theorem cV_findJoint (d : Nat) (i : Nat) (x2 : Int32) (x3 : Int32) (g : am_G) : am_call (d + 1) 61 [.inr (.inr (20, 0)), .inr (.inr (1, i)), .inl x2, .inl x3] g = am_run (am_call d) 61 (99999 + 1) 0 [some (.inr (.inr (20, 0))), some (.inr (.inr (1, i))), some (.inl x2), some (.inl x3), none, none, none, none, none, none] [] g := am_call_run (Nat.le_of_ble_eq_true rfl) rfl
set_option maxRecDepth 20000 in
theorem cT_tell (d : Nat) (x2 : Int32) (g : am_G) : am_call (d + 1) 62 [.inr (.inr (10, 0)), .inr (.inr (13, 0)), .inl x2] g = am_run (am_call d) 62 (99999 + 1) 0 [some (.inr (.inr (10, 0))), some (.inr (.inr (13, 0))), some (.inl x2), none] [] g := am_call_run (Nat.le_of_ble_eq_true rfl) rfl
set_option maxRecDepth 20000 in
theorem cT_fail (d : Nat) (x1 : Int32) (g : am_G) : am_call (d + 1) 63 [.inr (.inr (10, 0)), .inl x1] g = am_run (am_call d) 63 (99999 + 1) 0 [some (.inr (.inr (10, 0))), some (.inl x1)] [] g := am_call_run (Nat.le_of_ble_eq_true rfl) rfl
set_option maxRecDepth 20000 in
theorem cT_tellLine (d : Nat)  (g : am_G) : am_call (d + 1) 64 [.inr (.inr (10, 0))] g = am_run (am_call d) 64 (99999 + 1) 0 [some (.inr (.inr (10, 0))), none] [] g := am_call_run (Nat.le_of_ble_eq_true rfl) rfl
set_option maxRecDepth 20000 in
theorem cT_tellTown (d : Nat)  (g : am_G) : am_call (d + 1) 65 [.inr (.inr (10, 0))] g = am_run (am_call d) 65 (99999 + 1) 0 [some (.inr (.inr (10, 0))), none, none] [] g := am_call_run (Nat.le_of_ble_eq_true rfl) rfl
set_option maxRecDepth 20000 in
theorem cT_tellLink (d : Nat)  (g : am_G) : am_call (d + 1) 66 [.inr (.inr (10, 0))] g = am_run (am_call d) 66 (99999 + 1) 0 [some (.inr (.inr (10, 0))), none, none, none, none] [] g := am_call_run (Nat.le_of_ble_eq_true rfl) rfl
set_option maxRecDepth 20000 in
theorem cT_tellDeed (d : Nat) (x1 : Int32) (g : am_G) : am_call (d + 1) 67 [.inr (.inr (10, 0)), .inl x1] g = am_run (am_call d) 67 (99999 + 1) 0 [some (.inr (.inr (10, 0))), some (.inl x1), none] [] g := am_call_run (Nat.le_of_ble_eq_true rfl) rfl
set_option maxRecDepth 20000 in
theorem cT_tellSeed (d : Nat)  (g : am_G) : am_call (d + 1) 68 [.inr (.inr (10, 0))] g = am_run (am_call d) 68 (99999 + 1) 0 [some (.inr (.inr (10, 0)))] [] g := am_call_run (Nat.le_of_ble_eq_true rfl) rfl
set_option maxRecDepth 20000 in
theorem cT_isAtName (d : Nat)  (g : am_G) : am_call (d + 1) 69 [.inr (.inr (10, 0))] g = am_run (am_call d) 69 (99999 + 1) 0 [some (.inr (.inr (10, 0)))] [] g := am_call_run (Nat.le_of_ble_eq_true rfl) rfl
set_option maxRecDepth 20000 in
theorem cT_takesTown (d : Nat)  (g : am_G) : am_call (d + 1) 70 [.inr (.inr (10, 0))] g = am_run (am_call d) 70 (99999 + 1) 0 [some (.inr (.inr (10, 0)))] [] g := am_call_run (Nat.le_of_ble_eq_true rfl) rfl
set_option maxRecDepth 20000 in
theorem cT_takesNumber (d : Nat)  (g : am_G) : am_call (d + 1) 71 [.inr (.inr (10, 0))] g = am_run (am_call d) 71 (99999 + 1) 0 [some (.inr (.inr (10, 0)))] [] g := am_call_run (Nat.le_of_ble_eq_true rfl) rfl
set_option maxRecDepth 20000 in
theorem cT_takesNumberWithin (d : Nat) (x1 : Int32) (x2 : Int32) (g : am_G) : am_call (d + 1) 72 [.inr (.inr (10, 0)), .inl x1, .inl x2] g = am_run (am_call d) 72 (99999 + 1) 0 [some (.inr (.inr (10, 0))), some (.inl x1), some (.inl x2)] [] g := am_call_run (Nat.le_of_ble_eq_true rfl) rfl
set_option maxRecDepth 20000 in
theorem cT_endsLine (d : Nat)  (g : am_G) : am_call (d + 1) 73 [.inr (.inr (10, 0))] g = am_run (am_call d) 73 (99999 + 1) 0 [some (.inr (.inr (10, 0)))] [] g := am_call_run (Nat.le_of_ble_eq_true rfl) rfl
set_option maxRecDepth 20000 in
theorem cY_lay (d : Nat) (w i : Nat) (x2 : Int32) (x3 : Int32) (g : am_G) : am_call (d + 1) 74 [.inr (.inr (16, w)), .inr (.inr (1, i)), .inl x2, .inl x3] g = am_run (am_call d) 74 (99999 + 1) 0 [some (.inr (.inr (16, w))), some (.inr (.inr (1, i))), some (.inl x2), some (.inl x3), none, none, none, none, none] [] g := am_call_run (Nat.le_of_ble_eq_true rfl) rfl
set_option maxRecDepth 20000 in
theorem cY_lowerOfLink (d : Nat) (w i : Nat) (x2 : Int32) (g : am_G) : am_call (d + 1) 75 [.inr (.inr (16, w)), .inr (.inr (1, i)), .inl x2] g = am_run (am_call d) 75 (99999 + 1) 0 [some (.inr (.inr (16, w))), some (.inr (.inr (1, i))), some (.inl x2), none] [] g := am_call_run (Nat.le_of_ble_eq_true rfl) rfl
set_option maxRecDepth 20000 in
theorem cY_lengths (d : Nat) (w i : Nat) (g : am_G) : am_call (d + 1) 76 [.inr (.inr (16, w)), .inr (.inr (1, i))] g = am_run (am_call d) 76 (99999 + 1) 0 [some (.inr (.inr (16, w))), some (.inr (.inr (1, i))), none, none] [] g := am_call_run (Nat.le_of_ble_eq_true rfl) rfl
set_option maxRecDepth 20000 in
theorem cY_values (d : Nat) (w i : Nat) (g : am_G) : am_call (d + 1) 77 [.inr (.inr (16, w)), .inr (.inr (1, i))] g = am_run (am_call d) 77 (99999 + 1) 0 [some (.inr (.inr (16, w))), some (.inr (.inr (1, i))), none, none] [] g := am_call_run (Nat.le_of_ble_eq_true rfl) rfl
set_option maxRecDepth 20000 in
theorem cY_dearestLink (d : Nat) (w i : Nat) (g : am_G) : am_call (d + 1) 78 [.inr (.inr (16, w)), .inr (.inr (1, i))] g = am_run (am_call d) 78 (99999 + 1) 0 [some (.inr (.inr (16, w))), some (.inr (.inr (1, i))), none, none, none, none] [] g := am_call_run (Nat.le_of_ble_eq_true rfl) rfl
set_option maxRecDepth 20000 in
theorem cY_dearestLength (d : Nat) (w i : Nat) (g : am_G) : am_call (d + 1) 79 [.inr (.inr (16, w)), .inr (.inr (1, i))] g = am_run (am_call d) 79 (99999 + 1) 0 [some (.inr (.inr (16, w))), some (.inr (.inr (1, i))), none] [] g := am_call_run (Nat.le_of_ble_eq_true rfl) rfl
set_option maxRecDepth 20000 in
theorem cY_cutDearestLink (d : Nat) (w i : Nat) (g : am_G) : am_call (d + 1) 80 [.inr (.inr (16, w)), .inr (.inr (1, i))] g = am_run (am_call d) 80 (99999 + 1) 0 [some (.inr (.inr (16, w))), some (.inr (.inr (1, i))), none] [] g := am_call_run (Nat.le_of_ble_eq_true rfl) rfl
set_option maxRecDepth 20000 in
theorem cY_leastOf_5 (d : Nat) (w i : Nat) (g : am_G) : am_call (d + 1) 81 [.inr (.inr (16, w)), .inr (.inr (1, i)), .inr (.inr (5, i))] g = am_run (am_call d) 81 (99999 + 1) 0 [some (.inr (.inr (16, w))), some (.inr (.inr (1, i))), some (.inr (.inr (5, i))), none, none, none] [] g := am_call_run (Nat.le_of_ble_eq_true rfl) rfl
set_option maxRecDepth 20000 in
theorem cY_leastOf_4 (d : Nat) (w i : Nat) (g : am_G) : am_call (d + 1) 81 [.inr (.inr (16, w)), .inr (.inr (1, i)), .inr (.inr (4, i))] g = am_run (am_call d) 81 (99999 + 1) 0 [some (.inr (.inr (16, w))), some (.inr (.inr (1, i))), some (.inr (.inr (4, i))), none, none, none] [] g := am_call_run (Nat.le_of_ble_eq_true rfl) rfl
set_option maxRecDepth 20000 in
theorem cY_keepsWithin_4 (d : Nat) (w i : Nat) (x3 : Int32) (x4 : Int32) (g : am_G) : am_call (d + 1) 82 [.inr (.inr (16, w)), .inr (.inr (1, i)), .inr (.inr (4, i)), .inl x3, .inl x4] g = am_run (am_call d) 82 (99999 + 1) 0 [some (.inr (.inr (16, w))), some (.inr (.inr (1, i))), some (.inr (.inr (4, i))), some (.inl x3), some (.inl x4), none] [] g := am_call_run (Nat.le_of_ble_eq_true rfl) rfl
set_option maxRecDepth 20000 in
theorem cY_keepsWithin_5 (d : Nat) (w i : Nat) (x3 : Int32) (x4 : Int32) (g : am_G) : am_call (d + 1) 82 [.inr (.inr (16, w)), .inr (.inr (1, i)), .inr (.inr (5, i)), .inl x3, .inl x4] g = am_run (am_call d) 82 (99999 + 1) 0 [some (.inr (.inr (16, w))), some (.inr (.inr (1, i))), some (.inr (.inr (5, i))), some (.inl x3), some (.inl x4), none] [] g := am_call_run (Nat.le_of_ble_eq_true rfl) rfl
set_option maxRecDepth 20000 in
theorem cY_addToAll_4 (d : Nat) (w i : Nat) (x3 : Int32) (g : am_G) : am_call (d + 1) 83 [.inr (.inr (16, w)), .inr (.inr (1, i)), .inr (.inr (4, i)), .inl x3] g = am_run (am_call d) 83 (99999 + 1) 0 [some (.inr (.inr (16, w))), some (.inr (.inr (1, i))), some (.inr (.inr (4, i))), some (.inl x3), none] [] g := am_call_run (Nat.le_of_ble_eq_true rfl) rfl
set_option maxRecDepth 20000 in
theorem cY_addToAll_5 (d : Nat) (w i : Nat) (x3 : Int32) (g : am_G) : am_call (d + 1) 83 [.inr (.inr (16, w)), .inr (.inr (1, i)), .inr (.inr (5, i)), .inl x3] g = am_run (am_call d) 83 (99999 + 1) 0 [some (.inr (.inr (16, w))), some (.inr (.inr (1, i))), some (.inr (.inr (5, i))), some (.inl x3), none] [] g := am_call_run (Nat.le_of_ble_eq_true rfl) rfl
set_option maxRecDepth 20000 in
theorem cC_feed (d : Nat) (x1 : Int32) (x2 : Int32) (x3 : Int32) (x4 : Int32) (x5 : Int32) (g : am_G) : am_call (d + 1) 84 [.inr (.inr (0, 0)), .inl x1, .inl x2, .inl x3, .inl x4, .inl x5] g = am_run (am_call d) 84 (99999 + 1) 0 [some (.inr (.inr (0, 0))), some (.inl x1), some (.inl x2), some (.inl x3), some (.inl x4), some (.inl x5)] [] g := am_call_run (Nat.le_of_ble_eq_true rfl) rfl
set_option maxRecDepth 20000 in
theorem cC_text (d : Nat) (x1 : Int32) (g : am_G) : am_call (d + 1) 85 [.inr (.inr (0, 0)), .inl x1] g = am_run (am_call d) 85 (99999 + 1) 0 [some (.inr (.inr (0, 0))), some (.inl x1)] [] g := am_call_run (Nat.le_of_ble_eq_true rfl) rfl
set_option maxRecDepth 20000 in
theorem cC_fault (d : Nat) (x1 : Int32) (g : am_G) : am_call (d + 1) 86 [.inr (.inr (0, 0)), .inl x1] g = am_run (am_call d) 86 (99999 + 1) 0 [some (.inr (.inr (0, 0))), some (.inl x1)] [] g := am_call_run (Nat.le_of_ble_eq_true rfl) rfl
set_option maxRecDepth 20000 in
theorem cC_named (d : Nat) (x1 : Int32) (g : am_G) : am_call (d + 1) 87 [.inr (.inr (0, 0)), .inl x1] g = am_run (am_call d) 87 (99999 + 1) 0 [some (.inr (.inr (0, 0))), some (.inl x1)] [] g := am_call_run (Nat.le_of_ble_eq_true rfl) rfl
set_option maxRecDepth 20000 in
theorem cC_touch (d : Nat) (x1 : Int32) (g : am_G) : am_call (d + 1) 88 [.inr (.inr (0, 0)), .inl x1] g = am_run (am_call d) 88 (99999 + 1) 0 [some (.inr (.inr (0, 0))), some (.inl x1), none] [] g := am_call_run (Nat.le_of_ble_eq_true rfl) rfl
set_option maxRecDepth 20000 in
theorem cC_reroot (d : Nat) (x1 : Int32) (g : am_G) : am_call (d + 1) 89 [.inr (.inr (0, 0)), .inl x1] g = am_run (am_call d) 89 (99999 + 1) 0 [some (.inr (.inr (0, 0))), some (.inl x1), none] [] g := am_call_run (Nat.le_of_ble_eq_true rfl) rfl
set_option maxRecDepth 20000 in
theorem cC_link (d : Nat) (x1 : Int32) (x2 : Int32) (x3 : Int32) (x4 : Int32) (g : am_G) : am_call (d + 1) 90 [.inr (.inr (0, 0)), .inl x1, .inl x2, .inl x3, .inl x4] g = am_run (am_call d) 90 (99999 + 1) 0 [some (.inr (.inr (0, 0))), some (.inl x1), some (.inl x2), some (.inl x3), some (.inl x4)] [] g := am_call_run (Nat.le_of_ble_eq_true rfl) rfl
set_option maxRecDepth 20000 in
theorem cC_cut (d : Nat) (x1 : Int32) (x2 : Int32) (g : am_G) : am_call (d + 1) 91 [.inr (.inr (0, 0)), .inl x1, .inl x2] g = am_run (am_call d) 91 (99999 + 1) 0 [some (.inr (.inr (0, 0))), some (.inl x1), some (.inl x2), none, none] [] g := am_call_run (Nat.le_of_ble_eq_true rfl) rfl
set_option maxRecDepth 20000 in
theorem cC_walk (d : Nat) (x1 : Int32) (x2 : Int32) (g : am_G) : am_call (d + 1) 92 [.inr (.inr (0, 0)), .inl x1, .inl x2] g = am_run (am_call d) 92 (99999 + 1) 0 [some (.inr (.inr (0, 0))), some (.inl x1), some (.inl x2), none] [] g := am_call_run (Nat.le_of_ble_eq_true rfl) rfl
set_option maxRecDepth 20000 in
theorem cC_seen (d : Nat) (x1 : Int32) (g : am_G) : am_call (d + 1) 93 [.inr (.inr (0, 0)), .inl x1] g = am_run (am_call d) 93 (99999 + 1) 0 [some (.inr (.inr (0, 0))), some (.inl x1)] [] g := am_call_run (Nat.le_of_ble_eq_true rfl) rfl
set_option maxRecDepth 20000 in
theorem cC_meet (d : Nat) (x1 : Int32) (x2 : Int32) (g : am_G) : am_call (d + 1) 94 [.inr (.inr (0, 0)), .inl x1, .inl x2] g = am_run (am_call d) 94 (99999 + 1) 0 [some (.inr (.inr (0, 0))), some (.inl x1), some (.inl x2), none] [] g := am_call_run (Nat.le_of_ble_eq_true rfl) rfl
set_option maxRecDepth 20000 in
theorem cC_raise (d : Nat) (x1 : Int32) (x2 : Int32) (x3 : Int32) (g : am_G) : am_call (d + 1) 95 [.inr (.inr (0, 0)), .inl x1, .inl x2, .inl x3] g = am_run (am_call d) 95 (99999 + 1) 0 [some (.inr (.inr (0, 0))), some (.inl x1), some (.inl x2), some (.inl x3)] [] g := am_call_run (Nat.le_of_ble_eq_true rfl) rfl
set_option maxRecDepth 20000 in
theorem cC_cutDearest (d : Nat) (x1 : Int32) (x2 : Int32) (g : am_G) : am_call (d + 1) 96 [.inr (.inr (0, 0)), .inl x1, .inl x2] g = am_run (am_call d) 96 (99999 + 1) 0 [some (.inr (.inr (0, 0))), some (.inl x1), some (.inl x2), none] [] g := am_call_run (Nat.le_of_ble_eq_true rfl) rfl
set_option maxRecDepth 20000 in
theorem cC_send (d : Nat) (x1 : Int32) (x2 : Int32) (x3 : Int32) (g : am_G) : am_call (d + 1) 97 [.inr (.inr (0, 0)), .inl x1, .inl x2, .inl x3] g = am_run (am_call d) 97 (99999 + 1) 0 [some (.inr (.inr (0, 0))), some (.inl x1), some (.inl x2), some (.inl x3)] [] g := am_call_run (Nat.le_of_ble_eq_true rfl) rfl
set_option maxRecDepth 20000 in
theorem cC_settle (d : Nat) (x1 : Int32) (g : am_G) : am_call (d + 1) 98 [.inr (.inr (0, 0)), .inl x1] g = am_run (am_call d) 98 (99999 + 1) 0 [some (.inr (.inr (0, 0))), some (.inl x1)] [] g := am_call_run (Nat.le_of_ble_eq_true rfl) rfl
set_option maxRecDepth 20000 in
theorem cC_exchange (d : Nat) (x1 : Int32) (x2 : Int32) (x3 : Int32) (x4 : Int32) (g : am_G) : am_call (d + 1) 99 [.inr (.inr (0, 0)), .inl x1, .inl x2, .inl x3, .inl x4] g = am_run (am_call d) 99 (99999 + 1) 0 [some (.inr (.inr (0, 0))), some (.inl x1), some (.inl x2), some (.inl x3), some (.inl x4), none] [] g := am_call_run (Nat.le_of_ble_eq_true rfl) rfl
set_option maxRecDepth 20000 in
theorem cC_shed (d : Nat) (x1 : Int32) (g : am_G) : am_call (d + 1) 100 [.inr (.inr (0, 0)), .inl x1] g = am_run (am_call d) 100 (99999 + 1) 0 [some (.inr (.inr (0, 0))), some (.inl x1), none, none] [] g := am_call_run (Nat.le_of_ble_eq_true rfl) rfl
set_option maxRecDepth 20000 in
theorem cC_value (d : Nat) (x1 : Int32) (x2 : Int32) (g : am_G) : am_call (d + 1) 101 [.inr (.inr (0, 0)), .inl x1, .inl x2] g = am_run (am_call d) 101 (99999 + 1) 0 [some (.inr (.inr (0, 0))), some (.inl x1), some (.inl x2), none] [] g := am_call_run (Nat.le_of_ble_eq_true rfl) rfl
set_option maxRecDepth 20000 in
theorem cC_town (d : Nat) (x1 : Int32) (x2 : Int32) (g : am_G) : am_call (d + 1) 102 [.inr (.inr (0, 0)), .inl x1, .inl x2] g = am_run (am_call d) 102 (99999 + 1) 0 [some (.inr (.inr (0, 0))), some (.inl x1), some (.inl x2)] [] g := am_call_run (Nat.le_of_ble_eq_true rfl) rfl
set_option maxRecDepth 20000 in
theorem cC_chain (d : Nat) (x1 : Int32) (x2 : Int32) (g : am_G) : am_call (d + 1) 103 [.inr (.inr (0, 0)), .inl x1, .inl x2] g = am_run (am_call d) 103 (99999 + 1) 0 [some (.inr (.inr (0, 0))), some (.inl x1), some (.inl x2), none, none] [] g := am_call_run (Nat.le_of_ble_eq_true rfl) rfl
set_option maxRecDepth 20000 in
theorem cC_above (d : Nat) (x1 : Int32) (x2 : Int32) (g : am_G) : am_call (d + 1) 104 [.inr (.inr (0, 0)), .inl x1, .inl x2] g = am_run (am_call d) 104 (99999 + 1) 0 [some (.inr (.inr (0, 0))), some (.inl x1), some (.inl x2)] [] g := am_call_run (Nat.le_of_ble_eq_true rfl) rfl
set_option maxRecDepth 20000 in
theorem cC_along (d : Nat) (x1 : Int32) (x2 : Int32) (x3 : Int32) (g : am_G) : am_call (d + 1) 105 [.inr (.inr (0, 0)), .inl x1, .inl x2, .inl x3] g = am_run (am_call d) 105 (99999 + 1) 0 [some (.inr (.inr (0, 0))), some (.inl x1), some (.inl x2), some (.inl x3)] [] g := am_call_run (Nat.le_of_ble_eq_true rfl) rfl
set_option maxRecDepth 20000 in
theorem cC_together (d : Nat) (x1 : Int32) (x2 : Int32) (g : am_G) : am_call (d + 1) 106 [.inr (.inr (0, 0)), .inl x1, .inl x2] g = am_run (am_call d) 106 (99999 + 1) 0 [some (.inr (.inr (0, 0))), some (.inl x1), some (.inl x2)] [] g := am_call_run (Nat.le_of_ble_eq_true rfl) rfl
set_option maxRecDepth 20000 in
theorem cC_far (d : Nat) (x1 : Int32) (x2 : Int32) (g : am_G) : am_call (d + 1) 107 [.inr (.inr (0, 0)), .inl x1, .inl x2] g = am_run (am_call d) 107 (99999 + 1) 0 [some (.inr (.inr (0, 0))), some (.inl x1), some (.inl x2)] [] g := am_call_run (Nat.le_of_ble_eq_true rfl) rfl
set_option maxRecDepth 20000 in
theorem cC_meets (d : Nat) (x1 : Int32) (x2 : Int32) (g : am_G) : am_call (d + 1) 108 [.inr (.inr (0, 0)), .inl x1, .inl x2] g = am_run (am_call d) 108 (99999 + 1) 0 [some (.inr (.inr (0, 0))), some (.inl x1), some (.inl x2), none] [] g := am_call_run (Nat.le_of_ble_eq_true rfl) rfl
set_option maxRecDepth 20000 in
theorem cC_room (d : Nat) (x1 : Int32) (x2 : Int32) (g : am_G) : am_call (d + 1) 109 [.inr (.inr (0, 0)), .inl x1, .inl x2] g = am_run (am_call d) 109 (99999 + 1) 0 [some (.inr (.inr (0, 0))), some (.inl x1), some (.inl x2)] [] g := am_call_run (Nat.le_of_ble_eq_true rfl) rfl
set_option maxRecDepth 20000 in
theorem cC_order (d : Nat) (x1 : Int32) (x2 : Int32) (g : am_G) : am_call (d + 1) 110 [.inr (.inr (0, 0)), .inl x1, .inl x2] g = am_run (am_call d) 110 (99999 + 1) 0 [some (.inr (.inr (0, 0))), some (.inl x1), some (.inl x2)] [] g := am_call_run (Nat.le_of_ble_eq_true rfl) rfl
set_option maxRecDepth 20000 in
theorem cC_place (d : Nat) (x1 : Int32) (g : am_G) : am_call (d + 1) 111 [.inr (.inr (0, 0)), .inl x1] g = am_run (am_call d) 111 (99999 + 1) 0 [some (.inr (.inr (0, 0))), some (.inl x1)] [] g := am_call_run (Nat.le_of_ble_eq_true rfl) rfl
set_option maxRecDepth 20000 in
theorem cC_joint (d : Nat) (x1 : Int32) (x2 : Int32) (x3 : Int32) (g : am_G) : am_call (d + 1) 112 [.inr (.inr (0, 0)), .inl x1, .inl x2, .inl x3] g = am_run (am_call d) 112 (99999 + 1) 0 [some (.inr (.inr (0, 0))), some (.inl x1), some (.inl x2), some (.inl x3)] [] g := am_call_run (Nat.le_of_ble_eq_true rfl) rfl
set_option maxRecDepth 20000 in
theorem cC_tightest (d : Nat) (x1 : Int32) (g : am_G) : am_call (d + 1) 113 [.inr (.inr (0, 0)), .inl x1] g = am_run (am_call d) 113 (99999 + 1) 0 [some (.inr (.inr (0, 0))), some (.inl x1)] [] g := am_call_run (Nat.le_of_ble_eq_true rfl) rfl
set_option maxRecDepth 20000 in
theorem cC_heavy (d : Nat) (x1 : Int32) (g : am_G) : am_call (d + 1) 114 [.inr (.inr (0, 0)), .inl x1] g = am_run (am_call d) 114 (99999 + 1) 0 [some (.inr (.inr (0, 0))), some (.inl x1), none] [] g := am_call_run (Nat.le_of_ble_eq_true rfl) rfl
set_option maxRecDepth 20000 in
theorem cC_potential (d : Nat)  (g : am_G) : am_call (d + 1) 115 [.inr (.inr (0, 0))] g = am_run (am_call d) 115 (99999 + 1) 0 [some (.inr (.inr (0, 0)))] [] g := am_call_run (Nat.le_of_ble_eq_true rfl) rfl
set_option maxRecDepth 20000 in
theorem cC_would (d : Nat) (x1 : Int32) (g : am_G) : am_call (d + 1) 116 [.inr (.inr (0, 0)), .inl x1] g = am_run (am_call d) 116 (99999 + 1) 0 [some (.inr (.inr (0, 0))), some (.inl x1)] [] g := am_call_run (Nat.le_of_ble_eq_true rfl) rfl
set_option maxRecDepth 20000 in
theorem cC_widest (d : Nat) (x1 : Int32) (x2 : Int32) (g : am_G) : am_call (d + 1) 117 [.inr (.inr (0, 0)), .inl x1, .inl x2] g = am_run (am_call d) 117 (99999 + 1) 0 [some (.inr (.inr (0, 0))), some (.inl x1), some (.inl x2)] [] g := am_call_run (Nat.le_of_ble_eq_true rfl) rfl
set_option maxRecDepth 20000 in
theorem cC_midst (d : Nat) (x1 : Int32) (g : am_G) : am_call (d + 1) 118 [.inr (.inr (0, 0)), .inl x1] g = am_run (am_call d) 118 (99999 + 1) 0 [some (.inr (.inr (0, 0))), some (.inl x1)] [] g := am_call_run (Nat.le_of_ble_eq_true rfl) rfl
set_option maxRecDepth 20000 in
theorem cC_parts (d : Nat) (x1 : Int32) (g : am_G) : am_call (d + 1) 119 [.inr (.inr (0, 0)), .inl x1] g = am_run (am_call d) 119 (99999 + 1) 0 [some (.inr (.inr (0, 0))), some (.inl x1)] [] g := am_call_run (Nat.le_of_ble_eq_true rfl) rfl
set_option maxRecDepth 20000 in
theorem cC_dearest (d : Nat) (x1 : Int32) (g : am_G) : am_call (d + 1) 120 [.inr (.inr (0, 0)), .inl x1] g = am_run (am_call d) 120 (99999 + 1) 0 [some (.inr (.inr (0, 0))), some (.inl x1)] [] g := am_call_run (Nat.le_of_ble_eq_true rfl) rfl
set_option maxRecDepth 20000 in
theorem cC_leastFor (d : Nat) (x1 : Int32) (g : am_G) : am_call (d + 1) 121 [.inr (.inr (0, 0)), .inl x1] g = am_run (am_call d) 121 (99999 + 1) 0 [some (.inr (.inr (0, 0))), some (.inl x1), none] [] g := am_call_run (Nat.le_of_ble_eq_true rfl) rfl
set_option maxRecDepth 20000 in
theorem cC_chance (d : Nat) (x1 : Int32) (x2 : Int32) (x3 : Int32) (g : am_G) : am_call (d + 1) 122 [.inr (.inr (0, 0)), .inl x1, .inl x2, .inl x3] g = am_run (am_call d) 122 (99999 + 1) 0 [some (.inr (.inr (0, 0))), some (.inl x1), some (.inl x2), some (.inl x3), none] [] g := am_call_run (Nat.le_of_ble_eq_true rfl) rfl
set_option maxRecDepth 20000 in
theorem cC_undo (d : Nat)  (g : am_G) : am_call (d + 1) 123 [.inr (.inr (0, 0))] g = am_run (am_call d) 123 (99999 + 1) 0 [some (.inr (.inr (0, 0)))] [] g := am_call_run (Nat.le_of_ble_eq_true rfl) rfl
set_option maxRecDepth 20000 in
theorem cC_keep (d : Nat)  (g : am_G) : am_call (d + 1) 124 [.inr (.inr (0, 0))] g = am_run (am_call d) 124 (99999 + 1) 0 [some (.inr (.inr (0, 0)))] [] g := am_call_run (Nat.le_of_ble_eq_true rfl) rfl
set_option maxRecDepth 20000 in
theorem cC_back (d : Nat)  (g : am_G) : am_call (d + 1) 125 [.inr (.inr (0, 0))] g = am_run (am_call d) 125 (99999 + 1) 0 [some (.inr (.inr (0, 0)))] [] g := am_call_run (Nat.le_of_ble_eq_true rfl) rfl
set_option maxRecDepth 20000 in
theorem cC_count (d : Nat) (x1 : Int32) (g : am_G) : am_call (d + 1) 126 [.inr (.inr (0, 0)), .inl x1] g = am_run (am_call d) 126 (99999 + 1) 0 [some (.inr (.inr (0, 0))), some (.inl x1)] [] g := am_call_run (Nat.le_of_ble_eq_true rfl) rfl
set_option maxRecDepth 20000 in
theorem cC_isWithin (d : Nat) (x0 : Int32) (x1 : Int32) (x2 : Int32) (g : am_G) : am_call (d + 1) 127 [.inl x0, .inl x1, .inl x2] g = am_run (am_call d) 127 (99999 + 1) 0 [some (.inl x0), some (.inl x1), some (.inl x2)] [] g := am_call_run (Nat.le_of_ble_eq_true rfl) rfl
set_option maxRecDepth 20000 in
theorem cC_canBeLink (d : Nat) (x1 : Int32) (x2 : Int32) (x3 : Int32) (x4 : Int32) (g : am_G) : am_call (d + 1) 128 [.inr (.inr (0, 0)), .inl x1, .inl x2, .inl x3, .inl x4] g = am_run (am_call d) 128 (99999 + 1) 0 [some (.inr (.inr (0, 0))), some (.inl x1), some (.inl x2), some (.inl x3), some (.inl x4)] [] g := am_call_run (Nat.le_of_ble_eq_true rfl) rfl
set_option maxRecDepth 20000 in
theorem cC_feedNumber (d : Nat) (x1 : Int32) (g : am_G) : am_call (d + 1) 129 [.inr (.inr (0, 0)), .inl x1] g = am_run (am_call d) 129 (99999 + 1) 0 [some (.inr (.inr (0, 0))), some (.inl x1), none] [] g := am_call_run (Nat.le_of_ble_eq_true rfl) rfl
set_option maxRecDepth 20000 in
theorem cC_takeTold (d : Nat)  (g : am_G) : am_call (d + 1) 130 [.inr (.inr (0, 0))] g = am_run (am_call d) 130 (99999 + 1) 0 [some (.inr (.inr (0, 0)))] [] g := am_call_run (Nat.le_of_ble_eq_true rfl) rfl
set_option maxRecDepth 20000 in
theorem cC_factOfTown (d : Nat) (x1 : Int32) (x2 : Int32) (g : am_G) : am_call (d + 1) 131 [.inr (.inr (0, 0)), .inl x1, .inl x2] g = am_run (am_call d) 131 (99999 + 1) 0 [some (.inr (.inr (0, 0))), some (.inl x1), some (.inl x2), none] [] g := am_call_run (Nat.le_of_ble_eq_true rfl) rfl
set_option maxRecDepth 20000 in
theorem cM_thrown (d : Nat)  (g : am_G) : am_call (d + 1) 132 [.inr (.inr (29, 0))] g = am_run (am_call d) 132 (99999 + 1) 0 [some (.inr (.inr (29, 0)))] [] g := am_call_run (Nat.le_of_ble_eq_true rfl) rfl
set_option maxRecDepth 20000 in
theorem cM_feed (d : Nat) (x1 : Int32) (x2 : Int32) (x3 : Int32) (x4 : Int32) (x5 : Int32) (g : am_G) : am_call (d + 1) 133 [.inr (.inr (29, 0)), .inl x1, .inl x2, .inl x3, .inl x4, .inl x5] g = am_run (am_call d) 133 (99999 + 1) 0 [some (.inr (.inr (29, 0))), some (.inl x1), some (.inl x2), some (.inl x3), some (.inl x4), some (.inl x5), none, none] [] g := am_call_run (Nat.le_of_ble_eq_true rfl) rfl
set_option maxRecDepth 20000 in
theorem cM_isIn (d : Nat) (x0 : Int32) (x1 : Int32) (x2 : Int32) (g : am_G) : am_call (d + 1) 134 [.inl x0, .inl x1, .inl x2] g = am_run (am_call d) 134 (99999 + 1) 0 [some (.inl x0), some (.inl x1), some (.inl x2)] [] g := am_call_run (Nat.le_of_ble_eq_true rfl) rfl
set_option maxRecDepth 20000 in
theorem cM_wrong (d : Nat) (x1 : Int32) (g : am_G) : am_call (d + 1) 135 [.inr (.inr (29, 0)), .inl x1] g = am_run (am_call d) 135 (99999 + 1) 0 [some (.inr (.inr (29, 0))), some (.inl x1)] [] g := am_call_run (Nat.le_of_ble_eq_true rfl) rfl
set_option maxRecDepth 20000 in
theorem cM_wordAt (d : Nat) (x1 : Int32) (x2 : Int32) (g : am_G) : am_call (d + 1) 136 [.inr (.inr (29, 0)), .inl x1, .inl x2] g = am_run (am_call d) 136 (99999 + 1) 0 [some (.inr (.inr (29, 0))), some (.inl x1), some (.inl x2), none, none, none, none, none] [] g := am_call_run (Nat.le_of_ble_eq_true rfl) rfl
set_option maxRecDepth 20000 in
theorem cM_isSmall (d : Nat) (x1 : Int32) (g : am_G) : am_call (d + 1) 137 [.inr (.inr (29, 0)), .inl x1] g = am_run (am_call d) 137 (99999 + 1) 0 [some (.inr (.inr (29, 0))), some (.inl x1)] [] g := am_call_run (Nat.le_of_ble_eq_true rfl) rfl
set_option maxRecDepth 20000 in
theorem cM_isDigit (d : Nat) (x1 : Int32) (g : am_G) : am_call (d + 1) 138 [.inr (.inr (29, 0)), .inl x1] g = am_run (am_call d) 138 (99999 + 1) 0 [some (.inr (.inr (29, 0))), some (.inl x1)] [] g := am_call_run (Nat.le_of_ble_eq_true rfl) rfl
set_option maxRecDepth 20000 in
theorem cM_token (d : Nat)  (g : am_G) : am_call (d + 1) 139 [.inr (.inr (29, 0))] g = am_run (am_call d) 139 (99999 + 1) 0 [some (.inr (.inr (29, 0)))] [] g := am_call_run (Nat.le_of_ble_eq_true rfl) rfl
set_option maxRecDepth 20000 in
theorem cM_packed (d : Nat) (x1 : Int32) (x2 : Int32) (g : am_G) : am_call (d + 1) 140 [.inr (.inr (29, 0)), .inl x1, .inl x2] g = am_run (am_call d) 140 (99999 + 1) 0 [some (.inr (.inr (29, 0))), some (.inl x1), some (.inl x2), none, none] [] g := am_call_run (Nat.le_of_ble_eq_true rfl) rfl
set_option maxRecDepth 20000 in
theorem cM_of (d : Nat) (x1 : Int32) (g : am_G) : am_call (d + 1) 141 [.inr (.inr (29, 0)), .inl x1] g = am_run (am_call d) 141 (99999 + 1) 0 [some (.inr (.inr (29, 0))), some (.inl x1)] [] g := am_call_run (Nat.le_of_ble_eq_true rfl) rfl
set_option maxRecDepth 20000 in
theorem cM_lay (d : Nat) (x1 : Int32) (x2 : Int32) (g : am_G) : am_call (d + 1) 142 [.inr (.inr (29, 0)), .inl x1, .inl x2] g = am_run (am_call d) 142 (99999 + 1) 0 [some (.inr (.inr (29, 0))), some (.inl x1), some (.inl x2)] [] g := am_call_run (Nat.le_of_ble_eq_true rfl) rfl
set_option maxRecDepth 20000 in
theorem cM_copyBank (d : Nat) (x1 : Int32) (x2 : Int32) (g : am_G) : am_call (d + 1) 143 [.inr (.inr (29, 0)), .inl x1, .inl x2] g = am_run (am_call d) 143 (99999 + 1) 0 [some (.inr (.inr (29, 0))), some (.inl x1), some (.inl x2), none] [] g := am_call_run (Nat.le_of_ble_eq_true rfl) rfl
set_option maxRecDepth 20000 in
theorem cM_canUndo (d : Nat)  (g : am_G) : am_call (d + 1) 144 [.inr (.inr (29, 0))] g = am_run (am_call d) 144 (99999 + 1) 0 [some (.inr (.inr (29, 0))), none] [] g := am_call_run (Nat.le_of_ble_eq_true rfl) rfl
set_option maxRecDepth 20000 in
theorem cM_undo (d : Nat)  (g : am_G) : am_call (d + 1) 145 [.inr (.inr (29, 0))] g = am_run (am_call d) 145 (99999 + 1) 0 [some (.inr (.inr (29, 0)))] [] g := am_call_run (Nat.le_of_ble_eq_true rfl) rfl
set_option maxRecDepth 20000 in
theorem cM_keep (d : Nat)  (g : am_G) : am_call (d + 1) 146 [.inr (.inr (29, 0))] g = am_run (am_call d) 146 (99999 + 1) 0 [some (.inr (.inr (29, 0)))] [] g := am_call_run (Nat.le_of_ble_eq_true rfl) rfl
set_option maxRecDepth 20000 in
theorem cM_back (d : Nat)  (g : am_G) : am_call (d + 1) 147 [.inr (.inr (29, 0))] g = am_run (am_call d) 147 (99999 + 1) 0 [some (.inr (.inr (29, 0)))] [] g := am_call_run (Nat.le_of_ble_eq_true rfl) rfl
set_option maxRecDepth 20000 in
theorem cM_isTown (d : Nat) (x1 : Int32) (g : am_G) : am_call (d + 1) 148 [.inr (.inr (29, 0)), .inl x1] g = am_run (am_call d) 148 (99999 + 1) 0 [some (.inr (.inr (29, 0))), some (.inl x1)] [] g := am_call_run (Nat.le_of_ble_eq_true rfl) rfl
set_option maxRecDepth 20000 in
theorem cM_areTowns (d : Nat) (x1 : Int32) (x2 : Int32) (g : am_G) : am_call (d + 1) 149 [.inr (.inr (29, 0)), .inl x1, .inl x2] g = am_run (am_call d) 149 (99999 + 1) 0 [some (.inr (.inr (29, 0))), some (.inl x1), some (.inl x2)] [] g := am_call_run (Nat.le_of_ble_eq_true rfl) rfl
set_option maxRecDepth 20000 in
theorem cM_parent (d : Nat) (x1 : Int32) (g : am_G) : am_call (d + 1) 150 [.inr (.inr (29, 0)), .inl x1] g = am_run (am_call d) 150 (99999 + 1) 0 [some (.inr (.inr (29, 0))), some (.inl x1)] [] g := am_call_run (Nat.le_of_ble_eq_true rfl) rfl
set_option maxRecDepth 20000 in
theorem cM_prefers (d : Nat) (x1 : Int32) (g : am_G) : am_call (d + 1) 151 [.inr (.inr (29, 0)), .inl x1] g = am_run (am_call d) 151 (99999 + 1) 0 [some (.inr (.inr (29, 0))), some (.inl x1)] [] g := am_call_run (Nat.le_of_ble_eq_true rfl) rfl
set_option maxRecDepth 20000 in
theorem cM_free (d : Nat) (x1 : Int32) (g : am_G) : am_call (d + 1) 152 [.inr (.inr (29, 0)), .inl x1] g = am_run (am_call d) 152 (99999 + 1) 0 [some (.inr (.inr (29, 0))), some (.inl x1)] [] g := am_call_run (Nat.le_of_ble_eq_true rfl) rfl
set_option maxRecDepth 20000 in
theorem cM_plain (d : Nat)  (g : am_G) : am_call (d + 1) 153 [.inr (.inr (29, 0))] g = am_run (am_call d) 153 (99999 + 1) 0 [some (.inr (.inr (29, 0)))] [] g := am_call_run (Nat.le_of_ble_eq_true rfl) rfl
set_option maxRecDepth 20000 in
theorem cM_keepText (d : Nat)  (g : am_G) : am_call (d + 1) 154 [.inr (.inr (29, 0))] g = am_run (am_call d) 154 (99999 + 1) 0 [some (.inr (.inr (29, 0))), none] [] g := am_call_run (Nat.le_of_ble_eq_true rfl) rfl
set_option maxRecDepth 20000 in
theorem cM_nameAt_33 (d : Nat) (x0 : Int32) (x2 : Int32) (g : am_G) : am_call (d + 1) 155 [.inl x0, .inr (.inr (33, 0)), .inl x2] g = am_run (am_call d) 155 (99999 + 1) 0 [some (.inl x0), some (.inr (.inr (33, 0))), some (.inl x2), none] [] g := am_call_run (Nat.le_of_ble_eq_true rfl) rfl
set_option maxRecDepth 20000 in
theorem cM_nameAt_34 (d : Nat) (x0 : Int32) (x2 : Int32) (g : am_G) : am_call (d + 1) 155 [.inl x0, .inr (.inr (34, 0)), .inl x2] g = am_run (am_call d) 155 (99999 + 1) 0 [some (.inl x0), some (.inr (.inr (34, 0))), some (.inl x2), none] [] g := am_call_run (Nat.le_of_ble_eq_true rfl) rfl
set_option maxRecDepth 20000 in
theorem cM_signed (d : Nat) (x1 : Int32) (x2 : Int32) (g : am_G) : am_call (d + 1) 156 [.inr (.inr (29, 0)), .inl x1, .inl x2] g = am_run (am_call d) 156 (99999 + 1) 0 [some (.inr (.inr (29, 0))), some (.inl x1), some (.inl x2)] [] g := am_call_run (Nat.le_of_ble_eq_true rfl) rfl
set_option maxRecDepth 20000 in
theorem cM_number (d : Nat) (x1 : Int32) (x2 : Int32) (g : am_G) : am_call (d + 1) 157 [.inr (.inr (29, 0)), .inl x1, .inl x2] g = am_run (am_call d) 157 (99999 + 1) 0 [some (.inr (.inr (29, 0))), some (.inl x1), some (.inl x2)] [] g := am_call_run (Nat.le_of_ble_eq_true rfl) rfl
set_option maxRecDepth 20000 in
theorem cM_townRead (d : Nat)  (g : am_G) : am_call (d + 1) 158 [.inr (.inr (29, 0))] g = am_run (am_call d) 158 (99999 + 1) 0 [some (.inr (.inr (29, 0)))] [] g := am_call_run (Nat.le_of_ble_eq_true rfl) rfl
set_option maxRecDepth 20000 in
theorem cM_townLine (d : Nat)  (g : am_G) : am_call (d + 1) 159 [.inr (.inr (29, 0))] g = am_run (am_call d) 159 (99999 + 1) 0 [some (.inr (.inr (29, 0)))] [] g := am_call_run (Nat.le_of_ble_eq_true rfl) rfl
set_option maxRecDepth 20000 in
theorem cM_linkLine (d : Nat)  (g : am_G) : am_call (d + 1) 160 [.inr (.inr (29, 0))] g = am_run (am_call d) 160 (99999 + 1) 0 [some (.inr (.inr (29, 0))), none, none, none] [] g := am_call_run (Nat.le_of_ble_eq_true rfl) rfl
set_option maxRecDepth 20000 in
theorem cM_wordLine (d : Nat)  (g : am_G) : am_call (d + 1) 161 [.inr (.inr (29, 0))] g = am_run (am_call d) 161 (99999 + 1) 0 [some (.inr (.inr (29, 0))), none] [] g := am_call_run (Nat.le_of_ble_eq_true rfl) rfl
set_option maxRecDepth 20000 in
theorem cM_lineRead (d : Nat)  (g : am_G) : am_call (d + 1) 162 [.inr (.inr (29, 0))] g = am_run (am_call d) 162 (99999 + 1) 0 [some (.inr (.inr (29, 0))), none] [] g := am_call_run (Nat.le_of_ble_eq_true rfl) rfl
set_option maxRecDepth 20000 in
theorem cM_text (d : Nat) (x1 : Int32) (g : am_G) : am_call (d + 1) 163 [.inr (.inr (29, 0)), .inl x1] g = am_run (am_call d) 163 (99999 + 1) 0 [some (.inr (.inr (29, 0))), some (.inl x1), none, none, none] [] g := am_call_run (Nat.le_of_ble_eq_true rfl) rfl
set_option maxRecDepth 20000 in
theorem cM_fault (d : Nat) (x1 : Int32) (g : am_G) : am_call (d + 1) 164 [.inr (.inr (29, 0)), .inl x1] g = am_run (am_call d) 164 (99999 + 1) 0 [some (.inr (.inr (29, 0))), some (.inl x1)] [] g := am_call_run (Nat.le_of_ble_eq_true rfl) rfl
set_option maxRecDepth 20000 in
theorem cM_named (d : Nat) (x1 : Int32) (g : am_G) : am_call (d + 1) 165 [.inr (.inr (29, 0)), .inl x1] g = am_run (am_call d) 165 (99999 + 1) 0 [some (.inr (.inr (29, 0))), some (.inl x1)] [] g := am_call_run (Nat.le_of_ble_eq_true rfl) rfl
set_option maxRecDepth 20000 in
theorem cM_rootOf (d : Nat) (x1 : Int32) (g : am_G) : am_call (d + 1) 166 [.inr (.inr (29, 0)), .inl x1] g = am_run (am_call d) 166 (99999 + 1) 0 [some (.inr (.inr (29, 0))), some (.inl x1), none] [] g := am_call_run (Nat.le_of_ble_eq_true rfl) rfl
set_option maxRecDepth 20000 in
theorem cM_areTogether (d : Nat) (x1 : Int32) (x2 : Int32) (g : am_G) : am_call (d + 1) 167 [.inr (.inr (29, 0)), .inl x1, .inl x2] g = am_run (am_call d) 167 (99999 + 1) 0 [some (.inr (.inr (29, 0))), some (.inl x1), some (.inl x2)] [] g := am_call_run (Nat.le_of_ble_eq_true rfl) rfl
set_option maxRecDepth 20000 in
theorem cM_would1 (d : Nat) (x1 : Int32) (g : am_G) : am_call (d + 1) 168 [.inr (.inr (29, 0)), .inl x1] g = am_run (am_call d) 168 (99999 + 1) 0 [some (.inr (.inr (29, 0))), some (.inl x1), none, none] [] g := am_call_run (Nat.le_of_ble_eq_true rfl) rfl
set_option maxRecDepth 20000 in
theorem cM_touches (d : Nat) (x1 : Int32) (g : am_G) : am_call (d + 1) 169 [.inr (.inr (29, 0)), .inl x1] g = am_run (am_call d) 169 (99999 + 1) 0 [some (.inr (.inr (29, 0))), some (.inl x1), none, none] [] g := am_call_run (Nat.le_of_ble_eq_true rfl) rfl
set_option maxRecDepth 20000 in
theorem cM_reroots (d : Nat) (x1 : Int32) (g : am_G) : am_call (d + 1) 170 [.inr (.inr (29, 0)), .inl x1] g = am_run (am_call d) 170 (99999 + 1) 0 [some (.inr (.inr (29, 0))), some (.inl x1), none, none, none, none, none, none, none, none] [] g := am_call_run (Nat.le_of_ble_eq_true rfl) rfl
set_option maxRecDepth 20000 in
theorem cM_links (d : Nat) (x1 : Int32) (x2 : Int32) (x3 : Int32) (x4 : Int32) (g : am_G) : am_call (d + 1) 171 [.inr (.inr (29, 0)), .inl x1, .inl x2, .inl x3, .inl x4] g = am_run (am_call d) 171 (99999 + 1) 0 [some (.inr (.inr (29, 0))), some (.inl x1), some (.inl x2), some (.inl x3), some (.inl x4)] [] g := am_call_run (Nat.le_of_ble_eq_true rfl) rfl
set_option maxRecDepth 20000 in
theorem cM_walks (d : Nat) (x1 : Int32) (x2 : Int32) (g : am_G) : am_call (d + 1) 172 [.inr (.inr (29, 0)), .inl x1, .inl x2] g = am_run (am_call d) 172 (99999 + 1) 0 [some (.inr (.inr (29, 0))), some (.inl x1), some (.inl x2), none] [] g := am_call_run (Nat.le_of_ble_eq_true rfl) rfl
set_option maxRecDepth 20000 in
theorem cM_cuts (d : Nat) (x1 : Int32) (x2 : Int32) (g : am_G) : am_call (d + 1) 173 [.inr (.inr (29, 0)), .inl x1, .inl x2] g = am_run (am_call d) 173 (99999 + 1) 0 [some (.inr (.inr (29, 0))), some (.inl x1), some (.inl x2)] [] g := am_call_run (Nat.le_of_ble_eq_true rfl) rfl
set_option maxRecDepth 20000 in
theorem cM_dearestTo (d : Nat) (x1 : Int32) (g : am_G) : am_call (d + 1) 174 [.inr (.inr (29, 0)), .inl x1] g = am_run (am_call d) 174 (99999 + 1) 0 [some (.inr (.inr (29, 0))), some (.inl x1), none, none] [] g := am_call_run (Nat.le_of_ble_eq_true rfl) rfl
set_option maxRecDepth 20000 in
theorem cM_cutsDearest (d : Nat) (x1 : Int32) (x2 : Int32) (g : am_G) : am_call (d + 1) 175 [.inr (.inr (29, 0)), .inl x1, .inl x2] g = am_run (am_call d) 175 (99999 + 1) 0 [some (.inr (.inr (29, 0))), some (.inl x1), some (.inl x2), none, none] [] g := am_call_run (Nat.le_of_ble_eq_true rfl) rfl
set_option maxRecDepth 20000 in
theorem cM_touch (d : Nat) (x1 : Int32) (g : am_G) : am_call (d + 1) 176 [.inr (.inr (29, 0)), .inl x1] g = am_run (am_call d) 176 (99999 + 1) 0 [some (.inr (.inr (29, 0))), some (.inl x1)] [] g := am_call_run (Nat.le_of_ble_eq_true rfl) rfl
set_option maxRecDepth 20000 in
theorem cM_reroot (d : Nat) (x1 : Int32) (g : am_G) : am_call (d + 1) 177 [.inr (.inr (29, 0)), .inl x1] g = am_run (am_call d) 177 (99999 + 1) 0 [some (.inr (.inr (29, 0))), some (.inl x1)] [] g := am_call_run (Nat.le_of_ble_eq_true rfl) rfl
set_option maxRecDepth 20000 in
theorem cM_isLength (d : Nat) (x0 : Int32) (g : am_G) : am_call (d + 1) 178 [.inl x0] g = am_run (am_call d) 178 (99999 + 1) 0 [some (.inl x0)] [] g := am_call_run (Nat.le_of_ble_eq_true rfl) rfl
set_option maxRecDepth 20000 in
theorem cM_size (d : Nat) (x1 : Int32) (g : am_G) : am_call (d + 1) 179 [.inr (.inr (29, 0)), .inl x1] g = am_run (am_call d) 179 (99999 + 1) 0 [some (.inr (.inr (29, 0))), some (.inl x1), none, none] [] g := am_call_run (Nat.le_of_ble_eq_true rfl) rfl
set_option maxRecDepth 20000 in
theorem cM_isAbove (d : Nat) (x1 : Int32) (x2 : Int32) (g : am_G) : am_call (d + 1) 180 [.inr (.inr (29, 0)), .inl x1, .inl x2] g = am_run (am_call d) 180 (99999 + 1) 0 [some (.inr (.inr (29, 0))), some (.inl x1), some (.inl x2), none] [] g := am_call_run (Nat.le_of_ble_eq_true rfl) rfl
set_option maxRecDepth 20000 in
theorem cM_link (d : Nat) (x1 : Int32) (x2 : Int32) (x3 : Int32) (x4 : Int32) (g : am_G) : am_call (d + 1) 181 [.inr (.inr (29, 0)), .inl x1, .inl x2, .inl x3, .inl x4] g = am_run (am_call d) 181 (99999 + 1) 0 [some (.inr (.inr (29, 0))), some (.inl x1), some (.inl x2), some (.inl x3), some (.inl x4)] [] g := am_call_run (Nat.le_of_ble_eq_true rfl) rfl
set_option maxRecDepth 20000 in
theorem cM_cut (d : Nat) (x1 : Int32) (x2 : Int32) (g : am_G) : am_call (d + 1) 182 [.inr (.inr (29, 0)), .inl x1, .inl x2] g = am_run (am_call d) 182 (99999 + 1) 0 [some (.inr (.inr (29, 0))), some (.inl x1), some (.inl x2), none] [] g := am_call_run (Nat.le_of_ble_eq_true rfl) rfl
set_option maxRecDepth 20000 in
theorem cM_walk (d : Nat) (x1 : Int32) (x2 : Int32) (g : am_G) : am_call (d + 1) 183 [.inr (.inr (29, 0)), .inl x1, .inl x2] g = am_run (am_call d) 183 (99999 + 1) 0 [some (.inr (.inr (29, 0))), some (.inl x1), some (.inl x2), none, none] [] g := am_call_run (Nat.le_of_ble_eq_true rfl) rfl
set_option maxRecDepth 20000 in
theorem cM_seen (d : Nat) (x1 : Int32) (g : am_G) : am_call (d + 1) 184 [.inr (.inr (29, 0)), .inl x1] g = am_run (am_call d) 184 (99999 + 1) 0 [some (.inr (.inr (29, 0))), some (.inl x1)] [] g := am_call_run (Nat.le_of_ble_eq_true rfl) rfl
set_option maxRecDepth 20000 in
theorem cM_depth (d : Nat) (x1 : Int32) (g : am_G) : am_call (d + 1) 185 [.inr (.inr (29, 0)), .inl x1] g = am_run (am_call d) 185 (99999 + 1) 0 [some (.inr (.inr (29, 0))), some (.inl x1), none, none] [] g := am_call_run (Nat.le_of_ble_eq_true rfl) rfl
set_option maxRecDepth 20000 in
theorem cM_meetOf (d : Nat) (x1 : Int32) (x2 : Int32) (g : am_G) : am_call (d + 1) 186 [.inr (.inr (29, 0)), .inl x1, .inl x2] g = am_run (am_call d) 186 (99999 + 1) 0 [some (.inr (.inr (29, 0))), some (.inl x1), some (.inl x2), none] [] g := am_call_run (Nat.le_of_ble_eq_true rfl) rfl
set_option maxRecDepth 20000 in
theorem cM_meet (d : Nat) (x1 : Int32) (x2 : Int32) (g : am_G) : am_call (d + 1) 187 [.inr (.inr (29, 0)), .inl x1, .inl x2] g = am_run (am_call d) 187 (99999 + 1) 0 [some (.inr (.inr (29, 0))), some (.inl x1), some (.inl x2)] [] g := am_call_run (Nat.le_of_ble_eq_true rfl) rfl
set_option maxRecDepth 20000 in
theorem cM_raise (d : Nat) (x1 : Int32) (x2 : Int32) (x3 : Int32) (g : am_G) : am_call (d + 1) 188 [.inr (.inr (29, 0)), .inl x1, .inl x2, .inl x3] g = am_run (am_call d) 188 (99999 + 1) 0 [some (.inr (.inr (29, 0))), some (.inl x1), some (.inl x2), some (.inl x3), none, none, none] [] g := am_call_run (Nat.le_of_ble_eq_true rfl) rfl
set_option maxRecDepth 20000 in
theorem cM_send (d : Nat) (x1 : Int32) (x2 : Int32) (x3 : Int32) (g : am_G) : am_call (d + 1) 189 [.inr (.inr (29, 0)), .inl x1, .inl x2, .inl x3] g = am_run (am_call d) 189 (99999 + 1) 0 [some (.inr (.inr (29, 0))), some (.inl x1), some (.inl x2), some (.inl x3), none, none, none] [] g := am_call_run (Nat.le_of_ble_eq_true rfl) rfl
set_option maxRecDepth 20000 in
theorem cM_settles (d : Nat) (x1 : Int32) (g : am_G) : am_call (d + 1) 190 [.inr (.inr (29, 0)), .inl x1] g = am_run (am_call d) 190 (99999 + 1) 0 [some (.inr (.inr (29, 0))), some (.inl x1), none, none] [] g := am_call_run (Nat.le_of_ble_eq_true rfl) rfl
set_option maxRecDepth 20000 in
theorem cM_settle (d : Nat) (x1 : Int32) (g : am_G) : am_call (d + 1) 191 [.inr (.inr (29, 0)), .inl x1] g = am_run (am_call d) 191 (99999 + 1) 0 [some (.inr (.inr (29, 0))), some (.inl x1)] [] g := am_call_run (Nat.le_of_ble_eq_true rfl) rfl
set_option maxRecDepth 20000 in
theorem cM_cutDearest (d : Nat) (x1 : Int32) (x2 : Int32) (g : am_G) : am_call (d + 1) 192 [.inr (.inr (29, 0)), .inl x1, .inl x2] g = am_run (am_call d) 192 (99999 + 1) 0 [some (.inr (.inr (29, 0))), some (.inl x1), some (.inl x2)] [] g := am_call_run (Nat.le_of_ble_eq_true rfl) rfl
set_option maxRecDepth 20000 in
theorem cM_exchange (d : Nat) (x1 : Int32) (x2 : Int32) (x3 : Int32) (x4 : Int32) (g : am_G) : am_call (d + 1) 193 [.inr (.inr (29, 0)), .inl x1, .inl x2, .inl x3, .inl x4] g = am_run (am_call d) 193 (99999 + 1) 0 [some (.inr (.inr (29, 0))), some (.inl x1), some (.inl x2), some (.inl x3), some (.inl x4), none] [] g := am_call_run (Nat.le_of_ble_eq_true rfl) rfl
set_option maxRecDepth 20000 in
theorem cM_shed (d : Nat) (x1 : Int32) (g : am_G) : am_call (d + 1) 194 [.inr (.inr (29, 0)), .inl x1] g = am_run (am_call d) 194 (99999 + 1) 0 [some (.inr (.inr (29, 0))), some (.inl x1), none] [] g := am_call_run (Nat.le_of_ble_eq_true rfl) rfl
set_option maxRecDepth 20000 in
theorem cM_value (d : Nat) (x1 : Int32) (x2 : Int32) (g : am_G) : am_call (d + 1) 195 [.inr (.inr (29, 0)), .inl x1, .inl x2] g = am_run (am_call d) 195 (99999 + 1) 0 [some (.inr (.inr (29, 0))), some (.inl x1), some (.inl x2), none] [] g := am_call_run (Nat.le_of_ble_eq_true rfl) rfl
set_option maxRecDepth 20000 in
theorem cM_fails (d : Nat) (x1 : Int32) (g : am_G) : am_call (d + 1) 196 [.inr (.inr (29, 0)), .inl x1] g = am_run (am_call d) 196 (99999 + 1) 0 [some (.inr (.inr (29, 0))), some (.inl x1)] [] g := am_call_run (Nat.le_of_ble_eq_true rfl) rfl
set_option maxRecDepth 20000 in
theorem cM_children (d : Nat) (x1 : Int32) (g : am_G) : am_call (d + 1) 197 [.inr (.inr (29, 0)), .inl x1] g = am_run (am_call d) 197 (99999 + 1) 0 [some (.inr (.inr (29, 0))), some (.inl x1), none, none] [] g := am_call_run (Nat.le_of_ble_eq_true rfl) rfl
set_option maxRecDepth 20000 in
theorem cM_under (d : Nat) (x1 : Int32) (g : am_G) : am_call (d + 1) 198 [.inr (.inr (29, 0)), .inl x1] g = am_run (am_call d) 198 (99999 + 1) 0 [some (.inr (.inr (29, 0))), some (.inl x1), none, none] [] g := am_call_run (Nat.le_of_ble_eq_true rfl) rfl
set_option maxRecDepth 20000 in
theorem cM_town (d : Nat) (x1 : Int32) (x2 : Int32) (g : am_G) : am_call (d + 1) 199 [.inr (.inr (29, 0)), .inl x1, .inl x2] g = am_run (am_call d) 199 (99999 + 1) 0 [some (.inr (.inr (29, 0))), some (.inl x1), some (.inl x2)] [] g := am_call_run (Nat.le_of_ble_eq_true rfl) rfl
set_option maxRecDepth 20000 in
theorem cM_isHead (d : Nat) (x1 : Int32) (g : am_G) : am_call (d + 1) 200 [.inr (.inr (29, 0)), .inl x1] g = am_run (am_call d) 200 (99999 + 1) 0 [some (.inr (.inr (29, 0))), some (.inl x1)] [] g := am_call_run (Nat.le_of_ble_eq_true rfl) rfl
set_option maxRecDepth 20000 in
theorem cM_chain (d : Nat) (x1 : Int32) (x2 : Int32) (g : am_G) : am_call (d + 1) 201 [.inr (.inr (29, 0)), .inl x1, .inl x2] g = am_run (am_call d) 201 (99999 + 1) 0 [some (.inr (.inr (29, 0))), some (.inl x1), some (.inl x2), none, none, none, none, none] [] g := am_call_run (Nat.le_of_ble_eq_true rfl) rfl
set_option maxRecDepth 20000 in
theorem cM_above (d : Nat) (x1 : Int32) (x2 : Int32) (g : am_G) : am_call (d + 1) 202 [.inr (.inr (29, 0)), .inl x1, .inl x2] g = am_run (am_call d) 202 (99999 + 1) 0 [some (.inr (.inr (29, 0))), some (.inl x1), some (.inl x2), none, none] [] g := am_call_run (Nat.le_of_ble_eq_true rfl) rfl
set_option maxRecDepth 20000 in
theorem cM_along (d : Nat) (x1 : Int32) (x2 : Int32) (x3 : Int32) (g : am_G) : am_call (d + 1) 203 [.inr (.inr (29, 0)), .inl x1, .inl x2, .inl x3] g = am_run (am_call d) 203 (99999 + 1) 0 [some (.inr (.inr (29, 0))), some (.inl x1), some (.inl x2), some (.inl x3), none, none, none, none, none] [] g := am_call_run (Nat.le_of_ble_eq_true rfl) rfl
set_option maxRecDepth 20000 in
theorem cM_together (d : Nat) (x1 : Int32) (x2 : Int32) (g : am_G) : am_call (d + 1) 204 [.inr (.inr (29, 0)), .inl x1, .inl x2] g = am_run (am_call d) 204 (99999 + 1) 0 [some (.inr (.inr (29, 0))), some (.inl x1), some (.inl x2)] [] g := am_call_run (Nat.le_of_ble_eq_true rfl) rfl
set_option maxRecDepth 20000 in
theorem cM_farUp (d : Nat) (x1 : Int32) (x2 : Int32) (g : am_G) : am_call (d + 1) 205 [.inr (.inr (29, 0)), .inl x1, .inl x2] g = am_run (am_call d) 205 (99999 + 1) 0 [some (.inr (.inr (29, 0))), some (.inl x1), some (.inl x2), none, none] [] g := am_call_run (Nat.le_of_ble_eq_true rfl) rfl
set_option maxRecDepth 20000 in
theorem cM_farOf (d : Nat) (x1 : Int32) (x2 : Int32) (g : am_G) : am_call (d + 1) 206 [.inr (.inr (29, 0)), .inl x1, .inl x2] g = am_run (am_call d) 206 (99999 + 1) 0 [some (.inr (.inr (29, 0))), some (.inl x1), some (.inl x2), none] [] g := am_call_run (Nat.le_of_ble_eq_true rfl) rfl
set_option maxRecDepth 20000 in
theorem cM_far (d : Nat) (x1 : Int32) (x2 : Int32) (g : am_G) : am_call (d + 1) 207 [.inr (.inr (29, 0)), .inl x1, .inl x2] g = am_run (am_call d) 207 (99999 + 1) 0 [some (.inr (.inr (29, 0))), some (.inl x1), some (.inl x2)] [] g := am_call_run (Nat.le_of_ble_eq_true rfl) rfl
set_option maxRecDepth 20000 in
theorem cM_meets (d : Nat) (x1 : Int32) (x2 : Int32) (g : am_G) : am_call (d + 1) 208 [.inr (.inr (29, 0)), .inl x1, .inl x2] g = am_run (am_call d) 208 (99999 + 1) 0 [some (.inr (.inr (29, 0))), some (.inl x1), some (.inl x2)] [] g := am_call_run (Nat.le_of_ble_eq_true rfl) rfl
set_option maxRecDepth 20000 in
theorem cM_room (d : Nat) (x1 : Int32) (x2 : Int32) (g : am_G) : am_call (d + 1) 209 [.inr (.inr (29, 0)), .inl x1, .inl x2] g = am_run (am_call d) 209 (99999 + 1) 0 [some (.inr (.inr (29, 0))), some (.inl x1), some (.inl x2), none, none, none] [] g := am_call_run (Nat.le_of_ble_eq_true rfl) rfl
set_option maxRecDepth 20000 in
theorem cM_childBehind (d : Nat) (x1 : Int32) (x2 : Int32) (g : am_G) : am_call (d + 1) 210 [.inr (.inr (29, 0)), .inl x1, .inl x2] g = am_run (am_call d) 210 (99999 + 1) 0 [some (.inr (.inr (29, 0))), some (.inl x1), some (.inl x2), none, none] [] g := am_call_run (Nat.le_of_ble_eq_true rfl) rfl
set_option maxRecDepth 20000 in
theorem cM_behind (d : Nat) (x1 : Int32) (g : am_G) : am_call (d + 1) 211 [.inr (.inr (29, 0)), .inl x1] g = am_run (am_call d) 211 (99999 + 1) 0 [some (.inr (.inr (29, 0))), some (.inl x1), none, none, none] [] g := am_call_run (Nat.le_of_ble_eq_true rfl) rfl
set_option maxRecDepth 20000 in
theorem cM_order (d : Nat) (x1 : Int32) (x2 : Int32) (g : am_G) : am_call (d + 1) 212 [.inr (.inr (29, 0)), .inl x1, .inl x2] g = am_run (am_call d) 212 (99999 + 1) 0 [some (.inr (.inr (29, 0))), some (.inl x1), some (.inl x2), none, none] [] g := am_call_run (Nat.le_of_ble_eq_true rfl) rfl
set_option maxRecDepth 20000 in
theorem cM_place (d : Nat) (x1 : Int32) (g : am_G) : am_call (d + 1) 213 [.inr (.inr (29, 0)), .inl x1] g = am_run (am_call d) 213 (99999 + 1) 0 [some (.inr (.inr (29, 0))), some (.inl x1), none, none] [] g := am_call_run (Nat.le_of_ble_eq_true rfl) rfl
set_option maxRecDepth 20000 in
theorem cM_farthest (d : Nat) (x1 : Int32) (g : am_G) : am_call (d + 1) 214 [.inr (.inr (29, 0)), .inl x1] g = am_run (am_call d) 214 (99999 + 1) 0 [some (.inr (.inr (29, 0))), some (.inl x1), none, none] [] g := am_call_run (Nat.le_of_ble_eq_true rfl) rfl
set_option maxRecDepth 20000 in
theorem cM_widestOf (d : Nat) (x1 : Int32) (g : am_G) : am_call (d + 1) 215 [.inr (.inr (29, 0)), .inl x1] g = am_run (am_call d) 215 (99999 + 1) 0 [some (.inr (.inr (29, 0))), some (.inl x1), none, none] [] g := am_call_run (Nat.le_of_ble_eq_true rfl) rfl
set_option maxRecDepth 20000 in
theorem cM_joint (d : Nat) (x1 : Int32) (x2 : Int32) (x3 : Int32) (g : am_G) : am_call (d + 1) 216 [.inr (.inr (29, 0)), .inl x1, .inl x2, .inl x3] g = am_run (am_call d) 216 (99999 + 1) 0 [some (.inr (.inr (29, 0))), some (.inl x1), some (.inl x2), some (.inl x3), none, none, none, none, none, none, none] [] g := am_call_run (Nat.le_of_ble_eq_true rfl) rfl
set_option maxRecDepth 20000 in
theorem cM_tightest (d : Nat) (x1 : Int32) (g : am_G) : am_call (d + 1) 217 [.inr (.inr (29, 0)), .inl x1] g = am_run (am_call d) 217 (99999 + 1) 0 [some (.inr (.inr (29, 0))), some (.inl x1), none, none] [] g := am_call_run (Nat.le_of_ble_eq_true rfl) rfl
set_option maxRecDepth 20000 in
theorem cM_heavyOf (d : Nat) (x1 : Int32) (g : am_G) : am_call (d + 1) 218 [.inr (.inr (29, 0)), .inl x1] g = am_run (am_call d) 218 (99999 + 1) 0 [some (.inr (.inr (29, 0))), some (.inl x1), none] [] g := am_call_run (Nat.le_of_ble_eq_true rfl) rfl
set_option maxRecDepth 20000 in
theorem cM_heavy (d : Nat) (x1 : Int32) (g : am_G) : am_call (d + 1) 219 [.inr (.inr (29, 0)), .inl x1] g = am_run (am_call d) 219 (99999 + 1) 0 [some (.inr (.inr (29, 0))), some (.inl x1)] [] g := am_call_run (Nat.le_of_ble_eq_true rfl) rfl
set_option maxRecDepth 20000 in
theorem cM_potentialNow (d : Nat)  (g : am_G) : am_call (d + 1) 220 [.inr (.inr (29, 0))] g = am_run (am_call d) 220 (99999 + 1) 0 [some (.inr (.inr (29, 0))), none, none] [] g := am_call_run (Nat.le_of_ble_eq_true rfl) rfl
set_option maxRecDepth 20000 in
theorem cM_potential (d : Nat)  (g : am_G) : am_call (d + 1) 221 [.inr (.inr (29, 0))] g = am_run (am_call d) 221 (99999 + 1) 0 [some (.inr (.inr (29, 0)))] [] g := am_call_run (Nat.le_of_ble_eq_true rfl) rfl
set_option maxRecDepth 20000 in
theorem cM_would (d : Nat) (x1 : Int32) (g : am_G) : am_call (d + 1) 222 [.inr (.inr (29, 0)), .inl x1] g = am_run (am_call d) 222 (99999 + 1) 0 [some (.inr (.inr (29, 0))), some (.inl x1)] [] g := am_call_run (Nat.le_of_ble_eq_true rfl) rfl
set_option maxRecDepth 20000 in
theorem cM_widest (d : Nat) (x1 : Int32) (x2 : Int32) (g : am_G) : am_call (d + 1) 223 [.inr (.inr (29, 0)), .inl x1, .inl x2] g = am_run (am_call d) 223 (99999 + 1) 0 [some (.inr (.inr (29, 0))), some (.inl x1), some (.inl x2), none, none, none, none, none] [] g := am_call_run (Nat.le_of_ble_eq_true rfl) rfl
set_option maxRecDepth 20000 in
theorem cM_greatestWithout (d : Nat) (x1 : Int32) (g : am_G) : am_call (d + 1) 224 [.inr (.inr (29, 0)), .inl x1] g = am_run (am_call d) 224 (99999 + 1) 0 [some (.inr (.inr (29, 0))), some (.inl x1), none, none] [] g := am_call_run (Nat.le_of_ble_eq_true rfl) rfl
set_option maxRecDepth 20000 in
theorem cM_midst (d : Nat) (x1 : Int32) (g : am_G) : am_call (d + 1) 225 [.inr (.inr (29, 0)), .inl x1] g = am_run (am_call d) 225 (99999 + 1) 0 [some (.inr (.inr (29, 0))), some (.inl x1), none, none] [] g := am_call_run (Nat.le_of_ble_eq_true rfl) rfl
set_option maxRecDepth 20000 in
theorem cM_partsOf (d : Nat) (x1 : Int32) (g : am_G) : am_call (d + 1) 226 [.inr (.inr (29, 0)), .inl x1] g = am_run (am_call d) 226 (99999 + 1) 0 [some (.inr (.inr (29, 0))), some (.inl x1), none, none] [] g := am_call_run (Nat.le_of_ble_eq_true rfl) rfl
set_option maxRecDepth 20000 in
theorem cM_parts (d : Nat) (x1 : Int32) (g : am_G) : am_call (d + 1) 227 [.inr (.inr (29, 0)), .inl x1] g = am_run (am_call d) 227 (99999 + 1) 0 [some (.inr (.inr (29, 0))), some (.inl x1)] [] g := am_call_run (Nat.le_of_ble_eq_true rfl) rfl
set_option maxRecDepth 20000 in
theorem cM_dearest (d : Nat) (x1 : Int32) (g : am_G) : am_call (d + 1) 228 [.inr (.inr (29, 0)), .inl x1] g = am_run (am_call d) 228 (99999 + 1) 0 [some (.inr (.inr (29, 0))), some (.inl x1), none, none] [] g := am_call_run (Nat.le_of_ble_eq_true rfl) rfl
set_option maxRecDepth 20000 in
theorem cM_leastFor (d : Nat) (x1 : Int32) (g : am_G) : am_call (d + 1) 229 [.inr (.inr (29, 0)), .inl x1] g = am_run (am_call d) 229 (99999 + 1) 0 [some (.inr (.inr (29, 0))), some (.inl x1), none, none, none] [] g := am_call_run (Nat.le_of_ble_eq_true rfl) rfl
set_option maxRecDepth 20000 in
theorem cM_draw (d : Nat) (x1 : Int32) (g : am_G) : am_call (d + 1) 230 [.inr (.inr (29, 0)), .inl x1] g = am_run (am_call d) 230 (99999 + 1) 0 [some (.inr (.inr (29, 0))), some (.inl x1)] [] g := am_call_run (Nat.le_of_ble_eq_true rfl) rfl
set_option maxRecDepth 20000 in
theorem cM_byChance (d : Nat)  (g : am_G) : am_call (d + 1) 231 [.inr (.inr (29, 0))] g = am_run (am_call d) 231 (99999 + 1) 0 [some (.inr (.inr (29, 0))), none, none, none, none] [] g := am_call_run (Nat.le_of_ble_eq_true rfl) rfl
set_option maxRecDepth 20000 in
theorem cM_dearestFrom (d : Nat) (x1 : Int32) (x2 : Int32) (g : am_G) : am_call (d + 1) 232 [.inr (.inr (29, 0)), .inl x1, .inl x2] g = am_run (am_call d) 232 (99999 + 1) 0 [some (.inr (.inr (29, 0))), some (.inl x1), some (.inl x2), none, none, none, none] [] g := am_call_run (Nat.le_of_ble_eq_true rfl) rfl
set_option maxRecDepth 20000 in
theorem cM_nearer (d : Nat) (x1 : Int32) (x2 : Int32) (g : am_G) : am_call (d + 1) 233 [.inr (.inr (29, 0)), .inl x1, .inl x2] g = am_run (am_call d) 233 (99999 + 1) 0 [some (.inr (.inr (29, 0))), some (.inl x1), some (.inl x2)] [] g := am_call_run (Nat.le_of_ble_eq_true rfl) rfl
set_option maxRecDepth 20000 in
theorem cM_further (d : Nat) (x1 : Int32) (x2 : Int32) (g : am_G) : am_call (d + 1) 234 [.inr (.inr (29, 0)), .inl x1, .inl x2] g = am_run (am_call d) 234 (99999 + 1) 0 [some (.inr (.inr (29, 0))), some (.inl x1), some (.inl x2)] [] g := am_call_run (Nat.le_of_ble_eq_true rfl) rfl
set_option maxRecDepth 20000 in
theorem cM_trees (d : Nat)  (g : am_G) : am_call (d + 1) 235 [.inr (.inr (29, 0))] g = am_run (am_call d) 235 (99999 + 1) 0 [some (.inr (.inr (29, 0)))] [] g := am_call_run (Nat.le_of_ble_eq_true rfl) rfl
set_option maxRecDepth 20000 in
theorem cM_chance (d : Nat) (x1 : Int32) (x2 : Int32) (x3 : Int32) (g : am_G) : am_call (d + 1) 236 [.inr (.inr (29, 0)), .inl x1, .inl x2, .inl x3] g = am_run (am_call d) 236 (99999 + 1) 0 [some (.inr (.inr (29, 0))), some (.inl x1), some (.inl x2), some (.inl x3), none] [] g := am_call_run (Nat.le_of_ble_eq_true rfl) rfl
set_option maxRecDepth 20000 in
theorem cM_count (d : Nat) (x1 : Int32) (g : am_G) : am_call (d + 1) 237 [.inr (.inr (29, 0)), .inl x1] g = am_run (am_call d) 237 (99999 + 1) 0 [some (.inr (.inr (29, 0))), some (.inl x1), none, none] [] g := am_call_run (Nat.le_of_ble_eq_true rfl) rfl
end
section
/-! ===== numbers, memory ===== -/
theorem q_n0 : (0 : Int32) = nI 0 := rfl
theorem q_n1 : (1 : Int32) = nI 1 := rfl
theorem q_n2 : (2 : Int32) = nI 2 := rfl
theorem q_n3 : (3 : Int32) = nI 3 := rfl
theorem q_n24 : (24 : Int32) = nI 24 := rfl
theorem q_toInt {k : Nat} (h : k < 2 ^ 31) : (nI k).toInt = (k : Int) := nI_toInt h
theorem q_m1 : (-1 : Int32).toInt = -1 := by decide
theorem q_m2 : (-2 : Int32).toInt = -2 := by decide
theorem q_m3 : (-3 : Int32).toInt = -3 := by decide
theorem q_lt (a b : Int32) : a < b ↔ a.toInt < b.toInt := Int32.lt_iff_toInt_lt
theorem q_le (a b : Int32) : a ≤ b ↔ a.toInt ≤ b.toInt := Int32.le_iff_toInt_le
theorem q_eq (a b : Int32) : a = b ↔ a.toInt = b.toInt := Int32.toInt_inj.symm
theorem q_ne1 {k : Nat} (h : k < 2 ^ 31) : ¬ nI k = -1 := by
  rw [q_eq, nI_toInt h, q_m1]; omega
theorem q_ne2 {k : Nat} (h : k < 2 ^ 31) : ¬ nI k = -2 := by
  rw [q_eq, nI_toInt h, q_m2]; omega
theorem q_nn {k : Nat} (h : k < 2 ^ 31) : ¬ nI k < 0 := nI_pos h
theorem q_0le {k : Nat} (h : k < 2 ^ 31) : 0 ≤ nI k := nI_pos' h
theorem q_inj {a b : Nat} (ha : a < 2 ^ 31) (hb : b < 2 ^ 31) : nI a = nI b ↔ a = b := nI_eq ha hb
theorem q_in {k n : Nat} (h : k < n) (hn : n < 2 ^ 31) : am_in (nI k) n = true := by
  unfold am_in
  rw [nI_toInt (by omega)]
  simp
  omega
theorem q_in_of {x : Int32} {n : Nat} (h : am_in x n = true) (hn : n < 2 ^ 31) : ∃ k, k < n ∧ x = nI k := vp_in_of (by
  unfold am_in at h
  rw [Bool.and_eq_true] at h
  exact vp_in_iff.mpr ⟨of_decide_eq_true h.1, of_decide_eq_true h.2⟩) hn
/-- an int that is a town, or not -/
theorem q_town (x : Int32) {n : Nat} (hn : n < 2 ^ 31) : (¬ (0 ≤ x ∧ x < nI n)) ∨ ∃ k, k < n ∧ x = nI k := by
  by_cases h : 0 ≤ x ∧ x < nI n
  · right
    obtain ⟨j, h1, h2⟩ := nI_of (x := x) (by rw [q_lt]; have := (q_le 0 x).mp h.1; omega)
    refine ⟨j, ?_, h2⟩
    have := h.2
    rw [h2, q_lt, nI_toInt h1, nI_toInt hn] at this
    omega
  · exact Or.inl h
/-- none is -1, -2 -/
def eC (o : Option Nat) : Int32 := match o with
  | none => -1
  | some p => nI p
def eM (o : Option Nat) : Int32 := match o with
  | none => -2
  | some p => nI p
theorem eC_none : eC none = -1 := rfl
theorem eC_some (p : Nat) : eC (some p) = nI p := rfl
theorem eM_none : eM none = -2 := rfl
theorem eM_some (p : Nat) : eM (some p) = nI p := rfl
theorem eC_inj {o : Option Nat} {q : Nat} (ho : ∀ p, o = some p → p < 2 ^ 31) (hq : q < 2 ^ 31) : eC o = nI q ↔ o = some q := by
  cases o with
  | none => simp only [eC_none]; constructor
            · intro h; exact absurd h.symm (q_ne1 hq)
            · intro h; cases h
  | some p => rw [eC_some, nI_eq (ho p rfl) hq, Option.some_inj]
theorem eM_inj {o : Option Nat} {q : Nat} (ho : ∀ p, o = some p → p < 2 ^ 31) (hq : q < 2 ^ 31) : eM o = nI q ↔ o = some q := by
  cases o with
  | none => simp only [eM_none]; constructor
            · intro h; exact absurd h.symm (q_ne2 hq)
            · intro h; cases h
  | some p => rw [eM_some, nI_eq (ho p rfl) hq, Option.some_inj]
theorem eC_m1 {o : Option Nat} (ho : ∀ p, o = some p → p < 2 ^ 31) : eC o = -1 ↔ o = none := by
  cases o with
  | none => simp [eC_none]
  | some p => simp only [eC_some]; constructor
              · intro h; exact absurd h (q_ne1 (ho p rfl))
              · intro h; cases h
theorem eM_neg {o : Option Nat} (ho : ∀ p, o = some p → p < 2 ^ 31) : eM o < 0 ↔ o = none := by
  cases o with
  | none => simp only [eM_none]; constructor
            · intro _; trivial
            · intro _; decide
  | some p => simp only [eM_some]; constructor
              · intro h; exact absurd h (nI_pos (ho p rfl))
              · intro h; cases h
theorem eM_pos {o : Option Nat} (ho : ∀ p, o = some p → p < 2 ^ 31) : 0 ≤ eM o ↔ ¬ o = none := by
  cases o with
  | none => simp only [eM_none]; constructor
            · intro h; exact absurd h (by decide)
            · intro h; exact absurd trivial h
  | some p => simp only [eM_some]; constructor
              · intro _ h; cases h
              · intro _; exact nI_pos' (ho p rfl)
theorem m_sto (g : am_G) (c i k : Nat) (x : Int32) (j : Nat) : am_sto g c i k x c i j = if j = k then x else g c i j := by
  unfold am_sto am_set
  rw [if_pos ⟨rfl, rfl⟩]
  rfl
theorem m_sto_ne {g : am_G} {c i k c' i' : Nat} {x : Int32} (h : ¬ (c' = c ∧ i' = i)) : am_sto g c i k x c' i' = g c' i' := if_neg h
theorem m_put (g : am_G) (c i : Nat) (x : Int32) (j : Nat) : am_put g c i x c i j = x := by
  unfold am_put am_set
  rw [if_pos ⟨rfl, rfl⟩]
theorem m_put_ne {g : am_G} {c i c' i' : Nat} {x : Int32} (h : ¬ (c' = c ∧ i' = i)) : am_put g c i x c' i' = g c' i' := if_neg h
theorem m_set (g : am_G) (c i : Nat) (f : Nat → Int32) : am_set g c i f c i = f := if_pos ⟨rfl, rfl⟩
theorem m_set_ne {g : am_G} {c i c' i' : Nat} {f : Nat → Int32} (h : ¬ (c' = c ∧ i' = i)) : am_set g c i f c' i' = g c' i' := if_neg h
/-- all but S stays -/
def m_fr (S : Nat → Nat → Prop) (g g' : am_G) : Prop := ∀ c i, ¬ S c i → g' c i = g c i
theorem m_fr.rf {S : Nat → Nat → Prop} {g : am_G} : m_fr S g g := fun _ _ _ => rfl
theorem m_fr.tr {S : Nat → Nat → Prop} {g g1 g2 : am_G} (h1 : m_fr S g g1) (h2 : m_fr S g1 g2) : m_fr S g g2 := fun c i h => (h2 c i h).trans (h1 c i h)
theorem m_fr.mono {S T : Nat → Nat → Prop} {g g' : am_G} (h : m_fr S g g') (hs : ∀ c i, S c i → T c i) : m_fr T g g' := fun c i hn => h c i (fun q => hn (hs c i q))
theorem m_fr.sto {S : Nat → Nat → Prop} {g g' : am_G} {c i k : Nat} {x : Int32} (h : m_fr S g g') (hs : S c i) : m_fr S g (am_sto g' c i k x) := fun c' i' hn => by
  rw [m_sto_ne (fun q => hn (by rw [q.1, q.2]; exact hs))]
  exact h c' i' hn
theorem m_fr.put {S : Nat → Nat → Prop} {g g' : am_G} {c i : Nat} {x : Int32} (h : m_fr S g g') (hs : S c i) : m_fr S g (am_put g' c i x) := fun c' i' hn => by
  rw [m_put_ne (fun q => hn (by rw [q.1, q.2]; exact hs))]
  exact h c' i' hn
theorem m_fr.set {S : Nat → Nat → Prop} {g g' : am_G} {c i : Nat} {f : Nat → Int32} (h : m_fr S g g') (hs : S c i) : m_fr S g (am_set g' c i f) := fun c' i' hn => by
  rw [m_set_ne (fun q => hn (by rw [q.1, q.2]; exact hs))]
  exact h c' i' hn
theorem bi_some {α : Type} (x : Int32) (g : am_G) (k : Int32 → am_G → Option α) : am_bi (some (some (.inl x), g)) k = k x g := rfl
theorem bv_some {α : Type} (g : am_G) (k : am_G → Option α) : am_bv (some (none, g)) k = k g := rfl
theorem fb_holes : ∀ (m n : Nat) (f : Nat → Nat), (∀ i, i < n → f i < m) → (∀ i j, i < j → j < n → f i ≠ f j) → n ≤ m := by
  intro m
  induction m with
  | zero =>
    intro n f h1 _
    rcases Nat.eq_zero_or_pos n with h | h
    · omega
    · exact absurd (h1 0 h) (Nat.not_lt_zero _)
  | succ m ih =>
    intro n f h1 h2
    by_cases hx : ∃ i, i < n ∧ f i = m
    · obtain ⟨a, ha, hfa⟩ := hx
      have hg := ih (n - 1) (fun i => if i < a then f i else f (i + 1)) (by
        intro i hi
        by_cases q : i < a
        · simp only [if_pos q]
          have b1 := h1 i (by omega)
          have b2 := h2 i a q ha
          omega
        · simp only [if_neg q]
          have b1 := h1 (i + 1) (by omega)
          have b2 := h2 a (i + 1) (by omega) (by omega)
          omega) (by
        intro i j hij hj
        by_cases q : i < a
        · by_cases r : j < a
          · simp only [if_pos q, if_pos r]
            exact h2 i j hij (by omega)
          · simp only [if_pos q, if_neg r]
            exact h2 i (j + 1) (by omega) (by omega)
        · have r : ¬ j < a := by omega
          simp only [if_neg q, if_neg r]
          exact h2 (i + 1) (j + 1) (by omega) (by omega))
      omega
    · have hg := ih n f (fun i hi => by
        have b1 := h1 i hi
        have b2 : f i ≠ m := fun e => hx ⟨i, hi, e⟩
        omega) h2
      omega
theorem q_s24 {k : Nat} (h : k < 24) : ¬ (24 : Int32) ≤ nI k := nI_ge (a := k) (b := 24) h (by omega)
theorem q_c24 {n t : Nat} (hn : n ≤ 24) (ht : t < n) : am_in (nI t) 24 = true := q_in (Nat.lt_of_lt_of_le ht hn) (by omega)
theorem q24 {n t : Nat} (h : n ≤ 24) (ht : t < n) : t < 2 ^ 31 := by omega
theorem q24e {n t : Nat} (h : n ≤ 24) (ht : t ≤ n) : t < 2 ^ 31 := by omega
theorem q_ge {a b : Nat} (h : a ≤ b) (hb : b < 2 ^ 31) : nI a ≤ nI b := nI_le h hb
end
section
/-! ===== forests: towns 0 .. n-1, of each at most one parent ===== -/
/-- towns, parent, preferred, length, cap, value, switches -/
abbrev fF : Type := Nat × (Nat → Option Nat) × (Nat → Option Nat) × (Nat → Nat) × (Nat → Nat) × (Nat → Int32) × Int32
abbrev fN (F : fF) : Nat := F.1
abbrev fP (F : fF) : Nat → Option Nat := F.2.1
abbrev fQ (F : fF) : Nat → Option Nat := F.2.2.1
abbrev fL (F : fF) : Nat → Nat := F.2.2.2.1
abbrev fC (F : fF) : Nat → Nat := F.2.2.2.2.1
abbrev fV (F : fF) : Nat → Int32 := F.2.2.2.2.2.1
abbrev fS (F : fF) : Int32 := F.2.2.2.2.2.2
def uo {α : Type} (f : Nat → α) (k : Nat) (x : α) : Nat → α := fun j => if j = k then x else f j
theorem uo_eq {α : Type} (f : Nat → α) (k : Nat) (x : α) : uo f k x k = x := if_pos rfl
theorem uo_ne {α : Type} {f : Nat → α} {k j : Nat} {x : α} (h : j ≠ k) : uo f k x j = f j := if_neg h
/-- parents are towns; no cycles -/
def f_ok (n : Nat) (par : Nat → Option Nat) : Prop := (∀ t p, t < n → par t = some p → p < n) ∧ ∃ d : Nat → Nat, ∀ t p, t < n → par t = some p → d p < d t
def f_an (par : Nat → Option Nat) : Nat → Nat → List Nat
  | 0, t => [t]
  | k + 1, t => t :: (match par t with
    | none => []
    | some p => f_an par k p)
/-- a town and all above it -/
def f_a (par : Nat → Option Nat) (t : Nat) : List Nat := f_an par 24 t
theorem f_ind {n : Nat} {par : Nat → Option Nat} (h : f_ok n par) {P : Nat → Prop} (hs : ∀ t, t < n → (∀ p, par t = some p → P p) → P t) : ∀ t, t < n → P t := by
  obtain ⟨h1, d, h2⟩ := h
  have key : ∀ k t, t < n → d t < k → P t := by
    intro k
    induction k with
    | zero => intro t _ h; exact absurd h (Nat.not_lt_zero _)
    | succ k ih =>
      intro t ht hk
      refine hs t ht fun p hp => ih p (h1 t p ht hp) ?_
      have := h2 t p ht hp
      omega
  exact fun t ht => key (d t + 1) t ht (Nat.lt_succ_self _)
theorem f_an_mem {n : Nat} {par : Nat → Option Nat} {d : Nat → Nat} (h1 : ∀ t p, t < n → par t = some p → p < n) (h2 : ∀ t p, t < n → par t = some p → d p < d t) : ∀ k t, t < n → ∀ x ∈ f_an par k t, x < n ∧ (x = t ∨ d x < d t)
  | 0, t, ht, x, hx => by
    have : x = t := by simpa [f_an] using hx
    subst this
    exact ⟨ht, Or.inl rfl⟩
  | k + 1, t, ht, x, hx => by
    unfold f_an at hx
    rcases List.mem_cons.mp hx with rfl | hx
    · exact ⟨ht, Or.inl rfl⟩
    · cases hp : par t with
      | none => rw [hp] at hx; cases hx
      | some p =>
        rw [hp] at hx
        obtain ⟨h3, h4⟩ := f_an_mem h1 h2 k p (h1 t p ht hp) x hx
        have h5 := h2 t p ht hp
        refine ⟨h3, Or.inr ?_⟩
        rcases h4 with rfl | h4
        · exact h5
        · omega
theorem f_an_nd {n : Nat} {par : Nat → Option Nat} {d : Nat → Nat} (h1 : ∀ t p, t < n → par t = some p → p < n) (h2 : ∀ t p, t < n → par t = some p → d p < d t) : ∀ k t, t < n → (f_an par k t).Nodup
  | 0, t, ht => by simp [f_an]
  | k + 1, t, ht => by
    unfold f_an
    cases hp : par t with
    | none => simp
    | some p =>
      have hpn := h1 t p ht hp
      refine List.nodup_cons.mpr ⟨fun hx => ?_, f_an_nd h1 h2 k p hpn⟩
      have h5 := h2 t p ht hp
      rcases (f_an_mem h1 h2 k p hpn t hx).2 with h6 | h6
      · subst h6; omega
      · omega
theorem nd_len {l : List Nat} {n : Nat} (hn : l.Nodup) (hl : ∀ x ∈ l, x < n) : l.length ≤ n := by
  refine fb_holes n l.length (fun i => l.getD i 0) (fun i hi => ?_) (fun i j hij hj => ?_)
  · rw [List.getD_eq_getElem?_getD, List.getElem?_eq_getElem hi]
    exact hl _ (List.getElem_mem hi)
  · rw [List.getD_eq_getElem?_getD, List.getD_eq_getElem?_getD, List.getElem?_eq_getElem hj, List.getElem?_eq_getElem (Nat.lt_trans hij hj)]
    intro e
    have h := (List.getElem?_inj (Nat.lt_trans hij hj) hn (j := j)).mp (by rw [List.getElem?_eq_getElem hj, List.getElem?_eq_getElem (Nat.lt_trans hij hj)]; exact congrArg some e)
    omega
theorem f_an_len {n : Nat} {par : Nat → Option Nat} (h : f_ok n par) (k t : Nat) (ht : t < n) : (f_an par k t).length ≤ n := by
  obtain ⟨h1, d, h2⟩ := h
  exact nd_len (f_an_nd h1 h2 k t ht) (fun x hx => (f_an_mem h1 h2 k t ht x hx).1)
theorem f_an_st {par : Nat → Option Nat} : ∀ k t, (f_an par k t).length ≤ k → f_an par (k + 1) t = f_an par k t
  | 0, t, h => by simp [f_an] at h
  | k + 1, t, h => by
    rw [f_an, f_an]
    cases hp : par t with
    | none => rfl
    | some p =>
      unfold f_an at h
      rw [hp] at h
      simp only [List.length_cons] at h
      show t :: f_an par (k + 1) p = t :: f_an par k p
      rw [f_an_st k p (by omega)]
section FO
variable {n : Nat} {par : Nat → Option Nat}
theorem f_a_eq (h : f_ok n par) (hn : n ≤ 24) {t : Nat} (ht : t < n) : f_a par t = t :: (match par t with
    | none => []
    | some p => f_a par p) := by
  have hl := f_an_len h 24 t ht
  unfold f_a
  rw [f_an]
  cases hp : par t with
  | none => rfl
  | some p =>
    unfold f_an at hl
    rw [hp] at hl
    simp only [List.length_cons] at hl
    show t :: f_an par 23 p = t :: f_an par 24 p
    rw [f_an_st 23 p (by omega)]
theorem f_a_none (h : f_ok n par) (hn : n ≤ 24) {t : Nat} (ht : t < n) (hp : par t = none) : f_a par t = [t] := by
  rw [f_a_eq h hn ht, hp]
theorem f_a_some (h : f_ok n par) (hn : n ≤ 24) {t p : Nat} (ht : t < n) (hp : par t = some p) : f_a par t = t :: f_a par p := by
  rw [f_a_eq h hn ht, hp]
theorem f_a_lt (h : f_ok n par) {t x : Nat} (ht : t < n) (hx : x ∈ f_a par t) : x < n := by
  obtain ⟨h1, d, h2⟩ := h
  exact (f_an_mem h1 h2 24 t ht x hx).1
theorem f_a_nd (h : f_ok n par) {t : Nat} (ht : t < n) : (f_a par t).Nodup := by
  obtain ⟨h1, d, h2⟩ := h
  exact f_an_nd h1 h2 24 t ht
theorem f_a_len (h : f_ok n par) {t : Nat} (ht : t < n) : (f_a par t).length ≤ n := f_an_len h 24 t ht
theorem f_a_self (par : Nat → Option Nat) (t : Nat) : t ∈ f_a par t := by
  unfold f_a f_an
  exact List.mem_cons_self
theorem f_a_pos (par : Nat → Option Nat) (t : Nat) : 0 < (f_a par t).length := List.length_pos_of_mem (f_a_self par t)
/-- above one that is above -/
theorem f_a_suf (h : f_ok n par) (hn : n ≤ 24) : ∀ t, t < n → ∀ x ∈ f_a par t, ∃ pre, f_a par t = pre ++ f_a par x := by
  refine f_ind h fun t ht ih x hx => ?_
  cases hp : par t with
  | none =>
    rw [f_a_none h hn ht hp] at hx
    have : x = t := by simpa using hx
    subst this
    exact ⟨[], rfl⟩
  | some p =>
    rw [f_a_some h hn ht hp] at hx ⊢
    rcases List.mem_cons.mp hx with rfl | hx
    · exact ⟨[], by rw [f_a_some h hn ht hp]; rfl⟩
    · obtain ⟨pre, e⟩ := ih p hp x hx
      exact ⟨t :: pre, by rw [e]; rfl⟩
theorem f_a_tr (h : f_ok n par) (hn : n ≤ 24) {t x y : Nat} (ht : t < n) (hx : x ∈ f_a par t) (hy : y ∈ f_a par x) : y ∈ f_a par t := by
  obtain ⟨pre, e⟩ := f_a_suf h hn t ht x hx
  rw [e]
  exact List.mem_append_right _ hy
end FO
/-- the root -/
def f_r (par : Nat → Option Nat) (t : Nat) : Nat := (f_a par t).getLastD t
section FO
variable {n : Nat} {par : Nat → Option Nat}
theorem f_r_none (h : f_ok n par) (hn : n ≤ 24) {t : Nat} (ht : t < n) (hp : par t = none) : f_r par t = t := by
  unfold f_r
  rw [f_a_none h hn ht hp]
  rfl
theorem getLastD_cons_ne {l : List Nat} {a b : Nat} (h : 0 < l.length) : (a :: l).getLastD b = l.getLastD b := by
  cases l with
  | nil => cases h
  | cons c l => simp [List.getLastD_cons]
theorem getLastD_any {l : List Nat} {a b : Nat} (h : 0 < l.length) : l.getLastD a = l.getLastD b := by
  cases l with
  | nil => cases h
  | cons c l => rw [List.getLastD_cons, List.getLastD_cons]
theorem f_r_some (h : f_ok n par) (hn : n ≤ 24) {t p : Nat} (ht : t < n) (hp : par t = some p) : f_r par t = f_r par p := by
  unfold f_r
  rw [f_a_some h hn ht hp, getLastD_cons_ne (f_a_pos par p)]
  exact getLastD_any (f_a_pos par p)
theorem f_r_lt (h : f_ok n par) (hn : n ≤ 24) : ∀ t, t < n → f_r par t < n ∧ par (f_r par t) = none ∧ f_r par t ∈ f_a par t := by
  refine f_ind h fun t ht ih => ?_
  cases hp : par t with
  | none => rw [f_r_none h hn ht hp]; exact ⟨ht, hp, f_a_self par t⟩
  | some p =>
    rw [f_r_some h hn ht hp, f_a_some h hn ht hp]
    obtain ⟨h1, h2, h3⟩ := ih p hp
    exact ⟨h1, h2, List.mem_cons_of_mem _ h3⟩
theorem f_r_up (h : f_ok n par) (hn : n ≤ 24) : ∀ t, t < n → ∀ x ∈ f_a par t, f_r par x = f_r par t := by
  refine f_ind h fun t ht ih x hx => ?_
  cases hp : par t with
  | none =>
    rw [f_a_none h hn ht hp] at hx
    have : x = t := by simpa using hx
    rw [this]
  | some p =>
    rw [f_a_some h hn ht hp] at hx
    rcases List.mem_cons.mp hx with rfl | hx
    · rfl
    · rw [f_r_some h hn ht hp]
      exact ih p hp x hx
end FO
end
section
/-! ===== a Forest object's memory ===== -/
def f_wf (F : fF) : Prop := fN F ≤ 24 ∧ f_ok (fN F) (fP F) ∧ (∀ t q, t < fN F → fQ F t = some q → q < fN F ∧ fP F q = some t) ∧ ∀ t, t < fN F → fP F t ≠ none → 1 ≤ fL F t ∧ fL F t ≤ 9999 ∧ fC F t ≤ 9999
def rC (g : am_G) (i : Nat) (F : fF) : Prop := g 102 i 0 = nI (fN F) ∧ g 103 i 0 = fS F ∧ ∀ t, t < fN F → g 2 i t = eC (fP F t) ∧ g 3 i t = eC (fQ F t) ∧ (fP F t ≠ none → g 4 i t = nI (fL F t) ∧ g 5 i t = nI (fC F t)) ∧ g 6 i t = fV F t
/-- a Forest object's cells -/
def sF (i : Nat) : Nat → Nat → Prop := fun c j => j = i ∧ (2 ≤ c ∧ c ≤ 7 ∨ c = 102 ∨ c = 103)
theorem f_wf.p {F : fF} (h : f_wf F) {t p : Nat} (ht : t < fN F) (hp : fP F t = some p) : p < fN F := h.2.1.1 t p ht hp
theorem f_wf.p31 {F : fF} (h : f_wf F) {t : Nat} (ht : t < fN F) : ∀ p, fP F t = some p → p < 2 ^ 31 := fun p hp => q24 h.1 (h.p ht hp)
theorem f_wf.q31 {F : fF} (h : f_wf F) {t : Nat} (ht : t < fN F) : ∀ p, fQ F t = some p → p < 2 ^ 31 := fun p hp => q24 h.1 (h.2.2.1 t p ht hp).1
theorem f_wf.an {F : fF} (h : f_wf F) {t : Nat} (ht : t < fN F) (hp : fP F t = none) : f_a (fP F) t = [t] := f_a_none h.2.1 h.1 ht hp
theorem f_wf.as {F : fF} (h : f_wf F) {t p : Nat} (ht : t < fN F) (hp : fP F t = some p) : f_a (fP F) t = t :: f_a (fP F) p := f_a_some h.2.1 h.1 ht hp
theorem f_wf.al {F : fF} (h : f_wf F) {t : Nat} (ht : t < fN F) : (f_a (fP F) t).length ≤ 24 := Nat.le_trans (f_a_len h.2.1 ht) h.1
section RC
variable {g : am_G} {i : Nat} {F : fF}
theorem rC.p (h : rC g i F) {t : Nat} (ht : t < fN F) : g 2 i t = eC (fP F t) := (h.2.2 t ht).1
theorem rC.q (h : rC g i F) {t : Nat} (ht : t < fN F) : g 3 i t = eC (fQ F t) := (h.2.2 t ht).2.1
theorem rC.l (h : rC g i F) {t : Nat} (ht : t < fN F) (hp : fP F t ≠ none) : g 4 i t = nI (fL F t) := ((h.2.2 t ht).2.2.1 hp).1
theorem rC.c (h : rC g i F) {t : Nat} (ht : t < fN F) (hp : fP F t ≠ none) : g 5 i t = nI (fC F t) := ((h.2.2 t ht).2.2.1 hp).2
theorem rC.v (h : rC g i F) {t : Nat} (ht : t < fN F) : g 6 i t = fV F t := (h.2.2 t ht).2.2.2
/-- a town: what has() asks -/
def isT (n : Nat) (x : Int32) : Prop := 0 ≤ x ∧ x < nI n
theorem isT_nI {n t : Nat} (hn : n ≤ 24) (ht : t < n) : isT n (nI t) := ⟨nI_pos' (q24 hn ht), nI_lt ht (by omega)⟩
theorem isT_of {n : Nat} {x : Int32} (hn : n ≤ 24) (h : isT n x) : ∃ t, t < n ∧ x = nI t := (q_town x (by omega)).resolve_left (fun q => q h)
theorem C_has (d : Nat) (h : rC g i F) (x : Int32) [Decidable (isT (fN F) x)] : am_call (d + 1) 3 [.inr (.inr (1, i)), .inl x] g = some (some (.inl (if isT (fN F) x then 1 else 0)), g) := by
  rw [cF_has, eF_has_0, h.1]
  by_cases h1 : x < 0
  · have : ¬ isT (fN F) x := fun q => by have := q.1; rw [q_le] at this; rw [q_lt] at h1; omega
    rw [if_pos h1, if_neg this]
  · have h0 : 0 ≤ x := by rw [q_le]; rw [q_lt] at h1; omega
    by_cases h2 : nI (fN F) ≤ x
    · have : ¬ isT (fN F) x := fun q => by have := q.2; rw [q_lt] at this; rw [q_le] at h2; omega
      rw [if_neg h1, if_pos h2, if_neg this]
    · have : x < nI (fN F) := by rw [q_lt]; rw [q_le] at h2; omega
      rw [if_neg h1, if_neg h2, if_pos ⟨h0, this⟩]
theorem C_has_t (d : Nat) (h : rC g i F) (hw : f_wf F) {t : Nat} (ht : t < fN F) : am_call (d + 1) 3 [.inr (.inr (1, i)), .inl (nI t)] g = some (some (.inl 1), g) := by
  haveI := Classical.propDecidable (isT (fN F) (nI t))
  rw [C_has d h, if_pos (isT_nI hw.1 ht)]
theorem C_has_f (d : Nat) (h : rC g i F) {x : Int32} (hx : ¬ isT (fN F) x) : am_call (d + 1) 3 [.inr (.inr (1, i)), .inl x] g = some (some (.inl 0), g) := by
  haveI := Classical.propDecidable (isT (fN F) x)
  rw [C_has d h, if_neg hx]
theorem C_hasBoth_t (d : Nat) (h : rC g i F) (hw : f_wf F) {a b : Nat} (ha : a < fN F) (hb : b < fN F) : am_call (d + 2) 4 [.inr (.inr (1, i)), .inl (nI a), .inl (nI b)] g = some (some (.inl 1), g) := by
  rw [cF_hasBoth, eF_hasBoth_0, C_has_t d h hw ha, bi_some, if_neg (by decide), C_has_t d h hw hb, bi_some, if_neg (by decide)]
theorem C_hasBoth_f (d : Nat) (h : rC g i F) (hw : f_wf F) {x y : Int32} (hx : ¬ (isT (fN F) x ∧ isT (fN F) y)) : am_call (d + 2) 4 [.inr (.inr (1, i)), .inl x, .inl y] g = some (some (.inl 0), g) := by
  rw [cF_hasBoth, eF_hasBoth_0]
  by_cases h1 : isT (fN F) x
  · have h2 : ¬ isT (fN F) y := fun q => hx ⟨h1, q⟩
    obtain ⟨t, ht, rfl⟩ := isT_of hw.1 h1
    rw [C_has_t d h hw ht, bi_some, if_neg (by decide), C_has_f d h h2, bi_some, if_pos rfl]
  · rw [C_has_f d h h1, bi_some, if_pos rfl]
theorem C_rootOf_loop (ct : am_T) (h : rC g i F) (hw : f_wf F) (x1 : Int32) : ∀ (k t step : Nat), t < fN F → step + (f_a (fP F) t).length ≤ 24 → (f_a (fP F) t).length ≤ k →
    am_run ct 11 k 4 [some (.inr (.inr (1, i))), some (.inl x1), some (.inl (nI t)), some (.inl (nI step))] [] g = some (some (.inl (nI (f_r (fP F) t))), g)
  | 0, t, step, ht, h1, h2 => by have := f_a_pos (fP F) t; omega
  | k + 1, t, step, ht, h1, h2 => by
    have hl := f_a_pos (fP F) t
    rw [eF_rootOf_4, if_neg (q_s24 (by omega)), q_c24 hw.1 ht, nI_clamp (q24 hw.1 ht), h.p ht]
    cases hp : fP F t with
    | none => rw [f_r_none hw.2.1 hw.1 ht hp]; rfl
    | some p =>
      have hpn := hw.p ht hp
      rw [hw.as ht hp, List.length_cons] at h1 h2
      rw [cond_true, eC_some, if_neg (q_ne1 (q24 hw.1 hpn)), cond_true, f_r_some hw.2.1 hw.1 ht hp]
      rw [nI_1]
      exact C_rootOf_loop ct h hw x1 k p (step + 1) hpn (by omega) (by omega)
theorem C_rootOf (d : Nat) (h : rC g i F) (hw : f_wf F) {t : Nat} (ht : t < fN F) : am_call (d + 1) 11 [.inr (.inr (1, i)), .inl (nI t)] g = some (some (.inl (nI (f_r (fP F) t))), g) := by
  rw [cF_rootOf, eF_rootOf_0]
  have := hw.al ht
  exact C_rootOf_loop _ h hw _ 99999 t 0 ht (by omega) (by omega)
theorem C_depthOf_loop (ct : am_T) (h : rC g i F) (hw : f_wf F) (x1 : Int32) : ∀ (k t step dp : Nat), t < fN F → step + (f_a (fP F) t).length ≤ 24 → (f_a (fP F) t).length ≤ k →
    am_run ct 12 k 6 [some (.inr (.inr (1, i))), some (.inl x1), some (.inl (nI t)), some (.inl (nI dp)), some (.inl (nI step))] [] g = some (some (.inl (nI (dp + ((f_a (fP F) t).length - 1)))), g)
  | 0, t, step, dp, ht, h1, h2 => by have := f_a_pos (fP F) t; omega
  | k + 1, t, step, dp, ht, h1, h2 => by
    have hl := f_a_pos (fP F) t
    rw [eF_depthOf_6, if_neg (q_s24 (by omega)), q_c24 hw.1 ht, nI_clamp (q24 hw.1 ht), h.p ht]
    cases hp : fP F t with
    | none => rw [hw.an ht hp]; rfl
    | some p =>
      have hpn := hw.p ht hp
      have hl2 := f_a_pos (fP F) p
      rw [hw.as ht hp, List.length_cons] at h1 h2 ⊢
      rw [cond_true, eC_some, if_neg (q_ne1 (q24 hw.1 hpn)), cond_true]
      rw [nI_1, nI_1, C_depthOf_loop ct h hw x1 k p (step + 1) (dp + 1) hpn (by omega) (by omega)]
      rw [show dp + 1 + ((f_a (fP F) p).length - 1) = dp + ((f_a (fP F) p).length + 1 - 1) by omega]
/-- the depth -/
def f_d (par : Nat → Option Nat) (t : Nat) : Nat := (f_a par t).length - 1
theorem C_depthOf (d : Nat) (h : rC g i F) (hw : f_wf F) {t : Nat} (ht : t < fN F) : am_call (d + 1) 12 [.inr (.inr (1, i)), .inl (nI t)] g = some (some (.inl (nI (f_d (fP F) t))), g) := by
  rw [cF_depthOf, eF_depthOf_0]
  have := hw.al ht
  have e := C_depthOf_loop (am_call d) h hw (nI t) 99999 t 0 0 ht (by omega) (by omega)
  rw [Nat.zero_add] at e
  exact e
/-- the k-th above, at most the root -/
def f_cl (par : Nat → Option Nat) : Nat → Nat → Nat
  | 0, t => t
  | k + 1, t => match par t with
    | none => t
    | some p => f_cl par k p
theorem C_climb_loop (ct : am_T) (h : rC g i F) (hw : f_wf F) (x1 : Int32) {K : Nat} (hK : K < 2 ^ 31) : ∀ (k t step : Nat), t < fN F → step + (f_a (fP F) t).length ≤ 24 → (f_a (fP F) t).length ≤ k →
    am_run ct 13 k 4 [some (.inr (.inr (1, i))), some (.inl x1), some (.inl (nI K)), some (.inl (nI t)), some (.inl (nI step))] [] g = some (some (.inl (nI (f_cl (fP F) (K - step) t))), g)
  | 0, t, step, ht, h1, h2 => by have := f_a_pos (fP F) t; omega
  | k + 1, t, step, ht, h1, h2 => by
    have hl := f_a_pos (fP F) t
    rw [eF_climb_4, if_neg (q_s24 (by omega))]
    by_cases hk : K ≤ step
    · rw [if_pos (nI_le hk (by omega)), show K - step = 0 by omega]
      rfl
    · rw [if_neg (nI_ge (by omega) hK), q_c24 hw.1 ht, nI_clamp (q24 hw.1 ht), h.p ht, show K - step = (K - (step + 1)) + 1 by omega, f_cl]
      cases hp : fP F t with
      | none => rfl
      | some p =>
        have hpn := hw.p ht hp
        rw [hw.as ht hp, List.length_cons] at h1 h2
        rw [cond_true, eC_some, if_neg (q_ne1 (q24 hw.1 hpn)), cond_true]
        rw [nI_1]
        exact C_climb_loop ct h hw x1 hK k p (step + 1) hpn (by omega) (by omega)
theorem C_climb (d : Nat) (h : rC g i F) (hw : f_wf F) {t K : Nat} (ht : t < fN F) (hK : K < 2 ^ 31) : am_call (d + 1) 13 [.inr (.inr (1, i)), .inl (nI t), .inl (nI K)] g = some (some (.inl (nI (f_cl (fP F) K t))), g) := by
  rw [cF_climb, eF_climb_0]
  have := hw.al ht
  exact C_climb_loop _ h hw _ hK 99999 t 0 ht (by omega) (by omega)
theorem C_climb_neg (d : Nat) (h : rC g i F) (hw : f_wf F) {t : Nat} {x : Int32} (ht : t < fN F) (hx : x ≤ 0) : am_call (d + 1) 13 [.inr (.inr (1, i)), .inl (nI t), .inl x] g = some (some (.inl (nI t)), g) := by
  rw [cF_climb, eF_climb_0, eF_climb_4, if_neg (by decide), if_pos hx]
theorem C_isOver_loop (ct : am_T) (h : rC g i F) (hw : f_wf F) (x2 : Int32) {T : Nat} (hT : T < 2 ^ 31) : ∀ (k t step : Nat), t < fN F → step + (f_a (fP F) t).length ≤ 24 → (f_a (fP F) t).length < k →
    am_run ct 14 k 4 [some (.inr (.inr (1, i))), some (.inl (nI T)), some (.inl x2), some (.inl (nI t)), some (.inl (nI step))] [] g = some (some (.inl (if T ∈ f_a (fP F) t then 1 else 0)), g)
  | 0, t, step, ht, h1, h2 => by have := f_a_pos (fP F) t; omega
  | k + 1, t, step, ht, h1, h2 => by
    have hl := f_a_pos (fP F) t
    have h31 := q24 hw.1 ht
    rw [eF_isOver_4, if_neg (q_s24 (by omega)), if_neg (q_ne1 h31)]
    by_cases e : t = T
    · subst e
      rw [if_pos rfl, if_pos (f_a_self _ _)]
    · rw [if_neg (by rw [nI_eq h31 hT]; exact e), q_c24 hw.1 ht, nI_clamp h31, h.p ht]
      have e2 : ¬ T = t := fun q => e q.symm
      cases hp : fP F t with
      | none =>
        rw [hw.an ht hp] at h1 h2 ⊢
        simp only [List.length_cons, List.length_nil] at h1 h2
        obtain ⟨k, rfl⟩ : ∃ k', k = k' + 1 := ⟨k - 1, by omega⟩
        simp only [List.mem_singleton, if_neg e2]
        rw [cond_true, eC_none, eF_isOver_4]
        by_cases h5 : (24 : Int32) ≤ nI step + 1
        · rw [if_pos h5]
        · rw [if_neg h5, if_pos rfl]
      | some p =>
        have hpn := hw.p ht hp
        rw [hw.as ht hp] at h1 h2 ⊢
        rw [List.length_cons] at h1 h2
        simp only [List.mem_cons, e2, false_or]
        rw [cond_true, eC_some, nI_1]
        exact C_isOver_loop ct h hw x2 hT k p (step + 1) hpn (by omega) (by omega)
theorem C_isOver (d : Nat) (h : rC g i F) (hw : f_wf F) {t T : Nat} (ht : t < fN F) (hT : T < 2 ^ 31) : am_call (d + 1) 14 [.inr (.inr (1, i)), .inl (nI T), .inl (nI t)] g = some (some (.inl (if T ∈ f_a (fP F) t then 1 else 0)), g) := by
  rw [cF_isOver, eF_isOver_0]
  have := hw.al ht
  exact C_isOver_loop _ h hw _ hT 99999 t 0 ht (by omega) (by omega)
theorem C_hangTogether (d : Nat) (h : rC g i F) (hw : f_wf F) {a b : Nat} (ha : a < fN F) (hb : b < fN F) : am_call (d + 2) 15 [.inr (.inr (1, i)), .inl (nI a), .inl (nI b)] g = some (some (.inl (if f_r (fP F) a = f_r (fP F) b then 1 else 0)), g) := by
  have h1 := q24 hw.1 (f_r_lt hw.2.1 hw.1 a ha).1
  have h2 := q24 hw.1 (f_r_lt hw.2.1 hw.1 b hb).1
  rw [cF_hangTogether, eF_hangTogether_0, C_rootOf d h hw ha, bi_some, C_rootOf d h hw hb, bi_some]
  by_cases e : f_r (fP F) a = f_r (fP F) b
  · rw [if_pos (by rw [e]), if_pos e]
  · rw [if_neg (by rw [nI_eq h1 h2]; exact e), if_neg e]
/-- the lower end of the link between two towns -/
def f_lo (par : Nat → Option Nat) (a b : Nat) : Option Nat := if par a = some b then some a else if par b = some a then some b else none
theorem C_lowerOf (d : Nat) (h : rC g i F) (hw : f_wf F) {a b : Nat} (ha : a < fN F) (hb : b < fN F) : am_call (d + 1) 17 [.inr (.inr (1, i)), .inl (nI a), .inl (nI b)] g = some (some (.inl (eC (f_lo (fP F) a b))), g) := by
  rw [cF_lowerOf, eF_lowerOf_0, q_c24 hw.1 ha, q_c24 hw.1 hb, nI_clamp (q24 hw.1 ha), nI_clamp (q24 hw.1 hb), h.p ha, h.p hb]
  simp only [cond_true, eC_inj (hw.p31 ha) (q24 hw.1 hb), eC_inj (hw.p31 hb) (q24 hw.1 ha)]
  unfold f_lo
  by_cases h1 : fP F a = some b
  · rw [if_pos h1, if_pos h1]; rfl
  · rw [if_neg h1, if_neg h1]
    by_cases h2 : fP F b = some a
    · rw [if_pos h2, if_pos h2]; rfl
    · rw [if_neg h2, if_neg h2]; rfl
end RC
end
section
/-! ===== what is done to a forest ===== -/
/-- along a way up each one's preferred becomes the one beneath -/
def p_set (q : Nat → Option Nat) : List Nat → Nat → Option Nat
  | x :: y :: r => p_set (uo q y (some x)) (y :: r)
  | _ => q
/-- how many don't prefer the one beneath -/
def p_cnt (q : Nat → Option Nat) : List Nat → Nat
  | x :: y :: r => (if q y = some x then 0 else 1) + p_cnt q (y :: r)
  | _ => 0
def f_touch (F : fF) (t : Nat) : fF := (fN F, fP F, p_set (uo (fQ F) t none) (f_a (fP F) t), fL F, fC F, fV F, fS F + nI (p_cnt (fQ F) (f_a (fP F) t)))
def r_one (F : fF) (x : Nat) (lo : Option Nat) (ml mc : Nat) : fF := (fN F, uo (fP F) x lo, uo (fQ F) x (fP F x), uo (fL F) x ml, uo (fC F) x mc, fV F, fS F)
def r_rev (F : fF) (lo : Option Nat) (ml mc : Nat) : List Nat → fF
  | [] => F
  | x :: r => r_rev (r_one F x lo ml mc) (some x) (fL F x) (fC F x) r
def f_reroot (F : fF) (t : Nat) : fF := r_rev (f_touch F t) none 0 0 (f_a (fP F) t)
def f_walk (F : fF) (a b : Nat) : fF := f_touch (f_reroot F a) b
def f_hang (F : fF) (a b l c : Nat) : fF := (fN F, uo (fP F) a (some b), fQ F, uo (fL F) a l, uo (fC F) a c, fV F, fS F)
def f_free (F : fF) (a b : Nat) : fF := (fN F, uo (fP F) b none, uo (fQ F) a none, fL F, fC F, fV F, fS F)
def f_link (F : fF) (a b l c : Nat) : fF := f_hang (f_walk F a b) a b l c
def f_cut (F : fF) (a b : Nat) : fF := f_free (f_walk F a b) a b
/-- a list each of which has the next one as parent, the last none -/
def p_ch (par : Nat → Option Nat) : List Nat → Prop
  | [] => True
  | x :: r => par x = r.head? ∧ p_ch par r
theorem f_a_hd (par : Nat → Option Nat) (t : Nat) : ∃ r, f_a par t = t :: r := ⟨_, rfl⟩
theorem f_a_head? (par : Nat → Option Nat) (t : Nat) : (f_a par t).head? = some t := rfl
theorem p_set_as (q par : Nat → Option Nat) (x y : Nat) : p_set q (x :: f_a par y) = p_set (uo q y (some x)) (f_a par y) := by
  obtain ⟨r, e⟩ := f_a_hd par y
  rw [e, p_set]
theorem p_cnt_as (q par : Nat → Option Nat) (x y : Nat) : p_cnt q (x :: f_a par y) = (if q y = some x then 0 else 1) + p_cnt q (f_a par y) := by
  obtain ⟨r, e⟩ := f_a_hd par y
  rw [e, p_cnt]
theorem p_cnt_cg {q q' : Nat → Option Nat} : ∀ (L : List Nat), (∀ z ∈ L.tail, q z = q' z) → p_cnt q L = p_cnt q' L
  | [], _ => rfl
  | [_], _ => rfl
  | x :: y :: r, h => by
    rw [p_cnt, p_cnt, h y (by simp), p_cnt_cg (y :: r) (fun z hz => h z (by simp at hz ⊢; exact Or.inr hz))]
theorem uo_same {α : Type} {f : Nat → α} {k : Nat} {x : α} (h : f k = x) : uo f k x = f := funext fun j => by
  unfold uo
  split
  · rename_i e; rw [e, h]
  · rfl
theorem f_a_ch {n : Nat} {par : Nat → Option Nat} (h : f_ok n par) (hn : n ≤ 24) : ∀ t, t < n → p_ch par (f_a par t) := by
  refine f_ind h fun t ht ih => ?_
  cases hp : par t with
  | none => rw [f_a_none h hn ht hp]; exact ⟨hp, trivial⟩
  | some p => rw [f_a_some h hn ht hp]; exact ⟨by rw [hp]; rfl, ih p hp⟩
theorem f_a_tail {n : Nat} {par : Nat → Option Nat} (h : f_ok n par) {y : Nat} (hy : y < n) : ∀ z ∈ (f_a par y).tail, z ≠ y := by
  intro z hz e
  subst e
  have hnd := f_a_nd h hy
  obtain ⟨r, e⟩ := f_a_hd par z
  rw [e] at hnd hz
  exact (List.nodup_cons.mp hnd).1 hz
section RC
variable {g : am_G} {i : Nat} {F : fF}
theorem rC.setQ (h : rC g i F) {y : Nat} (o : Option Nat) : rC (am_sto g 3 i y (eC o)) i (fN F, fP F, uo (fQ F) y o, fL F, fC F, fV F, fS F) := by
  refine ⟨h.1, h.2.1, fun t ht => ?_⟩
  obtain ⟨h1, h2, h3, h4⟩ := h.2.2 t ht
  refine ⟨h1, ?_, h3, h4⟩
  rw [m_sto]
  show _ = eC (uo (fQ F) y o t)
  unfold uo
  split
  · rfl
  · exact h2
theorem rC.setS (h : rC g i F) (s : Int32) : rC (am_put g 103 i s) i (fN F, fP F, fQ F, fL F, fC F, fV F, s) := by
  refine ⟨h.1, m_put _ _ _ _ _, fun t ht => ?_⟩
  exact h.2.2 t ht
theorem rC.one (h : rC g i F) {x : Nat} (lo : Option Nat) {ml mc : Nat} {x4 x5 : Int32} (hlo : lo ≠ none → x4 = nI ml ∧ x5 = nI mc) :
    rC (am_sto (am_sto (am_sto (am_sto g 2 i x (eC lo)) 4 i x x4) 5 i x x5) 3 i x (eC (fP F x))) i (r_one F x lo ml mc) := by
  refine ⟨h.1, h.2.1, fun t ht => ?_⟩
  obtain ⟨h1, h2, h3, h4⟩ := h.2.2 t ht
  have e2 : am_sto (am_sto (am_sto (am_sto g 2 i x (eC lo)) 4 i x x4) 5 i x x5) 3 i x (eC (fP F x)) 2 i t = if t = x then eC lo else g 2 i t := by
    rw [m_sto_ne (by simp), m_sto_ne (by simp), m_sto_ne (by simp), m_sto]
  have e3 : am_sto (am_sto (am_sto (am_sto g 2 i x (eC lo)) 4 i x x4) 5 i x x5) 3 i x (eC (fP F x)) 3 i t = if t = x then eC (fP F x) else g 3 i t := by
    rw [m_sto, m_sto_ne (by simp), m_sto_ne (by simp), m_sto_ne (by simp)]
  have e4 : am_sto (am_sto (am_sto (am_sto g 2 i x (eC lo)) 4 i x x4) 5 i x x5) 3 i x (eC (fP F x)) 4 i t = if t = x then x4 else g 4 i t := by
    rw [m_sto_ne (by simp), m_sto_ne (by simp), m_sto, m_sto_ne (by simp)]
  have e5 : am_sto (am_sto (am_sto (am_sto g 2 i x (eC lo)) 4 i x x4) 5 i x x5) 3 i x (eC (fP F x)) 5 i t = if t = x then x5 else g 5 i t := by
    rw [m_sto_ne (by simp), m_sto, m_sto_ne (by simp), m_sto_ne (by simp)]
  have e6 : am_sto (am_sto (am_sto (am_sto g 2 i x (eC lo)) 4 i x x4) 5 i x x5) 3 i x (eC (fP F x)) 6 i t = g 6 i t := by
    rw [m_sto_ne (by simp), m_sto_ne (by simp), m_sto_ne (by simp), m_sto_ne (by simp)]
  rw [e2, e3, e4, e5, e6]
  show (if t = x then eC lo else g 2 i t) = eC (uo (fP F) x lo t) ∧ (if t = x then eC (fP F x) else g 3 i t) = eC (uo (fQ F) x (fP F x) t) ∧ (uo (fP F) x lo t ≠ none → (if t = x then x4 else g 4 i t) = nI (uo (fL F) x ml t) ∧ (if t = x then x5 else g 5 i t) = nI (uo (fC F) x mc t)) ∧ g 6 i t = fV F t
  by_cases e : t = x
  · subst e
    simp only [if_true, uo_eq]
    exact ⟨trivial, trivial, hlo, h4⟩
  · simp only [if_neg e, uo_ne e]
    exact ⟨h1, h2, h3, h4⟩
theorem sF_in {c : Nat} (h : 2 ≤ c ∧ c ≤ 7 ∨ c = 102 ∨ c = 103) : sF i c i := ⟨rfl, h⟩
theorem C_touch_loop (ct : am_T) (x1 : Int32) : ∀ (k x step : Nat) (F : fF) (g : am_G), rC g i F → fN F ≤ 24 → f_ok (fN F) (fP F) → (∀ y p, y < fN F → fQ F y = some p → p < 2 ^ 31) → x < fN F → step + (f_a (fP F) x).length ≤ 24 → (f_a (fP F) x).length ≤ k →
    ∃ g', am_run ct 5 k 14 [some (.inr (.inr (1, i))), some (.inl x1), some (.inl (nI x)), some (.inl (eC (fP F x))), some (.inl (nI step))] [] g = some (none, g') ∧
      rC g' i (fN F, fP F, p_set (fQ F) (f_a (fP F) x), fL F, fC F, fV F, fS F + nI (p_cnt (fQ F) (f_a (fP F) x))) ∧ m_fr (sF i) g g'
  | 0, x, step, F, g, h, hn, ho, hq, hx, h1, h2 => by have := f_a_pos (fP F) x; omega
  | k + 1, x, step, F, g, h, hn, ho, hq, hx, h1, h2 => by
    have hl := f_a_pos (fP F) x
    rw [eF_touchAt_14, if_neg (q_s24 (by omega))]
    cases hp : fP F x with
    | none =>
      rw [f_a_none ho hn hx hp, eC_none, if_pos rfl]
      refine ⟨g, rfl, ?_, m_fr.rf⟩
      have e : fS F + nI 0 = fS F := Int32.add_zero _
      show rC g i (fN F, fP F, fQ F, fL F, fC F, fV F, fS F + nI 0)
      rw [e]
      exact h
    | some y =>
      have hy := ho.1 x y hx hp
      have hy31 := q24 hn hy
      rw [f_a_some ho hn hx hp] at h1 h2 ⊢
      rw [List.length_cons] at h1 h2
      rw [eC_some, if_neg (q_ne1 hy31), q_c24 hn hy, cond_true, cond_true, cond_true, cond_true, nI_clamp hy31, h.q hy, h.p hy, p_set_as, p_cnt_as]
      by_cases e : fQ F y = some x
      · rw [if_pos ((eC_inj (fun p hp => hq y p hy hp) (q24 hn hx)).mpr e), nI_1]
        obtain ⟨g', h5, h6, h7⟩ := C_touch_loop ct x1 k y (step + 1) F g h hn ho hq hy (by omega) (by omega)
        refine ⟨g', h5, ?_, h7⟩
        rw [uo_same e, if_pos e, Nat.zero_add]
        exact h6
      · rw [if_neg (fun q => e ((eC_inj (fun p hp => hq y p hy hp) (q24 hn hx)).mp q)), nI_1]
        have hg1 := (h.setQ (y := y) (some x)).setS (fS F + 1)
        have es : am_sto g 3 i y (nI x) 103 i 0 = fS F := by rw [m_sto_ne (by simp)]; exact h.2.1
        have ep : am_put (am_sto g 3 i y (nI x)) 103 i (fS F + 1) 2 i y = eC (fP F y) := by
          rw [m_put_ne (by simp), m_sto_ne (by simp)]; exact h.p hy
        rw [es, ep]
        obtain ⟨g', h5, h6, h7⟩ := C_touch_loop ct x1 k y (step + 1) _ _ hg1 hn ho (fun z p hz hzp => by
          by_cases ez : z = y
          · subst ez
            have : some x = some p := by rw [← hzp]; exact (uo_eq _ _ _).symm
            cases this
            exact q24 hn hx
          · exact hq z p hz (by rw [← hzp]; exact (uo_ne ez).symm)) hy (by show step + 1 + (f_a (fP F) y).length ≤ 24; omega) (by show (f_a (fP F) y).length ≤ k; omega)
        refine ⟨g', h5, ?_, ((m_fr.rf.sto (sF_in (by omega))).put (sF_in (by omega))).tr h7⟩
        have ec : p_cnt (uo (fQ F) y (some x)) (f_a (fP F) y) = p_cnt (fQ F) (f_a (fP F) y) := p_cnt_cg _ (fun z hz => uo_ne (f_a_tail ho hy z hz))
        have h6 : rC g' i (fN F, fP F, p_set (uo (fQ F) y (some x)) (f_a (fP F) y), fL F, fC F, fV F, fS F + 1 + nI (p_cnt (uo (fQ F) y (some x)) (f_a (fP F) y))) := h6
        rw [ec, Int32.add_assoc, q_n1, nI_add] at h6
        rw [if_neg e]
        exact h6
theorem C_touchAt (d : Nat) (h : rC g i F) (hw : f_wf F) {t : Nat} (ht : t < fN F) : ∃ g', am_call (d + 1) 5 [.inr (.inr (1, i)), .inl (nI t)] g = some (none, g') ∧ rC g' i (f_touch F t) ∧ m_fr (sF i) g g' := by
  have hl := hw.al ht
  have h31 := q24 hw.1 ht
  have e : am_sto g 3 i t (-1) 2 i t = eC (fP F t) := by rw [m_sto_ne (by simp)]; exact h.p ht
  rw [cF_touchAt, eF_touchAt_0, q_c24 hw.1 ht, cond_true, cond_true, nI_clamp h31, e]
  obtain ⟨g', h5, h6, h7⟩ := C_touch_loop (am_call d) (nI t) 99999 t 0 _ _ (h.setQ (y := t) none) hw.1 hw.2.1 (fun z p hz hzp => by
    by_cases ez : z = t
    · subst ez
      have : none = some p := by rw [← hzp]; exact (uo_eq _ _ _).symm
      cases this
    · exact hw.q31 hz p (by rw [← hzp]; exact (uo_ne ez).symm)) ht (by show 0 + (f_a (fP F) t).length ≤ 24; omega) (by show (f_a (fP F) t).length ≤ 99999; omega)
  refine ⟨g', h5, ?_, (m_fr.rf.sto (sF_in (by omega))).tr h7⟩
  have ec : p_cnt (uo (fQ F) t none) (f_a (fP F) t) = p_cnt (fQ F) (f_a (fP F) t) := p_cnt_cg _ (fun z hz => uo_ne (f_a_tail hw.2.1 ht z hz))
  have h6 : rC g' i (fN F, fP F, p_set (uo (fQ F) t none) (f_a (fP F) t), fL F, fC F, fV F, fS F + nI (p_cnt (uo (fQ F) t none) (f_a (fP F) t))) := h6
  rw [ec] at h6
  exact h6
theorem p_ch_uo {par : Nat → Option Nat} {x : Nat} {v : Option Nat} : ∀ {r : List Nat}, x ∉ r → p_ch par r → p_ch (uo par x v) r
  | [], _, _ => trivial
  | y :: r, hx, h => ⟨by rw [uo_ne (fun e => hx (by rw [e]; exact List.mem_cons_self))]; exact h.1, p_ch_uo (fun q => hx (List.mem_cons_of_mem _ q)) h.2⟩
theorem C_rev_loop (ct : am_T) (x1 : Int32) : ∀ (k : Nat) (R : List Nat) (step : Nat) (F : fF) (g : am_G) (lo : Option Nat) (ml mc : Nat) (x4 x5 : Int32) (o7 o8 o9 : Option am_V), rC g i F → fN F ≤ 24 → R.Nodup → (∀ x ∈ R, x < fN F) → p_ch (fP F) R → (R ≠ [] → lo ≠ none → x4 = nI ml ∧ x5 = nI mc) → step + R.length ≤ 24 → R.length < k →
    ∃ g', am_run ct 6 k 13 [some (.inr (.inr (1, i))), some (.inl x1), some (.inl (eC lo)), some (.inl (eC R.head?)), some (.inl x4), some (.inl x5), some (.inl (nI step)), o7, o8, o9] [] g = some (none, g') ∧ rC g' i (r_rev F lo ml mc R) ∧ m_fr (sF i) g g'
  | 0, R, step, F, g, lo, ml, mc, x4, x5, o7, o8, o9, h, hn, hd, hr, hc, hlo, h1, h2 => by omega
  | k + 1, [], step, F, g, lo, ml, mc, x4, x5, o7, o8, o9, h, hn, hd, hr, hc, hlo, h1, h2 => by
    refine ⟨g, ?_, h, m_fr.rf⟩
    rw [eF_rerootAt_13]
    split
    · rfl
    · rw [List.head?_nil, eC_none, if_pos rfl]
  | k + 1, x :: r, step, F, g, lo, ml, mc, x4, x5, o7, o8, o9, h, hn, hd, hr, hc, hlo, h1, h2 => by
    have hx := hr x List.mem_cons_self
    have h31 := q24 hn hx
    rw [List.length_cons] at h1 h2
    obtain ⟨hd1, hd2⟩ := List.nodup_cons.mp hd
    have e0 : (x :: r).head? = some x := rfl
    rw [eF_rerootAt_13, if_neg (q_s24 (by omega)), e0, eC_some, if_neg (q_ne1 h31), q_c24 hn hx, nI_clamp h31, h.p hx, hc.1, nI_1]
    simp only [cond_true]
    have h' := h.one (x := x) lo (hlo (by simp))
    rw [hc.1] at h'
    obtain ⟨g', h5, h6, h7⟩ := C_rev_loop ct x1 k r (step + 1) (r_one F x lo ml mc) _ (some x) (fL F x) (fC F x) (g 4 i x) (g 5 i x) (some (.inl (eC r.head?))) (some (.inl (g 4 i x))) (some (.inl (g 5 i x))) h' hn hd2 (fun y hy => hr y (List.mem_cons_of_mem _ hy)) (p_ch_uo hd1 hc.2) (fun hne _ => by
      have hpx : fP F x ≠ none := by
        rw [hc.1]
        cases r with
        | nil => exact absurd rfl hne
        | cons y r => simp
      exact ⟨h.l hx hpx, h.c hx hpx⟩) (by omega) (by omega)
    exact ⟨g', h5, h6, (((((m_fr.rf.sto (sF_in (by omega))).sto (sF_in (by omega))).sto (sF_in (by omega))).sto (sF_in (by omega)))).tr h7⟩
theorem C_rerootAt (d : Nat) (h : rC g i F) (hw : f_wf F) {t : Nat} (ht : t < fN F) : ∃ g', am_call (d + 2) 6 [.inr (.inr (1, i)), .inl (nI t)] g = some (none, g') ∧ rC g' i (f_reroot F t) ∧ m_fr (sF i) g g' := by
  have hl := hw.al ht
  obtain ⟨g1, h1, h2, h3⟩ := C_touchAt d h hw ht
  rw [cF_rerootAt, eF_rerootAt_0, h1, bv_some]
  obtain ⟨g', h5, h6, h7⟩ := C_rev_loop (am_call (d + 1)) (nI t) 99999 (f_a (fP F) t) 0 (f_touch F t) g1 none 0 0 0 0 none none none h2 hw.1 (f_a_nd hw.2.1 ht) (fun x hx => f_a_lt hw.2.1 ht hx) (f_a_ch hw.2.1 hw.1 t ht) (fun _ hq => absurd rfl hq) (by omega) (by omega)
  exact ⟨g', h5, h6, h3.tr h7⟩
end RC
end
section
/-! ===== forests behind what is done ===== -/
theorem p_set_out (q : Nat → Option Nat) {z : Nat} : ∀ (L : List Nat) (q : Nat → Option Nat), z ∉ L.tail → p_set q L z = q z
  | [], _, _ => rfl
  | [_], _, _ => rfl
  | x :: y :: r, q, h => by
    rw [p_set, p_set_out q (y :: r) _ (fun hz => h (by simp at hz ⊢; exact Or.inr hz)), uo_ne (fun e => h (by simp [e]))]
theorem p_set_in {x y : Nat} {B : List Nat} : ∀ (A : List Nat) (q : Nat → Option Nat), (A ++ x :: y :: B).Nodup → p_set q (A ++ x :: y :: B) y = some x
  | [], q, h => by
    show p_set q (x :: y :: B) y = some x
    rw [p_set, p_set_out q (y :: B) _ (fun hz => ?_), uo_eq]
    simp only [List.nil_append, List.nodup_cons] at h
    exact h.2.1 hz
  | [a], q, h => by
    show p_set q (a :: x :: y :: B) y = some x
    rw [p_set]
    exact p_set_in [] _ (List.nodup_cons.mp h).2
  | a :: b :: A, q, h => by
    show p_set q (a :: b :: (A ++ x :: y :: B)) y = some x
    rw [p_set]
    exact p_set_in (b :: A) _ (List.nodup_cons.mp h).2
theorem rv_N : ∀ (L : List Nat) (F : fF) (lo : Option Nat) (ml mc : Nat), fN (r_rev F lo ml mc L) = fN F ∧ fV (r_rev F lo ml mc L) = fV F ∧ fS (r_rev F lo ml mc L) = fS F
  | [], _, _, _, _ => ⟨rfl, rfl, rfl⟩
  | x :: r, F, lo, ml, mc => rv_N r (r_one F x lo ml mc) (some x) (fL F x) (fC F x)
theorem rv_out {z : Nat} : ∀ (L : List Nat) (F : fF) (lo : Option Nat) (ml mc : Nat), z ∉ L → fP (r_rev F lo ml mc L) z = fP F z ∧ fQ (r_rev F lo ml mc L) z = fQ F z ∧ fL (r_rev F lo ml mc L) z = fL F z ∧ fC (r_rev F lo ml mc L) z = fC F z
  | [], _, _, _, _, _ => ⟨rfl, rfl, rfl, rfl⟩
  | x :: r, F, lo, ml, mc, h => by
    have hx : z ≠ x := fun e => h (by rw [e]; exact List.mem_cons_self)
    obtain ⟨h1, h2, h3, h4⟩ := rv_out r (r_one F x lo ml mc) (some x) (fL F x) (fC F x) (fun q => h (List.mem_cons_of_mem _ q))
    rw [r_rev]
    exact ⟨h1.trans (uo_ne hx), h2.trans (uo_ne hx), h3.trans (uo_ne hx), h4.trans (uo_ne hx)⟩
theorem rv_hd {y : Nat} {r : List Nat} (F : fF) (lo : Option Nat) (ml mc : Nat) (h : (y :: r).Nodup) : fP (r_rev F lo ml mc (y :: r)) y = lo ∧ fQ (r_rev F lo ml mc (y :: r)) y = fP F y ∧ fL (r_rev F lo ml mc (y :: r)) y = ml ∧ fC (r_rev F lo ml mc (y :: r)) y = mc := by
  obtain ⟨h1, h2, h3, h4⟩ := rv_out r (r_one F y lo ml mc) (some y) (fL F y) (fC F y) (List.nodup_cons.mp h).1
  rw [r_rev]
  exact ⟨h1.trans (uo_eq _ _ _), h2.trans (uo_eq _ _ _), h3.trans (uo_eq _ _ _), h4.trans (uo_eq _ _ _)⟩
theorem rv_adj {x y : Nat} {B : List Nat} : ∀ (A : List Nat) (F : fF) (lo : Option Nat) (ml mc : Nat), (A ++ x :: y :: B).Nodup → fP (r_rev F lo ml mc (A ++ x :: y :: B)) y = some x ∧ fL (r_rev F lo ml mc (A ++ x :: y :: B)) y = fL F x ∧ fC (r_rev F lo ml mc (A ++ x :: y :: B)) y = fC F x
  | [], F, lo, ml, mc, h => by
    rw [List.nil_append, r_rev]
    obtain ⟨h1, -, h3, h4⟩ := rv_hd (r_one F x lo ml mc) (some x) (fL F x) (fC F x) (List.nodup_cons.mp h).2
    exact ⟨h1, h3, h4⟩
  | a :: A, F, lo, ml, mc, h => by
    obtain ⟨hn, hd⟩ := List.nodup_cons.mp h
    rw [List.cons_append, r_rev]
    obtain ⟨h1, h3, h4⟩ := rv_adj A (r_one F a lo ml mc) (some a) (fL F a) (fC F a) hd
    have hx : x ≠ a := fun e => hn (by rw [← e]; simp)
    exact ⟨h1, h3.trans (uo_ne hx), h4.trans (uo_ne hx)⟩
theorem rv_q {z : Nat} : ∀ (L : List Nat) (F : fF) (lo : Option Nat) (ml mc : Nat), L.Nodup → z ∈ L → fQ (r_rev F lo ml mc L) z = fP F z
  | [], _, _, _, _, _, h => by cases h
  | x :: r, F, lo, ml, mc, hn, h => by
    by_cases e : z = x
    · subst e
      exact (rv_hd F lo ml mc hn).2.1
    · have hr : z ∈ r := (List.mem_cons.mp h).resolve_left e
      rw [r_rev, rv_q r _ _ _ _ (List.nodup_cons.mp hn).2 hr]
      exact uo_ne e
theorem p_ch_app {par : Nat → Option Nat} : ∀ (A : List Nat) {w : Nat} {r : List Nat}, p_ch par (A ++ w :: r) → par w = r.head?
  | [], _, _, h => h.1
  | _ :: A, _, _, h => p_ch_app A h.2
section FO
variable {n : Nat} {par : Nat → Option Nat}
theorem f_a_adj (h : f_ok n par) (hn : n ≤ 24) {t x y : Nat} (ht : t < n) (hx : x ∈ f_a par t) (hp : par x = some y) : ∃ A B, f_a par t = A ++ x :: y :: B := by
  obtain ⟨pre, e⟩ := f_a_suf h hn t ht x hx
  have hxn := f_a_lt h ht hx
  obtain ⟨r, e2⟩ := f_a_hd par y
  exact ⟨pre, r, by rw [e, f_a_some h hn hxn hp, e2]⟩
theorem f_a_prev (h : f_ok n par) (hn : n ≤ 24) : ∀ t, t < n → ∀ x ∈ f_a par t, x = t ∨ ∃ w ∈ f_a par t, par w = some x := by
  refine f_ind h fun t ht ih x hx => ?_
  cases hp : par t with
  | none =>
    rw [f_a_none h hn ht hp] at hx
    exact Or.inl (by simpa using hx)
  | some p =>
    rw [f_a_some h hn ht hp] at hx ⊢
    rcases List.mem_cons.mp hx with rfl | hx
    · exact Or.inl rfl
    · right
      rcases ih p hp x hx with rfl | ⟨w, hw, e⟩
      · exact ⟨t, List.mem_cons_self, hp⟩
      · exact ⟨w, List.mem_cons_of_mem _ hw, e⟩
theorem f_r_of (h : f_ok n par) (hn : n ≤ 24) {t x : Nat} (ht : t < n) (hx : x ∈ f_a par t) (hp : par x = none) : f_r par t = x := by
  rw [← f_r_up h hn t ht x hx, f_r_none h hn (f_a_lt h ht hx) hp]
end FO
section WF
variable {F : fF} {t : Nat}
theorem wf_touch (hw : f_wf F) (ht : t < fN F) : f_wf (f_touch F t) := by
  refine ⟨hw.1, hw.2.1, fun z c hz hc => ?_, hw.2.2.2⟩
  have hc : p_set (uo (fQ F) t none) (f_a (fP F) t) z = some c := hc
  have hnd := f_a_nd hw.2.1 ht
  by_cases hin : z ∈ (f_a (fP F) t).tail
  · have hzt : z ≠ t := f_a_tail hw.2.1 ht z hin
    obtain ⟨w, hw1, hw2⟩ := (f_a_prev hw.2.1 hw.1 t ht z (List.mem_of_mem_tail hin)).resolve_left hzt
    obtain ⟨A, B, e⟩ := f_a_adj hw.2.1 hw.1 ht hw1 hw2
    rw [e] at hc hnd
    rw [p_set_in A _ hnd] at hc
    cases hc
    exact ⟨f_a_lt hw.2.1 ht hw1, hw2⟩
  · rw [p_set_out (uo (fQ F) t none) _ _ hin] at hc
    by_cases e : z = t
    · subst e
      rw [uo_eq] at hc
      cases hc
    · rw [uo_ne e] at hc
      exact hw.2.2.1 z c hz hc
theorem rr_N : fN (f_reroot F t) = fN F ∧ fV (f_reroot F t) = fV F ∧ fS (f_reroot F t) = fS (f_touch F t) := rv_N _ _ _ _ _
theorem rr_hd (hw : f_wf F) (ht : t < fN F) : fP (f_reroot F t) t = none := by
  unfold f_reroot
  have hnd := f_a_nd hw.2.1 ht
  obtain ⟨r, e⟩ := f_a_hd (fP F) t
  rw [e] at hnd ⊢
  exact (rv_hd _ _ _ _ hnd).1
theorem rr_adj (hw : f_wf F) (ht : t < fN F) {x y : Nat} (hx : x ∈ f_a (fP F) t) (hp : fP F x = some y) : fP (f_reroot F t) y = some x ∧ fL (f_reroot F t) y = fL F x ∧ fC (f_reroot F t) y = fC F x := by
  unfold f_reroot
  have hnd := f_a_nd hw.2.1 ht
  obtain ⟨A, B, e⟩ := f_a_adj hw.2.1 hw.1 ht hx hp
  rw [e] at hnd ⊢
  exact rv_adj A _ _ _ _ hnd
theorem rr_out (hw : f_wf F) (ht : t < fN F) {x : Nat} (hx : x ∉ f_a (fP F) t) : fP (f_reroot F t) x = fP F x ∧ fQ (f_reroot F t) x = fQ F x ∧ fL (f_reroot F t) x = fL F x ∧ fC (f_reroot F t) x = fC F x := by
  unfold f_reroot
  obtain ⟨h1, h2, h3, h4⟩ := rv_out _ (f_touch F t) none 0 0 hx
  refine ⟨h1, h2.trans ?_, h3, h4⟩
  show p_set (uo (fQ F) t none) (f_a (fP F) t) x = fQ F x
  rw [p_set_out (fQ F) _ _ (fun h => hx (List.mem_of_mem_tail h)), uo_ne (fun e => hx (by rw [e]; exact f_a_self _ _))]
theorem rr_q (hw : f_wf F) (ht : t < fN F) {x : Nat} (hx : x ∈ f_a (fP F) t) : fQ (f_reroot F t) x = fP F x := rv_q _ _ _ _ _ (f_a_nd hw.2.1 ht) hx
theorem idx_app {x y : Nat} {B : List Nat} : ∀ (A : List Nat), (A ++ x :: y :: B).Nodup → (A ++ x :: y :: B).idxOf x < (A ++ x :: y :: B).idxOf y
  | [], h => by
    have hne : ¬ x = y := fun e => by subst e; simp at h
    have e : (x == y) = false := beq_eq_false_iff_ne.mpr hne
    simp [List.idxOf_cons, e]
  | a :: A, h => by
    obtain ⟨hn, hd⟩ := List.nodup_cons.mp h
    have hx : ¬ a = x := fun e => hn (by rw [e]; simp)
    have hy : ¬ a = y := fun e => hn (by rw [e]; simp)
    have ih := idx_app A hd
    rw [List.cons_append, List.idxOf_cons, List.idxOf_cons]
    simp only [beq_eq_false_iff_ne.mpr hx, beq_eq_false_iff_ne.mpr hy, cond_false]
    omega
theorem ok_reroot (hw : f_wf F) (ht : t < fN F) : f_ok (fN F) (fP (f_reroot F t)) := by
  have hnd := f_a_nd hw.2.1 ht
  have hl := hw.al ht
  obtain ⟨hlt, d, hd⟩ := hw.2.1
  have cs : ∀ x, x ∈ f_a (fP F) t → x = t ∨ ∃ w ∈ f_a (fP F) t, fP F w = some x := f_a_prev hw.2.1 hw.1 t ht
  refine ⟨fun x p hx hp => ?_, fun x => if x ∈ f_a (fP F) t then (f_a (fP F) t).idxOf x else 1000 + d x, fun x p hx hp => ?_⟩
  · by_cases hin : x ∈ f_a (fP F) t
    · rcases cs x hin with rfl | ⟨w, hw1, hw2⟩
      · rw [rr_hd hw ht] at hp; cases hp
      · rw [(rr_adj hw ht hw1 hw2).1] at hp
        cases hp
        exact f_a_lt hw.2.1 ht hw1
    · rw [(rr_out hw ht hin).1] at hp
      exact hlt x p hx hp
  · by_cases hin : x ∈ f_a (fP F) t
    · rcases cs x hin with rfl | ⟨w, hw1, hw2⟩
      · rw [rr_hd hw ht] at hp; cases hp
      · rw [(rr_adj hw ht hw1 hw2).1] at hp
        cases hp
        simp only [if_pos hin, if_pos hw1]
        obtain ⟨A, B, e⟩ := f_a_adj hw.2.1 hw.1 ht hw1 hw2
        rw [e] at hnd ⊢
        exact idx_app A hnd
    · rw [(rr_out hw ht hin).1] at hp
      simp only [if_neg hin]
      by_cases hpin : p ∈ f_a (fP F) t
      · simp only [if_pos hpin]
        have := List.idxOf_lt_length_of_mem hpin
        omega
      · simp only [if_neg hpin]
        have := hd x p hx hp
        omega
theorem wf_reroot (hw : f_wf F) (ht : t < fN F) : f_wf (f_reroot F t) := by
  have eN : fN (f_reroot F t) = fN F := rr_N.1
  have cs : ∀ x, x ∈ f_a (fP F) t → x = t ∨ ∃ w ∈ f_a (fP F) t, fP F w = some x := f_a_prev hw.2.1 hw.1 t ht
  refine ⟨by rw [eN]; exact hw.1, by rw [eN]; exact ok_reroot hw ht, fun z c hz hc => ?_, fun x hx hp => ?_⟩
  · rw [eN] at hz ⊢
    by_cases hin : z ∈ f_a (fP F) t
    · rw [rr_q hw ht hin] at hc
      exact ⟨hw.p hz hc, (rr_adj hw ht hin hc).1⟩
    · rw [(rr_out hw ht hin).2.1] at hc
      obtain ⟨h1, h2⟩ := hw.2.2.1 z c hz hc
      refine ⟨h1, ?_⟩
      rw [(rr_out hw ht (fun hcin => hin ?_)).1]
      · exact h2
      · refine f_a_tr hw.2.1 hw.1 ht hcin ?_
        rw [hw.as h1 h2]
        exact List.mem_cons_of_mem _ (f_a_self _ _)
  · rw [eN] at hx
    by_cases hin : x ∈ f_a (fP F) t
    · rcases cs x hin with rfl | ⟨w, hw1, hw2⟩
      · exact absurd (rr_hd hw ht) hp
      · obtain ⟨-, h2, h3⟩ := rr_adj hw ht hw1 hw2
        rw [h2, h3]
        exact hw.2.2.2 w (f_a_lt hw.2.1 ht hw1) (by rw [hw2]; simp)
    · obtain ⟨h1, -, h3, h4⟩ := rr_out hw ht hin
      rw [h1] at hp
      rw [h3, h4]
      exact hw.2.2.2 x hx hp
/-- above one of the way, behind rerooting -/
theorem rr_a_in (hw : f_wf F) (ht : t < fN F) : ∀ (m : Nat) (pre : List Nat) (x : Nat), pre.length = m → x < fN F → f_a (fP F) t = pre ++ f_a (fP F) x → f_a (fP (f_reroot F t)) x = x :: pre.reverse := by
  intro m
  induction m with
  | zero =>
    intro pre x hm hx e
    have : pre = [] := List.length_eq_zero_iff.mp hm
    subst this
    obtain ⟨r1, e1⟩ := f_a_hd (fP F) t
    obtain ⟨r2, e2⟩ := f_a_hd (fP F) x
    rw [e1, e2, List.nil_append] at e
    cases e
    exact f_a_none (ok_reroot hw ht) hw.1 ht (rr_hd hw ht)
  | succ m ih =>
    intro pre x hm hx e
    have hne : pre ≠ [] := fun q => by rw [q] at hm; cases hm
    obtain ⟨pre', w, rfl⟩ : ∃ pre' w, pre = pre' ++ [w] := ⟨pre.dropLast, pre.getLast hne, (List.dropLast_concat_getLast hne).symm⟩
    have e3 : f_a (fP F) t = pre' ++ w :: f_a (fP F) x := by rw [e]; simp
    have hpw : fP F w = some x := by
      have h1 := f_a_ch hw.2.1 hw.1 t ht
      rw [e3] at h1
      rw [p_ch_app pre' h1]
      rfl
    have hwin : w ∈ f_a (fP F) t := by rw [e3]; simp
    have hwn := f_a_lt hw.2.1 ht hwin
    have h4 := ih pre' w (by simpa using hm) hwn (by rw [e3, hw.as hwn hpw])
    rw [f_a_some (ok_reroot hw ht) hw.1 hx (rr_adj hw ht hwin hpw).1, h4]
    simp
end WF
/-- where two ways up come together -/
def f_md (par : Nat → Option Nat) (a b m : Nat) (A B : List Nat) : Prop := f_a par a = A ++ f_a par m ∧ f_a par b = B ++ f_a par m ∧ (∀ x ∈ A, x ∉ f_a par b) ∧ ∀ x ∈ B, x ∉ f_a par a
theorem f_md_ex {n : Nat} {par : Nat → Option Nat} (h : f_ok n par) (hn : n ≤ 24) {b : Nat} (hb : b < n) : ∀ a, a < n → f_r par a = f_r par b → ∃ m A B, f_md par a b m A B := by
  refine f_ind h fun a ha ih hr => ?_
  by_cases hin : a ∈ f_a par b
  · obtain ⟨B, e⟩ := f_a_suf h hn b hb a hin
    refine ⟨a, [], B, rfl, e, fun x hx => (by cases hx), fun x hx hxa => ?_⟩
    have hnd := f_a_nd h hb
    rw [e] at hnd
    exact (List.nodup_append.mp hnd).2.2 x hx x hxa rfl
  · cases hp : par a with
    | none =>
      exfalso
      rw [f_r_none h hn ha hp] at hr
      exact hin (by rw [hr]; exact (f_r_lt h hn b hb).2.2)
    | some p =>
      obtain ⟨m, A, B, h1, h2, h3, h4⟩ := ih p hp (by rw [← hr, f_r_some h hn ha hp])
      refine ⟨m, a :: A, B, by rw [f_a_some h hn ha hp, h1]; rfl, h2, fun x hx => ?_, fun x hx hxa => ?_⟩
      · rcases List.mem_cons.mp hx with rfl | hx
        · exact hin
        · exact h3 x hx
      · rw [f_a_some h hn ha hp] at hxa
        rcases List.mem_cons.mp hxa with rfl | hxa
        · exact hin (by rw [h2]; exact List.mem_append_left _ hx)
        · exact h4 x hx hxa
theorem f_md.symm {par : Nat → Option Nat} {a b m : Nat} {A B : List Nat} (h : f_md par a b m A B) : f_md par b a m B A := ⟨h.2.1, h.1, h.2.2.2, h.2.2.1⟩
theorem f_md.mem {par : Nat → Option Nat} {a b m : Nat} {A B : List Nat} (h : f_md par a b m A B) : m ∈ f_a par a ∧ m ∈ f_a par b := ⟨by rw [h.1]; exact List.mem_append_right _ (f_a_self _ _), by rw [h.2.1]; exact List.mem_append_right _ (f_a_self _ _)⟩
section WF
variable {F : fF} {a b : Nat}
/-- above any town of the tree, behind rerooting -/
theorem rr_a (hw : f_wf F) (ha : a < fN F) {m : Nat} : ∀ (B A : List Nat) (b : Nat), b < fN F → f_md (fP F) a b m A B → f_a (fP (f_reroot F a)) b = B ++ m :: A.reverse
  | [], A, b, hb, h => by
    have hmn := f_a_lt hw.2.1 ha h.mem.1
    have e : b = m := by
      have := h.2.1
      obtain ⟨r1, e1⟩ := f_a_hd (fP F) b
      obtain ⟨r2, e2⟩ := f_a_hd (fP F) m
      rw [e1, e2, List.nil_append] at this
      exact (List.cons.inj this).1
    subst e
    exact rr_a_in hw ha A.length A b rfl hb h.1
  | x :: B, A, b, hb, h => by
    have h2 := h.2.1
    obtain ⟨r1, e1⟩ := f_a_hd (fP F) b
    have e : x = b := by
      rw [e1, List.cons_append] at h2
      exact (List.cons.inj h2).1.symm
    subst e
    have hx : x ∉ f_a (fP F) a := h.2.2.2 x List.mem_cons_self
    cases hp : fP F x with
    | none =>
      exfalso
      rw [hw.an hb hp, List.cons_append] at h2
      have h3 := (List.cons.inj h2).2
      have h4 := f_a_pos (fP F) m
      have h5 := congrArg List.length h3
      rw [List.length_append, List.length_nil] at h5
      omega
    | some p =>
      have hpn := hw.p hb hp
      rw [hw.as hb hp, List.cons_append] at h2
      have h2 := (List.cons.inj h2).2
      rw [f_a_some (ok_reroot hw ha) hw.1 hb (by rw [(rr_out hw ha hx).1]; exact hp), rr_a hw ha B A p hpn ⟨h.1, h2, fun y hy hyp => h.2.2.1 y hy (by rw [hw.as hb hp]; exact List.mem_cons_of_mem _ hyp), fun y hy => h.2.2.2 y (List.mem_cons_of_mem _ hy)⟩]
      rfl
/-- another tree stays -/
theorem rr_other (hw : f_wf F) (ha : a < fN F) : ∀ b, b < fN F → f_r (fP F) a ≠ f_r (fP F) b → f_a (fP (f_reroot F a)) b = f_a (fP F) b := by
  refine f_ind hw.2.1 fun b hb ih hr => ?_
  have hb2 : b ∉ f_a (fP F) a := fun q => hr (f_r_up hw.2.1 hw.1 a ha b q).symm
  cases hp : fP F b with
  | none => rw [hw.an hb hp]; exact f_a_none (ok_reroot hw ha) hw.1 hb (by rw [(rr_out hw ha hb2).1]; exact hp)
  | some p => rw [hw.as hb hp, f_a_some (ok_reroot hw ha) hw.1 hb (by rw [(rr_out hw ha hb2).1]; exact hp), ih p hp (by rw [← f_r_some hw.2.1 hw.1 hb hp]; exact hr)]
theorem rr_root (hw : f_wf F) (ha : a < fN F) (hb : b < fN F) (hr : f_r (fP F) a = f_r (fP F) b) : f_r (fP (f_reroot F a)) b = a := by
  obtain ⟨m, A, B, h⟩ := f_md_ex hw.2.1 hw.1 hb a ha hr
  refine f_r_of (ok_reroot hw ha) hw.1 hb ?_ (rr_hd hw ha)
  rw [rr_a hw ha B A b hb h]
  have h1 := h.1
  obtain ⟨r1, e1⟩ := f_a_hd (fP F) a
  cases A with
  | nil =>
    obtain ⟨r2, e2⟩ := f_a_hd (fP F) m
    rw [e1, e2, List.nil_append] at h1
    rw [(List.cons.inj h1).1]
    simp
  | cons x A =>
    rw [e1, List.cons_append] at h1
    rw [(List.cons.inj h1).1]
    simp
theorem rr_root2 (hw : f_wf F) (ha : a < fN F) (hb : b < fN F) (hr : f_r (fP F) a ≠ f_r (fP F) b) : f_r (fP (f_reroot F a)) b = f_r (fP F) b := by
  unfold f_r
  rw [rr_other hw ha b hb hr]
theorem wk_N : fN (f_walk F a b) = fN F := rr_N.1
theorem wf_walk (hw : f_wf F) (ha : a < fN F) (hb : b < fN F) : f_wf (f_walk F a b) := wf_touch (wf_reroot hw ha) (by rw [rr_N.1]; exact hb)
theorem wf_link (hw : f_wf F) (ha : a < fN F) (hb : b < fN F) (hr : f_r (fP F) a ≠ f_r (fP F) b) {l c : Nat} (hl : 1 ≤ l ∧ l ≤ 9999) (hc : c ≤ 9999) : f_wf (f_link F a b l c) := by
  have hG := wf_walk hw ha hb
  have hok := ok_reroot hw ha
  have hlt : ∀ x p, x < fN F → fP (f_reroot F a) x = some p → p < fN F := hok.1
  obtain ⟨d, hd⟩ := hok.2
  have eN : fN (f_link F a b l c) = fN F := wk_N (b := b)
  have eP : fP (f_link F a b l c) = uo (fP (f_reroot F a)) a (some b) := rfl
  have hroot := rr_hd hw ha
  refine ⟨by rw [eN]; exact hw.1, ?_, fun z q hz hq => ?_, fun x hx hp => ?_⟩
  · rw [eN, eP]
    refine ⟨fun x p hx hp => ?_, fun x => if f_r (fP (f_reroot F a)) x = a then d x + d b + 1 else d x, fun x p hx hp => ?_⟩
    · by_cases e : x = a
      · subst e; rw [uo_eq] at hp; cases hp; exact hb
      · rw [uo_ne e] at hp; exact hlt x p hx hp
    · by_cases e : x = a
      · subst e
        rw [uo_eq] at hp
        cases hp
        have h1 : ¬ f_r (fP (f_reroot F x)) b = x := by
          rw [rr_root2 hw ha hb hr]
          intro q
          exact hr (by rw [q]; exact (f_r_up hw.2.1 hw.1 b hb x (by rw [← q]; exact (f_r_lt hw.2.1 hw.1 b hb).2.2)).trans q)
        have h2 : f_r (fP (f_reroot F x)) x = x := f_r_none (ok_reroot hw ha) hw.1 ha hroot
        simp only [if_neg h1, if_pos h2]
        omega
      · rw [uo_ne e] at hp
        have h1 := f_r_some (ok_reroot hw ha) hw.1 hx hp
        have h2 := hd x p hx hp
        simp only [h1]
        split <;> omega
  · obtain ⟨h1, h2⟩ := hG.2.2.1 z q (by rw [wk_N]; rw [eN] at hz; exact hz) hq
    rw [wk_N] at h1
    refine ⟨by rw [eN]; exact h1, ?_⟩
    rw [eP, uo_ne (fun e => ?_)]
    · exact h2
    · subst e
      have h2 : fP (f_reroot F q) q = some z := h2
      rw [hroot] at h2
      cases h2
  · by_cases e : x = a
    · subst e
      have e1 : fL (f_link F x b l c) x = l := uo_eq _ _ _
      have e2 : fC (f_link F x b l c) x = c := uo_eq _ _ _
      rw [e1, e2]
      exact ⟨hl.1, hl.2, hc⟩
    · have e1 : fL (f_link F a b l c) x = fL (f_walk F a b) x := uo_ne e
      have e2 : fC (f_link F a b l c) x = fC (f_walk F a b) x := uo_ne e
      rw [e1, e2]
      refine hG.2.2.2 x (by rw [wk_N]; rw [eN] at hx; exact hx) ?_
      rw [eP, uo_ne e] at hp
      exact hp
/-- a link's two ends: behind rerooting at one it is the parent of the other -/
theorem rr_link (hw : f_wf F) (ha : a < fN F) (hb : b < fN F) (h : fP F a = some b ∨ fP F b = some a) : fP (f_reroot F a) b = some a := by
  rcases h with h | h
  · exact (rr_adj hw ha (f_a_self _ _) h).1
  · have hnd := f_a_nd hw.2.1 hb
    rw [hw.as hb h] at hnd
    rw [(rr_out hw ha (List.nodup_cons.mp hnd).1).1]
    exact h
theorem wf_cut (hw : f_wf F) (ha : a < fN F) (hb : b < fN F) (h : fP F a = some b ∨ fP F b = some a) : f_wf (f_cut F a b) := by
  have hG := wf_walk hw ha hb
  have hl := rr_link hw ha hb h
  have eN : fN (f_cut F a b) = fN F := wk_N (b := b)
  have eP : fP (f_cut F a b) = uo (fP (f_reroot F a)) b none := rfl
  have eQ : fQ (f_cut F a b) = uo (fQ (f_walk F a b)) a none := rfl
  obtain ⟨h1, d, h2⟩ := ok_reroot hw ha
  refine ⟨by rw [eN]; exact hw.1, ?_, fun z q hz hq => ?_, fun x hx hp => ?_⟩
  · rw [eN, eP]
    refine ⟨fun x p hx hp => ?_, d, fun x p hx hp => ?_⟩
    · by_cases e : x = b
      · subst e; rw [uo_eq] at hp; cases hp
      · rw [uo_ne e] at hp; exact h1 x p hx hp
    · by_cases e : x = b
      · subst e; rw [uo_eq] at hp; cases hp
      · rw [uo_ne e] at hp; exact h2 x p hx hp
  · rw [eN] at hz ⊢
    by_cases e : z = a
    · subst e; rw [eQ, uo_eq] at hq; cases hq
    · rw [eQ, uo_ne e] at hq
      obtain ⟨h3, h4⟩ := hG.2.2.1 z q (by rw [wk_N]; exact hz) hq
      rw [wk_N] at h3
      refine ⟨h3, ?_⟩
      have h4 : fP (f_reroot F a) q = some z := h4
      rw [eP, uo_ne (fun e2 => ?_)]
      · exact h4
      · subst e2
        have h4 : fP (f_reroot F a) q = some z := h4
        rw [hl] at h4
        cases h4
        exact e rfl
  · have e1 : ¬ x = b := fun e => by subst e; rw [eP, uo_eq] at hp; exact hp rfl
    rw [eP, uo_ne e1] at hp
    exact hG.2.2.2 x (by rw [wk_N]; rw [eN] at hx; exact hx) hp
end WF
end
section
/-! ===== Forest, on ===== -/
/-- a loop over t .. t+m-1 -/
def fo {β : Type} (f : β → Nat → β) : β → Nat → Nat → β
  | b, _, 0 => b
  | b, t, m + 1 => fo f (f b t) (t + 1) m
/-- the first one -/
def ff (p : Nat → Bool) : Nat → Nat → Option Nat
  | _, 0 => none
  | t, m + 1 => if p t then some t else ff p (t + 1) m
theorem fo_cg {β : Type} {f f' : β → Nat → β} : ∀ {m : Nat} {b : β} {t : Nat}, (∀ b j, t ≤ j → j < t + m → f b j = f' b j) → fo f b t m = fo f' b t m
  | 0, _, _, _ => rfl
  | m + 1, b, t, h => by
    rw [fo, fo, h b t (Nat.le_refl _) (by omega)]
    exact fo_cg (fun b j h1 h2 => h b j (by omega) (by omega))
theorem ff_cg {p p' : Nat → Bool} : ∀ {m t : Nat}, (∀ j, t ≤ j → j < t + m → p j = p' j) → ff p t m = ff p' t m
  | 0, _, _ => rfl
  | m + 1, t, h => by
    rw [ff, ff, h t (Nat.le_refl _) (by omega), ff_cg (fun j h1 h2 => h j (by omega) (by omega))]
theorem ff_lt {p : Nat → Bool} : ∀ {m t x : Nat}, ff p t m = some x → t ≤ x ∧ x < t + m ∧ p x = true
  | 0, _, _, h => by cases h
  | m + 1, t, x, h => by
    rw [ff] at h
    by_cases hp : p t = true
    · rw [if_pos hp] at h
      cases h
      exact ⟨Nat.le_refl _, by omega, hp⟩
    · rw [if_neg hp] at h
      obtain ⟨h1, h2, h3⟩ := ff_lt h
      exact ⟨by omega, by omega, h3⟩
theorem for_loop {β R : Type} (run : Nat → β → Nat → R) (n : Nat) (step : β → Nat → β) (fin : β → R) (hs : ∀ k b t, t < n → run (k + 1) b t = run k (step b t) (t + 1)) (hx : ∀ k b, run (k + 1) b n = fin b) : ∀ (m t : Nat) (b : β) (k : Nat), t + m = n → m < k → run k b t = fin (fo step b t m)
  | 0, t, b, k, h, hk => by
    obtain ⟨k, rfl⟩ : ∃ k', k = k' + 1 := ⟨k - 1, by omega⟩
    have e : t = n := by omega
    subst e
    exact hx k b
  | m + 1, t, b, k, h, hk => by
    obtain ⟨k, rfl⟩ : ∃ k', k = k' + 1 := ⟨k - 1, by omega⟩
    rw [hs k b t (by omega), fo]
    exact for_loop run n step fin hs hx m (t + 1) (step b t) k (by omega) (by omega)
theorem for_find {R : Type} (run : Nat → Nat → R) (n : Nat) (p : Nat → Bool) (hit : Nat → R) (fin : R) (hs : ∀ k t, t < n → run (k + 1) t = if p t then hit t else run k (t + 1)) (hx : ∀ k, run (k + 1) n = fin) : ∀ (m t k : Nat), t + m = n → m < k → run k t = (match ff p t m with
    | none => fin
    | some x => hit x)
  | 0, t, k, h, hk => by
    obtain ⟨k, rfl⟩ : ∃ k', k = k' + 1 := ⟨k - 1, by omega⟩
    have e : t = n := by omega
    subst e
    exact hx k
  | m + 1, t, k, h, hk => by
    obtain ⟨k, rfl⟩ : ∃ k', k = k' + 1 := ⟨k - 1, by omega⟩
    rw [hs k t (by omega), ff]
    by_cases hp : p t = true
    · rw [if_pos hp, if_pos hp]
    · rw [if_neg hp, if_neg hp]
      exact for_find run n p hit fin hs hx m (t + 1) k (by omega) (by omega)
theorem q_sub_le {a b : Nat} (h : a ≤ b) (hb : b < 2 ^ 30) : nI a - nI b ≤ 0 := by
  rw [q_le, pk_sub_toInt (by omega) hb]
  show (a : Int) - b ≤ (0 : Int32).toInt
  rw [Int32.toInt_zero]
  omega
/-- where two ways up meet -/
def f_m (par : Nat → Option Nat) (a b : Nat) : Option Nat := (f_a par a).find? (fun x => decide (x ∈ f_a par b))
section FO
variable {n : Nat} {par : Nat → Option Nat}
theorem f_d_none (h : f_ok n par) (hn : n ≤ 24) {t : Nat} (ht : t < n) (hp : par t = none) : f_d par t = 0 := by
  unfold f_d; rw [f_a_none h hn ht hp]; rfl
theorem f_d_some (h : f_ok n par) (hn : n ≤ 24) {t p : Nat} (ht : t < n) (hp : par t = some p) : f_d par t = f_d par p + 1 := by
  unfold f_d
  rw [f_a_some h hn ht hp, List.length_cons]
  have := f_a_pos par p
  omega
theorem f_d_le (h : f_ok n par) (hn : n ≤ 24) {t z : Nat} (ht : t < n) (hz : z ∈ f_a par t) : f_d par z ≤ f_d par t := by
  obtain ⟨pre, e⟩ := f_a_suf h hn t ht z hz
  unfold f_d
  rw [e, List.length_append]
  omega
theorem f_m_self (a : Nat) : f_m par a a = some a := by
  unfold f_m
  obtain ⟨r, e⟩ := f_a_hd par a
  rw [e, List.find?_cons]
  simp
theorem f_m_skip (h : f_ok n par) (hn : n ≤ 24) {a b p : Nat} (ha : a < n) (hp : par a = some p) (hab : a ∉ f_a par b) : f_m par a b = f_m par p b := by
  unfold f_m
  rw [f_a_some h hn ha hp, List.find?_cons]
  simp [hab]
theorem find_cg {l : List Nat} {p q : Nat → Bool} (h : ∀ x ∈ l, p x = q x) : l.find? p = l.find? q := by
  induction l with
  | nil => rfl
  | cons a l ih =>
    rw [List.find?_cons, List.find?_cons, h a List.mem_cons_self, ih (fun x hx => h x (List.mem_cons_of_mem _ hx))]
theorem f_m_skip2 (h : f_ok n par) (hn : n ≤ 24) {a b p : Nat} (hb : b < n) (hp : par b = some p) (hab : b ∉ f_a par a) : f_m par a b = f_m par a p := by
  unfold f_m
  refine find_cg fun x hx => ?_
  rw [f_a_some h hn hb hp]
  have : ¬ x = b := fun e => hab (by rw [← e]; exact hx)
  simp [this]
theorem f_m_md (h : f_ok n par) {a b m : Nat} {A B : List Nat} (hm : f_md par a b m A B) : f_m par a b = some m := by
  unfold f_m
  rw [hm.1]
  obtain ⟨r, e⟩ := f_a_hd par m
  have h1 : ∀ A : List Nat, (∀ x ∈ A, x ∉ f_a par b) → (A ++ f_a par m).find? (fun x => decide (x ∈ f_a par b)) = some m := by
    intro A
    induction A with
    | nil =>
      intro _
      rw [List.nil_append, e, List.find?_cons]
      simp [hm.mem.2]
    | cons x A ih =>
      intro hA
      rw [List.cons_append, List.find?_cons]
      have := hA x List.mem_cons_self
      simp only [this, decide_false]
      exact ih (fun y hy => hA y (List.mem_cons_of_mem _ hy))
  exact h1 A hm.2.2.1
theorem f_m_none (h : f_ok n par) (hn : n ≤ 24) {a b : Nat} (ha : a < n) (hb : b < n) (hr : f_r par a ≠ f_r par b) : f_m par a b = none := by
  unfold f_m
  rw [List.find?_eq_none]
  intro x hx hxb
  have hxb : x ∈ f_a par b := of_decide_eq_true hxb
  exact hr ((f_r_up h hn a ha x hx).symm.trans (f_r_up h hn b hb x hxb))
theorem f_m_lt (h : f_ok n par) {a b m : Nat} (ha : a < n) (hm : f_m par a b = some m) : m < n := f_a_lt h ha (List.mem_of_find?_eq_some hm)
theorem f_m_cl (h : f_ok n par) (hn : n ≤ 24) {b : Nat} (hb : b < n) : ∀ (k a : Nat), a < n → f_d par a = f_d par b + k → f_m par a b = f_m par (f_cl par k a) b ∧ f_cl par k a < n ∧ f_d par (f_cl par k a) = f_d par b
  | 0, a, ha, e => ⟨rfl, ha, e⟩
  | k + 1, a, ha, e => by
    cases hp : par a with
    | none => rw [f_d_none h hn ha hp] at e; omega
    | some p =>
      have hpn := h.1 a p ha hp
      rw [f_d_some h hn ha hp] at e
      obtain ⟨h1, h2, h3⟩ := f_m_cl h hn hb k p hpn (by omega)
      rw [f_cl, hp]
      refine ⟨?_, h2, h3⟩
      rw [f_m_skip h hn ha hp (fun hab => ?_)]
      · exact h1
      · have := f_d_le h hn hb hab
        rw [f_d_some h hn ha hp] at this
        omega
theorem f_m_cl2 (h : f_ok n par) (hn : n ≤ 24) {a : Nat} (ha : a < n) : ∀ (k b : Nat), b < n → f_d par b = f_d par a + k → f_m par a b = f_m par a (f_cl par k b) ∧ f_cl par k b < n ∧ f_d par (f_cl par k b) = f_d par a
  | 0, b, hb, e => ⟨rfl, hb, e⟩
  | k + 1, b, hb, e => by
    cases hp : par b with
    | none => rw [f_d_none h hn hb hp] at e; omega
    | some p =>
      have hpn := h.1 b p hb hp
      rw [f_d_some h hn hb hp] at e
      obtain ⟨h1, h2, h3⟩ := f_m_cl2 h hn ha k p hpn (by omega)
      rw [f_cl, hp]
      refine ⟨?_, h2, h3⟩
      rw [f_m_skip2 h hn hb hp (fun hab => ?_)]
      · exact h1
      · have := f_d_le h hn ha hab
        rw [f_d_some h hn hb hp] at this
        omega
end FO
section RC
variable {g : am_G} {i : Nat} {F : fF}
theorem C_walkFrom (d : Nat) (h : rC g i F) (hw : f_wf F) {a b : Nat} (ha : a < fN F) (hb : b < fN F) : ∃ g', am_call (d + 3) 7 [.inr (.inr (1, i)), .inl (nI a), .inl (nI b)] g = some (none, g') ∧ rC g' i (f_walk F a b) ∧ m_fr (sF i) g g' := by
  obtain ⟨g1, h1, h2, h3⟩ := C_rerootAt d h hw ha
  obtain ⟨g2, h4, h5, h6⟩ := C_touchAt (d + 1) h2 (wf_reroot hw ha) (t := b) (by rw [rr_N.1]; exact hb)
  rw [cF_walkFrom, eF_walkFrom_0, h1, bv_some, h4, bv_some]
  exact ⟨g2, rfl, h5, h3.tr h6⟩
theorem rC.hang (h : rC g i F) {a b l c : Nat} : rC (am_sto (am_sto (am_sto g 2 i a (nI b)) 4 i a (nI l)) 5 i a (nI c)) i (f_hang F a b l c) := by
  refine ⟨h.1, h.2.1, fun t ht => ?_⟩
  obtain ⟨h1, h2, h3, h4⟩ := h.2.2 t ht
  have e2 : am_sto (am_sto (am_sto g 2 i a (nI b)) 4 i a (nI l)) 5 i a (nI c) 2 i t = if t = a then nI b else g 2 i t := by
    rw [m_sto_ne (by simp), m_sto_ne (by simp), m_sto]
  have e3 : am_sto (am_sto (am_sto g 2 i a (nI b)) 4 i a (nI l)) 5 i a (nI c) 3 i t = g 3 i t := by
    rw [m_sto_ne (by simp), m_sto_ne (by simp), m_sto_ne (by simp)]
  have e4 : am_sto (am_sto (am_sto g 2 i a (nI b)) 4 i a (nI l)) 5 i a (nI c) 4 i t = if t = a then nI l else g 4 i t := by
    rw [m_sto_ne (by simp), m_sto, m_sto_ne (by simp)]
  have e5 : am_sto (am_sto (am_sto g 2 i a (nI b)) 4 i a (nI l)) 5 i a (nI c) 5 i t = if t = a then nI c else g 5 i t := by
    rw [m_sto, m_sto_ne (by simp), m_sto_ne (by simp)]
  have e6 : am_sto (am_sto (am_sto g 2 i a (nI b)) 4 i a (nI l)) 5 i a (nI c) 6 i t = g 6 i t := by
    rw [m_sto_ne (by simp), m_sto_ne (by simp), m_sto_ne (by simp)]
  rw [e2, e3, e4, e5, e6]
  show (if t = a then nI b else g 2 i t) = eC (uo (fP F) a (some b) t) ∧ g 3 i t = eC (fQ F t) ∧ (uo (fP F) a (some b) t ≠ none → (if t = a then nI l else g 4 i t) = nI (uo (fL F) a l t) ∧ (if t = a then nI c else g 5 i t) = nI (uo (fC F) a c t)) ∧ g 6 i t = fV F t
  by_cases e : t = a
  · subst e
    simp only [if_true, uo_eq, eC_some]
    exact ⟨trivial, h2, fun _ => ⟨trivial, trivial⟩, h4⟩
  · simp only [if_neg e, uo_ne e]
    exact ⟨h1, h2, h3, h4⟩
theorem C_linkUnder (d : Nat) (h : rC g i F) (hw : f_wf F) {a b : Nat} (ha : a < fN F) (hb : b < fN F) (l c : Nat) : ∃ g', am_call (d + 4) 8 [.inr (.inr (1, i)), .inl (nI a), .inl (nI b), .inl (nI l), .inl (nI c)] g = some (none, g') ∧ rC g' i (f_link F a b l c) ∧ m_fr (sF i) g g' := by
  obtain ⟨g1, h1, h2, h3⟩ := C_walkFrom d h hw ha hb
  rw [cF_linkUnder, eF_linkUnder_0, h1, bv_some, q_c24 hw.1 ha, cond_true, cond_true, cond_true, nI_clamp (q24 hw.1 ha)]
  exact ⟨_, rfl, h2.hang, ((h3.sto (sF_in (by omega))).sto (sF_in (by omega))).sto (sF_in (by omega))⟩
theorem rC.free (h : rC g i F) {a b : Nat} {x y : Int32} : rC (am_sto (am_sto (am_sto (am_sto g 2 i b (-1)) 4 i b x) 5 i b y) 3 i a (-1)) i (f_free F a b) := by
  refine ⟨h.1, h.2.1, fun t ht => ?_⟩
  obtain ⟨h1, h2, h3, h4⟩ := h.2.2 t ht
  have e2 : am_sto (am_sto (am_sto (am_sto g 2 i b (-1)) 4 i b x) 5 i b y) 3 i a (-1) 2 i t = if t = b then -1 else g 2 i t := by
    rw [m_sto_ne (by simp), m_sto_ne (by simp), m_sto_ne (by simp), m_sto]
  have e3 : am_sto (am_sto (am_sto (am_sto g 2 i b (-1)) 4 i b x) 5 i b y) 3 i a (-1) 3 i t = if t = a then -1 else g 3 i t := by
    rw [m_sto, m_sto_ne (by simp), m_sto_ne (by simp), m_sto_ne (by simp)]
  have e4 : am_sto (am_sto (am_sto (am_sto g 2 i b (-1)) 4 i b x) 5 i b y) 3 i a (-1) 4 i t = if t = b then x else g 4 i t := by
    rw [m_sto_ne (by simp), m_sto_ne (by simp), m_sto, m_sto_ne (by simp)]
  have e5 : am_sto (am_sto (am_sto (am_sto g 2 i b (-1)) 4 i b x) 5 i b y) 3 i a (-1) 5 i t = if t = b then y else g 5 i t := by
    rw [m_sto_ne (by simp), m_sto, m_sto_ne (by simp), m_sto_ne (by simp)]
  have e6 : am_sto (am_sto (am_sto (am_sto g 2 i b (-1)) 4 i b x) 5 i b y) 3 i a (-1) 6 i t = g 6 i t := by
    rw [m_sto_ne (by simp), m_sto_ne (by simp), m_sto_ne (by simp), m_sto_ne (by simp)]
  rw [e2, e3, e4, e5, e6]
  show (if t = b then -1 else g 2 i t) = eC (uo (fP F) b none t) ∧ (if t = a then -1 else g 3 i t) = eC (uo (fQ F) a none t) ∧ (uo (fP F) b none t ≠ none → (if t = b then x else g 4 i t) = nI (fL F t) ∧ (if t = b then y else g 5 i t) = nI (fC F t)) ∧ g 6 i t = fV F t
  refine ⟨?_, ?_, fun hq => ?_, h4⟩
  · by_cases e : t = b
    · subst e; rw [if_pos rfl, uo_eq]; rfl
    · rw [if_neg e, uo_ne e]; exact h1
  · by_cases e : t = a
    · subst e; rw [if_pos rfl, uo_eq]; rfl
    · rw [if_neg e, uo_ne e]; exact h2
  · by_cases e : t = b
    · subst e; rw [uo_eq] at hq; exact absurd rfl hq
    · rw [uo_ne e] at hq; rw [if_neg e, if_neg e]; exact h3 hq
theorem C_cutBetween (d : Nat) (h : rC g i F) (hw : f_wf F) {a b : Nat} (ha : a < fN F) (hb : b < fN F) : ∃ g', am_call (d + 4) 9 [.inr (.inr (1, i)), .inl (nI a), .inl (nI b)] g = some (none, g') ∧ rC g' i (f_cut F a b) ∧ m_fr (sF i) g g' := by
  obtain ⟨g1, h1, h2, h3⟩ := C_walkFrom d h hw ha hb
  rw [cF_cutBetween, eF_cutBetween_0, h1, bv_some, q_c24 hw.1 ha, q_c24 hw.1 hb, cond_true, cond_true, cond_true, cond_true, nI_clamp (q24 hw.1 ha), nI_clamp (q24 hw.1 hb)]
  exact ⟨_, rfl, h2.free, (((h3.sto (sF_in (by omega))).sto (sF_in (by omega))).sto (sF_in (by omega))).sto (sF_in (by omega))⟩
theorem C_meet_loop (ct : am_T) (h : rC g i F) (hw : f_wf F) (x1 x2 x3 x4 : Int32) : ∀ (k x y step : Nat), x < fN F → y < fN F → f_d (fP F) x = f_d (fP F) y → step + f_d (fP F) x + 1 ≤ 24 → f_d (fP F) x + 2 ≤ k →
    am_run ct 16 k 24 [some (.inr (.inr (1, i))), some (.inl x1), some (.inl x2), some (.inl x3), some (.inl x4), some (.inl (nI x)), some (.inl (nI y)), some (.inl (nI step))] [] g = some (some (.inl (eC (f_m (fP F) x y))), g)
  | 0, x, y, step, hx, hy, he, h1, h2 => by omega
  | k + 1, x, y, step, hx, hy, he, h1, h2 => by
    have hx31 := q24 hw.1 hx
    have hy31 := q24 hw.1 hy
    rw [eF_meetingOf_24, if_neg (q_s24 (by omega))]
    by_cases e : x = y
    · subst e
      rw [if_pos rfl, f_m_self]
      rfl
    · have hxy : x ∉ f_a (fP F) y := by
        intro hin
        obtain ⟨pre, e2⟩ := f_a_suf hw.2.1 hw.1 y hy x hin
        have e3 := congrArg List.length e2
        rw [List.length_append] at e3
        have l1 := f_a_pos (fP F) x
        have l2 := f_a_pos (fP F) y
        unfold f_d at he
        have : pre = [] := List.length_eq_zero_iff.mp (by omega)
        subst this
        obtain ⟨r1, q1⟩ := f_a_hd (fP F) x
        obtain ⟨r2, q2⟩ := f_a_hd (fP F) y
        rw [q1, q2, List.nil_append] at e2
        exact e (List.cons.inj e2).1.symm
      rw [if_neg (by rw [nI_eq hx31 hy31]; exact e), if_neg (q_ne1 hx31), if_neg (q_ne1 hy31), q_c24 hw.1 hx, q_c24 hw.1 hy, cond_true, cond_true, nI_clamp hx31, nI_clamp hy31, h.p hx, h.p hy, nI_1]
      cases hp : fP F x with
      | none =>
        cases hq : fP F y with
        | some q => rw [f_d_none hw.2.1 hw.1 hx hp, f_d_some hw.2.1 hw.1 hy hq] at he; omega
        | none =>
          obtain ⟨k, rfl⟩ : ∃ k', k = k' + 1 := ⟨k - 1, by omega⟩
          have em : f_m (fP F) x y = none := by
            unfold f_m
            rw [hw.an hx hp, List.find?_cons]
            simp [hxy]
          rw [em, eC_none, eF_meetingOf_24]
          by_cases h5 : (24 : Int32) ≤ nI (step + 1)
          · rw [if_pos h5]
          · rw [if_neg h5, if_pos rfl]
      | some p =>
        cases hq : fP F y with
        | none => rw [f_d_some hw.2.1 hw.1 hx hp, f_d_none hw.2.1 hw.1 hy hq] at he; omega
        | some q =>
          have hpn := hw.p hx hp
          have hqn := hw.p hy hq
          rw [f_d_some hw.2.1 hw.1 hx hp] at he h1 h2
          rw [f_d_some hw.2.1 hw.1 hy hq] at he
          have hyp : y ∉ f_a (fP F) p := fun hin => by
            have := f_d_le hw.2.1 hw.1 hpn hin
            rw [f_d_some hw.2.1 hw.1 hy hq] at this
            omega
          rw [f_m_skip hw.2.1 hw.1 hx hp hxy, f_m_skip2 hw.2.1 hw.1 hy hq hyp]
          exact C_meet_loop ct h hw x1 x2 x3 x4 k p q (step + 1) hpn hqn (by omega) (by omega) (by omega)
theorem f_d_lt (hw : f_wf F) {t : Nat} (ht : t < fN F) : f_d (fP F) t < 24 := by
  have h1 := hw.al ht
  have h2 := f_a_pos (fP F) t
  unfold f_d
  omega
theorem C_meetingOf (d : Nat) (h : rC g i F) (hw : f_wf F) {a b : Nat} (ha : a < fN F) (hb : b < fN F) : am_call (d + 2) 16 [.inr (.inr (1, i)), .inl (nI a), .inl (nI b)] g = some (some (.inl (eC (f_m (fP F) a b))), g) := by
  have hda := f_d_lt hw ha
  have hdb := f_d_lt hw hb
  rw [cF_meetingOf, eF_meetingOf_0, C_depthOf d h hw ha, bi_some, C_depthOf d h hw hb, bi_some]
  rcases Nat.le_total (f_d (fP F) b) (f_d (fP F) a) with hle | hle
  · rw [pk_sub hle, C_climb d h hw ha (by omega), bi_some, C_climb_neg d h hw hb (q_sub_le hle (by omega)), bi_some]
    obtain ⟨h1, h2, h3⟩ := f_m_cl hw.2.1 hw.1 hb (f_d (fP F) a - f_d (fP F) b) a ha (by omega)
    rw [h1]
    exact C_meet_loop _ h hw _ _ _ _ 99999 _ b 0 h2 hb h3 (by omega) (by omega)
  · rw [C_climb_neg d h hw ha (q_sub_le hle (by omega)), bi_some, pk_sub hle, C_climb d h hw hb (by omega), bi_some]
    obtain ⟨h1, h2, h3⟩ := f_m_cl2 hw.2.1 hw.1 ha (f_d (fP F) b - f_d (fP F) a) b hb (by omega)
    rw [h1]
    exact C_meet_loop _ h hw _ _ _ _ 99999 a _ 0 ha h2 h3.symm (by omega) (by omega)
end RC
end
section
/-! ===== Forest: counts ===== -/
theorem for_mem {β R : Type} (run : Nat → β → am_G → Option am_V → Nat → R) (n : Nat) (step : β → Nat → β) (fin : β → am_G → R) (I : β → am_G → Nat → Prop)
    (hs : ∀ k b g o t, t < n → I b g t → ∃ g' o', run (k + 1) b g o t = run k (step b t) g' o' (t + 1) ∧ I (step b t) g' (t + 1)) (hx : ∀ k b g o, I b g n → run (k + 1) b g o n = fin b g) :
    ∀ (m t : Nat) (b : β) (g : am_G) (o : Option am_V) (k : Nat), t + m = n → m < k → I b g t → ∃ g', run k b g o t = fin (fo step b t m) g' ∧ I (fo step b t m) g' n
  | 0, t, b, g, o, k, h, hk, hi => by
    obtain ⟨k, rfl⟩ : ∃ k', k = k' + 1 := ⟨k - 1, by omega⟩
    have e : t = n := by omega
    subst e
    exact ⟨g, hx k b g o hi, hi⟩
  | m + 1, t, b, g, o, k, h, hk, hi => by
    obtain ⟨k, rfl⟩ : ∃ k', k = k' + 1 := ⟨k - 1, by omega⟩
    obtain ⟨g', o', h1, h2⟩ := hs k b g o t (by omega) hi
    rw [h1, fo]
    exact for_mem run n step fin I hs hx m (t + 1) (step b t) g' o' k (by omega) (by omega) h2
/-- as for_mem, with an invariant, the memory stays -/
theorem for_inv {β R : Type} (run : Nat → β → Option am_V → Nat → R) (n : Nat) (step : β → Nat → β) (fin : β → R) (I : β → Nat → Prop)
    (hs : ∀ k b o t, t < n → I b t → (∃ o', run (k + 1) b o t = run k (step b t) o' (t + 1)) ∧ I (step b t) (t + 1)) (hx : ∀ k b o, I b n → run (k + 1) b o n = fin b) {m t : Nat} {b : β} {o : Option am_V} {k : Nat} (h : t + m = n) (hk : m < k) (hi : I b t) : run k b o t = fin (fo step b t m) ∧ I (fo step b t m) n := by
  obtain ⟨-, h1, h2⟩ := for_mem (fun k b _ o t => run k b o t) n step (fun b _ => fin b) (fun b _ t => I b t) (fun k b g o t ht hi => by
    obtain ⟨⟨o', h1⟩, h2⟩ := hs k b o t ht hi
    exact ⟨g, o', h1, h2⟩) (fun k b g o hi => hx k b o hi) m t b (fun _ _ _ => 0) o k h hk hi
  exact ⟨h1, h2⟩
theorem fo_le {f : Nat → Nat → Nat} (hf : ∀ b t, f b t ≤ b + 1) : ∀ (m b t : Nat), fo f b t m ≤ b + m
  | 0, _, _ => Nat.le_refl _
  | m + 1, b, t => by
    have h1 := fo_le hf m (f b t) (t + 1)
    have h2 := hf b t
    rw [fo]
    omega
theorem fo_ge {f : Nat → Nat → Nat} (hf : ∀ b t, b ≤ f b t) : ∀ (m b t : Nat), b ≤ fo f b t m
  | 0, _, _ => Nat.le_refl _
  | m + 1, b, t => by
    have h1 := fo_ge hf m (f b t) (t + 1)
    have h2 := hf b t
    rw [fo]
    omega
/-- how many of the towns hold p -/
def ct (p : Nat → Bool) (n : Nat) : Nat := fo (fun b t => if p t then b + 1 else b) 0 0 n
theorem ct_le (p : Nat → Bool) (n : Nat) : ct p n ≤ n := by
  have := fo_le (f := fun b t => if p t then b + 1 else b) (fun b t => by split <;> omega) n 0 0
  unfold ct
  omega
theorem ct_cg {p q : Nat → Bool} {n : Nat} (h : ∀ j, j < n → p j = q j) : ct p n = ct q n := fo_cg fun b j _ hj => by rw [h j (by omega)]
def f_sz (F : fF) (x : Nat) : Nat := ct (fun t => decide (x ∈ f_a (fP F) t)) (fN F)
theorem f_sz_le (F : fF) (x : Nat) : f_sz F x ≤ fN F := ct_le _ _
def f_un (F : fF) (x : Nat) : Int32 := fo (fun b t => if x ∈ f_a (fP F) t then b + fV F t else b) 0 0 (fN F)
def f_ch (F : fF) (x : Nat) : Nat := ct (fun t => decide (fP F t = some x)) (fN F)
def f_hv (F : fF) (x : Nat) : Option Nat := ff (fun t => decide (fP F t = some x ∧ f_sz F x < 2 * f_sz F t)) 0 (fN F)
def f_po (F : fF) : Nat := ct (fun t => decide (f_hv F t ≠ none ∧ fQ F t ≠ f_hv F t)) (fN F)
def f_pa (F : fF) (k : Nat) : Nat := ct (fun t => decide (fP F t = none ∨ k < fL F t)) (fN F)
def f_hds (F : fF) : Nat := ct (fun t => decide (fQ F t = none)) (fN F)
section RC
variable {g : am_G} {i : Nat} {F : fF}
theorem rC.cg {g' : am_G} (h : rC g i F) (he : ∀ c, (2 ≤ c ∧ c ≤ 6 ∨ c = 102 ∨ c = 103) → g' c i = g c i) : rC g' i F := by
  refine ⟨by rw [he 102 (by omega)]; exact h.1, by rw [he 103 (by omega)]; exact h.2.1, fun t ht => ?_⟩
  rw [he 2 (by omega), he 3 (by omega), he 4 (by omega), he 5 (by omega), he 6 (by omega)]
  exact h.2.2 t ht
theorem C_trees (d : Nat) (h : rC g i F) (hw : f_wf F) : am_call (d + 1) 20 [.inr (.inr (1, i))] g = some (some (.inl (nI (ct (fun t => decide (fP F t = none)) (fN F)))), g) := by
  have hn := hw.1
  rw [cF_trees, eF_trees_0]
  exact (for_loop (fun k b t => am_run (am_call d) 20 k 4 [some (.inr (.inr (1, i))), some (.inl (nI b)), some (.inl (nI t))] [] g) (fN F) (fun b t => if decide (fP F t = none) then b + 1 else b) (fun b => some (some (.inl (nI b)), g)) (fun k b t ht => by
    rw [eF_trees_4, h.1, if_neg (nI_ge ht (by omega)), q_c24 hn ht, cond_true, nI_clamp (q24 hn ht), h.p ht, nI_1, nI_1]
    by_cases hp : fP F t = none
    · rw [if_pos ((eC_m1 (hw.p31 ht)).mpr hp), if_pos (decide_eq_true hp)]
    · rw [if_neg (fun q => hp ((eC_m1 (hw.p31 ht)).mp q)), if_neg (by simpa using hp)]) (fun k b => by
    rw [eF_trees_4, h.1, if_pos (nI_le (Nat.le_refl _) (by omega))]) (fN F) 0 0 99999 (by omega) (by omega))
theorem q_dec {a : Nat} (h : 0 < a) : nI a + (-1) = nI (a - 1) := by
  obtain ⟨b, rfl⟩ : ∃ b, a = b + 1 := ⟨a - 1, by omega⟩
  exact pk_m1 b
theorem C_chains (d : Nat) (h : rC g i F) (hw : f_wf F) : am_call (d + 1) 21 [.inr (.inr (1, i))] g = some (some (.inl (nI (f_hds F))), g) := by
  have hn := hw.1
  rw [cF_chains, eF_chains_0, h.1]
  have key := for_loop (fun k b t => am_run (am_call d) 21 k 5 [some (.inr (.inr (1, i))), some (.inl (nI (b + (fN F - t)))), some (.inl (nI t))] [] g) (fN F) (fun b t => if decide (fQ F t = none) then b + 1 else b) (fun b => some (some (.inl (nI b)), g)) (fun k b t ht => by
    rw [eF_chains_5, h.1, if_neg (nI_ge ht (by omega)), q_c24 hn ht, cond_true, nI_clamp (q24 hn ht), h.q ht, nI_1]
    by_cases hp : fQ F t = none
    · rw [if_pos ((eC_m1 (hw.q31 ht)).mpr hp), if_pos (decide_eq_true hp), show b + 1 + (fN F - (t + 1)) = b + (fN F - t) by omega]
    · rw [if_neg (fun q => hp ((eC_m1 (hw.q31 ht)).mp q)), if_neg (by simpa using hp), q_dec (by omega), show b + (fN F - t) - 1 = b + (fN F - (t + 1)) by omega]) (fun k b => by
    rw [eF_chains_5, h.1, if_pos (nI_le (Nat.le_refl _) (by omega)), Nat.sub_self, Nat.add_zero]) (fN F) 0 0 99999 (by omega) (by omega)
  rw [show 0 + (fN F - 0) = fN F by omega] at key
  exact key
theorem C_partsBy (d : Nat) (h : rC g i F) (hw : f_wf F) {K : Nat} (hK : K < 2 ^ 31) : am_call (d + 1) 33 [.inr (.inr (1, i)), .inl (nI K)] g = some (some (.inl (nI (f_pa F K))), g) := by
  have hn := hw.1
  rw [cF_partsBy, eF_partsBy_0, h.1]
  have key := for_loop (fun k b t => am_run (am_call d) 33 k 5 [some (.inr (.inr (1, i))), some (.inl (nI K)), some (.inl (nI (b + (fN F - t)))), some (.inl (nI t))] [] g) (fN F) (fun b t => if decide (fP F t = none ∨ K < fL F t) then b + 1 else b) (fun b => some (some (.inl (nI b)), g)) (fun k b t ht => by
    rw [eF_partsBy_5, h.1, if_neg (nI_ge ht (by omega)), q_c24 hn ht, cond_true, cond_true, nI_clamp (q24 hn ht), h.p ht, nI_1]
    by_cases hp : fP F t = none
    · rw [if_pos ((eC_m1 (hw.p31 ht)).mpr hp), if_pos (decide_eq_true (Or.inl hp)), show b + 1 + (fN F - (t + 1)) = b + (fN F - t) by omega]
    · have hl := hw.2.2.2 t ht hp
      rw [if_neg (fun q => hp ((eC_m1 (hw.p31 ht)).mp q)), h.l ht hp]
      by_cases hk : K < fL F t
      · rw [if_pos (nI_lt hk (by omega)), if_pos (decide_eq_true (Or.inr hk)), show b + 1 + (fN F - (t + 1)) = b + (fN F - t) by omega]
      · rw [if_neg (nI_nlt (by omega) hK), if_neg (by simp [hp, hk]), q_dec (by omega), show b + (fN F - t) - 1 = b + (fN F - (t + 1)) by omega]) (fun k b => by
    rw [eF_partsBy_5, h.1, if_pos (nI_le (Nat.le_refl _) (by omega)), Nat.sub_self, Nat.add_zero]) (fN F) 0 0 99999 (by omega) (by omega)
  rw [show 0 + (fN F - 0) = fN F by omega] at key
  exact key
theorem C_childrenOf (d : Nat) (h : rC g i F) (hw : f_wf F) {x : Nat} (hx : x < fN F) : am_call (d + 1) 25 [.inr (.inr (1, i)), .inl (nI x)] g = some (some (.inl (nI (f_ch F x))), g) := by
  have hn := hw.1
  rw [cF_childrenOf, eF_childrenOf_0]
  exact for_loop (fun k b t => am_run (am_call d) 25 k 4 [some (.inr (.inr (1, i))), some (.inl (nI x)), some (.inl (nI b)), some (.inl (nI t))] [] g) (fN F) (fun b t => if decide (fP F t = some x) then b + 1 else b) (fun b => some (some (.inl (nI b)), g)) (fun k b t ht => by
    rw [eF_childrenOf_4, h.1, if_neg (nI_ge ht (by omega)), q_c24 hn ht, cond_true, nI_clamp (q24 hn ht), h.p ht, nI_1, nI_1]
    by_cases hp : fP F t = some x
    · rw [if_pos ((eC_inj (hw.p31 ht) (q24 hn hx)).mpr hp), if_pos (decide_eq_true hp)]
    · rw [if_neg (fun q => hp ((eC_inj (hw.p31 ht) (q24 hn hx)).mp q)), if_neg (by simpa using hp)]) (fun k b => by
    rw [eF_childrenOf_4, h.1, if_pos (nI_le (Nat.le_refl _) (by omega))]) (fN F) 0 0 99999 (by omega) (by omega)
theorem C_valuesUnder (d : Nat) (h : rC g i F) (hw : f_wf F) {x : Nat} (hx : x < fN F) : am_call (d + 2) 24 [.inr (.inr (1, i)), .inl (nI x)] g = some (some (.inl (f_un F x)), g) := by
  have hn := hw.1
  rw [cF_valuesUnder, eF_valuesUnder_0]
  exact for_loop (fun k b t => am_run (am_call (d + 1)) 24 k 4 [some (.inr (.inr (1, i))), some (.inl (nI x)), some (.inl b), some (.inl (nI t))] [] g) (fN F) (fun b t => if x ∈ f_a (fP F) t then b + fV F t else b) (fun b => some (some (.inl b), g)) (fun k b t ht => by
    rw [eF_valuesUnder_4, h.1, if_neg (nI_ge ht (by omega)), C_isOver d h hw ht (q24 hn hx), bi_some, q_c24 hn ht, cond_true, nI_clamp (q24 hn ht), h.v ht, nI_1]
    by_cases hp : x ∈ f_a (fP F) t
    · rw [if_pos hp, if_pos hp, if_neg (by decide)]
    · rw [if_neg hp, if_neg hp, if_pos rfl]) (fun k b => by
    rw [eF_valuesUnder_4, h.1, if_pos (nI_le (Nat.le_refl _) (by omega))]) (fN F) 0 0 99999 (by omega) (by omega)
theorem C_switches_loop (ct : am_T) (h : rC g i F) (hw : f_wf F) (x1 : Int32) : ∀ (k x step c : Nat), x < fN F → step + (f_a (fP F) x).length ≤ 24 → (f_a (fP F) x).length ≤ k →
    am_run ct 29 k 11 [some (.inr (.inr (1, i))), some (.inl x1), some (.inl (nI c)), some (.inl (nI x)), some (.inl (eC (fP F x))), some (.inl (nI step))] [] g = some (some (.inl (nI (c + p_cnt (fQ F) (f_a (fP F) x)))), g)
  | 0, x, step, c, hx, h1, h2 => by have := f_a_pos (fP F) x; omega
  | k + 1, x, step, c, hx, h1, h2 => by
    have hl := f_a_pos (fP F) x
    rw [eF_switchesTo_11, if_neg (q_s24 (by omega))]
    cases hp : fP F x with
    | none => rw [hw.an hx hp, eC_none, if_pos rfl]; rfl
    | some y =>
      have hy := hw.p hx hp
      rw [hw.as hx hp] at h1 h2 ⊢
      rw [List.length_cons] at h1 h2
      rw [eC_some, if_neg (q_ne1 (q24 hw.1 hy)), q_c24 hw.1 hy, cond_true, cond_true, nI_clamp (q24 hw.1 hy), h.q hy, h.p hy, p_cnt_as, nI_1, nI_1]
      by_cases e : fQ F y = some x
      · rw [if_pos ((eC_inj (hw.q31 hy) (q24 hw.1 hx)).mpr e), if_pos e, Nat.zero_add]
        exact C_switches_loop ct h hw x1 k y (step + 1) c hy (by omega) (by omega)
      · rw [if_neg (fun q => e ((eC_inj (hw.q31 hy) (q24 hw.1 hx)).mp q)), if_neg e, cond_true, ← Nat.add_assoc]
        exact C_switches_loop ct h hw x1 k y (step + 1) (c + 1) hy (by omega) (by omega)
theorem C_switchesTo (d : Nat) (h : rC g i F) (hw : f_wf F) {t : Nat} (ht : t < fN F) : am_call (d + 1) 29 [.inr (.inr (1, i)), .inl (nI t)] g = some (some (.inl (nI (p_cnt (fQ F) (f_a (fP F) t)))), g) := by
  have hl := hw.al ht
  rw [cF_switchesTo, eF_switchesTo_0, q_c24 hw.1 ht, cond_true, nI_clamp (q24 hw.1 ht), h.p ht]
  have := C_switches_loop (am_call d) h hw (nI t) 99999 t 0 0 ht (by omega) (by omega)
  rw [Nat.zero_add] at this
  exact this
/-- the weights: what size[] holds behind weigh() -/
def rW (g : am_G) (i : Nat) (n : Nat) (s : Nat → Nat) : Prop := ∀ x, x < n → g 7 i x = nI (s x)
def s7 (i : Nat) : Nat → Nat → Prop := fun c j => c = 7 ∧ j = i
theorem rC.s7 {g' : am_G} (h : rC g i F) (hf : m_fr (s7 i) g g') : rC g' i F := h.cg fun c hc => hf c i (fun q => by have := q.1; omega)
theorem C_weigh_in (ct : am_T) (hw : f_wf F) (x1 : Int32) : ∀ (L : List Nat) (k step : Nat) (g : am_G) (s : Nat → Nat) (x2 : Option Nat), rC g i F → x2 = L.head? → p_ch (fP F) L → L.Nodup → (∀ x ∈ L, x < fN F) → rW g i (fN F) s → step + L.length ≤ 24 →
    ∃ g' o2 o3, am_run ct 22 (k + 1 + L.length) 23 [some (.inr (.inr (1, i))), some (.inl x1), some (.inl (eC x2)), some (.inl (nI step))] [] g = am_run ct 22 k 15 [some (.inr (.inr (1, i))), some (.inl (x1 + 1)), o2, o3] [] g' ∧ m_fr (s7 i) g g' ∧ rW g' i (fN F) (fun x => s x + if x ∈ L then 1 else 0)
  | [], k, step, g, s, x2, h, e, hc, hd, hr, hs, h1 => by
    subst e
    refine ⟨g, some (.inl (-1)), some (.inl (nI step)), ?_, m_fr.rf, fun x hx => by rw [hs x hx]; simp⟩
    rw [List.length_nil, Nat.add_zero, eF_weigh_23, List.head?_nil, eC_none]
    split
    · rfl
    · rw [if_pos rfl]
  | y :: L, k, step, g, s, x2, h, e, hc, hd, hr, hs, h1 => by
    have hy := hr y List.mem_cons_self
    have hy31 := q24 hw.1 hy
    rw [List.length_cons] at h1
    obtain ⟨hd1, hd2⟩ := List.nodup_cons.mp hd
    subst e
    have e1 : k + 1 + (y :: L).length = (k + 1 + L.length) + 1 := by rw [List.length_cons]; omega
    have e0 : (y :: L).head? = some y := rfl
    have ep : am_sto g 7 i y (nI (s y) + 1) 2 i y = eC L.head? := by rw [m_sto_ne (by simp), h.p hy, hc.1]
    rw [e1, eF_weigh_23, if_neg (q_s24 (by omega)), e0, eC_some, if_neg (q_ne1 hy31), q_c24 hw.1 hy, cond_true, cond_true, cond_true, nI_clamp hy31, hs y hy, ep, nI_1, nI_1]
    have hf : m_fr (s7 i) g (am_sto g 7 i y (nI (s y + 1))) := m_fr.rf.sto ⟨rfl, rfl⟩
    obtain ⟨g', o2, o3, h5, h6, h7⟩ := C_weigh_in ct hw x1 L k (step + 1) (am_sto g 7 i y (nI (s y + 1))) (uo s y (s y + 1)) _ (h.s7 hf) rfl hc.2 hd2 (fun x hx => hr x (List.mem_cons_of_mem _ hx)) (fun x hx => by
      rw [m_sto]
      unfold uo
      split
      · rfl
      · exact hs x hx) (by omega)
    refine ⟨g', o2, o3, h5, hf.tr h6, fun x hx => ?_⟩
    rw [h7 x hx]
    dsimp only
    by_cases ex : x = y
    · subst ex
      rw [uo_eq, if_neg hd1, if_pos List.mem_cons_self]
    · rw [uo_ne ex]
      simp [ex]
theorem C_weigh_out (ct0 : am_T) (hw : f_wf F) : ∀ (m t : Nat) (g : am_G) (o2 o3 : Option am_V) (s : Nat → Nat) (k : Nat), rC g i F → t + m = fN F → rW g i (fN F) s → 26 * m < k →
    ∃ g', am_run ct0 22 k 15 [some (.inr (.inr (1, i))), some (.inl (nI t)), o2, o3] [] g = some (none, g') ∧ m_fr (s7 i) g g' ∧ rW g' i (fN F) (fun x => fo (fun b t => if decide (x ∈ f_a (fP F) t) then b + 1 else b) (s x) t m)
  | 0, t, g, o2, o3, s, k, h, e, hs, hk => by
    obtain ⟨k, rfl⟩ : ∃ k', k = k' + 1 := ⟨k - 1, by omega⟩
    have e : t = fN F := by omega
    subst e
    refine ⟨g, ?_, m_fr.rf, hs⟩
    rw [eF_weigh_15, h.1, if_pos (nI_le (Nat.le_refl _) (by have := hw.1; omega))]
  | m + 1, t, g, o2, o3, s, k, h, e, hs, hk => by
    have ht : t < fN F := by omega
    have hl := hw.al ht
    obtain ⟨k, rfl⟩ : ∃ k', k = k' + 1 + (f_a (fP F) t).length + 1 := ⟨k - (f_a (fP F) t).length - 2, by omega⟩
    rw [eF_weigh_15, h.1, if_neg (nI_ge ht (by have := hw.1; omega))]
    obtain ⟨g1, p2, p3, h5, h6, h7⟩ := C_weigh_in ct0 hw (nI t) (f_a (fP F) t) k 0 g s (some t) h rfl (f_a_ch hw.2.1 hw.1 t ht) (f_a_nd hw.2.1 ht) (fun x hx => f_a_lt hw.2.1 ht hx) hs (by omega)
    have h5 : am_run ct0 22 (k + 1 + (f_a (fP F) t).length) 23 [some (.inr (.inr (1, i))), some (.inl (nI t)), some (.inl (nI t)), some (.inl 0)] [] g = am_run ct0 22 k 15 [some (.inr (.inr (1, i))), some (.inl (nI t + 1)), p2, p3] [] g1 := h5
    rw [h5, nI_1]
    obtain ⟨g2, h8, h9, h10⟩ := C_weigh_out ct0 hw m (t + 1) g1 p2 p3 _ k (h.s7 h6) (by omega) h7 (by omega)
    refine ⟨g2, h8, h6.tr h9, fun x hx => ?_⟩
    rw [h10 x hx]
    dsimp only
    rw [fo]
    by_cases hin : x ∈ f_a (fP F) t
    · simp [hin]
    · simp [hin]
theorem C_weigh0 (ct0 : am_T) (hw : f_wf F) : ∀ (m t : Nat) (g : am_G) (k : Nat), rC g i F → t + m = fN F → (∀ x, x < t → g 7 i x = 0) →
    ∃ g', am_run ct0 22 (k + 1 + m) 2 [some (.inr (.inr (1, i))), some (.inl (nI t)), none, none] [] g = am_run ct0 22 k 15 [some (.inr (.inr (1, i))), some (.inl 0), none, none] [] g' ∧ m_fr (s7 i) g g' ∧ rW g' i (fN F) (fun _ => 0)
  | 0, t, g, k, h, e, hs => by
    have e : t = fN F := by omega
    subst e
    refine ⟨g, ?_, m_fr.rf, fun x hx => hs x hx⟩
    rw [Nat.add_zero, eF_weigh_2, h.1, if_pos (nI_le (Nat.le_refl _) (by have := hw.1; omega))]
  | m + 1, t, g, k, h, e, hs => by
    have ht : t < fN F := by omega
    rw [show k + 1 + (m + 1) = (k + 1 + m) + 1 by omega, eF_weigh_2, h.1, if_neg (nI_ge ht (by have := hw.1; omega)), q_c24 hw.1 ht, cond_true, nI_clamp (q24 hw.1 ht), nI_1]
    have hf : m_fr (s7 i) g (am_sto g 7 i t 0) := m_fr.rf.sto ⟨rfl, rfl⟩
    obtain ⟨g', h5, h6, h7⟩ := C_weigh0 ct0 hw m (t + 1) (am_sto g 7 i t 0) k (h.s7 hf) (by omega) (fun x hx => by
      rw [m_sto]
      split
      · rfl
      · exact hs x (by omega))
    exact ⟨g', h5, hf.tr h6, h7⟩
theorem C_weigh (d : Nat) (h : rC g i F) (hw : f_wf F) : ∃ g', am_call (d + 1) 22 [.inr (.inr (1, i))] g = some (none, g') ∧ m_fr (s7 i) g g' ∧ rW g' i (fN F) (f_sz F) := by
  have hn := hw.1
  rw [cF_weigh, eF_weigh_0]
  obtain ⟨g1, h1, h2, h3⟩ := C_weigh0 (am_call d) hw (fN F) 0 g (99998 - fN F) h (by omega) (fun x hx => absurd hx (Nat.not_lt_zero x))
  have e : 99998 - fN F + 1 + fN F = 99999 := by omega
  rw [e] at h1
  obtain ⟨g2, h4, h5, h6⟩ := C_weigh_out (am_call d) hw (fN F) 0 g1 none none _ (99998 - fN F) (h.s7 h2) (by omega) h3 (by omega)
  have h4 : am_run (am_call d) 22 (99998 - fN F) 15 [some (.inr (.inr (1, i))), some (.inl 0), none, none] [] g1 = some (none, g2) := h4
  rw [← h1] at h4
  exact ⟨g2, h4, h2.tr h5, h6⟩
theorem C_sizeOf (d : Nat) (h : rC g i F) (hw : f_wf F) {t : Nat} (ht : t < fN F) : ∃ g', am_call (d + 2) 23 [.inr (.inr (1, i)), .inl (nI t)] g = some (some (.inl (nI (f_sz F t))), g') ∧ m_fr (s7 i) g g' := by
  obtain ⟨g1, h1, h2, h3⟩ := C_weigh d h hw
  rw [cF_sizeOf, eF_sizeOf_0, h1, bv_some, q_c24 hw.1 ht, cond_true, nI_clamp (q24 hw.1 ht), h3 t ht]
  exact ⟨g1, rfl, h2⟩
end RC
end
section
/-! ===== Forest: of whole trees ===== -/
theorem fb_rng (x : Int32) : -2147483648 ≤ x.toInt ∧ x.toInt < 2147483648 := by
  have h1 := Int32.le_toInt x
  have h2 := Int32.toInt_lt x
  omega
theorem fb_bmod {z : Int} (h1 : -2147483648 ≤ z) (h2 : z < 2147483648) : z.bmod (2 ^ 32) = z := by
  rw [Int.bmod_eq_of_le (by omega) (by omega)]
theorem fb_addI {x y : Int32} (h1 : -2147483648 ≤ x.toInt + y.toInt) (h2 : x.toInt + y.toInt < 2147483648) : (x + y).toInt = x.toInt + y.toInt := by
  rw [Int32.toInt_add, fb_bmod h1 h2]
theorem fb_subI {x y : Int32} (h1 : -2147483648 ≤ x.toInt - y.toInt) (h2 : x.toInt - y.toInt < 2147483648) : (x - y).toInt = x.toInt - y.toInt := by
  rw [Int32.toInt_sub, fb_bmod h1 h2]
theorem fb_mulI {x y : Int32} (h1 : -2147483648 ≤ x.toInt * y.toInt) (h2 : x.toInt * y.toInt < 2147483648) : (x * y).toInt = x.toInt * y.toInt := by
  rw [Int32.toInt_mul, fb_bmod h1 h2]
theorem fb_negI {x : Int32} (h : x.toInt ≠ -2147483648) : (-x).toInt = -x.toInt := by
  have := fb_rng x
  rw [Int32.toInt_neg, fb_bmod (by omega) (by omega)]
theorem fb_ofI {z : Int} (h1 : -2147483648 ≤ z) (h2 : z < 2147483648) : (Int32.ofInt z).toInt = z := by
  rw [Int32.toInt_ofInt, fb_bmod h1 h2]
theorem fb_asI (x : Int32) : Int32.ofInt x.toInt = x := Int32.ofInt_toInt x
theorem q_negmul {a b : Nat} (ha : a ≤ 9999) (hb : b ≤ 9999) : ((-1 : Int32) * nI a ≤ (-1 : Int32) * nI b) ↔ b ≤ a := by
  have e : ∀ c : Nat, c ≤ 9999 → ((-1 : Int32) * nI c).toInt = -(c : Int) := fun c hc => by
    rw [fb_mulI (by rw [q_m1, nI_toInt (by omega)]; omega) (by rw [q_m1, nI_toInt (by omega)]; omega), q_m1, nI_toInt (by omega)]
    omega
  rw [q_le, e a ha, e b hb]
  omega
theorem q_onemul {a b : Nat} (ha : a ≤ 9999) (hb : b ≤ 9999) : ((1 : Int32) * nI a ≤ (1 : Int32) * nI b) ↔ a ≤ b := by
  rw [q_n1, pk_mul, pk_mul, Nat.one_mul, Nat.one_mul, nI_leI (by omega) (by omega)]
theorem ct_mono {p q : Nat → Bool} {n : Nat} (h : ∀ j, j < n → p j = true → q j = true) : ct p n ≤ ct q n := by
  have key : ∀ (m t a b : Nat), a ≤ b → t + m = n → fo (fun b t => if p t then b + 1 else b) a t m ≤ fo (fun b t => if q t then b + 1 else b) b t m := by
    intro m
    induction m with
    | zero => intro t a b hab _; exact hab
    | succ m ih =>
      intro t a b hab e
      rw [fo, fo]
      refine ih (t + 1) _ _ ?_ (by omega)
      by_cases hp : p t = true
      · rw [if_pos hp, if_pos (h t (by omega) hp)]; omega
      · rw [if_neg hp]
        split <;> omega
  exact key n 0 0 0 (Nat.le_refl _) (by omega)
theorem f_sz_root {F : fF} (hw : f_wf F) {t : Nat} (ht : t < fN F) : f_sz F t ≤ f_sz F (f_r (fP F) t) := ct_mono fun j hj h => by
  have h := of_decide_eq_true h
  exact decide_eq_true (f_a_tr hw.2.1 hw.1 hj h (f_r_lt hw.2.1 hw.1 t ht).2.2)
theorem f_hv_some {F : fF} {t c : Nat} (h : f_hv F t = some c) : c < fN F ∧ fP F c = some t := by
  obtain ⟨-, h2, h3⟩ := ff_lt h
  exact ⟨by omega, (of_decide_eq_true h3).1⟩
/-- the tree of a town is settled: how many prefer otherwise, and how -/
def f_sstep (F : fF) (x : Nat) : Nat × (Nat → Option Nat) → Nat → Nat × (Nat → Option Nat) := fun b t => if f_r (fP F) t = f_r (fP F) x then (if b.2 t = f_hv F t then b else (b.1 + 1, uo b.2 t (f_hv F t))) else b
def f_settle (F : fF) (x : Nat) : Nat × (Nat → Option Nat) := fo (f_sstep F x) (0, fQ F) 0 (fN F)
def f_wQ (F : fF) (q : Nat → Option Nat) : fF := (fN F, fP F, q, fL F, fC F, fV F, fS F)
/-- the lower end of the best link of a tree -/
def f_lx (F : fF) (bt : Nat → Nat → Bool) (x : Nat) : Option Nat := fo (fun best t => if fP F t ≠ none ∧ f_r (fP F) t = f_r (fP F) x ∧ (∀ b, best = some b → bt t b = true) then some t else best) none 0 (fN F)
def f_gw (F : fF) (t : Nat) : Nat := fo (fun m c => if fP F c = some t then max m (f_sz F c) else m) (f_sz F (f_r (fP F) t) - f_sz F t) 0 (fN F)
def f_mi (F : fF) (x : Nat) : Option Nat := fo (fun best t => if f_r (fP F) t = f_r (fP F) x ∧ (∀ b, best = some b → f_gw F t < f_gw F b) then some t else best) none 0 (fN F)
def f_lf (F : fF) (k : Nat) : Option Nat := if f_pa F 0 ≤ k then some 0 else fo (fun least t => if fP F t ≠ none ∧ (∀ l, least = some l → fL F t < l) ∧ f_pa F (fL F t) ≤ k then some (fL F t) else least) none 0 (fN F)
section RC
variable {g : am_G} {i : Nat} {F : fF}
theorem C_heavyOfWeighed (d : Nat) (h : rC g i F) (hw : f_wf F) (hs : rW g i (fN F) (f_sz F)) {x : Nat} (hx : x < fN F) : am_call (d + 1) 27 [.inr (.inr (1, i)), .inl (nI x)] g = some (some (.inl (eC (f_hv F x))), g) := by
  have hn := hw.1
  rw [cF_heavyOfWeighed, eF_heavyOfWeighed_0]
  have key := for_find (fun k t => am_run (am_call d) 27 k 2 [some (.inr (.inr (1, i))), some (.inl (nI x)), some (.inl (nI t))] [] g) (fN F) (fun t => decide (fP F t = some x ∧ f_sz F x < 2 * f_sz F t)) (fun t => some (some (.inl (nI t)), g)) (some (some (.inl (-1)), g)) (fun k t ht => by
    have z1 := f_sz_le F t
    have z2 := f_sz_le F x
    rw [eF_heavyOfWeighed_2, h.1, if_neg (nI_ge ht (by omega)), q_c24 hn ht, cond_true, cond_true, q_c24 hn hx, cond_true, nI_clamp (q24 hn ht), nI_clamp (q24 hn hx), h.p ht, hs t ht, hs x hx, nI_1, q_n2, pk_mul]
    by_cases hp : fP F t = some x
    · rw [if_pos ((eC_inj (hw.p31 ht) (q24 hn hx)).mpr hp)]
      by_cases h2 : 2 * f_sz F t ≤ f_sz F x
      · rw [if_pos (nI_le h2 (by omega)), if_neg (by simp [hp]; omega)]
      · rw [if_neg (nI_ge (by omega) (by omega)), if_pos (decide_eq_true ⟨hp, by omega⟩)]
    · rw [if_neg (fun q => hp ((eC_inj (hw.p31 ht) (q24 hn hx)).mp q)), if_neg (by simp [hp])]) (fun k => by
    rw [eF_heavyOfWeighed_2, h.1, if_pos (nI_le (Nat.le_refl _) (by omega))]) (fN F) 0 99999 (by omega) (by omega)
  refine key.trans ?_
  unfold f_hv
  cases ff (fun t => decide (fP F t = some x ∧ f_sz F x < 2 * f_sz F t)) 0 (fN F) <;> rfl
theorem C_heavyChildOf (d : Nat) (h : rC g i F) (hw : f_wf F) {x : Nat} (hx : x < fN F) : ∃ g', am_call (d + 2) 26 [.inr (.inr (1, i)), .inl (nI x)] g = some (some (.inl (eC (f_hv F x))), g') ∧ m_fr (s7 i) g g' := by
  obtain ⟨g1, h1, h2, h3⟩ := C_weigh d h hw
  rw [cF_heavyChildOf, eF_heavyChildOf_0, h1, bv_some, C_heavyOfWeighed d (h.s7 h2) hw h3 hx, bi_some]
  exact ⟨g1, rfl, h2⟩
theorem eC_eq {o o' : Option Nat} (h : ∀ p, o = some p → p < 2 ^ 31) (h' : ∀ p, o' = some p → p < 2 ^ 31) : eC o = eC o' ↔ o = o' := by
  cases o' with
  | none => exact eC_m1 h
  | some p => exact eC_inj h (h' p rfl)
theorem f_hv31 (hw : f_wf F) (t : Nat) : ∀ p, f_hv F t = some p → p < 2 ^ 31 := fun p hp => q24 hw.1 (f_hv_some hp).1
theorem C_heavyNotPreferred (d : Nat) (h : rC g i F) (hw : f_wf F) : ∃ g', am_call (d + 2) 28 [.inr (.inr (1, i))] g = some (some (.inl (nI (f_po F))), g') ∧ m_fr (s7 i) g g' := by
  have hn := hw.1
  obtain ⟨g1, h1, h2, h3⟩ := C_weigh d h hw
  have hr := h.s7 h2
  rw [cF_heavyNotPreferred, eF_heavyNotPreferred_0, h1, bv_some]
  refine ⟨g1, ?_, h2⟩
  exact (for_inv (fun k b o t => am_run (am_call (d + 1)) 28 k 6 [some (.inr (.inr (1, i))), some (.inl (nI b)), some (.inl (nI t)), o] [] g1) (fN F) (fun b t => if decide (f_hv F t ≠ none ∧ fQ F t ≠ f_hv F t) then b + 1 else b) (fun b => some (some (.inl (nI b)), g1)) (fun _ _ => True) (fun k b o t ht _ => by
    refine ⟨⟨some (.inl (eC (f_hv F t))), ?_⟩, trivial⟩
    rw [eF_heavyNotPreferred_6, hr.1, if_neg (nI_ge ht (by omega)), C_heavyOfWeighed d hr hw h3 ht, bi_some, q_c24 hn ht, cond_true, nI_clamp (q24 hn ht), hr.q ht, nI_1, nI_1]
    by_cases e1 : f_hv F t = none
    · rw [if_pos ((eC_m1 (f_hv31 hw t)).mpr e1), if_neg (by simp [e1])]
    · rw [if_neg (fun q => e1 ((eC_m1 (f_hv31 hw t)).mp q))]
      by_cases e2 : fQ F t = f_hv F t
      · rw [if_pos ((eC_eq (hw.q31 ht) (f_hv31 hw t)).mpr e2), if_neg (by simp [e2])]
      · rw [if_neg (fun q => e2 ((eC_eq (hw.q31 ht) (f_hv31 hw t)).mp q)), if_pos (decide_eq_true ⟨e1, e2⟩)]) (fun k b o _ => by
    rw [eF_heavyNotPreferred_6, hr.1, if_pos (nI_le (Nat.le_refl _) (by omega))]) (m := fN F) (t := 0) (b := 0) (o := none) (k := 99999) (by omega) (by omega) trivial).1
theorem wf_wQ {q : Nat → Option Nat} (hw : f_wf F) (hq : ∀ t c, t < fN F → q t = some c → c < fN F ∧ fP F c = some t) : f_wf (f_wQ F q) := ⟨hw.1, hw.2.1, hq, hw.2.2.2⟩
theorem C_settleTreeOf (d : Nat) (h : rC g i F) (hw : f_wf F) {x : Nat} (hx : x < fN F) : ∃ g', am_call (d + 2) 10 [.inr (.inr (1, i)), .inl (nI x)] g = some (some (.inl (nI (f_settle F x).1)), g') ∧ rC g' i (f_wQ F (f_settle F x).2) ∧ f_wf (f_wQ F (f_settle F x).2) ∧ m_fr (sF i) g g' := by
  have hn := hw.1
  have hrx := f_r_lt hw.2.1 hw.1 x hx
  obtain ⟨g1, h1, h2, h3⟩ := C_weigh d h hw
  have hr := h.s7 h2
  rw [cF_settleTreeOf, eF_settleTreeOf_0, C_rootOf (d) h hw hx, bi_some, h1, bv_some]
  obtain ⟨g', h4, h5, h6, h7, h8⟩ := for_mem (fun k (b : Nat × (Nat → Option Nat)) g o t => am_run (am_call (d + 1)) 10 k 10 [some (.inr (.inr (1, i))), some (.inl (nI x)), some (.inl (nI (f_r (fP F) x))), some (.inl (nI b.1)), some (.inl (nI t)), o] [] g) (fN F) (f_sstep F x) (fun b g => some (some (.inl (nI b.1)), g))
    (fun b g' _ => rC g' i (f_wQ F b.2) ∧ f_wf (f_wQ F b.2) ∧ rW g' i (fN F) (f_sz F) ∧ m_fr (sF i) g g') (fun k b g0 o t ht hi => by
      obtain ⟨k1, k2, k3, k4⟩ := hi
      have hrt := f_r_lt hw.2.1 hw.1 t ht
      have hroot : am_call (d + 1) 11 [.inr (.inr (1, i)), .inl (nI t)] g0 = some (some (.inl (nI (f_r (fP F) t))), g0) := C_rootOf d k1 k2 ht
      have hheavy : am_call (d + 1) 27 [.inr (.inr (1, i)), .inl (nI t)] g0 = some (some (.inl (eC (f_hv F t))), g0) := C_heavyOfWeighed d k1 k2 k3 ht
      have hn0 : g0 102 i 0 = nI (fN F) := k1.1
      have hq0 : g0 3 i t = eC (b.2 t) := k1.q ht
      have hqb : ∀ p, b.2 t = some p → p < 2 ^ 31 := k2.q31 ht
      rw [eF_settleTreeOf_10, hn0, if_neg (nI_ge ht (by omega)), hroot, bi_some]
      unfold f_sstep
      by_cases e1 : f_r (fP F) t = f_r (fP F) x
      · rw [if_pos (by rw [e1]), if_pos e1, hheavy, bi_some, q_c24 hn ht, cond_true, cond_true, nI_clamp (q24 hn ht), hq0, nI_1, nI_1]
        by_cases e2 : b.2 t = f_hv F t
        · rw [if_pos ((eC_eq hqb (f_hv31 hw t)).mpr e2), if_pos e2]
          exact ⟨g0, _, rfl, k1, k2, k3, k4⟩
        · rw [if_neg (fun q => e2 ((eC_eq hqb (f_hv31 hw t)).mp q)), if_neg e2]
          refine ⟨am_sto g0 3 i t (eC (f_hv F t)), _, rfl, k1.setQ (f_hv F t), wf_wQ hw (fun z c hz hc => ?_), fun y hy => ?_, k4.sto (sF_in (by omega))⟩
          · dsimp only at hc
            by_cases ez : z = t
            · subst ez
              rw [uo_eq] at hc
              exact f_hv_some hc
            · rw [uo_ne ez] at hc
              exact k2.2.2.1 z c hz hc
          · rw [m_sto_ne (by simp)]
            exact k3 y hy
      · rw [if_neg (by rw [nI_eq (q24 hn hrt.1) (q24 hn hrx.1)]; exact e1), if_neg e1, nI_1]
        exact ⟨g0, o, rfl, k1, k2, k3, k4⟩) (fun k b g0 o hi => by
      have hn0 : g0 102 i 0 = nI (fN F) := hi.1.1
      rw [eF_settleTreeOf_10, hn0, if_pos (nI_le (Nat.le_refl _) (by omega))]) (fN F) 0 (0, fQ F) g1 none 99999 (by omega) (by omega) ⟨hr, hw, h3, h2.mono (fun c j hc => ⟨hc.2, by have := hc.1; omega⟩)⟩
  exact ⟨g', h4, h5, h6, h8⟩
theorem root_iff (hw : f_wf F) {t x : Nat} (ht : t < fN F) (hx : x < fN F) : (fP F t ≠ none ∧ f_r (fP F) t = f_r (fP F) x) ↔ (t ≠ f_r (fP F) x ∧ f_r (fP F) t = f_r (fP F) x) := by
  have hrx := f_r_lt hw.2.1 hw.1 x hx
  constructor
  · rintro ⟨h1, h2⟩
    refine ⟨fun e => h1 ?_, h2⟩
    rw [e]
    exact hrx.2.1
  · rintro ⟨h1, h2⟩
    refine ⟨fun e => h1 ?_, h2⟩
    rw [← h2, f_r_none hw.2.1 hw.1 ht e]
theorem C_lowerOfExtreme_5 (d : Nat) (h : rC g i F) (hw : f_wf F) {x : Nat} (hx : x < fN F) : am_call (d + 2) 30 [.inr (.inr (1, i)), .inl (nI x), .inr (.inr (5, i)), .inl (-1)] g = some (some (.inl (eM (f_lx F (fun t b => decide (fC F t < fC F b)) x))), g) := by
  have hn := hw.1
  have hrx := f_r_lt hw.2.1 hw.1 x hx
  rw [cF_lowerOfExtreme_5, eF_lowerOfExtreme_5_0, C_rootOf d h hw hx, bi_some]
  exact (for_inv (fun k (best : Option Nat) (_ : Option am_V) t => am_run (am_call (d + 1)) 30 k 8 [some (.inr (.inr (1, i))), some (.inl (nI x)), some (.inr (.inr (5, i))), some (.inl (-1)), some (.inl (nI (f_r (fP F) x))), some (.inl (eM best)), some (.inl (nI t))] [] g) (fN F) (fun best t => if fP F t ≠ none ∧ f_r (fP F) t = f_r (fP F) x ∧ (∀ b, best = some b → decide (fC F t < fC F b) = true) then some t else best) (fun b => some (some (.inl (eM b)), g)) (fun best _ => ∀ b, best = some b → b < fN F ∧ fP F b ≠ none) (fun k best o t ht hi => by
    have hrt := f_r_lt hw.2.1 hw.1 t ht
    have hri := root_iff hw ht hx
    refine ⟨⟨none, ?_⟩, fun b hb => ?_⟩
    · rw [eF_lowerOfExtreme_5_8, h.1, if_neg (nI_ge ht (by omega)), nI_1]
      by_cases e0 : t = f_r (fP F) x
      · rw [if_pos (by rw [e0]), if_neg (fun q => (hri.mp ⟨q.1, q.2.1⟩).1 e0)]
      · rw [if_neg (by rw [nI_eq (q24 hn ht) (q24 hn hrx.1)]; exact e0), C_rootOf d h hw ht, bi_some]
        by_cases e1 : f_r (fP F) t = f_r (fP F) x
        · rw [if_pos (by rw [e1])]
          have hpt := (hri.mpr ⟨e0, e1⟩).1
          cases best with
          | none => rw [eM_none, if_pos rfl, if_pos ⟨hpt, e1, fun b hb => by cases hb⟩]; rfl
          | some b =>
            obtain ⟨hb1, hb2⟩ := hi b rfl
            have l1 := hw.2.2.2 t ht hpt
            have l2 := hw.2.2.2 b hb1 hb2
            rw [eM_some, if_neg (q_ne2 (q24 hn hb1)), q_c24 hn ht, q_c24 hn hb1, cond_true, cond_true, nI_clamp (q24 hn ht), nI_clamp (q24 hn hb1), h.c ht hpt, h.c hb1 hb2]
            by_cases e2 : fC F t < fC F b
            · rw [if_neg (by rw [q_negmul l1.2.2 l2.2.2]; omega), if_pos ⟨hpt, e1, fun b' hb' => by cases hb'; exact decide_eq_true e2⟩]; rfl
            · rw [if_pos (by rw [q_negmul l1.2.2 l2.2.2]; omega), if_neg (fun q => e2 (of_decide_eq_true (q.2.2 b rfl)))]; rfl
        · rw [if_neg (by rw [nI_eq (q24 hn hrt.1) (q24 hn hrx.1)]; exact e1), if_neg (fun q => e1 q.2.1)]
    · split at hb
      · rename_i hc
        cases hb
        exact ⟨ht, hc.1⟩
      · exact hi b hb) (fun k b o _ => by
    rw [eF_lowerOfExtreme_5_8, h.1, if_pos (nI_le (Nat.le_refl _) (by omega))]) (m := fN F) (t := 0) (b := none) (o := none) (k := 99999) (by omega) (by omega) (fun b hb => by cases hb)).1
theorem C_lowerOfExtreme_4 (d : Nat) (h : rC g i F) (hw : f_wf F) {x : Nat} (hx : x < fN F) : am_call (d + 2) 30 [.inr (.inr (1, i)), .inl (nI x), .inr (.inr (4, i)), .inl 1] g = some (some (.inl (eM (f_lx F (fun t b => decide (fL F b < fL F t)) x))), g) := by
  have hn := hw.1
  have hrx := f_r_lt hw.2.1 hw.1 x hx
  rw [cF_lowerOfExtreme_4, eF_lowerOfExtreme_4_0, C_rootOf d h hw hx, bi_some]
  exact (for_inv (fun k (best : Option Nat) (_ : Option am_V) t => am_run (am_call (d + 1)) 30 k 8 [some (.inr (.inr (1, i))), some (.inl (nI x)), some (.inr (.inr (4, i))), some (.inl 1), some (.inl (nI (f_r (fP F) x))), some (.inl (eM best)), some (.inl (nI t))] [] g) (fN F) (fun best t => if fP F t ≠ none ∧ f_r (fP F) t = f_r (fP F) x ∧ (∀ b, best = some b → decide (fL F b < fL F t) = true) then some t else best) (fun b => some (some (.inl (eM b)), g)) (fun best _ => ∀ b, best = some b → b < fN F ∧ fP F b ≠ none) (fun k best o t ht hi => by
    have hrt := f_r_lt hw.2.1 hw.1 t ht
    have hri := root_iff hw ht hx
    refine ⟨⟨none, ?_⟩, fun b hb => ?_⟩
    · rw [eF_lowerOfExtreme_4_8, h.1, if_neg (nI_ge ht (by omega)), nI_1]
      by_cases e0 : t = f_r (fP F) x
      · rw [if_pos (by rw [e0]), if_neg (fun q => (hri.mp ⟨q.1, q.2.1⟩).1 e0)]
      · rw [if_neg (by rw [nI_eq (q24 hn ht) (q24 hn hrx.1)]; exact e0), C_rootOf d h hw ht, bi_some]
        by_cases e1 : f_r (fP F) t = f_r (fP F) x
        · rw [if_pos (by rw [e1])]
          have hpt := (hri.mpr ⟨e0, e1⟩).1
          cases best with
          | none => rw [eM_none, if_pos rfl, if_pos ⟨hpt, e1, fun b hb => by cases hb⟩]; rfl
          | some b =>
            obtain ⟨hb1, hb2⟩ := hi b rfl
            have l1 := hw.2.2.2 t ht hpt
            have l2 := hw.2.2.2 b hb1 hb2
            rw [eM_some, if_neg (q_ne2 (q24 hn hb1)), q_c24 hn ht, q_c24 hn hb1, cond_true, cond_true, nI_clamp (q24 hn ht), nI_clamp (q24 hn hb1), h.l ht hpt, h.l hb1 hb2]
            by_cases e2 : fL F b < fL F t
            · rw [if_neg (by rw [q_onemul l1.2.1 l2.2.1]; omega), if_pos ⟨hpt, e1, fun b' hb' => by cases hb'; exact decide_eq_true e2⟩]; rfl
            · rw [if_pos (by rw [q_onemul l1.2.1 l2.2.1]; omega), if_neg (fun q => e2 (of_decide_eq_true (q.2.2 b rfl)))]; rfl
        · rw [if_neg (by rw [nI_eq (q24 hn hrt.1) (q24 hn hrx.1)]; exact e1), if_neg (fun q => e1 q.2.1)]
    · split at hb
      · rename_i hc
        cases hb
        exact ⟨ht, hc.1⟩
      · exact hi b hb) (fun k b o _ => by
    rw [eF_lowerOfExtreme_4_8, h.1, if_pos (nI_le (Nat.le_refl _) (by omega))]) (m := fN F) (t := 0) (b := none) (o := none) (k := 99999) (by omega) (by omega) (fun b hb => by cases hb)).1
end RC
end
section
/-! ===== Forest: the rest ===== -/
/-- the head of a town's chain; the tail -/
def f_hd (par q : Nat → Option Nat) : Nat → Nat → Nat
  | 0, t => t
  | k + 1, t => match par t with
    | none => t
    | some p => if q p = some t then f_hd par q k p else t
def f_tl (q : Nat → Option Nat) : Nat → Nat → Nat
  | 0, t => t
  | k + 1, t => match q t with
    | none => t
    | some c => f_tl q k c
section RC
variable {g : am_G} {i : Nat} {F : fF}
theorem C_greatestPart (d : Nat) (h : rC g i F) (hw : f_wf F) (hs : rW g i (fN F) (f_sz F)) {t : Nat} (ht : t < fN F) : am_call (d + 1) 32 [.inr (.inr (1, i)), .inl (nI t), .inl (nI (f_sz F (f_r (fP F) t)))] g = some (some (.inl (nI (f_gw F t))), g) := by
  have hn := hw.1
  rw [cF_greatestPartOfWeighed, eF_greatestPartOfWeighed_0, q_c24 hn ht, cond_true, nI_clamp (q24 hn ht), hs t ht, pk_sub (f_sz_root hw ht)]
  have key := for_inv (fun k m (_ : Option am_V) c => am_run (am_call d) 32 k 9 [some (.inr (.inr (1, i))), some (.inl (nI t)), some (.inl (nI (f_sz F (f_r (fP F) t)))), some (.inl (nI m)), some (.inl (nI c))] [] g) (fN F) (fun m c => if fP F c = some t then max m (f_sz F c) else m) (fun m => some (some (.inl (nI m)), g)) (fun m _ => m ≤ 24) (fun k m o c hc hm => by
    have z1 := f_sz_le F c
    refine ⟨⟨none, ?_⟩, ?_⟩
    · rw [eF_greatestPartOfWeighed_9, h.1, if_neg (nI_ge hc (by omega)), q_c24 hn hc, cond_true, cond_true, nI_clamp (q24 hn hc), h.p hc, hs c hc, nI_1]
      by_cases hp : fP F c = some t
      · rw [if_pos ((eC_inj (hw.p31 hc) (q24 hn ht)).mpr hp), if_pos hp]
        by_cases e : m < f_sz F c
        · rw [if_pos (nI_lt e (by omega)), Nat.max_eq_right (by omega)]
        · rw [if_neg (nI_nlt (by omega) (by omega)), Nat.max_eq_left (by omega)]
      · rw [if_neg (fun q => hp ((eC_inj (hw.p31 hc) (q24 hn ht)).mp q)), if_neg hp]
    · split
      · omega
      · exact hm) (fun k m o _ => by
    rw [eF_greatestPartOfWeighed_9, h.1, if_pos (nI_le (Nat.le_refl _) (by omega))]) (m := fN F) (t := 0) (b := f_sz F (f_r (fP F) t) - f_sz F t) (o := none) (k := 99999) (by omega) (by omega) (by have := f_sz_le F (f_r (fP F) t); omega)
  exact key.1
theorem f_gw_le (hw : f_wf F) (t : Nat) : f_gw F t ≤ 24 := by
  have hn := hw.1
  have key : ∀ (m b s : Nat), b ≤ 24 → fo (fun m c => if fP F c = some t then max m (f_sz F c) else m) b s m ≤ 24 := by
    intro m
    induction m with
    | zero => intro b s hb; exact hb
    | succ m ih =>
      intro b s hb
      rw [fo]
      refine ih _ _ ?_
      have := f_sz_le F s
      split <;> omega
  exact key _ _ _ (by have := f_sz_le F (f_r (fP F) t); omega)
theorem C_midstOfTreeOf (d : Nat) (h : rC g i F) (hw : f_wf F) {x : Nat} (hx : x < fN F) : ∃ g', am_call (d + 2) 31 [.inr (.inr (1, i)), .inl (nI x)] g = some (some (.inl (eC (f_mi F x))), g') ∧ m_fr (s7 i) g g' := by
  have hn := hw.1
  have hrx := f_r_lt hw.2.1 hw.1 x hx
  obtain ⟨g1, h1, h2, h3⟩ := C_weigh d h hw
  have hr := h.s7 h2
  rw [cF_midstOfTreeOf, eF_midstOfTreeOf_0, C_rootOf d h hw hx, bi_some, h1, bv_some]
  refine ⟨g1, ?_, h2⟩
  exact (for_inv (fun k (best : Option Nat) o t => am_run (am_call (d + 1)) 31 k 12 [some (.inr (.inr (1, i))), some (.inl (nI x)), some (.inl (nI (f_r (fP F) x))), some (.inl (eC best)), some (.inl (nI (match best with
      | none => 24
      | some b => f_gw F b))), some (.inl (nI t)), o] [] g1) (fN F) (fun best t => if f_r (fP F) t = f_r (fP F) x ∧ (∀ b, best = some b → f_gw F t < f_gw F b) then some t else best) (fun b => some (some (.inl (eC b)), g1)) (fun best _ => ∀ b, best = some b → b < fN F) (fun k best o t ht hi => by
    have hrt := f_r_lt hw.2.1 hw.1 t ht
    have hgt := f_gw_le hw t
    refine ⟨?_, fun b hb => ?_⟩
    · rw [eF_midstOfTreeOf_12, hr.1, if_neg (nI_ge ht (by omega)), C_rootOf d hr hw ht, bi_some, nI_1]
      by_cases e1 : f_r (fP F) t = f_r (fP F) x
      · have hgp := C_greatestPart d hr hw h3 ht
        rw [e1] at hgp
        refine ⟨some (.inl (nI (f_gw F t))), ?_⟩
        rw [if_pos (by rw [e1]), q_c24 hn hrx.1, cond_true, nI_clamp (q24 hn hrx.1), h3 _ hrx.1, hgp, bi_some]
        cases best with
        | none => rw [eC_none, if_pos rfl, if_pos ⟨e1, fun b hb => by cases hb⟩]; rfl
        | some b =>
          have hgb := f_gw_le hw b
          dsimp only
          rw [eC_some, if_neg (q_ne1 (q24 hn (hi b rfl)))]
          by_cases e2 : f_gw F t < f_gw F b
          · rw [if_neg (nI_ge e2 (by omega)), if_pos ⟨e1, fun b' hb' => by cases hb'; exact e2⟩]; rfl
          · rw [if_pos (nI_le (by omega) (by omega)), if_neg (fun q => e2 (q.2 b rfl))]; rfl
      · refine ⟨o, ?_⟩
        rw [if_neg (by rw [nI_eq (q24 hn hrt.1) (q24 hn hrx.1)]; exact e1), if_neg (fun q => e1 q.1)]
    · split at hb
      · cases hb; exact ht
      · exact hi b hb) (fun k b o _ => by
    rw [eF_midstOfTreeOf_12, hr.1, if_pos (nI_le (Nat.le_refl _) (by omega))]) (m := fN F) (t := 0) (b := none) (o := none) (k := 99999) (by omega) (by omega) (fun b hb => by cases hb)).1
theorem f_pa_le (F : fF) (k : Nat) : f_pa F k ≤ fN F := ct_le _ _
theorem C_leastLengthFor (d : Nat) (h : rC g i F) (hw : f_wf F) {K : Nat} (hK : K < 2 ^ 31) : am_call (d + 2) 34 [.inr (.inr (1, i)), .inl (nI K)] g = some (some (.inl (eC (f_lf F K))), g) := by
  have hn := hw.1
  have hp0 := f_pa_le F 0
  rw [cF_leastLengthFor, eF_leastLengthFor_0, q_n0, C_partsBy d h hw (K := 0) (by omega), bi_some]
  unfold f_lf
  by_cases e0 : f_pa F 0 ≤ K
  · rw [if_neg (nI_nlt e0 hK), if_pos e0]; rfl
  · rw [if_pos (nI_lt (by omega) (by omega)), if_neg e0]
    exact (for_inv (fun k (least : Option Nat) (_ : Option am_V) t => am_run (am_call (d + 1)) 34 k 11 [some (.inr (.inr (1, i))), some (.inl (nI K)), some (.inl (eC least)), some (.inl (nI t))] [] g) (fN F) (fun least t => if fP F t ≠ none ∧ (∀ l, least = some l → fL F t < l) ∧ f_pa F (fL F t) ≤ K then some (fL F t) else least) (fun b => some (some (.inl (eC b)), g)) (fun least _ => ∀ l, least = some l → l ≤ 9999) (fun k least o t ht hi => by
      have hpl := f_pa_le F (fL F t)
      refine ⟨⟨none, ?_⟩, fun b hb => ?_⟩
      · rw [eF_leastLengthFor_11, h.1, if_neg (nI_ge ht (by omega)), q_c24 hn ht, cond_true, nI_clamp (q24 hn ht), h.p ht, nI_1]
        by_cases hp : fP F t = none
        · rw [if_pos ((eC_m1 (hw.p31 ht)).mpr hp), if_neg (fun q => q.1 hp)]
        · have hl := hw.2.2.2 t ht hp
          rw [if_neg (fun q => hp ((eC_m1 (hw.p31 ht)).mp q)), h.l ht hp, C_partsBy d h hw (K := fL F t) (by omega), bi_some]
          cases least with
          | none =>
            rw [eC_none, if_pos rfl, cond_true, cond_true, h.l ht hp]
            by_cases e1 : f_pa F (fL F t) ≤ K
            · rw [if_neg (nI_nlt e1 hK), if_pos ⟨hp, fun l hl => (by cases hl), e1⟩]; rfl
            · rw [if_pos (nI_lt (by omega) (by omega)), if_neg (fun q => e1 q.2.2)]; rfl
          | some l =>
            have hl2 := hi l rfl
            rw [eC_some, if_neg (q_ne1 (by omega)), cond_true]
            by_cases e2 : fL F t < l
            · rw [if_neg (nI_ge e2 (by omega)), cond_true, cond_true, h.l ht hp]
              by_cases e1 : f_pa F (fL F t) ≤ K
              · rw [if_neg (nI_nlt e1 hK), if_pos ⟨hp, fun l' hl' => by cases hl'; exact e2, e1⟩]; rfl
              · rw [if_pos (nI_lt (by omega) (by omega)), if_neg (fun q => e1 q.2.2)]; rfl
            · rw [if_pos (nI_le (by omega) (by omega)), if_neg (fun q => e2 (q.2.1 l rfl))]; rfl
      · split at hb
        · rename_i hc
          cases hb
          exact (hw.2.2.2 t ht hc.1).2.1
        · exact hi b hb) (fun k b o _ => by
      rw [eF_leastLengthFor_11, h.1, if_pos (nI_le (Nat.le_refl _) (by omega))]) (m := fN F) (t := 0) (b := none) (o := none) (k := 99999) (by omega) (by omega) (fun b hb => by cases hb)).1
theorem C_head_loop (ct : am_T) (h : rC g i F) (hw : f_wf F) (x1 : Int32) : ∀ (k t step : Nat) (o4 : Option am_V), t < fN F → step ≤ 24 → 24 - step < k →
    am_run ct 18 k 4 [some (.inr (.inr (1, i))), some (.inl x1), some (.inl (nI t)), some (.inl (nI step)), o4] [] g = some (some (.inl (nI (f_hd (fP F) (fQ F) (24 - step) t))), g)
  | 0, t, step, o4, ht, h1, h2 => by omega
  | k + 1, t, step, o4, ht, h1, h2 => by
    rw [eF_headOf_4]
    by_cases e : step = 24
    · subst e
      rw [if_pos (show (24 : Int32) ≤ nI 24 by decide)]
      rfl
    · rw [if_neg (q_s24 (by omega)), q_c24 hw.1 ht, cond_true, nI_clamp (q24 hw.1 ht), h.p ht, show 24 - step = (24 - (step + 1)) + 1 by omega, f_hd]
      cases hp : fP F t with
      | none => rw [eC_none, if_pos rfl]
      | some p =>
        have hpn := hw.p ht hp
        rw [eC_some, if_neg (q_ne1 (q24 hw.1 hpn)), q_c24 hw.1 hpn, cond_true, nI_clamp (q24 hw.1 hpn), h.q hpn, nI_1]
        by_cases e2 : fQ F p = some t
        · rw [if_pos ((eC_inj (hw.q31 hpn) (q24 hw.1 ht)).mpr e2)]
          dsimp only
          rw [if_pos e2]
          exact C_head_loop ct h hw x1 k p (step + 1) _ hpn (by omega) (by omega)
        · rw [if_neg (fun q => e2 ((eC_inj (hw.q31 hpn) (q24 hw.1 ht)).mp q))]
          dsimp only
          rw [if_neg e2]
theorem C_headOf (d : Nat) (h : rC g i F) (hw : f_wf F) {t : Nat} (ht : t < fN F) : am_call (d + 1) 18 [.inr (.inr (1, i)), .inl (nI t)] g = some (some (.inl (nI (f_hd (fP F) (fQ F) 24 t))), g) := by
  rw [cF_headOf, eF_headOf_0]
  exact C_head_loop _ h hw _ 99999 t 0 none ht (by omega) (by omega)
theorem C_tail_loop (ct : am_T) (h : rC g i F) (hw : f_wf F) (x1 : Int32) : ∀ (k t step : Nat), t < fN F → step ≤ 24 → 24 - step < k →
    am_run ct 19 k 4 [some (.inr (.inr (1, i))), some (.inl x1), some (.inl (nI t)), some (.inl (nI step))] [] g = some (some (.inl (nI (f_tl (fQ F) (24 - step) t))), g)
  | 0, t, step, ht, h1, h2 => by omega
  | k + 1, t, step, ht, h1, h2 => by
    rw [eF_tailOf_4]
    by_cases e : step = 24
    · subst e
      rw [if_pos (show (24 : Int32) ≤ nI 24 by decide)]
      rfl
    · rw [if_neg (q_s24 (by omega)), q_c24 hw.1 ht, cond_true, cond_true, nI_clamp (q24 hw.1 ht), h.q ht, show 24 - step = (24 - (step + 1)) + 1 by omega, f_tl]
      cases hp : fQ F t with
      | none => rw [eC_none, if_pos rfl]
      | some p =>
        have hpn := (hw.2.2.1 t p ht hp).1
        rw [eC_some, if_neg (q_ne1 (q24 hw.1 hpn)), nI_1]
        exact C_tail_loop ct h hw x1 k p (step + 1) hpn (by omega) (by omega)
theorem C_tailOf (d : Nat) (h : rC g i F) (hw : f_wf F) {t : Nat} (ht : t < fN F) : am_call (d + 1) 19 [.inr (.inr (1, i)), .inl (nI t)] g = some (some (.inl (nI (f_tl (fQ F) 24 t))), g) := by
  rw [cF_tailOf, eF_tailOf_0]
  exact C_tail_loop _ h hw _ 99999 t 0 ht (by omega) (by omega)
def f_clear (F : fF) : fF := (0, fP F, fQ F, fL F, fC F, fV F, 0)
theorem C_clear (d : Nat) (F : fF) : ∃ g', am_call (d + 1) 0 [.inr (.inr (1, i))] g = some (none, g') ∧ rC g' i (f_clear F) ∧ m_fr (sF i) g g' := by
  rw [cF_clear, eF_clear_0]
  refine ⟨_, rfl, ⟨?_, m_put _ _ _ _ _, fun t ht => absurd ht (Nat.not_lt_zero t)⟩, (m_fr.rf.put (sF_in (by omega))).put (sF_in (by omega))⟩
  rw [m_put_ne (by simp), m_put]
  rfl
theorem va_cpy24 (f f' : Nat → Int32) {t : Nat} (ht : t < 24) : va_cpy f f' 0 0 24 t = f t := by
  unfold va_cpy
  rw [if_pos ⟨Nat.zero_le _, by omega⟩]
  congr 1
  omega
theorem C_copyFrom (d : Nat) {j : Nat} (h : rC g j F) (hw : f_wf F) (hij : i ≠ j) : ∃ g', am_call (d + 1) 1 [.inr (.inr (1, i)), .inr (.inr (1, j))] g = some (none, g') ∧ rC g' i F ∧ m_fr (sF i) g g' := by
  have hji : j ≠ i := fun e => hij e.symm
  rw [cF_copyFrom, eF_copyFrom_0]
  refine ⟨_, rfl, ?_, ?_⟩
  · refine ⟨?_, ?_, fun t ht => ?_⟩
    · simp [am_put, am_set, hij, hji]; exact h.1
    · simp [am_put, am_set, hij, hji]; exact h.2.1
    · have h24 : t < 24 := Nat.lt_of_lt_of_le ht hw.1
      simp [am_put, am_set, hij, hji, va_cpy24 _ _ h24]
      exact h.2.2 t ht
  · exact ((((((m_fr.rf.set (sF_in (by omega))).set (sF_in (by omega))).set (sF_in (by omega))).set (sF_in (by omega))).set (sF_in (by omega))).put (sF_in (by omega))).put (sF_in (by omega))
def f_add (F : fF) (v : Int32) : fF := (fN F + 1, uo (fP F) (fN F) none, uo (fQ F) (fN F) none, fL F, fC F, uo (fV F) (fN F) v, fS F)
theorem C_addTown (d : Nat) (h : rC g i F) (hn : fN F < 24) (v : Int32) : ∃ g', am_call (d + 1) 2 [.inr (.inr (1, i)), .inl v] g = some (none, g') ∧ rC g' i (f_add F v) ∧ m_fr (sF i) g g' := by
  have h31 : fN F < 2 ^ 31 := by omega
  rw [cF_addTown, eF_addTown_0]
  simp only [m_sto_ne (show ¬ (102 = 2 ∧ i = i) by simp), m_sto_ne (show ¬ (102 = 3 ∧ i = i) by simp), m_sto_ne (show ¬ (102 = 4 ∧ i = i) by simp), m_sto_ne (show ¬ (102 = 5 ∧ i = i) by simp), m_sto_ne (show ¬ (102 = 6 ∧ i = i) by simp), h.1, nI_clamp h31, q_c24 (Nat.le_refl 24) hn, cond_true, if_neg (q_s24 hn), nI_1]
  refine ⟨_, rfl, ⟨m_put _ _ _ _ _, ?_, fun t ht => ?_⟩, (((((m_fr.rf.sto (sF_in (by omega))).sto (sF_in (by omega))).sto (sF_in (by omega))).sto (sF_in (by omega))).sto (sF_in (by omega))).put (sF_in (by omega))⟩
  · simp [am_put, am_sto, am_set]; exact h.2.1
  · have ht : t < fN F + 1 := ht
    simp only [am_put, am_sto, am_set, upd]
    by_cases e : t = fN F
    · subst e
      simp [f_add, uo, fP, fQ, fV, eC, upd]
    · have h1 := h.2.2 t (by omega)
      have e1 : ∀ (f : Nat → Int32) (y : Int32), upd f (fN F) y t = f t := fun f y => if_neg e
      have e2 : uo (fP F) (fN F) none t = fP F t := uo_ne e
      have e3 : uo (fQ F) (fN F) none t = fQ F t := uo_ne e
      have e4 : uo (fV F) (fN F) v t = fV F t := uo_ne e
      simp [e1]
      show g 2 i t = eC (uo (fP F) (fN F) none t) ∧ g 3 i t = eC (uo (fQ F) (fN F) none t) ∧ (¬ uo (fP F) (fN F) none t = none → g 4 i t = nI (fL F t) ∧ g 5 i t = nI (fC F t)) ∧ g 6 i t = uo (fV F) (fN F) v t
      rw [e2, e3, e4]
      exact h1
end RC
end
section
/-! ===== ways ===== -/
def f_way (par : Nat → Option Nat) (a b : Nat) : List Nat := match f_m par a b with
  | none => []
  | some m => (f_a par a).takeWhile (fun x => decide (x ≠ m)) ++ m :: ((f_a par b).takeWhile (fun x => decide (x ≠ m))).reverse
theorem tw_app {m : Nat} {r : List Nat} : ∀ (A : List Nat), m ∉ A → (A ++ m :: r).takeWhile (fun x => decide (x ≠ m)) = A
  | [], _ => by simp [List.takeWhile_cons]
  | x :: A, h => by
    have hx : x ≠ m := fun e => h (by rw [e]; exact List.mem_cons_self)
    rw [List.cons_append, List.takeWhile_cons]
    simp only [hx, ne_eq, not_false_eq_true, decide_true, if_true]
    rw [tw_app A (fun q => h (List.mem_cons_of_mem _ q))]
section FO
variable {n : Nat} {par : Nat → Option Nat}
theorem f_way_md (h : f_ok n par) {a b m : Nat} {A B : List Nat} (hm : f_md par a b m A B) : f_way par a b = A ++ m :: B.reverse := by
  unfold f_way
  rw [f_m_md h hm]
  obtain ⟨r, e⟩ := f_a_hd par m
  have hA : m ∉ A := fun q => hm.2.2.1 m q hm.mem.2
  have hB : m ∉ B := fun q => hm.2.2.2 m q hm.mem.1
  show (f_a par a).takeWhile _ ++ m :: ((f_a par b).takeWhile _).reverse = _
  rw [hm.1, hm.2.1, e, tw_app A hA, tw_app B hB]
theorem f_way_none (h : f_ok n par) (hn : n ≤ 24) {a b : Nat} (ha : a < n) (hb : b < n) (hr : f_r par a ≠ f_r par b) : f_way par a b = [] := by
  unfold f_way
  rw [f_m_none h hn ha hb hr]
theorem f_md_len (h : f_ok n par) {a b m : Nat} {A B : List Nat} (hm : f_md par a b m A B) : f_d par a = A.length + f_d par m ∧ f_d par b = B.length + f_d par m := by
  have h1 := congrArg List.length hm.1
  have h2 := congrArg List.length hm.2.1
  rw [List.length_append] at h1 h2
  have := f_a_pos par m
  unfold f_d
  omega
theorem f_md_ch (h : f_ok n par) (hn : n ≤ 24) {a b m : Nat} {A B : List Nat} (ha : a < n) (hm : f_md par a b m A B) : ∀ (A1 : List Nat) (x : Nat) (A2 : List Nat), A = A1 ++ x :: A2 → par x = some ((A2 ++ [m]).headD 0) := by
  intro A1 x A2 e
  have h1 := f_a_ch h hn a ha
  rw [hm.1, e, List.append_assoc, List.cons_append] at h1
  rw [p_ch_app A1 h1]
  obtain ⟨r, e2⟩ := f_a_hd par m
  cases A2 with
  | nil => rw [List.nil_append, e2]; rfl
  | cons y A2 => rfl
end FO
/-- two towns with a link between them -/
def f_lk (par : Nat → Option Nat) (x y : Nat) : Prop := par x = some y ∨ par y = some x
def f_lw (par : Nat → Option Nat) (x y : Nat) : Nat := if par x = some y then x else y
/-- a row of towns, each linked to the next -/
def f_lks (par : Nat → Option Nat) : List Nat → Prop
  | x :: y :: r => f_lk par x y ∧ f_lks par (y :: r)
  | _ => True
/-- what lies on the links of a row -/
def f_ws (par : Nat → Option Nat) (w : Nat → Nat) : List Nat → List Nat
  | x :: y :: r => w (f_lw par x y) :: f_ws par w (y :: r)
  | _ => []
theorem f_ws_len (par : Nat → Option Nat) (w : Nat → Nat) : ∀ L : List Nat, (f_ws par w L).length = L.length - 1
  | [] => rfl
  | [_] => rfl
  | x :: y :: r => by
    rw [f_ws, List.length_cons, f_ws_len par w (y :: r)]
    simp
theorem f_lks_app {par : Nat → Option Nat} : ∀ (A : List Nat) {x y : Nat} {B : List Nat}, f_lks par (A ++ x :: y :: B) → f_lk par x y
  | [], _, _, _, h => h.1
  | [_], _, _, _, h => h.2.1
  | _ :: a :: A, _, _, _, h => f_lks_app (a :: A) h.2
theorem f_lks_at {par : Nat → Option Nat} {L : List Nat} (h : f_lks par L) {k x y : Nat} (hx : L[k]? = some x) (hy : L[k + 1]? = some y) : f_lk par x y := by
  induction L generalizing k with
  | nil => simp at hx
  | cons a L ih =>
    cases L with
    | nil => simp at hy
    | cons b L =>
      cases k with
      | zero =>
        simp at hx hy
        subst hx; subst hy
        exact h.1
      | succ k => exact ih h.2 (by simpa using hx) (by simpa using hy)
theorem f_ws_at {par : Nat → Option Nat} {w : Nat → Nat} {L : List Nat} {k x y : Nat} (hx : L[k]? = some x) (hy : L[k + 1]? = some y) : (f_ws par w L)[k]? = some (w (f_lw par x y)) := by
  induction L generalizing k with
  | nil => simp at hx
  | cons a L ih =>
    cases L with
    | nil => simp at hy
    | cons b L =>
      rw [f_ws]
      cases k with
      | zero =>
        simp at hx hy
        subst hx; subst hy
        rfl
      | succ k => exact ih (by simpa using hx) (by simpa using hy)
theorem f_lks_ch {par : Nat → Option Nat} : ∀ (L : List Nat), p_ch par L → f_lks par L
  | [], _ => trivial
  | [_], _ => trivial
  | x :: y :: r, h => ⟨Or.inl h.1, f_lks_ch (y :: r) h.2⟩
theorem f_lks_snoc {par : Nat → Option Nat} : ∀ (L : List Nat) (x : Nat), f_lks par L → (∀ y, L.getLast? = some y → f_lk par y x) → f_lks par (L ++ [x])
  | [], x, _, _ => trivial
  | [a], x, _, h => ⟨h a rfl, trivial⟩
  | a :: b :: r, x, h, hl => ⟨h.1, f_lks_snoc (b :: r) x h.2 (fun y hy => hl y (by simpa using hy))⟩
theorem f_lks_rev {par : Nat → Option Nat} : ∀ (L : List Nat), f_lks par L → f_lks par L.reverse
  | [], _ => trivial
  | [_], _ => trivial
  | x :: y :: r, h => by
    rw [List.reverse_cons]
    refine f_lks_snoc _ x (f_lks_rev (y :: r) h.2) (fun z hz => ?_)
    rw [List.getLast?_reverse] at hz
    cases hz
    exact h.1.symm
theorem f_lks_join {par : Nat → Option Nat} {m : Nat} {R : List Nat} : ∀ (A : List Nat), f_lks par (A ++ [m]) → f_lks par (m :: R) → f_lks par (A ++ m :: R)
  | [], _, h => h
  | [a], h1, h2 => ⟨h1.1, h2⟩
  | a :: b :: A, h1, h2 => ⟨h1.1, f_lks_join (b :: A) h1.2 h2⟩
theorem f_lks_pre {par : Nat → Option Nat} : ∀ (A : List Nat) {B : List Nat}, f_lks par (A ++ B) → f_lks par A
  | [], _, _ => trivial
  | [_], _, _ => trivial
  | _ :: b :: A, _, h => ⟨h.1, f_lks_pre (b :: A) h.2⟩
theorem f_way_lks {n : Nat} {par : Nat → Option Nat} (h : f_ok n par) (hn : n ≤ 24) {a b : Nat} (ha : a < n) (hb : b < n) : f_lks par (f_way par a b) := by
  by_cases hr : f_r par a = f_r par b
  · obtain ⟨m, A, B, hm⟩ := f_md_ex h hn hb a ha hr
    rw [f_way_md h hm]
    obtain ⟨r, e⟩ := f_a_hd par m
    have h1 := f_lks_ch _ (f_a_ch h hn a ha)
    have h2 := f_lks_ch _ (f_a_ch h hn b hb)
    rw [hm.1, e, show A ++ m :: r = (A ++ [m]) ++ r by simp] at h1
    rw [hm.2.1, e, show B ++ m :: r = (B ++ [m]) ++ r by simp] at h2
    have h3 := f_lks_rev _ (f_lks_pre _ h2)
    rw [List.reverse_append] at h3
    exact f_lks_join A (f_lks_pre _ h1) h3
  · rw [f_way_none h hn ha hb hr]; trivial
theorem f_way_lt {n : Nat} {par : Nat → Option Nat} (h : f_ok n par) (hn : n ≤ 24) {a b : Nat} (ha : a < n) (hb : b < n) : ∀ x ∈ f_way par a b, x < n := by
  intro x hx
  by_cases hr : f_r par a = f_r par b
  · obtain ⟨m, A, B, hm⟩ := f_md_ex h hn hb a ha hr
    rw [f_way_md h hm] at hx
    rcases List.mem_append.mp hx with hx | hx
    · exact f_a_lt h ha (by rw [hm.1]; exact List.mem_append_left _ hx)
    · rcases List.mem_cons.mp hx with rfl | hx
      · exact f_a_lt h ha hm.mem.1
      · exact f_a_lt h hb (by rw [hm.2.1]; exact List.mem_append_left _ (List.mem_reverse.mp hx))
  · rw [f_way_none h hn ha hb hr] at hx; cases hx
/-- the way is the way up from b, turned over, once a is the root -/
theorem f_way_rr {F : fF} (hw : f_wf F) {a b : Nat} (ha : a < fN F) (hb : b < fN F) (hr : f_r (fP F) a = f_r (fP F) b) : f_a (fP (f_reroot F a)) b = (f_way (fP F) a b).reverse := by
  obtain ⟨m, A, B, hm⟩ := f_md_ex hw.2.1 hw.1 hb a ha hr
  rw [f_way_md hw.2.1 hm, rr_a hw ha B A b hb hm]
  simp
theorem f_way_nd {F : fF} (hw : f_wf F) {a b : Nat} (ha : a < fN F) (hb : b < fN F) : (f_way (fP F) a b).Nodup ∧ (f_way (fP F) a b).length ≤ 24 := by
  by_cases hr : f_r (fP F) a = f_r (fP F) b
  · have e := f_way_rr hw ha hb hr
    have h1 := f_a_nd (ok_reroot hw ha) hb
    have h2 := f_a_len (ok_reroot hw ha) hb
    rw [e] at h1 h2
    rw [List.length_reverse] at h2
    have := hw.1
    exact ⟨(List.reverse_perm _).nodup h1, by omega⟩
  · rw [f_way_none hw.2.1 hw.1 ha hb hr]
    exact ⟨List.nodup_nil, Nat.zero_le _⟩
/-- a Way object's memory -/
def rY (g : am_G) (w : Nat) (L : List Nat) : Prop := g 119 w 0 = nI L.length ∧ ∀ k x, L[k]? = some x → g 17 w k = nI x
def sY (w : Nat) : Nat → Nat → Prop := fun c j => j = w ∧ (c = 17 ∨ c = 119)
theorem rC.fr {g g' : am_G} {i : Nat} {F : fF} {S : Nat → Nat → Prop} (h : rC g i F) (hf : m_fr S g g') (hS : ∀ c, S c i → ¬ (2 ≤ c ∧ c ≤ 6 ∨ c = 102 ∨ c = 103)) : rC g' i F := h.cg fun c hc => hf c i (fun q => hS c q hc)
theorem rC.sY {g g' : am_G} {i w : Nat} {F : fF} (h : rC g i F) (hf : m_fr (sY w) g g') : rC g' i F := h.fr hf (fun c hc => by have := hc.2; omega)
theorem rY.fr {g g' : am_G} {w : Nat} {L : List Nat} {S : Nat → Nat → Prop} (h : rY g w L) (hf : m_fr S g g') (h1 : ¬ S 119 w) (h2 : ¬ S 17 w) : rY g' w L := by
  refine ⟨by rw [hf 119 w h1]; exact h.1, fun k x hk => by rw [hf 17 w h2]; exact h.2 k x hk⟩
theorem rY.sF {g g' : am_G} {w i : Nat} {L : List Nat} (h : rY g w L) (hf : m_fr (sF i) g g') : rY g' w L := h.fr hf (fun q => by have := q.2; omega) (fun q => by have := q.2; omega)
section RC
variable {g : am_G} {i w : Nat} {F : fF}
theorem C_lay_up (ct : am_T) (hw : f_wf F) (x2 x3 x4 x6 : Int32) {U T : Nat} (hU : U < T) (hT : T ≤ 24) : ∀ (W : List Nat) (k s : Nat) (g : am_G) (o : Option Nat), rC g i F → g 119 w 0 = nI T → s + W.length = U + 1 → (∀ x ∈ W, x < fN F) → (W ≠ [] → o = W.head?) → (∀ W1 x y W2, W = W1 ++ x :: y :: W2 → fP F x = some y) →
    ∃ g' , am_run ct 74 (k + 1 + W.length) 41 [some (.inr (.inr (16, w))), some (.inr (.inr (1, i))), some (.inl x2), some (.inl x3), some (.inl x4), some (.inl (nI U)), some (.inl x6), some (.inl (eC o)), some (.inl (nI s))] [] g
        = am_run ct 74 k 70 [some (.inr (.inr (16, w))), some (.inr (.inr (1, i))), some (.inl x2), some (.inl x3), some (.inl x4), some (.inl (nI U)), some (.inl x6), some (.inl x3), some (.inl (nI T - 1))] [] g' ∧
      m_fr (sY w) g g' ∧ g' 119 w 0 = nI T ∧ (∀ j x, W[j]? = some x → g' 17 w (s + j) = nI x) ∧ ∀ j, j < s → g' 17 w j = g 17 w j
  | [], k, s, g, o, h, ht, e, hr, ho, hc => by
    refine ⟨g, ?_, m_fr.rf, ht, fun j x hj => by simp at hj, fun _ _ => rfl⟩
    simp only [List.length_nil] at e ⊢
    rw [Nat.add_zero, eY_lay_41, if_pos (nI_lt (by omega) (by omega)), ht]
  | x :: W, k, s, g, o, h, ht, e, hr, ho, hc => by
    have hx := hr x List.mem_cons_self
    have hx31 := q24 hw.1 hx
    rw [List.length_cons] at e
    have e1 : k + 1 + (x :: W).length = (k + 1 + W.length) + 1 := by rw [List.length_cons]; omega
    have eo : o = some x := ho (by simp)
    subst eo
    have ep : am_sto g 17 w s (nI x) 2 i x = eC (fP F x) := by rw [m_sto_ne (by simp)]; exact h.p hx
    rw [e1, eY_lay_41, if_neg (nI_nlt (by omega) (by omega)), ht, if_neg (nI_ge (by omega) (by omega)), eC_some, if_neg (q_ne1 hx31), q_in (n := 24) (by omega) (by omega), q_c24 hw.1 hx, cond_true, cond_true, nI_clamp hx31, nI_clamp (by omega), ep, nI_1]
    have hf : m_fr (sY w) g (am_sto g 17 w s (nI x)) := m_fr.rf.sto ⟨rfl, Or.inl rfl⟩
    obtain ⟨g', h5, h6, h7, h8, h9⟩ := C_lay_up ct hw x2 x3 x4 x6 hU hT W k (s + 1) (am_sto g 17 w s (nI x)) (fP F x) (h.sY hf) (by rw [m_sto_ne (by simp)]; exact ht) (by omega) (fun y hy => hr y (List.mem_cons_of_mem _ hy)) (fun hne => by
      cases W with
      | nil => exact absurd rfl hne
      | cons y W => exact hc [] x y W rfl) (fun W1 a b W2 eW => hc (x :: W1) a b W2 (by rw [eW]; rfl))
    refine ⟨g', h5, hf.tr h6, h7, fun j y hj => ?_, fun j hj => ?_⟩
    · cases j with
      | zero =>
        simp at hj
        subst hj
        rw [Nat.add_zero, h9 s (by omega), m_sto, if_pos rfl]
      | succ j =>
        have := h8 j y (by simpa using hj)
        rw [show s + (j + 1) = s + 1 + j by omega]
        exact this
    · rw [h9 j (by omega), m_sto, if_neg (by omega)]
theorem C_lay_down (ct : am_T) (hw : f_wf F) (x2 x3 x4 x6 : Int32) {U : Nat} : ∀ (B : List Nat) (k : Nat) (g : am_G) (o : Option Nat), rC g i F → U + B.length < 24 → (∀ x ∈ B, x < fN F) → (B ≠ [] → o = B.head?) → (∀ W1 x y W2, B = W1 ++ x :: y :: W2 → fP F x = some y) →
    ∃ g', am_run ct 74 (k + 1 + B.length) 70 [some (.inr (.inr (16, w))), some (.inr (.inr (1, i))), some (.inl x2), some (.inl x3), some (.inl x4), some (.inl (nI U)), some (.inl x6), some (.inl (eC o)), some (.inl (nI (U + B.length)))] [] g = some (none, g') ∧
      m_fr (sY w) g g' ∧ g' 119 w = g 119 w ∧ (∀ j x, B.reverse[j]? = some x → g' 17 w (U + 1 + j) = nI x) ∧ ∀ j, (j ≤ U ∨ U + B.length < j) → g' 17 w j = g 17 w j
  | [], k, g, o, h, hl, hr, ho, hc => by
    refine ⟨g, ?_, m_fr.rf, rfl, fun j x hj => by simp at hj, fun _ _ => rfl⟩
    simp only [List.length_nil] at hl ⊢
    rw [show k + 1 + 0 = k + 1 from rfl, show U + 0 = U from rfl, eY_lay_70, if_pos (nI_le (Nat.le_refl _) (by omega))]
  | x :: B, k, g, o, h, hl, hr, ho, hc => by
    have hx := hr x List.mem_cons_self
    have hx31 := q24 hw.1 hx
    rw [List.length_cons] at hl
    have e1 : k + 1 + (x :: B).length = (k + 1 + B.length) + 1 := by rw [List.length_cons]; omega
    have e2 : U + (x :: B).length = U + B.length + 1 := by rw [List.length_cons]; omega
    have eo : o = some x := ho (by simp)
    subst eo
    have ep : am_sto g 17 w (U + B.length + 1) (nI x) 2 i x = eC (fP F x) := by rw [m_sto_ne (by simp)]; exact h.p hx
    rw [e1, e2, eY_lay_70, if_neg (nI_ge (by omega) (by omega)), eC_some, if_neg (q_ne1 hx31), q_in (k := U + B.length + 1) (n := 24) (by omega) (by omega), q_c24 hw.1 hx, cond_true, cond_true, nI_clamp hx31, nI_clamp (n := U + B.length + 1) (by omega), ep, pk_m1]
    have hf : m_fr (sY w) g (am_sto g 17 w (U + B.length + 1) (nI x)) := m_fr.rf.sto ⟨rfl, Or.inl rfl⟩
    obtain ⟨g', h5, h6, h7, h8, h9⟩ := C_lay_down ct hw x2 x3 x4 x6 (U := U) B k (am_sto g 17 w (U + B.length + 1) (nI x)) (fP F x) (h.sY hf) (by omega) (fun y hy => hr y (List.mem_cons_of_mem _ hy)) (fun hne => by
      cases B with
      | nil => exact absurd rfl hne
      | cons y B => exact hc [] x y B rfl) (fun W1 a b W2 eW => hc (x :: W1) a b W2 (by rw [eW]; rfl))
    refine ⟨g', h5, hf.tr h6, h7.trans (m_sto_ne (by simp)), fun j y hj => ?_, fun j hj => ?_⟩
    · rw [List.reverse_cons, List.getElem?_append, List.length_reverse] at hj
      by_cases hlt : j < B.length
      · rw [if_pos hlt] at hj
        exact h8 j y hj
      · rw [if_neg hlt] at hj
        have ej : j - B.length = 0 := by
          have h11 := (List.getElem?_eq_some_iff.mp hj).1
          simp at h11
          omega
        rw [ej] at hj
        simp at hj
        subst hj
        rw [h9 _ (Or.inr (by omega)), m_sto, if_pos (by omega)]
    · rw [h9 j (by omega), m_sto, if_neg (by omega)]
end RC
end
section
/-! ===== ways: a Way object ===== -/
theorem q_24lt {T : Nat} (h : T ≤ 24) : ¬ (24 : Int32) < nI T := nI_nlt (a := 24) h (by omega)
section RC
variable {g : am_G} {i w : Nat} {F : fF}
theorem C_lay (d : Nat) (h : rC g i F) (hw : f_wf F) {a b : Nat} (ha : a < fN F) (hb : b < fN F) : ∃ g', am_call (d + 3) 74 [.inr (.inr (16, w)), .inr (.inr (1, i)), .inl (nI a), .inl (nI b)] g = some (none, g') ∧ rY g' w (f_way (fP F) a b) ∧ m_fr (sY w) g g' := by
  have hf0 : m_fr (sY w) g (am_put g 119 w 0) := m_fr.rf.put ⟨rfl, Or.inr rfl⟩
  have h0 := h.sY hf0
  rw [cY_lay, eY_lay_0, C_meetingOf d h0 hw ha hb, bi_some]
  by_cases hr : f_r (fP F) a = f_r (fP F) b
  · obtain ⟨m, A, B, hm⟩ := f_md_ex hw.2.1 hw.1 hb a ha hr
    have hmn := f_a_lt hw.2.1 ha hm.mem.1
    obtain ⟨e1, e2⟩ := f_md_len hw.2.1 hm
    have hd1 := f_d_lt hw ha
    have hd2 := f_d_lt hw hb
    have hway := f_way_md hw.2.1 hm
    have hlen := (f_way_nd hw ha hb).2
    rw [hway] at hlen ⊢
    have hlen : A.length + 1 + B.length ≤ 24 := by
      rw [List.length_append, List.length_cons, List.length_reverse] at hlen
      omega
    rw [f_m_md hw.2.1 hm, eC_some, if_neg (q_ne1 (q24 hw.1 hmn)), C_depthOf (d + 1) h0 hw ha, bi_some, C_depthOf (d + 1) h0 hw hmn, bi_some, C_depthOf (d + 1) h0 hw hb, bi_some, C_depthOf (d + 1) h0 hw hmn, bi_some, pk_sub (by omega), pk_sub (by omega), show f_d (fP F) a - f_d (fP F) m = A.length by omega, show f_d (fP F) b - f_d (fP F) m = B.length by omega, nI_1, nI_add, if_neg (q_24lt hlen)]
    have hf1 : m_fr (sY w) g (am_put (am_put g 119 w 0) 119 w (nI (A.length + 1 + B.length))) := hf0.put ⟨rfl, Or.inr rfl⟩
    obtain ⟨r, er⟩ := f_a_hd (fP F) m
    have chA := f_a_ch hw.2.1 hw.1 a ha
    have chB := f_a_ch hw.2.1 hw.1 b hb
    rw [hm.1, er] at chA
    rw [hm.2.1, er] at chB
    obtain ⟨g1, k1, k2, k3, k4, k5⟩ := C_lay_up (i := i) (w := w) (am_call (d + 2)) hw (nI a) (nI b) (nI m) (nI B.length) (U := A.length) (T := A.length + 1 + B.length) (by omega) hlen (A ++ [m]) (99999 - 1 - (A ++ [m]).length) 0 _ (some a) (h.sY hf1) (m_put _ _ _ _ _) (by simp) (fun x hx => by
        rcases List.mem_append.mp hx with hx | hx
        · exact f_a_lt hw.2.1 ha (by rw [hm.1]; exact List.mem_append_left _ hx)
        · rw [List.mem_singleton] at hx; rw [hx]; exact hmn) (fun _ => by
        have := hm.1
        obtain ⟨ra, ea⟩ := f_a_hd (fP F) a
        rw [ea, er] at this
        cases A with
        | nil => rw [List.nil_append] at this; rw [(List.cons.inj this).1]; rfl
        | cons x A => rw [List.cons_append] at this; rw [(List.cons.inj this).1]; rfl) (fun W1 x y W2 e => by
        have : A ++ m :: r = W1 ++ x :: (y :: W2 ++ r) := by rw [show A ++ m :: r = (A ++ [m]) ++ r by simp, e]; simp
        rw [this] at chA
        exact p_ch_app W1 chA)
    have ek : 99999 - 1 - (A ++ [m]).length + 1 + (A ++ [m]).length = 99999 := by rw [List.length_append, List.length_singleton]; omega
    rw [ek] at k1
    have k1 : am_run (am_call (d + 2)) 74 99999 41 [some (.inr (.inr (16, w))), some (.inr (.inr (1, i))), some (.inl (nI a)), some (.inl (nI b)), some (.inl (nI m)), some (.inl (nI A.length)), some (.inl (nI B.length)), some (.inl (nI a)), some (.inl 0)] [] (am_put (am_put g 119 w 0) 119 w (nI (A.length + 1 + B.length))) = _ := k1
    rw [k1, q_n1, pk_sub (by omega), show A.length + 1 + B.length - 1 = A.length + B.length by omega]
    obtain ⟨g2, l1, l2, l3, l4, l5⟩ := C_lay_down (i := i) (w := w) (am_call (d + 2)) hw (nI a) (nI b) (nI m) (nI B.length) (U := A.length) B (99999 - 1 - (A ++ [m]).length - 1 - B.length) g1 (some b) (h.sY (hf1.tr k2)) (by omega) (fun x hx => f_a_lt hw.2.1 hb (by rw [hm.2.1]; exact List.mem_append_left _ hx)) (fun hne => by
        have := hm.2.1
        obtain ⟨rb, eb⟩ := f_a_hd (fP F) b
        rw [eb, er] at this
        cases B with
        | nil => exact absurd rfl hne
        | cons x B => rw [List.cons_append] at this; rw [(List.cons.inj this).1]; rfl) (fun W1 x y W2 e => by
        rw [e, List.append_assoc] at chB
        exact p_ch_app W1 chB)
    have el : 99999 - 1 - (A ++ [m]).length - 1 - B.length + 1 + B.length = 99999 - 1 - (A ++ [m]).length := by rw [List.length_append, List.length_singleton]; omega
    rw [el] at l1
    refine ⟨g2, l1, ⟨?_, fun k x hk => ?_⟩, (hf1.tr k2).tr l2⟩
    · rw [l3, k3, List.length_append, List.length_cons, List.length_reverse, show A.length + 1 + B.length = A.length + (B.length + 1) by omega]
    · rw [show A ++ m :: B.reverse = (A ++ [m]) ++ B.reverse by simp, List.getElem?_append] at hk
      have eAm : (A ++ [m]).length = A.length + 1 := by simp
      by_cases hlt : k < (A ++ [m]).length
      · rw [if_pos hlt] at hk
        have := k4 k x hk
        rw [Nat.zero_add] at this
        rw [l5 k (Or.inl (by omega)), this]
      · rw [if_neg hlt] at hk
        have := l4 _ x hk
        rw [eAm] at this
        rw [show k = A.length + 1 + (k - (A.length + 1)) by omega]
        exact this
  · rw [f_m_none hw.2.1 hw.1 ha hb hr, eC_none, if_pos rfl, f_way_none hw.2.1 hw.1 ha hb hr]
    exact ⟨_, rfl, ⟨m_put _ _ _ _ _, fun k x hk => by simp at hk⟩, hf0⟩
theorem f_lo_lk {par : Nat → Option Nat} {x y : Nat} (h : f_lk par x y) : f_lo par x y = some (f_lw par x y) := by
  unfold f_lo f_lw
  by_cases h1 : par x = some y
  · rw [if_pos h1, if_pos h1]
  · rw [if_neg h1, if_neg h1, if_pos (h.resolve_left h1)]
theorem f_lw_lt {n : Nat} {par : Nat → Option Nat} {x y : Nat} (hx : x < n) (hy : y < n) : f_lw par x y < n := by
  unfold f_lw
  split
  · exact hx
  · exact hy
theorem f_lw_ne {par : Nat → Option Nat} {x y : Nat} (h : f_lk par x y) : par (f_lw par x y) ≠ none := by
  unfold f_lw
  by_cases h1 : par x = some y
  · rw [if_pos h1, h1]; simp
  · rw [if_neg h1, h.resolve_left h1]; simp
theorem C_lowerOfLink (d : Nat) (h : rC g i F) (hw : f_wf F) {L : List Nat} (hY : rY g w L) (hL : ∀ x ∈ L, x < fN F) (hl : L.length ≤ 24) {k x y : Nat} (hx : L[k]? = some x) (hy : L[k + 1]? = some y) (hk : f_lk (fP F) x y) :
    am_call (d + 2) 75 [.inr (.inr (16, w)), .inr (.inr (1, i)), .inl (nI k)] g = some (some (.inl (nI (f_lw (fP F) x y))), g) := by
  have h1 : k + 1 < 24 := Nat.lt_of_lt_of_le (List.getElem?_eq_some_iff.mp hy).1 hl
  have hxn := hL x (List.mem_of_getElem? hx)
  have hyn := hL y (List.mem_of_getElem? hy)
  rw [cY_lowerOfLink, eY_lowerOfLink_0, nI_1, q_in (k := k) (n := 24) (by omega) (by omega), q_in (k := k + 1) (n := 24) (by omega) (by omega), cond_true, cond_true, nI_clamp (n := k) (by omega), nI_clamp (n := k + 1) (by omega), hY.2 k x hx, hY.2 (k + 1) y hy, C_lowerOf d h hw hxn hyn, bi_some, f_lo_lk hk, eC_some, if_neg (q_ne1 (q24 hw.1 (f_lw_lt hxn hyn)))]
theorem get2 {L : List Nat} {k : Nat} (h : k + 1 < L.length) : ∃ x y, L[k]? = some x ∧ L[k + 1]? = some y := ⟨_, _, List.getElem?_eq_getElem (by omega), List.getElem?_eq_getElem h⟩
theorem fo_sum (ws : List Nat) : ∀ (m t b : Nat), t + m = ws.length → fo (fun b t => b + ws.getD t 0) b t m = b + (ws.drop t).sum
  | 0, t, b, h => by
    rw [List.drop_eq_nil_of_le (by omega)]
    rfl
  | m + 1, t, b, h => by
    have ht : t < ws.length := by omega
    rw [fo, fo_sum ws m (t + 1) _ (by omega), List.drop_eq_getElem_cons ht, List.sum_cons, List.getD_eq_getElem?_getD, List.getElem?_eq_getElem ht]
    simp
    omega
theorem C_lengths (d : Nat) (h : rC g i F) (hw : f_wf F) {L : List Nat} (hY : rY g w L) (hL : ∀ x ∈ L, x < fN F) (hl : L.length ≤ 24) (hk : f_lks (fP F) L) :
    am_call (d + 3) 76 [.inr (.inr (16, w)), .inr (.inr (1, i))] g = some (some (.inl (nI (f_ws (fP F) (fL F) L).sum)), g) := by
  rw [cY_lengths, eY_lengths_0]
  have hwl := f_ws_len (fP F) (fL F) L
  have key := for_loop (fun k b t => am_run (am_call (d + 2)) 76 k 4 [some (.inr (.inr (16, w))), some (.inr (.inr (1, i))), some (.inl (nI b)), some (.inl (nI t))] [] g) (L.length - 1) (fun b t => b + (f_ws (fP F) (fL F) L).getD t 0) (fun b => some (some (.inl (nI b)), g)) (fun k b t ht => by
    obtain ⟨x, y, hx, hy⟩ := get2 (L := L) (k := t) (by omega)
    have hxy := f_lks_at hk hx hy
    have hlw := f_lw_lt (par := fP F) (hL x (List.mem_of_getElem? hx)) (hL y (List.mem_of_getElem? hy))
    rw [eY_lengths_4, hY.1, nI_1, if_neg (nI_ge (by omega) (by omega)), C_lowerOfLink d h hw hY hL hl hx hy hxy, bi_some, q_c24 hw.1 hlw, cond_true, nI_clamp (q24 hw.1 hlw), h.l hlw (f_lw_ne hxy), nI_add, List.getD_eq_getElem?_getD, f_ws_at hx hy]
    rfl) (fun k b => by
    rw [eY_lengths_4, hY.1, nI_1, if_pos (nI_le (by omega) (by omega))]) (L.length - 1) 0 0 99999 (by omega) (by omega)
  rw [fo_sum (f_ws (fP F) (fL F) L) _ 0 0 (by omega), Nat.zero_add, List.drop_zero] at key
  exact key
/-- sums of ints -/
def isum : List Int32 → Int32
  | [] => 0
  | x :: r => x + isum r
theorem fo_isum (ws : List Int32) : ∀ (m t : Nat) (b : Int32), t + m = ws.length → fo (fun b t => b + ws.getD t 0) b t m = b + isum (ws.drop t)
  | 0, t, b, h => by
    rw [List.drop_eq_nil_of_le (by omega)]
    exact (Int32.add_zero b).symm
  | m + 1, t, b, h => by
    have ht : t < ws.length := by omega
    rw [fo, fo_isum ws m (t + 1) _ (by omega), List.drop_eq_getElem_cons ht, isum, List.getD_eq_getElem?_getD, List.getElem?_eq_getElem ht, Int32.add_assoc]
    rfl
theorem C_values (d : Nat) (h : rC g i F) (hw : f_wf F) {L : List Nat} (hY : rY g w L) (hL : ∀ x ∈ L, x < fN F) (hl : L.length ≤ 24) :
    am_call (d + 1) 77 [.inr (.inr (16, w)), .inr (.inr (1, i))] g = some (some (.inl (isum (L.map (fV F)))), g) := by
  rw [cY_values, eY_values_0]
  have key := for_loop (fun k b t => am_run (am_call d) 77 k 4 [some (.inr (.inr (16, w))), some (.inr (.inr (1, i))), some (.inl b), some (.inl (nI t))] [] g) L.length (fun b t => b + (L.map (fV F)).getD t 0) (fun b => some (some (.inl b), g)) (fun k b t ht => by
    have hx : L[t]? = some L[t] := List.getElem?_eq_getElem ht
    have hxn := hL _ (List.mem_of_getElem? hx)
    rw [eY_values_4, hY.1, if_neg (nI_ge ht (by omega)), q_in (k := t) (n := 24) (by omega) (by omega), cond_true, nI_clamp (n := t) (by omega), hY.2 t _ hx, q_c24 hw.1 hxn, cond_true, nI_clamp (q24 hw.1 hxn), h.v hxn, nI_1, List.getD_eq_getElem?_getD, List.getElem?_map, hx]
    rfl) (fun k b => by
    rw [eY_values_4, hY.1, if_pos (nI_le (Nat.le_refl _) (by omega))]) L.length 0 0 99999 (by omega) (by omega)
  rw [fo_isum (L.map (fV F)) _ 0 0 (by simp), List.drop_zero, Int32.zero_add] at key
  exact key
/-- the first of the greatest: where, and it -/
def f_dx (ws : List Nat) : Option Nat × Nat := fo (fun b t => if ws.getD t 0 ≤ b.2 then b else (some t, ws.getD t 0)) (none, 0) 0 ws.length
theorem C_dearestLink (d : Nat) (h : rC g i F) (hw : f_wf F) {L : List Nat} (hY : rY g w L) (hL : ∀ x ∈ L, x < fN F) (hl : L.length ≤ 24) (hk : f_lks (fP F) L) :
    am_call (d + 3) 78 [.inr (.inr (16, w)), .inr (.inr (1, i))] g = some (some (.inl (eC (f_dx (f_ws (fP F) (fL F) L)).1)), g) := by
  rw [cY_dearestLink, eY_dearestLink_0]
  have hwl := f_ws_len (fP F) (fL F) L
  have key := for_inv (fun k (b : Option Nat × Nat) o t => am_run (am_call (d + 2)) 78 k 6 [some (.inr (.inr (16, w))), some (.inr (.inr (1, i))), some (.inl (eC b.1)), some (.inl (nI b.2)), some (.inl (nI t)), o] [] g) (L.length - 1) (fun b t => if (f_ws (fP F) (fL F) L).getD t 0 ≤ b.2 then b else (some t, (f_ws (fP F) (fL F) L).getD t 0)) (fun b => some (some (.inl (eC b.1)), g)) (fun b _ => b.2 ≤ 9999) (fun k b o t ht hb => by
    obtain ⟨x, y, hx, hy⟩ := get2 (L := L) (k := t) (by omega)
    have hxy := f_lks_at hk hx hy
    have hlw := f_lw_lt (par := fP F) (hL x (List.mem_of_getElem? hx)) (hL y (List.mem_of_getElem? hy))
    have hne := f_lw_ne hxy
    have hle := hw.2.2.2 _ hlw hne
    have egt : (f_ws (fP F) (fL F) L).getD t 0 = fL F (f_lw (fP F) x y) := by rw [List.getD_eq_getElem?_getD, f_ws_at hx hy]; rfl
    rw [egt]
    refine ⟨⟨some (.inl (nI (fL F (f_lw (fP F) x y)))), ?_⟩, ?_⟩
    · rw [eY_dearestLink_6, hY.1, nI_1, if_neg (nI_ge (by omega) (by omega)), C_lowerOfLink d h hw hY hL hl hx hy hxy, bi_some, q_c24 hw.1 hlw, cond_true, nI_clamp (q24 hw.1 hlw), h.l hlw hne]
      by_cases e : fL F (f_lw (fP F) x y) ≤ b.2
      · rw [if_pos (nI_le e (by omega)), if_pos e]
      · rw [if_neg (nI_ge (by omega) (by omega)), if_neg e]; rfl
    · split
      · exact hb
      · exact hle.2.1) (fun k b o _ => by
    rw [eY_dearestLink_6, hY.1, nI_1, if_pos (nI_le (by omega) (by omega))]) (m := L.length - 1) (t := 0) (b := (none, 0)) (o := none) (k := 99999) (by omega) (by omega) (Nat.zero_le _)
  refine key.1.trans ?_
  unfold f_dx
  rw [hwl]
end RC
end
section
/-! ===== ways, on ===== -/
/-- between two bounds -/
def isW (x lo hi : Int32) : Prop := lo ≤ x ∧ x ≤ hi
theorem isW_iff (x lo hi : Int32) : isW x lo hi ↔ lo.toInt ≤ x.toInt ∧ x.toInt ≤ hi.toInt := by
  unfold isW
  rw [q_le, q_le]
theorem C_isWithin_t (d : Nat) (g : am_G) {x lo hi : Int32} (h : isW x lo hi) : am_call (d + 1) 127 [.inl x, .inl lo, .inl hi] g = some (some (.inl 1), g) := by
  rw [isW_iff] at h
  rw [cC_isWithin, eC_isWithin_0, if_neg (by rw [q_lt]; omega), if_neg (by rw [q_lt]; omega)]
theorem C_isWithin_f (d : Nat) (g : am_G) {x lo hi : Int32} (h : ¬ isW x lo hi) : am_call (d + 1) 127 [.inl x, .inl lo, .inl hi] g = some (some (.inl 0), g) := by
  rw [isW_iff] at h
  rw [cC_isWithin, eC_isWithin_0]
  by_cases h1 : x < lo
  · rw [if_pos h1]
  · rw [if_neg h1, if_pos]
    rw [q_lt] at h1 ⊢
    omega
/-- the least of a row; of none nothing -/
def f_mn (ws : List Nat) : Option Nat := fo (fun b t => match b with
  | none => some (ws.getD t 0)
  | some c => if c ≤ ws.getD t 0 then some c else some (ws.getD t 0)) none 0 ws.length
section RC
variable {g : am_G} {i w : Nat} {F : fF}
theorem f_dx_lt (ws : List Nat) : ∀ k, (f_dx ws).1 = some k → k < ws.length ∧ ws[k]? = some (f_dx ws).2 := by
  have key : ∀ (m t : Nat) (b : Option Nat × Nat), t + m = ws.length → (∀ k, b.1 = some k → k < ws.length ∧ ws[k]? = some b.2) → ∀ k, (fo (fun (b : Option Nat × Nat) t => if ws.getD t 0 ≤ b.2 then b else (some t, ws.getD t 0)) b t m).1 = some k → k < ws.length ∧ ws[k]? = some (fo (fun (b : Option Nat × Nat) t => if ws.getD t 0 ≤ b.2 then b else (some t, ws.getD t 0)) b t m).2 := by
    intro m
    induction m with
    | zero => intro t b _ hb k hk; exact hb k hk
    | succ m ih =>
      intro t b ht hb k hk
      rw [fo] at hk ⊢
      refine ih (t + 1) _ (by omega) ?_ k hk
      intro j hj
      split at hj
      · rename_i hc; rw [if_pos hc]; exact hb j hj
      · rename_i hc
        rw [if_neg hc]
        cases hj
        exact ⟨by omega, by rw [List.getD_eq_getElem?_getD, List.getElem?_eq_getElem (by omega)]; rfl⟩
  exact key ws.length 0 (none, 0) (by omega) (fun k hk => by cases hk)
theorem C_dearestLength (d : Nat) (h : rC g i F) (hw : f_wf F) {L : List Nat} (hY : rY g w L) (hL : ∀ x ∈ L, x < fN F) (hl : L.length ≤ 24) (hk : f_lks (fP F) L) :
    am_call (d + 4) 79 [.inr (.inr (16, w)), .inr (.inr (1, i))] g = some (some (.inl (eM ((f_dx (f_ws (fP F) (fL F) L)).1.map (fun _ => (f_dx (f_ws (fP F) (fL F) L)).2)))), g) := by
  have hwl := f_ws_len (fP F) (fL F) L
  rw [cY_dearestLength, eY_dearestLength_0, C_dearestLink d h hw hY hL hl hk, bi_some]
  cases e : (f_dx (f_ws (fP F) (fL F) L)).1 with
  | none => rw [eC_none, if_pos rfl]; rfl
  | some k =>
    obtain ⟨h1, h2⟩ := f_dx_lt _ k e
    obtain ⟨x, y, hx, hy⟩ := get2 (L := L) (k := k) (by omega)
    have hxy := f_lks_at hk hx hy
    have hlw := f_lw_lt (par := fP F) (hL x (List.mem_of_getElem? hx)) (hL y (List.mem_of_getElem? hy))
    rw [f_ws_at hx hy] at h2
    rw [eC_some, if_neg (q_ne1 (by omega)), C_lowerOfLink (d + 1) h hw hY hL hl hx hy hxy, bi_some, q_c24 hw.1 hlw, cond_true, nI_clamp (q24 hw.1 hlw), h.l hlw (f_lw_ne hxy), Option.some.inj h2]
    rfl
/-- the dearest link of a row is cut -/
def f_cutd (F : fF) (L : List Nat) : fF := match (f_dx (f_ws (fP F) (fL F) L)).1 with
  | none => F
  | some k => f_cut F (L.getD k 0) (L.getD (k + 1) 0)
theorem wf_cutd (hw : f_wf F) {L : List Nat} (hL : ∀ x ∈ L, x < fN F) (hk : f_lks (fP F) L) : f_wf (f_cutd F L) ∧ fN (f_cutd F L) = fN F := by
  have hwl := f_ws_len (fP F) (fL F) L
  unfold f_cutd
  cases e : (f_dx (f_ws (fP F) (fL F) L)).1 with
  | none => exact ⟨hw, rfl⟩
  | some k =>
    obtain ⟨h1, h2⟩ := f_dx_lt _ k e
    obtain ⟨x, y, hx, hy⟩ := get2 (L := L) (k := k) (by omega)
    have hxy := f_lks_at hk hx hy
    dsimp only
    rw [List.getD_eq_getElem?_getD, List.getD_eq_getElem?_getD, hx, hy]
    exact ⟨wf_cut hw (hL x (List.mem_of_getElem? hx)) (hL y (List.mem_of_getElem? hy)) hxy, wk_N (a := x) (b := y)⟩
theorem C_cutDearestLink (d : Nat) (h : rC g i F) (hw : f_wf F) {L : List Nat} (hY : rY g w L) (hL : ∀ x ∈ L, x < fN F) (hl : L.length ≤ 24) (hk : f_lks (fP F) L) :
    ∃ g', am_call (d + 5) 80 [.inr (.inr (16, w)), .inr (.inr (1, i))] g = some (none, g') ∧ rC g' i (f_cutd F L) ∧ m_fr (sF i) g g' := by
  have hwl := f_ws_len (fP F) (fL F) L
  rw [cY_cutDearestLink, eY_cutDearestLink_0, C_dearestLink (d + 1) h hw hY hL hl hk, bi_some]
  unfold f_cutd
  cases e : (f_dx (f_ws (fP F) (fL F) L)).1 with
  | none => rw [eC_none, if_pos rfl]; exact ⟨g, rfl, h, m_fr.rf⟩
  | some k =>
    obtain ⟨h1, h2⟩ := f_dx_lt _ k e
    obtain ⟨x, y, hx, hy⟩ := get2 (L := L) (k := k) (by omega)
    have hxn := hL x (List.mem_of_getElem? hx)
    have hyn := hL y (List.mem_of_getElem? hy)
    dsimp only
    rw [eC_some, if_neg (q_ne1 (by omega)), nI_1, q_in (k := k) (n := 24) (by omega) (by omega), q_in (k := k + 1) (n := 24) (by omega) (by omega), cond_true, cond_true, nI_clamp (n := k) (by omega), nI_clamp (n := k + 1) (by omega), hY.2 k x hx, hY.2 (k + 1) y hy, List.getD_eq_getElem?_getD, List.getD_eq_getElem?_getD, hx, hy]
    obtain ⟨g', k1, k2, k3⟩ := C_cutBetween d h hw hxn hyn
    rw [k1, bv_some]
    exact ⟨g', rfl, k2, k3⟩
theorem C_leastOf_5 (d : Nat) (h : rC g i F) (hw : f_wf F) {L : List Nat} (hY : rY g w L) (hL : ∀ x ∈ L, x < fN F) (hl : L.length ≤ 24) (hk : f_lks (fP F) L) :
    am_call (d + 3) 81 [.inr (.inr (16, w)), .inr (.inr (1, i)), .inr (.inr (5, i))] g = some (some (.inl (eM (f_mn (f_ws (fP F) (fC F) L)))), g) := by
  rw [cY_leastOf_5, eY_leastOf_5_0]
  have hwl := f_ws_len (fP F) (fC F) L
  have key := for_inv (fun k (b : Option Nat) o t => am_run (am_call (d + 2)) 81 k 4 [some (.inr (.inr (16, w))), some (.inr (.inr (1, i))), some (.inr (.inr (5, i))), some (.inl (eM b)), some (.inl (nI t)), o] [] g) (L.length - 1) (fun b t => match b with
      | none => some ((f_ws (fP F) (fC F) L).getD t 0)
      | some c => if c ≤ (f_ws (fP F) (fC F) L).getD t 0 then some c else some ((f_ws (fP F) (fC F) L).getD t 0)) (fun b => some (some (.inl (eM b)), g)) (fun b t => (t = 0 ↔ b = none) ∧ ∀ c, b = some c → c ≤ 9999) (fun k b o t ht hb => by
    obtain ⟨x, y, hx, hy⟩ := get2 (L := L) (k := t) (by omega)
    have hxy := f_lks_at hk hx hy
    have hlw := f_lw_lt (par := fP F) (hL x (List.mem_of_getElem? hx)) (hL y (List.mem_of_getElem? hy))
    have hne := f_lw_ne hxy
    have hle := hw.2.2.2 _ hlw hne
    have egt : (f_ws (fP F) (fC F) L).getD t 0 = fC F (f_lw (fP F) x y) := by rw [List.getD_eq_getElem?_getD, f_ws_at hx hy]; rfl
    rw [egt]
    refine ⟨⟨some (.inl (nI (fC F (f_lw (fP F) x y)))), ?_⟩, ?_⟩
    · rw [eY_leastOf_5_4, hY.1, nI_1, if_neg (nI_ge (by omega) (by omega)), C_lowerOfLink d h hw hY hL hl hx hy hxy, bi_some, q_c24 hw.1 hlw, cond_true, nI_clamp (q24 hw.1 hlw), h.c hlw hne]
      cases b with
      | none =>
        have := hb.1.mpr rfl
        subst this
        rw [if_pos nI_0]; rfl
      | some c =>
        have ht0 : t ≠ 0 := fun e => by have := hb.1.mp e; cases this
        have hc := hb.2 c rfl
        rw [if_neg (nI_ne0 (by omega) (by omega)), eM_some]
        dsimp only
        by_cases e : c ≤ fC F (f_lw (fP F) x y)
        · rw [if_pos (nI_le e (by omega)), if_pos e]; rfl
        · rw [if_neg (nI_ge (by omega) (by omega)), if_neg e]; rfl
    · refine ⟨⟨fun e => by omega, fun e => ?_⟩, fun c hc => ?_⟩
      · cases b with
        | none => cases e
        | some c => dsimp only at e; split at e <;> cases e
      · cases b with
        | none => cases hc; exact hle.2.2
        | some c' =>
          dsimp only at hc
          split at hc
          · cases hc; exact hb.2 _ rfl
          · cases hc; exact hle.2.2) (fun k b o _ => by
    rw [eY_leastOf_5_4, hY.1, nI_1, if_pos (nI_le (by omega) (by omega))]) (m := L.length - 1) (t := 0) (b := none) (o := none) (k := 99999) (by omega) (by omega) ⟨by simp, fun c hc => by cases hc⟩
  refine key.1.trans ?_
  unfold f_mn
  rw [hwl]
theorem C_leastOf_4 (d : Nat) (h : rC g i F) (hw : f_wf F) {L : List Nat} (hY : rY g w L) (hL : ∀ x ∈ L, x < fN F) (hl : L.length ≤ 24) (hk : f_lks (fP F) L) :
    am_call (d + 3) 81 [.inr (.inr (16, w)), .inr (.inr (1, i)), .inr (.inr (4, i))] g = some (some (.inl (eM (f_mn (f_ws (fP F) (fL F) L)))), g) := by
  rw [cY_leastOf_4, eY_leastOf_4_0]
  have hwl := f_ws_len (fP F) (fL F) L
  have key := for_inv (fun k (b : Option Nat) o t => am_run (am_call (d + 2)) 81 k 4 [some (.inr (.inr (16, w))), some (.inr (.inr (1, i))), some (.inr (.inr (4, i))), some (.inl (eM b)), some (.inl (nI t)), o] [] g) (L.length - 1) (fun b t => match b with
      | none => some ((f_ws (fP F) (fL F) L).getD t 0)
      | some c => if c ≤ (f_ws (fP F) (fL F) L).getD t 0 then some c else some ((f_ws (fP F) (fL F) L).getD t 0)) (fun b => some (some (.inl (eM b)), g)) (fun b t => (t = 0 ↔ b = none) ∧ ∀ c, b = some c → c ≤ 9999) (fun k b o t ht hb => by
    obtain ⟨x, y, hx, hy⟩ := get2 (L := L) (k := t) (by omega)
    have hxy := f_lks_at hk hx hy
    have hlw := f_lw_lt (par := fP F) (hL x (List.mem_of_getElem? hx)) (hL y (List.mem_of_getElem? hy))
    have hne := f_lw_ne hxy
    have hle := hw.2.2.2 _ hlw hne
    have egt : (f_ws (fP F) (fL F) L).getD t 0 = fL F (f_lw (fP F) x y) := by rw [List.getD_eq_getElem?_getD, f_ws_at hx hy]; rfl
    rw [egt]
    refine ⟨⟨some (.inl (nI (fL F (f_lw (fP F) x y)))), ?_⟩, ?_⟩
    · rw [eY_leastOf_4_4, hY.1, nI_1, if_neg (nI_ge (by omega) (by omega)), C_lowerOfLink d h hw hY hL hl hx hy hxy, bi_some, q_c24 hw.1 hlw, cond_true, nI_clamp (q24 hw.1 hlw), h.l hlw hne]
      cases b with
      | none =>
        have := hb.1.mpr rfl
        subst this
        rw [if_pos nI_0]; rfl
      | some c =>
        have ht0 : t ≠ 0 := fun e => by have := hb.1.mp e; cases this
        have hc := hb.2 c rfl
        rw [if_neg (nI_ne0 (by omega) (by omega)), eM_some]
        dsimp only
        by_cases e : c ≤ fL F (f_lw (fP F) x y)
        · rw [if_pos (nI_le e (by omega)), if_pos e]; rfl
        · rw [if_neg (nI_ge (by omega) (by omega)), if_neg e]; rfl
    · refine ⟨⟨fun e => by omega, fun e => ?_⟩, fun c hc => ?_⟩
      · cases b with
        | none => cases e
        | some c => dsimp only at e; split at e <;> cases e
      · cases b with
        | none => cases hc; exact hle.2.1
        | some c' =>
          dsimp only at hc
          split at hc
          · cases hc; exact hb.2 _ rfl
          · cases hc; exact hle.2.1) (fun k b o _ => by
    rw [eY_leastOf_4_4, hY.1, nI_1, if_pos (nI_le (by omega) (by omega))]) (m := L.length - 1) (t := 0) (b := none) (o := none) (k := 99999) (by omega) (by omega) ⟨by simp, fun c hc => by cases hc⟩
  refine key.1.trans ?_
  unfold f_mn
  rw [hwl]
end RC
end
section
/-! ===== ways: all of its links at once ===== -/
/-- an int as an Int: x more than l, between two bounds -/
theorem q_addInt {l : Nat} {x : Int32} (hl : l ≤ 9999) (hx : -9999 ≤ x.toInt ∧ x.toInt ≤ 9999) : (nI l + x).toInt = (l : Int) + x.toInt := by
  rw [fb_addI (by rw [nI_toInt (by omega)]; omega) (by rw [nI_toInt (by omega)]; omega), nI_toInt (by omega)]
theorem q_9999 : (9999 : Int32).toInt = 9999 := by decide
theorem q_m9999 : (-9999 : Int32).toInt = -9999 := by decide
/-- all of a row, x more, are lo .. 9999 -/
def f_kw (ws : List Nat) (x lo : Int) : Bool := ws.all (fun l => decide (lo ≤ (l : Int) + x ∧ (l : Int) + x ≤ 9999))
theorem ff_none {p : Nat → Bool} : ∀ {m t : Nat}, ff p t m = none → ∀ j, t ≤ j → j < t + m → p j = false
  | 0, _, _, j, h1, h2 => by omega
  | m + 1, t, h, j, h1, h2 => by
    rw [ff] at h
    by_cases hp : p t = true
    · rw [if_pos hp] at h; cases h
    · rw [if_neg hp] at h
      by_cases e : j = t
      · rw [e]; simpa using hp
      · exact ff_none h j (by omega) (by omega)
theorem f_kw_ff (ws : List Nat) (x lo : Int) (p : Nat → Bool) (hp : ∀ t l : Nat, ws[t]? = some l → (p t = true ↔ ¬ (lo ≤ (l : Int) + x ∧ (l : Int) + x ≤ 9999))) : (ff p 0 ws.length = none ↔ f_kw ws x lo = true) := by
  unfold f_kw
  rw [List.all_eq_true]
  constructor
  · intro h l hl
    obtain ⟨t, ht⟩ := List.getElem?_of_mem hl
    have hlt := (List.getElem?_eq_some_iff.mp ht).1
    have h1 := ff_none h t (Nat.zero_le _) (by omega)
    have h2 := hp t l ht
    rw [h1] at h2
    simp only [Bool.false_eq_true, false_iff, Classical.not_not] at h2
    exact decide_eq_true h2
  · intro h
    cases e : ff p 0 ws.length with
    | none => rfl
    | some t =>
      obtain ⟨-, h2, h3⟩ := ff_lt e
      have ht : ws[t]? = some (ws[t]'(by omega)) := List.getElem?_eq_getElem (by omega)
      exact absurd (of_decide_eq_true (h _ (List.mem_of_getElem? ht))) ((hp t _ ht).mp h3)
section RC
variable {g : am_G} {i w : Nat} {F : fF}
theorem C_keepsWithin_4 (d : Nat) (h : rC g i F) (hw : f_wf F) {L : List Nat} (hY : rY g w L) (hL : ∀ x ∈ L, x < fN F) (hl : L.length ≤ 24) (hk : f_lks (fP F) L) {x lo : Int32} (hx : -9999 ≤ x.toInt ∧ x.toInt ≤ 9999) :
    am_call (d + 3) 82 [.inr (.inr (16, w)), .inr (.inr (1, i)), .inr (.inr (4, i)), .inl x, .inl lo] g = some (some (.inl (if f_kw (f_ws (fP F) (fL F) L) x.toInt lo.toInt = true then 1 else 0)), g) := by
  rw [cY_keepsWithin_4, eY_keepsWithin_4_0]
  have hwl := f_ws_len (fP F) (fL F) L
  have key := for_find (fun k t => am_run (am_call (d + 2)) 82 k 2 [some (.inr (.inr (16, w))), some (.inr (.inr (1, i))), some (.inr (.inr (4, i))), some (.inl x), some (.inl lo), some (.inl (nI t))] [] g) (L.length - 1) (fun t => !(decide (lo.toInt ≤ ((f_ws (fP F) (fL F) L).getD t 0 : Int) + x.toInt ∧ ((f_ws (fP F) (fL F) L).getD t 0 : Int) + x.toInt ≤ 9999))) (fun _ => some (some (.inl 0), g)) (some (some (.inl 1), g)) (fun k t ht => by
    obtain ⟨a, b, ha, hb⟩ := get2 (L := L) (k := t) (by omega)
    have hxy := f_lks_at hk ha hb
    have hlw := f_lw_lt (par := fP F) (hL a (List.mem_of_getElem? ha)) (hL b (List.mem_of_getElem? hb))
    have hne := f_lw_ne hxy
    have hle := hw.2.2.2 _ hlw hne
    have egt : (f_ws (fP F) (fL F) L).getD t 0 = fL F (f_lw (fP F) a b) := by rw [List.getD_eq_getElem?_getD, f_ws_at ha hb]; rfl
    have e1 := q_addInt hle.2.1 hx
    rw [egt, eY_keepsWithin_4_2, hY.1, nI_1, if_neg (nI_ge (by omega) (by omega)), C_lowerOfLink d h hw hY hL hl ha hb hxy, bi_some, q_c24 hw.1 hlw, cond_true, nI_clamp (q24 hw.1 hlw), h.l hlw hne]
    by_cases e : isW (nI (fL F (f_lw (fP F) a b)) + x) lo 9999
    · rw [C_isWithin_t (d + 1) g e, bi_some, if_neg (by decide)]
      rw [isW_iff, e1, q_9999] at e
      rw [if_neg (by simp [e.1, e.2])]
    · rw [C_isWithin_f (d + 1) g e, bi_some, if_pos rfl]
      rw [isW_iff, e1, q_9999] at e
      rw [if_pos (by rw [decide_eq_false e]; rfl)]) (fun k => by
    rw [eY_keepsWithin_4_2, hY.1, nI_1, if_pos (nI_le (by omega) (by omega))]) (L.length - 1) 0 99999 (by omega) (by omega)
  refine key.trans ?_
  have hff := f_kw_ff (f_ws (fP F) (fL F) L) x.toInt lo.toInt (fun t => !(decide (lo.toInt ≤ ((f_ws (fP F) (fL F) L).getD t 0 : Int) + x.toInt ∧ ((f_ws (fP F) (fL F) L).getD t 0 : Int) + x.toInt ≤ 9999))) (fun t l hl => by
    rw [List.getD_eq_getElem?_getD, hl]
    simp
    omega)
  rw [hwl] at hff
  by_cases e : f_kw (f_ws (fP F) (fL F) L) x.toInt lo.toInt = true
  · rw [if_pos e, hff.mpr e]
  · rw [if_neg e]
    split
    · rename_i h1; exact absurd (hff.mp h1) e
    · rfl
theorem C_keepsWithin_5 (d : Nat) (h : rC g i F) (hw : f_wf F) {L : List Nat} (hY : rY g w L) (hL : ∀ x ∈ L, x < fN F) (hl : L.length ≤ 24) (hk : f_lks (fP F) L) {x lo : Int32} (hx : -9999 ≤ x.toInt ∧ x.toInt ≤ 9999) :
    am_call (d + 3) 82 [.inr (.inr (16, w)), .inr (.inr (1, i)), .inr (.inr (5, i)), .inl x, .inl lo] g = some (some (.inl (if f_kw (f_ws (fP F) (fC F) L) x.toInt lo.toInt = true then 1 else 0)), g) := by
  rw [cY_keepsWithin_5, eY_keepsWithin_5_0]
  have hwl := f_ws_len (fP F) (fC F) L
  have key := for_find (fun k t => am_run (am_call (d + 2)) 82 k 2 [some (.inr (.inr (16, w))), some (.inr (.inr (1, i))), some (.inr (.inr (5, i))), some (.inl x), some (.inl lo), some (.inl (nI t))] [] g) (L.length - 1) (fun t => !(decide (lo.toInt ≤ ((f_ws (fP F) (fC F) L).getD t 0 : Int) + x.toInt ∧ ((f_ws (fP F) (fC F) L).getD t 0 : Int) + x.toInt ≤ 9999))) (fun _ => some (some (.inl 0), g)) (some (some (.inl 1), g)) (fun k t ht => by
    obtain ⟨a, b, ha, hb⟩ := get2 (L := L) (k := t) (by omega)
    have hxy := f_lks_at hk ha hb
    have hlw := f_lw_lt (par := fP F) (hL a (List.mem_of_getElem? ha)) (hL b (List.mem_of_getElem? hb))
    have hne := f_lw_ne hxy
    have hle := hw.2.2.2 _ hlw hne
    have egt : (f_ws (fP F) (fC F) L).getD t 0 = fC F (f_lw (fP F) a b) := by rw [List.getD_eq_getElem?_getD, f_ws_at ha hb]; rfl
    have e1 := q_addInt hle.2.2 hx
    rw [egt, eY_keepsWithin_5_2, hY.1, nI_1, if_neg (nI_ge (by omega) (by omega)), C_lowerOfLink d h hw hY hL hl ha hb hxy, bi_some, q_c24 hw.1 hlw, cond_true, nI_clamp (q24 hw.1 hlw), h.c hlw hne]
    by_cases e : isW (nI (fC F (f_lw (fP F) a b)) + x) lo 9999
    · rw [C_isWithin_t (d + 1) g e, bi_some, if_neg (by decide)]
      rw [isW_iff, e1, q_9999] at e
      rw [if_neg (by simp [e.1, e.2])]
    · rw [C_isWithin_f (d + 1) g e, bi_some, if_pos rfl]
      rw [isW_iff, e1, q_9999] at e
      rw [if_pos (by rw [decide_eq_false e]; rfl)]) (fun k => by
    rw [eY_keepsWithin_5_2, hY.1, nI_1, if_pos (nI_le (by omega) (by omega))]) (L.length - 1) 0 99999 (by omega) (by omega)
  refine key.trans ?_
  have hff := f_kw_ff (f_ws (fP F) (fC F) L) x.toInt lo.toInt (fun t => !(decide (lo.toInt ≤ ((f_ws (fP F) (fC F) L).getD t 0 : Int) + x.toInt ∧ ((f_ws (fP F) (fC F) L).getD t 0 : Int) + x.toInt ≤ 9999))) (fun t l hl => by
    rw [List.getD_eq_getElem?_getD, hl]
    simp
    omega)
  rw [hwl] at hff
  by_cases e : f_kw (f_ws (fP F) (fC F) L) x.toInt lo.toInt = true
  · rw [if_pos e, hff.mpr e]
  · rw [if_neg e]
    split
    · rename_i h1; exact absurd (hff.mp h1) e
    · rfl
end RC
end
section
/-! ===== ways: all of its links longer, with less room ===== -/
def f_upd (f : Nat → Nat) (L : List Nat) (x : Int) : Nat → Nat := fun z => if z ∈ L then ((f z : Int) + x).toNat else f z

def f_wL (F : fF) (v : Nat → Nat) : fF := (fN F, fP F, fQ F, v, fC F, fV F, fS F)
theorem rC.f_wL {g : am_G} {i : Nat} {F : fF} {v v' : Nat → Nat} (h : rC g i (f_wL F v)) {y l : Nat} (hv : ∀ z, v' z = if z = y then l else v z) : rC (am_sto g 4 i y (nI l)) i (f_wL F v') := by
  refine ⟨h.1, h.2.1, fun t ht => ?_⟩
  obtain ⟨h1, h2, h3, h4⟩ := h.2.2 t ht
  refine ⟨h1, h2, fun hp => ?_, h4⟩
  obtain ⟨h5, h6⟩ := h3 hp
  have e4 : am_sto g 4 i y (nI l) 4 i t = nI (v' t) := by
    rw [m_sto, hv t]
    split
    · rfl
    · exact h5
  exact ⟨e4, h6⟩
theorem C_addToAll_4 {g : am_G} {i w : Nat} {F : fF} (d : Nat) (h : rC g i F) (hw : f_wf F) {L : List Nat} (hY : rY g w L) (hL : ∀ x ∈ L, x < fN F) (hl : L.length ≤ 24) (hnd : L.Nodup) (hup : ∀ (k x y : Nat), L[k]? = some x → L[k + 1]? = some y → fP F y = some x) {x : Int32} (hx : -9999 ≤ x.toInt ∧ x.toInt ≤ 9999) (hin : ∀ z ∈ L.tail, 1 ≤ (fL F z : Int) + x.toInt ∧ (fL F z : Int) + x.toInt ≤ 9999) :
    ∃ g', am_call (d + 3) 83 [.inr (.inr (16, w)), .inr (.inr (1, i)), .inr (.inr (4, i)), .inl x] g = some (none, g') ∧ rC g' i (f_wL F (f_upd (fL F) L.tail x.toInt)) ∧ m_fr (sF i) g g' := by
  rw [cY_addToAll_4, eY_addToAll_4_0]
  have hW : ∀ t, f_wf (f_wL F (f_upd (fL F) (L.tail.take t) x.toInt)) := fun t => by
    refine ⟨hw.1, hw.2.1, hw.2.2.1, fun z hz hp => ?_⟩
    obtain ⟨k1, k2, k3⟩ := hw.2.2.2 z hz hp
    have key : 1 ≤ f_upd (fL F) (L.tail.take t) x.toInt z ∧ f_upd (fL F) (L.tail.take t) x.toInt z ≤ 9999 := by
      unfold f_upd
      split
      · rename_i hzin
        have := hin z (List.mem_of_mem_take hzin)
        omega
      · exact ⟨k1, k2⟩
    exact ⟨key.1, key.2, k3⟩
  obtain ⟨g', h1, h2, h3⟩ := for_mem (fun k (_ : Unit) g (_ : Option am_V) t => am_run (am_call (d + 2)) 83 k 2 [some (.inr (.inr (16, w))), some (.inr (.inr (1, i))), some (.inr (.inr (4, i))), some (.inl x), some (.inl (nI t))] [] g) (L.length - 1) (fun b _ => b) (fun _ g => some (none, g)) (fun _ g' t => rC g' i (f_wL F (f_upd (fL F) (L.tail.take t) x.toInt)) ∧ m_fr (sF i) g g') (fun k b g0 o t ht hi => by
    obtain ⟨k1, k2⟩ := hi
    have hY0 : rY g0 w L := hY.sF k2
    obtain ⟨a, y, ha, hy⟩ := get2 (L := L) (k := t) (by omega)
    have hpy := hup t a y ha hy
    have han := hL a (List.mem_of_getElem? ha)
    have hyn := hL y (List.mem_of_getElem? hy)
    have hlk : f_lk (fP F) a y := Or.inr hpy
    have hlw : f_lw (fP F) a y = y := by
      unfold f_lw
      rw [if_neg (fun q => ?_)]
      obtain ⟨-, dd, hdd⟩ := hw.2.1
      have z1 := hdd y a hyn hpy
      have z2 := hdd a y han q
      omega
    have hyt : L.tail[t]? = some y := by rw [List.getElem?_tail]; exact hy
    have hnt : y ∉ L.tail.take t := fun hmem => by
      obtain ⟨j, hj⟩ := List.getElem?_of_mem hmem
      have hjl := (List.getElem?_eq_some_iff.mp hj).1
      rw [List.length_take] at hjl
      rw [List.getElem?_take] at hj
      have hjt : j < t := by omega
      rw [if_pos hjt, List.getElem?_tail] at hj
      have := (List.getElem?_inj (i := j + 1) (j := t + 1) (by have := (List.getElem?_eq_some_iff.mp hj).1; exact this) hnd).mp (hj.trans hy.symm)
      omega
    have hval : f_upd (fL F) (L.tail.take t) x.toInt y = fL F y := by unfold f_upd; rw [if_neg hnt]
    have hle := hw.2.2.2 y hyn (by rw [hpy]; simp)
    have hiny := hin y (List.mem_of_getElem? hyt)
    have hn0 : g0 119 w 0 = nI L.length := hY0.1
    have hlow : am_call (d + 2) 75 [.inr (.inr (16, w)), .inr (.inr (1, i)), .inl (nI t)] g0 = some (some (.inl (nI (f_lw (fP F) a y))), g0) := C_lowerOfLink d k1 (hW t) hY0 hL hl ha hy hlk
    have hgv : g0 4 i y = nI (fL F y) := by
      rw [← hval]
      exact k1.l hyn (by show fP F y ≠ none; rw [hpy]; simp)
    have hnew : nI (fL F y) + x = nI (((fL F y : Int) + x.toInt).toNat) := by
      rw [q_eq, q_addInt (by omega) hx, nI_toInt (by omega)]
      omega
    refine ⟨am_sto g0 4 i y (nI (((fL F y : Int) + x.toInt).toNat)), none, ?_, ?_, k2.sto (sF_in (by omega))⟩
    · rw [eY_addToAll_4_2, hn0, nI_1, if_neg (nI_ge (by omega) (by omega)), hlow, bi_some, hlw, q_c24 hw.1 hyn, cond_true, cond_true, nI_clamp (q24 hw.1 hyn), hgv, hnew]
    · refine k1.f_wL (fun z => ?_)
      unfold f_upd
      rw [List.take_add_one, hyt]
      by_cases ez : z = y
      · subst ez
        rw [if_pos (by simp), if_pos rfl]
      · rw [if_neg ez]
        simp [ez]) (fun k b g0 o hi => by
    have hn0 : g0 119 w 0 = nI L.length := (hY.sF hi.2).1
    rw [eY_addToAll_4_2, hn0, nI_1, if_pos (nI_le (by omega) (by omega))]) (L.length - 1) 0 () g none 99999 (by omega) (by omega) ⟨by
      have e0 : f_upd (fL F) (L.tail.take 0) x.toInt = fL F := funext fun z => by unfold f_upd; simp
      rw [e0]
      exact h, m_fr.rf⟩
  refine ⟨g', h1, ?_, h3⟩
  rw [List.take_of_length_le (by rw [List.length_tail]; exact Nat.le_refl _)] at h2
  exact h2

def f_wC (F : fF) (v : Nat → Nat) : fF := (fN F, fP F, fQ F, fL F, v, fV F, fS F)
theorem rC.f_wC {g : am_G} {i : Nat} {F : fF} {v v' : Nat → Nat} (h : rC g i (f_wC F v)) {y l : Nat} (hv : ∀ z, v' z = if z = y then l else v z) : rC (am_sto g 5 i y (nI l)) i (f_wC F v') := by
  refine ⟨h.1, h.2.1, fun t ht => ?_⟩
  obtain ⟨h1, h2, h3, h4⟩ := h.2.2 t ht
  refine ⟨h1, h2, fun hp => ?_, h4⟩
  obtain ⟨h5, h6⟩ := h3 hp
  have e4 : am_sto g 5 i y (nI l) 5 i t = nI (v' t) := by
    rw [m_sto, hv t]
    split
    · rfl
    · exact h6
  exact ⟨h5, e4⟩
theorem C_addToAll_5 {g : am_G} {i w : Nat} {F : fF} (d : Nat) (h : rC g i F) (hw : f_wf F) {L : List Nat} (hY : rY g w L) (hL : ∀ x ∈ L, x < fN F) (hl : L.length ≤ 24) (hnd : L.Nodup) (hup : ∀ (k x y : Nat), L[k]? = some x → L[k + 1]? = some y → fP F y = some x) {x : Int32} (hx : -9999 ≤ x.toInt ∧ x.toInt ≤ 9999) (hin : ∀ z ∈ L.tail, 0 ≤ (fC F z : Int) + x.toInt ∧ (fC F z : Int) + x.toInt ≤ 9999) :
    ∃ g', am_call (d + 3) 83 [.inr (.inr (16, w)), .inr (.inr (1, i)), .inr (.inr (5, i)), .inl x] g = some (none, g') ∧ rC g' i (f_wC F (f_upd (fC F) L.tail x.toInt)) ∧ m_fr (sF i) g g' := by
  rw [cY_addToAll_5, eY_addToAll_5_0]
  have hW : ∀ t, f_wf (f_wC F (f_upd (fC F) (L.tail.take t) x.toInt)) := fun t => by
    refine ⟨hw.1, hw.2.1, hw.2.2.1, fun z hz hp => ?_⟩
    obtain ⟨k1, k2, k3⟩ := hw.2.2.2 z hz hp
    have key : 0 ≤ f_upd (fC F) (L.tail.take t) x.toInt z ∧ f_upd (fC F) (L.tail.take t) x.toInt z ≤ 9999 := by
      unfold f_upd
      split
      · rename_i hzin
        have := hin z (List.mem_of_mem_take hzin)
        omega
      · exact ⟨Nat.zero_le _, k3⟩
    exact ⟨k1, k2, key.2⟩
  obtain ⟨g', h1, h2, h3⟩ := for_mem (fun k (_ : Unit) g (_ : Option am_V) t => am_run (am_call (d + 2)) 83 k 2 [some (.inr (.inr (16, w))), some (.inr (.inr (1, i))), some (.inr (.inr (5, i))), some (.inl x), some (.inl (nI t))] [] g) (L.length - 1) (fun b _ => b) (fun _ g => some (none, g)) (fun _ g' t => rC g' i (f_wC F (f_upd (fC F) (L.tail.take t) x.toInt)) ∧ m_fr (sF i) g g') (fun k b g0 o t ht hi => by
    obtain ⟨k1, k2⟩ := hi
    have hY0 : rY g0 w L := hY.sF k2
    obtain ⟨a, y, ha, hy⟩ := get2 (L := L) (k := t) (by omega)
    have hpy := hup t a y ha hy
    have han := hL a (List.mem_of_getElem? ha)
    have hyn := hL y (List.mem_of_getElem? hy)
    have hlk : f_lk (fP F) a y := Or.inr hpy
    have hlw : f_lw (fP F) a y = y := by
      unfold f_lw
      rw [if_neg (fun q => ?_)]
      obtain ⟨-, dd, hdd⟩ := hw.2.1
      have z1 := hdd y a hyn hpy
      have z2 := hdd a y han q
      omega
    have hyt : L.tail[t]? = some y := by rw [List.getElem?_tail]; exact hy
    have hnt : y ∉ L.tail.take t := fun hmem => by
      obtain ⟨j, hj⟩ := List.getElem?_of_mem hmem
      have hjl := (List.getElem?_eq_some_iff.mp hj).1
      rw [List.length_take] at hjl
      rw [List.getElem?_take] at hj
      have hjt : j < t := by omega
      rw [if_pos hjt, List.getElem?_tail] at hj
      have := (List.getElem?_inj (i := j + 1) (j := t + 1) (by have := (List.getElem?_eq_some_iff.mp hj).1; exact this) hnd).mp (hj.trans hy.symm)
      omega
    have hval : f_upd (fC F) (L.tail.take t) x.toInt y = fC F y := by unfold f_upd; rw [if_neg hnt]
    have hle := hw.2.2.2 y hyn (by rw [hpy]; simp)
    have hiny := hin y (List.mem_of_getElem? hyt)
    have hn0 : g0 119 w 0 = nI L.length := hY0.1
    have hlow : am_call (d + 2) 75 [.inr (.inr (16, w)), .inr (.inr (1, i)), .inl (nI t)] g0 = some (some (.inl (nI (f_lw (fP F) a y))), g0) := C_lowerOfLink d k1 (hW t) hY0 hL hl ha hy hlk
    have hgv : g0 5 i y = nI (fC F y) := by
      rw [← hval]
      exact k1.c hyn (by show fP F y ≠ none; rw [hpy]; simp)
    have hnew : nI (fC F y) + x = nI (((fC F y : Int) + x.toInt).toNat) := by
      rw [q_eq, q_addInt (by omega) hx, nI_toInt (by omega)]
      omega
    refine ⟨am_sto g0 5 i y (nI (((fC F y : Int) + x.toInt).toNat)), none, ?_, ?_, k2.sto (sF_in (by omega))⟩
    · rw [eY_addToAll_5_2, hn0, nI_1, if_neg (nI_ge (by omega) (by omega)), hlow, bi_some, hlw, q_c24 hw.1 hyn, cond_true, cond_true, nI_clamp (q24 hw.1 hyn), hgv, hnew]
    · refine k1.f_wC (fun z => ?_)
      unfold f_upd
      rw [List.take_add_one, hyt]
      by_cases ez : z = y
      · subst ez
        rw [if_pos (by simp), if_pos rfl]
      · rw [if_neg ez]
        simp [ez]) (fun k b g0 o hi => by
    have hn0 : g0 119 w 0 = nI L.length := (hY.sF hi.2).1
    rw [eY_addToAll_5_2, hn0, nI_1, if_pos (nI_le (by omega) (by omega))]) (L.length - 1) 0 () g none 99999 (by omega) (by omega) ⟨by
      have e0 : f_upd (fC F) (L.tail.take 0) x.toInt = fC F := funext fun z => by unfold f_upd; simp
      rw [e0]
      exact h, m_fr.rf⟩
  refine ⟨g', h1, ?_, h3⟩
  rw [List.take_of_length_le (by rw [List.length_tail]; exact Nat.le_refl _)] at h2
  exact h2
end
section
/-! ===== History: a ring of twenty ===== -/
def rH (g : am_G) (U : List fF) : Prop := U.length ≤ 20 ∧ ∃ o, o < 20 ∧ g 117 0 0 = nI o ∧ g 118 0 0 = nI U.length ∧ ∀ (j : Nat) (F : fF), U[j]? = some F → rC g (4 + (o + j) % 20) F ∧ f_wf F
def fc (c : Nat) : Prop := 2 ≤ c ∧ c ≤ 7 ∨ c = 102 ∨ c = 103
def sH : Nat → Nat → Prop := fun c j => (4 ≤ j ∧ j < 24 ∧ fc c) ∨ (j = 0 ∧ (c = 117 ∨ c = 118))
theorem q_n20 : (20 : Int32) = nI 20 := rfl
theorem q_rem20 {a : Nat} (h : a < 2 ^ 31) : nI a - nI a / (20 : Int32) * (20 : Int32) = nI (a % 20) := by
  rw [q_n20]
  exact pk_rem h (by omega) (by omega)
/-- a new step: the oldest goes where there are twenty -/
def h_push (U : List fF) (F : fF) : List fF := if U.length < 20 then U ++ [F] else U.tail ++ [F]
theorem rH.fr {g g' : am_G} {U : List fF} {S : Nat → Nat → Prop} (h : rH g U) (hf : m_fr S g g') (h1 : ¬ S 117 0) (h2 : ¬ S 118 0) (h3 : ∀ c j, 4 ≤ j → j < 24 → fc c → ¬ S c j) : rH g' U := by
  obtain ⟨hl, o, ho, e1, e2, e3⟩ := h
  refine ⟨hl, o, ho, by rw [hf 117 0 h1]; exact e1, by rw [hf 118 0 h2]; exact e2, fun j F hj => ?_⟩
  obtain ⟨k1, k2⟩ := e3 j F hj
  refine ⟨k1.cg fun c hc => hf c _ (h3 c _ (by omega) (by omega) (by unfold fc; omega)), k2⟩
theorem q_s20 {k : Nat} (h : k < 20) : ¬ (20 : Int32) ≤ nI k := nI_ge (a := k) (b := 20) h (by omega)
theorem C_remember {g : am_G} {U : List fF} {F : fF} (d : Nat) (h : rC g 0 F) (hw : f_wf F) (hU : rH g U) : ∃ g', am_call (d + 2) 39 [.inr (.inr (14, 0)), .inr (.inr (1, 0))] g = some (none, g') ∧ rH g' (h_push U F) ∧ m_fr sH g g' := by
  obtain ⟨hl, o, ho, e1, e2, e3⟩ := hU
  have he : (o + U.length) % 20 < 20 := Nat.mod_lt _ (by omega)
  obtain ⟨g1, k1, k2, k3⟩ := C_copyFrom (i := 4 + (o + U.length) % 20) (j := 0) (d) h hw (by omega)
  have f117 : g1 117 0 0 = nI o := by rw [k3 117 0 (fun q => by have := q.1; omega)]; exact e1
  have f118 : g1 118 0 0 = nI U.length := by rw [k3 118 0 (fun q => by have := q.1; omega)]; exact e2
  have hfr : m_fr sH g g1 := k3.mono (fun c j q => Or.inl ⟨by have := q.1; omega, by have := q.1; omega, q.2⟩)
  have hold : ∀ (j : Nat) (G : fF), U[j]? = some G → (o + j) % 20 ≠ (o + U.length) % 20 → rC g1 (4 + (o + j) % 20) G ∧ f_wf G := fun j G hj hne => by
    obtain ⟨l1, l2⟩ := e3 j G hj
    exact ⟨l1.cg fun c hc => k3 c _ (fun q => by have := q.1; omega), l2⟩
  rw [cH_remember, eH_remember_0, e1, e2, nI_add, q_rem20 (by omega), if_neg (by decide), q_in he (by omega), cond_true, nI_clamp (by omega), k1, bv_some, f118]
  unfold h_push
  by_cases hlt : U.length < 20
  · rw [if_neg (q_s20 hlt), if_pos hlt]
    refine ⟨_, rfl, ⟨by rw [List.length_append, List.length_singleton]; omega, o, ho, by rw [m_put_ne (by simp)]; exact f117, by rw [m_put, List.length_append, List.length_singleton, nI_1], fun j G hj => ?_⟩, hfr.put (Or.inr ⟨rfl, Or.inr rfl⟩)⟩
    have hput : ∀ {i : Nat} {K : fF}, rC g1 i K → rC (am_put g1 118 0 (nI U.length + 1)) i K := fun hk => hk.cg fun c hc => m_put_ne (by omega)
    rw [List.getElem?_append] at hj
    by_cases hj2 : j < U.length
    · rw [if_pos hj2] at hj
      obtain ⟨l1, l2⟩ := hold j G hj (by omega)
      exact ⟨hput l1, l2⟩
    · rw [if_neg hj2] at hj
      have ej : j = U.length := by
        have := (List.getElem?_eq_some_iff.mp hj).1
        simp at this
        omega
      subst ej
      rw [Nat.sub_self] at hj
      cases hj
      exact ⟨hput k2, hw⟩
  · have hlen : U.length = 20 := by omega
    rw [if_pos (by rw [hlen]; decide), if_neg (by decide), f117, nI_1, q_rem20 (by omega), if_neg hlt]
    have hput : ∀ {i : Nat} {K : fF}, rC g1 i K → rC (am_put g1 117 0 (nI ((o + 1) % 20))) i K := fun hk => hk.cg fun c hc => m_put_ne (by omega)
    have e20 : U.length - 1 + 1 = U.length := by omega
    refine ⟨_, rfl, ⟨by rw [List.length_append, List.length_singleton, List.length_tail]; omega, (o + 1) % 20, Nat.mod_lt _ (by omega), m_put _ _ _ _ _, by rw [m_put_ne (by simp), List.length_append, List.length_singleton, List.length_tail, f118, e20], fun j G hj => ?_⟩, hfr.put (Or.inr ⟨rfl, Or.inl rfl⟩)⟩
    rw [List.getElem?_append, List.length_tail] at hj
    by_cases hj2 : j < U.length - 1
    · rw [if_pos hj2, List.getElem?_tail] at hj
      obtain ⟨l1, l2⟩ := hold (j + 1) G hj (by omega)
      rw [show ((o + 1) % 20 + j) % 20 = (o + (j + 1)) % 20 by omega]
      exact ⟨hput l1, l2⟩
    · rw [if_neg hj2] at hj
      have ej : j = U.length - 1 := by
        have := (List.getElem?_eq_some_iff.mp hj).1
        simp at this
        omega
      subst ej
      rw [Nat.sub_self] at hj
      cases hj
      rw [show ((o + 1) % 20 + (U.length - 1)) % 20 = (o + U.length) % 20 by omega]
      exact ⟨hput k2, hw⟩
theorem C_goBack_none {g : am_G} (d : Nat) (hU : rH g []) : am_call (d + 2) 40 [.inr (.inr (14, 0)), .inr (.inr (1, 0))] g = some (some (.inl 0), g) := by
  obtain ⟨hl, o, ho, e1, e2, e3⟩ := hU
  rw [cH_goBack, eH_goBack_0, e2, if_pos (show nI ([] : List fF).length = 0 from rfl)]
theorem C_goBack {g : am_G} {U : List fF} {F : fF} (d : Nat) (hU : rH g (U ++ [F])) : ∃ g', am_call (d + 2) 40 [.inr (.inr (14, 0)), .inr (.inr (1, 0))] g = some (some (.inl 1), g') ∧ rH g' U ∧ rC g' 0 F ∧ f_wf F ∧ m_fr (fun c j => sF 0 c j ∨ (c = 118 ∧ j = 0)) g g' := by
  obtain ⟨hl, o, ho, e1, e2, e3⟩ := hU
  rw [List.length_append, List.length_singleton] at hl e2
  have he : (o + U.length) % 20 < 20 := Nat.mod_lt _ (by omega)
  have hput : ∀ {i : Nat} {K : fF}, rC g i K → rC (am_put g 118 0 (nI U.length)) i K := fun hk => hk.cg fun c hc => m_put_ne (by omega)
  obtain ⟨l1, l2⟩ := e3 U.length F (by rw [List.getElem?_append, if_neg (Nat.lt_irrefl _), Nat.sub_self]; rfl)
  obtain ⟨g1, k1, k2, k3⟩ := C_copyFrom (i := 0) (j := 4 + (o + U.length) % 20) d (hput l1) l2 (by omega)
  have hsub : nI (U.length + 1) - 1 = nI U.length := by rw [q_n1, pk_sub (by omega)]; rfl
  have f117 : am_put g 118 0 (nI U.length) 117 0 0 = nI o := by rw [m_put_ne (by simp)]; exact e1
  have f118 : am_put g 118 0 (nI U.length) 118 0 0 = nI U.length := m_put _ _ _ _ _
  rw [cH_goBack, eH_goBack_0, e2, if_neg (nI_ne0 (by omega) (by omega)), if_neg (by decide), hsub, f117, f118, nI_add, q_rem20 (by omega), q_in he (by omega), cond_true, nI_clamp (by omega), k1, bv_some]
  refine ⟨g1, rfl, ⟨by omega, o, ho, ?_, ?_, fun j G hj => ?_⟩, k2, l2, fun c j hn => ?_⟩
  · rw [k3 117 0 (fun q => by have := q.2; omega)]; exact f117
  · rw [k3 118 0 (fun q => by have := q.2; omega)]; exact f118
  · have hjl := (List.getElem?_eq_some_iff.mp hj).1
    obtain ⟨m1, m2⟩ := e3 j G (by rw [List.getElem?_append, if_pos hjl]; exact hj)
    exact ⟨(hput m1).cg fun c hc => k3 c _ (fun q => by have := q.1; omega), m2⟩
  · rw [k3 c j (fun q => hn (Or.inl q)), m_put_ne (fun q => hn (Or.inr q))]
theorem C_forget {g : am_G} (d : Nat) : ∃ g', am_call (d + 1) 38 [.inr (.inr (14, 0))] g = some (none, g') ∧ rH g' [] ∧ m_fr (fun c j => j = 0 ∧ (c = 117 ∨ c = 118)) g g' := by
  rw [cH_forget, eH_forget_0]
  refine ⟨_, rfl, ⟨by simp, 0, by omega, by rw [m_put_ne (by simp), m_put]; rfl, by rw [m_put]; rfl, fun j F hj => by simp at hj⟩, (m_fr.rf.put ⟨rfl, Or.inl rfl⟩).put ⟨rfl, Or.inr rfl⟩⟩
end
section
/-! ===== Names, Gamble's draws ===== -/
def b01 (b : Bool) : Int32 := if b then 1 else 0
def rN (g : am_G) (i : Nat) (L : List Int32) (s : Int32) (b : Bool) : Prop := L.length ≤ 24 ∧ g 104 i 0 = nI L.length ∧ (∀ (k : Nat) (x : Int32), L[k]? = some x → g 9 i k = x) ∧ g 105 i 0 = s ∧ g 106 i 0 = b01 b
def sN (i : Nat) : Nat → Nat → Prop := fun c j => j = i ∧ (c = 9 ∨ c = 104 ∨ c = 105 ∨ c = 106)
def n_find (L : List Int32) (x : Int32) : Option Nat := ff (fun t => decide (L[t]? = some x)) 0 L.length
theorem n_find_lt {L : List Int32} {x : Int32} {t : Nat} (h : n_find L x = some t) : t < L.length := by
  have := ff_lt h
  omega
theorem rN.fr {g g' : am_G} {i : Nat} {L : List Int32} {s : Int32} {b : Bool} {S : Nat → Nat → Prop} (h : rN g i L s b) (hf : m_fr S g g') (h1 : ∀ c, (c = 9 ∨ c = 104 ∨ c = 105 ∨ c = 106) → ¬ S c i) : rN g' i L s b := by
  obtain ⟨e0, e1, e2, e3, e4⟩ := h
  refine ⟨e0, ?_, ?_, ?_, ?_⟩
  · rw [hf 104 i (h1 104 (by omega))]; exact e1
  · rw [hf 9 i (h1 9 (by omega))]; exact e2
  · rw [hf 105 i (h1 105 (by omega))]; exact e3
  · rw [hf 106 i (h1 106 (by omega))]; exact e4
theorem am_01_b (b : Bool) : am_01 (b01 b) = true := by cases b <;> rfl
section NM
variable {g : am_G} {i j : Nat} {L : List Int32} {s : Int32} {b : Bool}
theorem N_clear (d : Nat) : ∃ g', am_call (d + 1) 41 [.inr (.inr (8, i))] g = some (none, g') ∧ rN g' i [] 0 false ∧ m_fr (sN i) g g' := by
  rw [cN_clear, eN_clear_0]
  refine ⟨_, rfl, ⟨by simp, ?_, fun k x hk => by simp at hk, ?_, m_put _ _ _ _ _⟩, ((m_fr.rf.put ⟨rfl, by omega⟩).put ⟨rfl, by omega⟩).put ⟨rfl, by omega⟩⟩
  · rw [m_put_ne (by simp), m_put_ne (by simp), m_put]; rfl
  · rw [m_put_ne (by simp), m_put]
theorem N_copyFrom (d : Nat) (h : rN g j L s b) (hij : i ≠ j) : ∃ g', am_call (d + 1) 42 [.inr (.inr (8, i)), .inr (.inr (8, j))] g = some (none, g') ∧ rN g' i L s b ∧ m_fr (sN i) g g' := by
  have hji : j ≠ i := fun e => hij e.symm
  obtain ⟨e0, e1, e2, e3, e4⟩ := h
  rw [cN_copyFrom, eN_copyFrom_0]
  simp only [m_put_ne (show ¬ ((106 : Nat) = 105 ∧ j = i) by simp), m_put_ne (show ¬ ((106 : Nat) = 104 ∧ j = i) by simp), m_set_ne (show ¬ ((106 : Nat) = 9 ∧ j = i) by simp), m_put_ne (show ¬ ((105 : Nat) = 104 ∧ j = i) by simp), m_set_ne (show ¬ ((105 : Nat) = 9 ∧ j = i) by simp), m_set_ne (show ¬ ((104 : Nat) = 9 ∧ j = i) by simp), e1, e3, e4, am_01_b, cond_true]
  refine ⟨_, rfl, ⟨e0, ?_, fun k x hk => ?_, ?_, m_put _ _ _ _ _⟩, (((m_fr.rf.set ⟨rfl, by omega⟩).put ⟨rfl, by omega⟩).put ⟨rfl, by omega⟩).put ⟨rfl, by omega⟩⟩
  · rw [m_put_ne (by simp), m_put_ne (by simp), m_put]
  · have hk2 := (List.getElem?_eq_some_iff.mp hk).1
    rw [m_put_ne (by simp), m_put_ne (by simp), m_put_ne (by simp), m_set, va_cpy24 _ _ (by omega)]
    exact e2 k x hk
  · rw [m_put_ne (by simp), m_put]
theorem N_add (d : Nat) (h : rN g i L s b) (hl : L.length < 24) (x : Int32) : ∃ g', am_call (d + 1) 43 [.inr (.inr (8, i)), .inl x] g = some (none, g') ∧ rN g' i (L ++ [x]) s b ∧ m_fr (sN i) g g' := by
  obtain ⟨e0, e1, e2, e3, e4⟩ := h
  rw [cN_add, eN_add_0, e1, if_neg (q_s24 hl), q_c24 (Nat.le_refl 24) hl, cond_true, nI_clamp (by omega), m_sto_ne (by simp), e1, nI_1]
  refine ⟨_, rfl, ⟨by rw [List.length_append, List.length_singleton]; omega, ?_, fun k y hk => ?_, ?_, ?_⟩, (m_fr.rf.sto ⟨rfl, by omega⟩).put ⟨rfl, by omega⟩⟩
  · rw [m_put, List.length_append, List.length_singleton]
  · rw [m_put_ne (by simp), m_sto]
    rw [List.getElem?_append] at hk
    by_cases hk2 : k < L.length
    · rw [if_pos hk2] at hk
      rw [if_neg (by omega)]
      exact e2 k y hk
    · rw [if_neg hk2] at hk
      have ek : k = L.length := by
        have := (List.getElem?_eq_some_iff.mp hk).1
        simp at this
        omega
      subst ek
      rw [Nat.sub_self] at hk
      cases hk
      rw [if_pos rfl]
  · rw [m_put_ne (by simp), m_sto_ne (by simp)]; exact e3
  · rw [m_put_ne (by simp), m_sto_ne (by simp)]; exact e4
theorem N_find (d : Nat) (h : rN g i L s b) (x : Int32) : am_call (d + 1) 44 [.inr (.inr (8, i)), .inl x] g = some (some (.inl (eC (n_find L x))), g) := by
  obtain ⟨e0, e1, e2, e3, e4⟩ := h
  rw [cN_find, eN_find_0]
  have := for_find (fun k t => am_run (am_call d) 44 k 2 [some (.inr (.inr (8, i))), some (.inl x), some (.inl (nI t))] [] g) L.length (fun t => decide (L[t]? = some x)) (fun t => some (some (.inl (nI t)), g)) (some (some (.inl (-1)), g)) (fun k t ht => by
    obtain ⟨y, hy⟩ : ∃ y, L[t]? = some y := ⟨_, List.getElem?_eq_getElem ht⟩
    rw [eN_find_2, e1, if_neg (nI_ge ht (by omega)), q_c24 e0 ht, cond_true, nI_clamp (q24 e0 ht), e2 t y hy, nI_1, hy]
    by_cases hyx : y = x
    · rw [if_pos hyx, if_pos (by rw [hyx]; simp)]
    · rw [if_neg hyx, if_neg (by simpa using hyx)]) (fun k => by
    rw [eN_find_2, e1, if_pos (nI_le (Nat.le_refl _) (by omega))]) L.length 0 99999 (by omega) (by omega)
  rw [show (0 : Int32) = nI 0 from rfl, this]
  unfold n_find
  cases ff (fun t => decide (L[t]? = some x)) 0 L.length with
  | none => rfl
  | some t => rfl
end NM
/-- the next number by chance -/
def dw (l : Nat) : Nat := (l * 1103515245 + 12345) % 2147483648
def dv (l n : Nat) : Nat := dw l / 65536 % n
theorem dw_lt (l : Nat) : dw l < 2 ^ 31 := Nat.mod_lt _ (by omega)
theorem dw_mod (z : Nat) : (nI z).toBitVec.toNat % 2 ^ 31 = z % 2147483648 := by
  have hz : (nI z).toBitVec.toNat = z % 2 ^ 32 := rfl
  rw [hz]
  omega
theorem dw_gen (l a b : Nat) : (nI l * nI a + nI b) &&& (2147483647 : Int32) = nI ((l * a + b) % 2147483648) := by
  rw [pk_mul, nI_add, pk_and _ 31 (by decide), dw_mod]
theorem dw_a : (1103515245 : Int32) = nI 1103515245 := rfl
theorem dw_b : (12345 : Int32) = nI 12345 := rfl
theorem dw_eq (l : Nat) : ((nI l * (1103515245 : Int32)) + (12345 : Int32)) &&& (2147483647 : Int32) = nI (dw l) := by
  rw [dw_a, dw_b, dw_gen, dw]
theorem B_draw {g : am_G} (d : Nat) {l n : Nat} (h : g 122 0 0 = nI l) (hn : 0 < n) (hn2 : n < 2 ^ 31) : am_call (d + 1) 36 [.inr (.inr (28, 0)), .inl (nI n)] g = some (some (.inl (nI (dv l n))), am_put g 122 0 (nI (dw l))) := by
  rw [cB_draw, eB_draw_0, h, dw_eq, if_neg (nI_nle hn hn2), if_neg (nI_ne0 hn hn2), m_put, pk_shrN (dw_lt l) _ 16 (by decide), pk_rem (by have := dw_lt l; omega) hn hn2]
  rfl
end
section
/-! ===== Sight, Gamble ===== -/
def f_look (F : fF) (L : List Nat) (sw : Int32) : List Int32 :=
  [nI (f_ws (fP F) (fL F) L).sum, eM ((f_dx (f_ws (fP F) (fL F) L)).1.map (fun _ => (f_dx (f_ws (fP F) (fL F) L)).2)), eM ((f_dx (f_ws (fP F) (fL F) L)).1.bind (fun k => L[k]?)), eM ((f_dx (f_ws (fP F) (fL F) L)).1.bind (fun k => L[k + 1]?)), eM (f_mn (f_ws (fP F) (fC F) L)), isum (L.map (fV F)), nI L.length, sw, eM (f_mn (f_ws (fP F) (fL F) L))]
def rS (g : am_G) (o : Option (List Int32)) : Prop := g 120 0 0 = b01 o.isSome ∧ ∀ l, o = some l → l.length = 9 ∧ ∀ (k : Nat) (x : Int32), l[k]? = some x → g 19 0 k = x
def sS : Nat → Nat → Prop := fun c j => j = 0 ∧ (c = 19 ∨ c = 120)
theorem rS.fr {g g' : am_G} {o : Option (List Int32)} {S : Nat → Nat → Prop} (h : rS g o) (hf : m_fr S g g') (h1 : ¬ S 19 0) (h2 : ¬ S 120 0) : rS g' o := by
  unfold rS
  rw [hf 19 0 h1, hf 120 0 h2]
  exact h
theorem nine {P : Nat → Int32 → Prop} {a0 a1 a2 a3 a4 a5 a6 a7 a8 : Int32} (h0 : P 0 a0) (h1 : P 1 a1) (h2 : P 2 a2) (h3 : P 3 a3) (h4 : P 4 a4) (h5 : P 5 a5) (h6 : P 6 a6) (h7 : P 7 a7) (h8 : P 8 a8) : ∀ (k : Nat) (x : Int32), [a0, a1, a2, a3, a4, a5, a6, a7, a8][k]? = some x → P k x := by
  intro k x hk
  match k with
  | 0 => cases hk; exact h0
  | 1 => cases hk; exact h1
  | 2 => cases hk; exact h2
  | 3 => cases hk; exact h3
  | 4 => cases hk; exact h4
  | 5 => cases hk; exact h5
  | 6 => cases hk; exact h6
  | 7 => cases hk; exact h7
  | 8 => cases hk; exact h8
  | k + 9 => cases hk
theorem z0 : (0 : Int32).toNatClampNeg = 0 := rfl
theorem z1 : (1 : Int32).toNatClampNeg = 1 := rfl
theorem z2 : (2 : Int32).toNatClampNeg = 2 := rfl
theorem z3 : (3 : Int32).toNatClampNeg = 3 := rfl
theorem z4 : (4 : Int32).toNatClampNeg = 4 := rfl
theorem z5 : (5 : Int32).toNatClampNeg = 5 := rfl
theorem z6 : (6 : Int32).toNatClampNeg = 6 := rfl
theorem z7 : (7 : Int32).toNatClampNeg = 7 := rfl
theorem z8 : (8 : Int32).toNatClampNeg = 8 := rfl
theorem y0 : am_in (0 : Int32) 9 = true := rfl
theorem y1 : am_in (1 : Int32) 9 = true := rfl
theorem y2 : am_in (2 : Int32) 9 = true := rfl
theorem y3 : am_in (3 : Int32) 9 = true := rfl
theorem y4 : am_in (4 : Int32) 9 = true := rfl
theorem y5 : am_in (5 : Int32) 9 = true := rfl
theorem y6 : am_in (6 : Int32) 9 = true := rfl
theorem y7 : am_in (7 : Int32) 9 = true := rfl
theorem y8 : am_in (8 : Int32) 9 = true := rfl
theorem C_look {g : am_G} {i w : Nat} {F : fF} (d : Nat) (h : rC g i F) (hw : f_wf F) {L : List Nat} (hY : rY g w L) (hL : ∀ x ∈ L, x < fN F) (hl : L.length ≤ 24) (hk : f_lks (fP F) L) (sw : Int32) :
    ∃ g', am_call (d + 5) 51 [.inr (.inr (18, 0)), .inr (.inr (1, i)), .inr (.inr (16, w)), .inl sw] g = some (none, g') ∧ rS g' (some (f_look F L sw)) ∧ m_fr sS g g' := by
  have hC : ∀ {g'}, m_fr sS g g' → rC g' i F := fun hf => h.fr hf (fun c hc => by have := hc.2; omega)
  have hYY : ∀ {g'}, m_fr sS g g' → rY g' w L := fun hf => hY.fr hf (fun q => by have := q.2; omega) (fun q => by have := q.2; omega)
  have f19 : ∀ {g' : am_G} {k : Nat} {x : Int32}, m_fr sS g g' → m_fr sS g (am_sto g' 19 0 k x) := fun hf => hf.sto ⟨rfl, by omega⟩
  have f1 : m_fr sS g (am_put g 120 0 1) := m_fr.rf.put ⟨rfl, by omega⟩
  have hwl := f_ws_len (fP F) (fL F) L
  rw [cS_look, eS_look_0, C_dearestLink (d + 1) h hw hY hL hl hk, bi_some, C_lengths (d + 1) (hC f1) hw (hYY f1) hL hl hk, bi_some, y0, cond_true, C_dearestLength d (hC (f19 f1)) hw (hYY (f19 f1)) hL hl hk, bi_some, y1, cond_true, y2, y3, cond_true]
  have f3 : ∀ {a b c : Int32} {x y z : Nat}, m_fr sS g (am_sto (am_sto (am_sto (am_sto (am_put g 120 0 1) 19 0 (0 : Int32).toNatClampNeg (nI (f_ws (fP F) (fL F) L).sum)) 19 0 x a) 19 0 y b) 19 0 z c) := f19 (f19 (f19 (f19 f1)))
  have hn : ∀ {g' : am_G} {k : Nat} {x : Int32}, (am_sto g' 19 0 k x) 119 w 0 = g' 119 w 0 := fun {g' k x} => by rw [m_sto_ne (by simp)]
  have hn17 : ∀ {g' : am_G} {k : Nat} {x : Int32}, (am_sto g' 19 0 k x) 17 w = g' 17 w := fun {g' k x} => by rw [m_sto_ne (by simp)]
  have hp17 : (am_put g 120 0 1) 17 w = g 17 w := by rw [m_put_ne (by simp)]
  have hp19 : (am_put g 120 0 1) 119 w = g 119 w := by rw [m_put_ne (by simp)]
  cases e : (f_dx (f_ws (fP F) (fL F) L)).1 with
  | none =>
    rw [eC_none, if_pos rfl, if_pos rfl, C_leastOf_5 (d + 1) (hC f3) hw (hYY f3) hL hl hk, bi_some, y4, cond_true, C_values (d + 3) (hC (f19 f3)) hw (hYY (f19 f3)) hL hl, bi_some, y5, y6, y7, cond_true, cond_true, cond_true, C_leastOf_4 (d + 1) (hC (f19 (f19 (f19 (f19 f3))))) hw (hYY (f19 (f19 (f19 (f19 f3))))) hL hl hk, bi_some, y8, cond_true]
    refine ⟨_, rfl, ⟨by simp only [m_sto_ne (show ¬ ((120 : Nat) = 19 ∧ (0 : Nat) = 0) by simp), m_put]; rfl, fun l hl2 => ?_⟩, f19 (f19 (f19 (f19 (f19 f3))))⟩
    cases hl2
    refine ⟨rfl, ?_⟩
    unfold f_look
    rw [e]
    simp only [hn, hn17, hp17, hp19, hY.1, z0, z1, z2, z3, z4, z5, z6, z7, z8]
    refine nine ?_ ?_ ?_ ?_ ?_ ?_ ?_ ?_ ?_ <;> simp [m_sto] <;> rfl
  | some k =>
    obtain ⟨h1, h2⟩ := f_dx_lt _ k e
    obtain ⟨x, y, hx, hy⟩ := get2 (L := L) (k := k) (by omega)
    rw [eC_some, if_neg (q_ne1 (by omega)), if_neg (q_ne1 (by omega)), nI_1, q_in (k := k) (n := 24) (by omega) (by omega), q_in (k := k + 1) (n := 24) (by omega) (by omega), cond_true, cond_true, C_leastOf_5 (d + 1) (hC f3) hw (hYY f3) hL hl hk, bi_some, y4, cond_true, C_values (d + 3) (hC (f19 f3)) hw (hYY (f19 f3)) hL hl, bi_some, y5, y6, y7, cond_true, cond_true, cond_true, C_leastOf_4 (d + 1) (hC (f19 (f19 (f19 (f19 f3))))) hw (hYY (f19 (f19 (f19 (f19 f3))))) hL hl hk, bi_some, y8, cond_true]
    refine ⟨_, rfl, ⟨by simp only [m_sto_ne (show ¬ ((120 : Nat) = 19 ∧ (0 : Nat) = 0) by simp), m_put]; rfl, fun l hl2 => ?_⟩, f19 (f19 (f19 (f19 (f19 f3))))⟩
    cases hl2
    refine ⟨rfl, ?_⟩
    unfold f_look
    rw [e]
    simp only [hn, hn17, hp17, hp19, hY.1, z0, z1, z2, z3, z4, z5, z6, z7, z8, nI_clamp (show k < 2 ^ 31 by omega), nI_clamp (show k + 1 < 2 ^ 31 by omega), hY.2 k x hx, hY.2 (k + 1) y hy, Option.bind_some, hx, hy]
    refine nine ?_ ?_ ?_ ?_ ?_ ?_ ?_ ?_ ?_ <;> simp [m_sto] <;> rfl
end
section
/-! ===== Gamble ===== -/
def f_chance (F : fF) (l : Nat) : fF × Nat :=
  match dv l 4 with
  | 0 => (f_touch F (dv (dw l) (fN F)), dw (dw (dw l)))
  | 1 => (f_reroot F (dv (dw l) (fN F)), dw (dw (dw l)))
  | 2 => if f_r (fP F) (dv (dw l) (fN F)) = f_r (fP F) (dv (dw (dw l)) (fN F)) then (F, dw (dw (dw l))) else (f_link F (dv (dw l) (fN F)) (dv (dw (dw l)) (fN F)) (dv (dw (dw (dw l))) 100 + 1) 1, dw (dw (dw (dw l))))
  | _ => (f_cutd F (f_way (fP F) (dv (dw l) (fN F)) (dv (dw (dw l)) (fN F))), dw (dw (dw l)))
theorem dv_lt (l : Nat) {n : Nat} (h : 0 < n) : dv l n < n := Nat.mod_lt _ h
def sB : Nat → Nat → Prop := fun c j => sF 3 c j ∨ sY 1 c j ∨ (c = 122 ∧ j = 0)
theorem wf_chance {F : fF} (hw : f_wf F) (h0 : 0 < fN F) (l : Nat) : f_wf (f_chance F l).1 ∧ fN (f_chance F l).1 = fN F := by
  have ha := dv_lt (dw l) h0
  have hb := dv_lt (dw (dw l)) h0
  unfold f_chance
  split
  · exact ⟨wf_touch hw ha, rfl⟩
  · exact ⟨wf_reroot hw ha, rr_N.1⟩
  · split
    · exact ⟨hw, rfl⟩
    · rename_i hr
      have := dv_lt (dw (dw (dw l))) (n := 100) (by omega)
      exact ⟨wf_link hw ha hb hr ⟨by omega, by omega⟩ (by omega), wk_N (a := dv (dw l) (fN F)) (b := dv (dw (dw l)) (fN F))⟩
  · exact wf_cutd hw (f_way_lt hw.2.1 hw.1 ha hb) (f_way_lks hw.2.1 hw.1 ha hb)
theorem B_start {g : am_G} {F : fF} (d : Nat) (h : rC g 0 F) (hw : f_wf F) (x : Int32) : ∃ g', am_call (d + 2) 35 [.inr (.inr (28, 0)), .inr (.inr (1, 0)), .inl x] g = some (none, g') ∧ rC g' 3 (fN F, fP F, fQ F, fL F, fC F, fV F, 0) ∧ g' 122 0 0 = x ∧ m_fr sB g g' := by
  obtain ⟨g1, k1, k2, k3⟩ := C_copyFrom (i := 3) (j := 0) d h hw (by omega)
  rw [cB_start, eB_start_0, k1, bv_some]
  refine ⟨_, rfl, (k2.setS 0).cg fun c hc => m_put_ne (by omega), m_put _ _ _ _ _, ((k3.mono fun c j q => Or.inl q).put (Or.inl ⟨rfl, by omega⟩)).put (Or.inr (Or.inr ⟨rfl, rfl⟩))⟩
theorem q_d4 {l : Nat} : dv l 4 = 0 ∨ dv l 4 = 1 ∨ dv l 4 = 2 ∨ dv l 4 = 3 := by
  have := dv_lt l (n := 4) (by omega)
  omega
theorem q_n4 : (4 : Int32) = nI 4 := rfl
theorem q_n100 : (100 : Int32) = nI 100 := rfl
theorem B_doOne {g : am_G} {F : fF} {l : Nat} (d : Nat) (h : rC g 3 F) (hw : f_wf F) (h0 : 0 < fN F) (hl : g 122 0 0 = nI l) :
    ∃ g', am_call (d + 6) 37 [.inr (.inr (28, 0))] g = some (none, g') ∧ rC g' 3 (f_chance F l).1 ∧ g' 122 0 0 = nI (f_chance F l).2 ∧ m_fr sB g g' := by
  have ha := dv_lt (dw l) h0
  have hb := dv_lt (dw (dw l)) h0
  have hn := hw.1
  have p122 : ∀ {g' : am_G} {x : Int32}, m_fr sB g g' → m_fr sB g (am_put g' 122 0 x) := fun hf => hf.put (Or.inr (Or.inr ⟨rfl, rfl⟩))
  have c122 : ∀ {g' : am_G} {x : Int32} {G : fF}, rC g' 3 G → rC (am_put g' 122 0 x) 3 G := fun hc => hc.cg fun c hc => m_put_ne (by omega)
  have e102 : ∀ {g' : am_G} {x : Int32}, am_put g' 122 0 x 102 3 0 = g' 102 3 0 := fun {g' x} => by rw [m_put_ne (by simp)]
  rw [cB_doOne, eB_doOne_0, q_n4, B_draw (d + 4) hl (by omega) (by omega), bi_some, e102, h.1, B_draw (d + 4) (m_put _ _ _ _ _) h0 (by omega), bi_some, e102, e102, h.1, B_draw (d + 4) (m_put _ _ _ _ _) h0 (by omega), bi_some]
  have hc3 := c122 (x := nI (dw (dw (dw l)))) (c122 (x := nI (dw (dw l))) (c122 (x := nI (dw l)) h))
  have hf3 := p122 (x := nI (dw (dw (dw l)))) (p122 (x := nI (dw (dw l))) (p122 (x := nI (dw l)) m_fr.rf))
  have hv3 : (am_put (am_put (am_put g 122 0 (nI (dw l))) 122 0 (nI (dw (dw l)))) 122 0 (nI (dw (dw (dw l))))) 122 0 0 = nI (dw (dw (dw l))) := m_put _ _ _ _ _
  generalize am_put (am_put (am_put g 122 0 (nI (dw l))) 122 0 (nI (dw (dw l)))) 122 0 (nI (dw (dw (dw l)))) = g3 at hc3 hf3 hv3
  have hfF : ∀ {g1 g2 : am_G}, m_fr (sF 3) g1 g2 → m_fr sB g1 g2 := fun q => q.mono fun c j q => Or.inl q
  have h122 : ∀ {g1 g2 : am_G}, m_fr (sF 3) g1 g2 → g2 122 0 0 = g1 122 0 0 := fun q => by rw [q 122 0 (fun q => by have := q.1; omega)]
  unfold f_chance
  rcases q_d4 (l := l) with e | e | e | e <;> rw [e]
  · obtain ⟨g4, k1, k2, k3⟩ := C_touchAt (d + 4) hc3 hw ha
    rw [if_pos nI_0, k1, bv_some]
    exact ⟨g4, rfl, k2, (h122 k3).trans hv3, hf3.tr (hfF k3)⟩
  · obtain ⟨g4, k1, k2, k3⟩ := C_rerootAt (d + 3) hc3 hw ha
    rw [if_neg (nI_ne0 (by omega) (by omega)), if_pos q_n1.symm, k1, bv_some]
    exact ⟨g4, rfl, k2, (h122 k3).trans hv3, hf3.tr (hfF k3)⟩
  · rw [if_neg (nI_ne0 (by omega) (by omega)), if_neg (by decide), if_pos q_n2.symm, C_hangTogether (d + 3) hc3 hw ha hb, bi_some]
    by_cases hr : f_r (fP F) (dv (dw l) (fN F)) = f_r (fP F) (dv (dw (dw l)) (fN F))
    · rw [if_pos hr, if_neg (by decide), if_pos hr]
      exact ⟨g3, rfl, hc3, hv3, hf3⟩
    · obtain ⟨g4, k1, k2, k3⟩ := C_linkUnder (d + 1) (c122 (x := nI (dw (dw (dw (dw l))))) hc3) hw ha hb (dv (dw (dw (dw l))) 100 + 1) 1
      rw [if_neg hr, if_pos rfl, if_neg hr, q_n100, B_draw (d + 4) hv3 (by omega) (by omega), bi_some, nI_1, q_n1, k1, bv_some]
      refine ⟨g4, rfl, k2, (h122 k3).trans (m_put _ _ _ _ _), (p122 hf3).tr (hfF k3)⟩
  · obtain ⟨g4, k1, k2, k3⟩ := C_lay (w := 1) (d + 2) hc3 hw ha hb
    have hc4 := hc3.sY k3
    obtain ⟨g5, l1, l2, l3⟩ := C_cutDearestLink d hc4 hw k2 (f_way_lt hw.2.1 hw.1 ha hb) (f_way_nd hw ha hb).2 (f_way_lks hw.2.1 hw.1 ha hb)
    rw [if_neg (nI_ne0 (by omega) (by omega)), if_neg (by decide), if_neg (by decide), k1, bv_some, l1, bv_some]
    refine ⟨g5, rfl, l2, (h122 l3).trans ?_, (hf3.tr (k3.mono fun c j q => Or.inr (Or.inl q))).tr (hfF l3)⟩
    rw [k3 122 0 (fun q => by have := q.2; omega)]
    exact hv3
end
section
/-! ===== the order of a tree ===== -/
/-- those of t .. t+m-1 that are so -/
def fl (p : Nat → Bool) : Nat → Nat → List Nat
  | _, 0 => []
  | t, m + 1 => if p t then t :: fl p (t + 1) m else fl p (t + 1) m
theorem fl_mem {p : Nat → Bool} {x : Nat} : ∀ (m t : Nat), x ∈ fl p t m ↔ t ≤ x ∧ x < t + m ∧ p x = true
  | 0, t => by
    rw [fl]
    exact ⟨fun h => (by cases h), fun h => (by omega)⟩
  | m + 1, t => by
    rw [fl]
    by_cases hp : p t = true
    · rw [if_pos hp, List.mem_cons, fl_mem m (t + 1)]
      constructor
      · rintro (rfl | h)
        · exact ⟨Nat.le_refl _, by omega, hp⟩
        · exact ⟨by omega, by omega, h.2.2⟩
      · intro h
        by_cases e : x = t
        · exact Or.inl e
        · exact Or.inr ⟨by omega, by omega, h.2.2⟩
    · rw [if_neg hp, fl_mem m (t + 1)]
      constructor
      · intro h
        exact ⟨by omega, by omega, h.2.2⟩
      · intro h
        by_cases e : x = t
        · subst e; exact absurd h.2.2 hp
        · exact ⟨by omega, by omega, h.2.2⟩
theorem fl_nd {p : Nat → Bool} : ∀ (m t : Nat), (fl p t m).Nodup
  | 0, t => List.nodup_nil
  | m + 1, t => by
    rw [fl]
    by_cases hp : p t = true
    · rw [if_pos hp, List.nodup_cons]
      refine ⟨fun h => ?_, fl_nd m (t + 1)⟩
      have := (fl_mem m (t + 1)).mp h
      omega
    · rw [if_neg hp]
      exact fl_nd m (t + 1)
theorem fl_head {p : Nat → Bool} : ∀ (m t : Nat), (fl p t m).head? = ff p t m
  | 0, t => rfl
  | m + 1, t => by
    rw [fl, ff]
    by_cases hp : p t = true
    · rw [if_pos hp, if_pos hp]; rfl
    · rw [if_neg hp, if_neg hp]
      exact fl_head m (t + 1)
theorem fl_split {p : Nat → Bool} {c : Nat} {K2 : List Nat} : ∀ (m t : Nat) (K1 : List Nat), fl p t m = K1 ++ c :: K2 → K2 = fl p (c + 1) (t + m - (c + 1))
  | 0, t, K1, h => by
    rw [fl] at h
    cases K1 <;> cases h
  | m + 1, t, K1, h => by
    rw [fl] at h
    by_cases hp : p t = true
    · rw [if_pos hp] at h
      cases K1 with
      | nil =>
        injection h with h1 h2
        subst h1
        rw [← h2]
        congr 1
        omega
      | cons a K1 =>
        injection h with h1 h2
        rw [fl_split m (t + 1) K1 h2]
        congr 1
        omega
    · rw [if_neg hp] at h
      rw [fl_split m (t + 1) K1 h]
      congr 1
      omega
theorem fl_rev {p : Nat → Bool} {m t : Nat} : (fl p t (m + 1)).reverse = (fl p (t + 1) m).reverse ++ (if p t then [t] else []) := by
  rw [fl]
  by_cases hp : p t = true
  · rw [if_pos hp, if_pos hp, List.reverse_cons]
  · rw [if_neg hp, if_neg hp, List.append_nil]
theorem fm_cg {α β : Type} {f g : α → List β} : ∀ (l : List α), (∀ x ∈ l, f x = g x) → l.flatMap f = l.flatMap g
  | [], _ => rfl
  | x :: r, h => by
    rw [List.flatMap_cons, List.flatMap_cons, h x (List.mem_cons_self), fm_cg r (fun y hy => h y (List.mem_cons_of_mem _ hy))]
/-- the children of a town in order: the preferred one ahead -/
def f_pk (F : fF) (t : Nat) : Nat → Bool := fun x => decide (fP F x = some t ∧ fQ F t ≠ some x)
def f_kd (F : fF) (t : Nat) : List Nat := (fQ F t).toList ++ fl (f_pk F t) 0 (fN F)
def pr (F : fF) : Nat → Nat → List Nat
  | 0, _ => []
  | k + 1, t => t :: (f_kd F t).flatMap (pr F k)
def f_or (F : fF) (t : Nat) : List Nat := pr F 24 t
section OR
variable {F : fF}
theorem f_kd_mem (hw : f_wf F) {t x : Nat} (ht : t < fN F) : x ∈ f_kd F t ↔ x < fN F ∧ fP F x = some t := by
  unfold f_kd
  rw [List.mem_append, fl_mem, Option.mem_toList]
  constructor
  · rintro (h | h)
    · exact hw.2.2.1 t x ht h
    · have := of_decide_eq_true h.2.2
      exact ⟨by omega, this.1⟩
  · intro h
    by_cases e : fQ F t = some x
    · exact Or.inl e
    · exact Or.inr ⟨by omega, by omega, decide_eq_true ⟨h.2, e⟩⟩
theorem f_kd_nd (t : Nat) : (f_kd F t).Nodup := by
  unfold f_kd
  cases e : fQ F t with
  | none => exact fl_nd _ _
  | some q =>
    show (q :: fl (f_pk F t) 0 (fN F)).Nodup
    rw [List.nodup_cons]
    refine ⟨fun h => ?_, fl_nd _ _⟩
    have := of_decide_eq_true ((fl_mem _ _).mp h).2.2
    exact this.2 e
theorem kd_d (hw : f_wf F) {t x : Nat} (hx : x < fN F) (hp : fP F x = some t) : f_d (fP F) x = f_d (fP F) t + 1 := f_d_some hw.2.1 hw.1 hx hp
theorem pr_cg (hw : f_wf F) : ∀ (k k' t : Nat), t < fN F → 24 ≤ k + f_d (fP F) t → 24 ≤ k' + f_d (fP F) t → pr F k t = pr F k' t
  | 0, k', t, ht, h, _ => by have := f_d_lt hw ht; omega
  | k + 1, 0, t, ht, _, h => by have := f_d_lt hw ht; omega
  | k + 1, k' + 1, t, ht, h, h' => by
    rw [pr, pr]
    congr 1
    refine fm_cg _ fun c hc => ?_
    obtain ⟨h1, h2⟩ := (f_kd_mem hw ht).mp hc
    have := kd_d hw h1 h2
    exact pr_cg hw k k' c h1 (by omega) (by omega)
theorem f_or_eq (hw : f_wf F) {t : Nat} (ht : t < fN F) : f_or F t = t :: (f_kd F t).flatMap (f_or F) := by
  unfold f_or
  rw [show pr F 24 t = t :: (f_kd F t).flatMap (pr F 23) from rfl]
  congr 1
  refine fm_cg _ fun c hc => ?_
  obtain ⟨h1, h2⟩ := (f_kd_mem hw ht).mp hc
  have := kd_d hw h1 h2
  exact pr_cg hw 23 24 c h1 (by omega) (by omega)
theorem f_dn (hw : f_wf F) {P : Nat → Prop} (hs : ∀ t, t < fN F → (∀ c, c < fN F → fP F c = some t → P c) → P t) : ∀ t, t < fN F → P t := by
  have key : ∀ (k t : Nat), t < fN F → 24 ≤ k + f_d (fP F) t → P t := by
    intro k
    induction k with
    | zero => intro t ht h; have := f_d_lt hw ht; omega
    | succ k ih =>
      intro t ht h
      exact hs t ht fun c hc hp => ih c hc (by have := kd_d hw hc hp; omega)
  exact fun t ht => key 24 t ht (by omega)
theorem f_or_mem1 (hw : f_wf F) : ∀ t, t < fN F → ∀ x ∈ f_or F t, x < fN F ∧ t ∈ f_a (fP F) x := f_dn hw fun t ht ih x hx => by
  rw [f_or_eq hw ht, List.mem_cons, List.mem_flatMap] at hx
  rcases hx with rfl | ⟨c, hc, hx⟩
  · exact ⟨ht, f_a_self _ _⟩
  · obtain ⟨h1, h2⟩ := (f_kd_mem hw ht).mp hc
    obtain ⟨h3, h4⟩ := ih c h1 h2 x hx
    refine ⟨h3, f_a_tr hw.2.1 hw.1 h3 h4 ?_⟩
    rw [hw.as h1 h2]
    exact List.mem_cons_of_mem _ (f_a_self _ _)
theorem f_or_self (hw : f_wf F) {t : Nat} (ht : t < fN F) : t ∈ f_or F t := by
  rw [f_or_eq hw ht]
  exact List.mem_cons_self
theorem f_or_kid (hw : f_wf F) : ∀ t, t < fN F → ∀ p x, p ∈ f_or F t → x < fN F → fP F x = some p → x ∈ f_or F t := f_dn hw fun t ht ih p x hp hx hxp => by
  rw [f_or_eq hw ht, List.mem_cons, List.mem_flatMap] at hp ⊢
  rcases hp with rfl | ⟨c, hc, hp⟩
  · exact Or.inr ⟨x, (f_kd_mem hw ht).mpr ⟨hx, hxp⟩, f_or_self hw hx⟩
  · obtain ⟨h1, h2⟩ := (f_kd_mem hw ht).mp hc
    exact Or.inr ⟨c, hc, ih c h1 h2 p x hp hx hxp⟩
theorem f_or_mem2 (hw : f_wf F) {t : Nat} (ht : t < fN F) : ∀ x, x < fN F → t ∈ f_a (fP F) x → x ∈ f_or F t := f_ind hw.2.1 fun x hx ih ha => by
  cases hp : fP F x with
  | none =>
    rw [hw.an hx hp, List.mem_singleton] at ha
    subst ha
    exact f_or_self hw ht
  | some p =>
    rw [hw.as hx hp, List.mem_cons] at ha
    rcases ha with rfl | ha
    · exact f_or_self hw ht
    · exact f_or_kid hw t ht p x (ih p hp ha) hx hp
theorem f_a_d (hw : f_wf F) : ∀ x, x < fN F → ∀ c c', c ∈ f_a (fP F) x → c' ∈ f_a (fP F) x → f_d (fP F) c = f_d (fP F) c' → c = c' := f_ind hw.2.1 fun x hx ih c c' hc hc' e => by
  cases hp : fP F x with
  | none =>
    rw [hw.an hx hp, List.mem_singleton] at hc hc'
    rw [hc, hc']
  | some p =>
    have hd := kd_d hw hx hp
    rw [hw.as hx hp, List.mem_cons] at hc hc'
    rcases hc with rfl | hc <;> rcases hc' with rfl | hc'
    · rfl
    · have := f_d_le hw.2.1 hw.1 (hw.p hx hp) hc'
      omega
    · have := f_d_le hw.2.1 hw.1 (hw.p hx hp) hc
      omega
    · exact ih p hp c c' hc hc' e
theorem f_or_nd (hw : f_wf F) : ∀ t, t < fN F → (f_or F t).Nodup := f_dn hw fun t ht ih => by
  rw [f_or_eq hw ht, List.nodup_cons]
  constructor
  · intro h
    rw [List.mem_flatMap] at h
    obtain ⟨c, hc, h⟩ := h
    obtain ⟨h1, h2⟩ := (f_kd_mem hw ht).mp hc
    have h3 := (f_or_mem1 hw c h1 t h).2
    have h4 := f_d_le hw.2.1 hw.1 ht h3
    have := kd_d hw h1 h2
    omega
  · unfold List.Nodup
    rw [List.pairwise_flatMap]
    refine ⟨fun c hc => ?_, ?_⟩
    · obtain ⟨h1, h2⟩ := (f_kd_mem hw ht).mp hc
      exact ih c h1 h2
    · refine List.Pairwise.imp_of_mem ?_ (f_kd_nd (F := F) t)
      intro c c' hc hc' hne x hx y hy e
      subst e
      obtain ⟨h1, h2⟩ := (f_kd_mem hw ht).mp hc
      obtain ⟨h1', h2'⟩ := (f_kd_mem hw ht).mp hc'
      have h3 := f_or_mem1 hw c h1 x hx
      have h4 := f_or_mem1 hw c' h1' x hy
      exact hne (f_a_d hw x h3.1 c c' h3.2 h4.2 (by rw [kd_d hw h1 h2, kd_d hw h1' h2']))
theorem f_or_len (hw : f_wf F) {t : Nat} (ht : t < fN F) : (f_or F t).length ≤ fN F := nd_len (f_or_nd hw t ht) fun x hx => (f_or_mem1 hw t ht x hx).1
theorem f_or_pos (hw : f_wf F) {t : Nat} (ht : t < fN F) : 0 < (f_or F t).length := List.length_pos_of_mem (f_or_self hw ht)
end OR
end
section
/-! ===== Survey: the order ===== -/
def rR (g : am_G) (c : Nat) (B : List Nat) : Prop := ∀ (k x : Nat), B[k]? = some x → g c 0 k = nI x
theorem rR.push {g : am_G} {c x : Nat} {B : List Nat} (h : rR g c B) : rR (am_sto g c 0 B.length (nI x)) c (B ++ [x]) := fun k y hk => by
  rw [m_sto]
  rw [List.getElem?_append] at hk
  by_cases hk2 : k < B.length
  · rw [if_pos hk2] at hk
    rw [if_neg (by omega)]
    exact h k y hk
  · rw [if_neg hk2] at hk
    have ek : k = B.length := by
      have := (List.getElem?_eq_some_iff.mp hk).1
      simp at this
      omega
    subst ek
    rw [Nat.sub_self] at hk
    cases hk
    rw [if_pos rfl]
theorem rR.fr {g g' : am_G} {c : Nat} {B : List Nat} {S : Nat → Nat → Prop} (h : rR g c B) (hf : m_fr S g g') (h1 : ¬ S c 0) : rR g' c B := by
  unfold rR
  rw [hf c 0 h1]
  exact h
theorem rR.pre {g : am_G} {c : Nat} {B C : List Nat} (h : rR g c (B ++ C)) : rR g c B := fun k x hk => h k x (by
  rw [List.getElem?_append, if_pos (List.getElem?_eq_some_iff.mp hk).1]
  exact hk)
theorem fl_snoc {p : Nat → Bool} : ∀ (m t : Nat), fl p t (m + 1) = fl p t m ++ (if p (t + m) then [t + m] else [])
  | 0, t => by
    rw [fl, fl, fl]
    rfl
  | m + 1, t => by
    rw [fl, fl_snoc m (t + 1)]
    conv => rhs; rw [fl]
    rw [show t + 1 + m = t + (m + 1) by omega]
    by_cases hp : p t = true
    · rw [if_pos hp, if_pos hp]; rfl
    · rw [if_neg hp, if_neg hp]
theorem q_sub1 (x : Int32) : x - 1 = x + (-1) := Int32.sub_eq_add_neg ..
def s22 : Nat → Nat → Prop := fun c j => c = 22 ∧ j = 0
section SV
variable {i : Nat} {F : fF}
theorem toList_rev (o : Option Nat) : o.toList.reverse = o.toList := by cases o <;> rfl
theorem f_kd_rev (F : fF) (t : Nat) : (f_kd F t).reverse = (fl (f_pk F t) 0 (fN F)).reverse ++ (fQ F t).toList := by
  unfold f_kd
  rw [List.reverse_append, toList_rev]
theorem C_opn_loop (ct : am_T) (hw : f_wf F) {t : Nat} (ht : t < fN F) (x3 : Int32) : ∀ (m k : Nat) (g : am_G) (B : List Nat), m ≤ fN F → rC g i F → rR g 22 B → B.length + (fl (f_pk F t) 0 m).length + (fQ F t).toList.length ≤ 24 → m < k →
    ∃ g', am_run ct 53 k 12 [some (.inr (.inr (20, 0))), some (.inr (.inr (1, i))), some (.inl (nI t)), some (.inl x3), some (.inl (nI B.length)), some (.inl (eC (fQ F t))), some (.inl (nI m + (-1)))] [] g = some (some (.inl (nI (B ++ ((fl (f_pk F t) 0 m).reverse ++ (fQ F t).toList)).length)), g') ∧ rR g' 22 (B ++ ((fl (f_pk F t) 0 m).reverse ++ (fQ F t).toList)) ∧ m_fr s22 g g'
  | 0, k, g, B, hm, hc, hB, hl, hk => by
    obtain ⟨k, rfl⟩ : ∃ k', k = k' + 1 := ⟨k - 1, by omega⟩
    rw [eV_opnChildren_12, if_pos (by decide), fl, List.reverse_nil, List.nil_append]
    cases e : fQ F t with
    | none =>
      rw [eC_none, if_pos rfl, show (none : Option Nat).toList = [] from rfl, List.append_nil]
      exact ⟨g, rfl, hB, m_fr.rf⟩
    | some q =>
      rw [e] at hl
      have hl2 : B.length < 24 := by
        rw [show (some q).toList = [q] from rfl, List.length_singleton] at hl
        omega
      have hq := hw.q31 ht q e
      rw [eC_some, if_neg (q_ne1 hq), if_neg (q_s24 hl2), q_c24 (Nat.le_refl 24) hl2, cond_true, nI_clamp (by omega), nI_1, show (some q).toList = [q] from rfl, List.length_append, List.length_singleton]
      exact ⟨_, rfl, hB.push, m_fr.rf.sto ⟨rfl, rfl⟩⟩
  | m + 1, k, g, B, hm, hc, hB, hl, hk => by
    obtain ⟨k, rfl⟩ : ∃ k', k = k' + 1 := ⟨k - 1, by omega⟩
    have hn := hw.1
    have hmn : m < fN F := by omega
    rw [fl_snoc, Nat.zero_add] at hl ⊢
    rw [eV_opnChildren_12, pk_m1, if_neg (q_nn (by omega)), q_c24 hn hmn, cond_true, nI_clamp (by omega), hc.p hmn]
    have iff1 := eC_inj (hw.p31 hmn) (q := t) (by omega)
    have iff2 : nI m = eC (fQ F t) ↔ fQ F t = some m := by rw [eq_comm]; exact eC_inj (hw.q31 ht) (by omega)
    by_cases hp : f_pk F t m = true
    · have hp2 := of_decide_eq_true hp
      rw [if_pos hp, List.length_append, List.length_singleton] at hl
      have hl2 : B.length < 24 := by omega
      rw [if_pos (iff1.mpr hp2.1), if_neg (fun q => hp2.2 (iff2.mp q)), if_neg (q_s24 hl2), q_c24 (Nat.le_refl 24) hl2, cond_true, nI_clamp (by omega), nI_1, if_pos hp, List.reverse_append, List.reverse_singleton]
      have hc2 : rC (am_sto g 22 0 B.length (nI m)) i F := hc.cg fun c hc => m_sto_ne (by omega)
      obtain ⟨g', k1, k2, k3⟩ := C_opn_loop ct hw ht x3 m k _ (B ++ [m]) (by omega) hc2 hB.push (by rw [List.length_append, List.length_singleton]; omega) (by omega)
      rw [List.length_append, List.length_singleton] at k1
      simp only [List.append_assoc] at k1 k2 ⊢
      exact ⟨g', k1, k2, (m_fr.rf.sto ⟨rfl, rfl⟩).tr k3⟩
    · rw [if_neg hp, List.append_nil] at hl ⊢
      obtain ⟨g', k1, k2, k3⟩ := C_opn_loop ct hw ht x3 m k g B (by omega) hc hB hl (by omega)
      by_cases h1 : fP F m = some t
      · have h2 : fQ F t = some m := by
          by_cases h2 : fQ F t = some m
          · exact h2
          · exact absurd (decide_eq_true ⟨h1, h2⟩) hp
        rw [if_pos (iff1.mpr h1), if_pos (iff2.mpr h2)]
        exact ⟨g', k1, k2, k3⟩
      · rw [if_neg (fun q => h1 (iff1.mp q))]
        exact ⟨g', k1, k2, k3⟩
theorem C_openChildren {g : am_G} (d : Nat) (hc : rC g i F) (hw : f_wf F) {t : Nat} (ht : t < fN F) {B : List Nat} (hB : rR g 22 B) (hl : B.length + (f_kd F t).length ≤ 24) :
    ∃ g', am_call (d + 1) 53 [.inr (.inr (20, 0)), .inr (.inr (1, i)), .inl (nI t), .inl (nI B.length)] g = some (some (.inl (nI (B ++ (f_kd F t).reverse).length)), g') ∧ rR g' 22 (B ++ (f_kd F t).reverse) ∧ m_fr s22 g g' := by
  have hn := hw.1
  rw [cV_opnChildren, eV_opnChildren_0, q_c24 hn ht, cond_true, nI_clamp (by omega), hc.q ht, hc.1, q_sub1, f_kd_rev]
  have hl2 : (f_kd F t).length = (fQ F t).toList.length + (fl (f_pk F t) 0 (fN F)).length := by
    unfold f_kd
    rw [List.length_append]
  exact C_opn_loop _ hw ht _ (fN F) 99999 g B (Nat.le_refl _) hc hB (by omega) (by omega)
def rV (g : am_G) (L : List Nat) : Prop := g 121 0 0 = nI L.length ∧ rR g 21 L
def sV : Nat → Nat → Prop := fun c j => j = 0 ∧ (c = 21 ∨ c = 22 ∨ c = 121)
theorem fm_len {f : Nat → List Nat} : ∀ (l : List Nat), (∀ x ∈ l, 0 < (f x).length) → l.length ≤ (l.flatMap f).length
  | [], _ => Nat.zero_le _
  | x :: r, h => by
    have := fm_len r (fun y hy => h y (List.mem_cons_of_mem _ hy))
    have := h x List.mem_cons_self
    rw [List.flatMap_cons, List.length_append, List.length_cons]
    omega
theorem C_line_loop (d : Nat) (hw : f_wf F) {R : Nat} (hR : R < fN F) (x2 : Int32) : ∀ (m k : Nat) (A B : List Nat) (g : am_G) (o5 : Option am_V), (B.reverse.flatMap (f_or F)).length ≤ m → A ++ B.reverse.flatMap (f_or F) = f_or F R → (∀ x ∈ B, x < fN F) → rC g i F → rV g A → rR g 22 B → 2 * m + 2 ≤ k →
    ∃ g', am_run (am_call (d + 1)) 52 k 12 [some (.inr (.inr (20, 0))), some (.inr (.inr (1, i))), some (.inl x2), some (.inl (nI B.length)), some (.inl (nI A.length)), o5] [] g = some (none, g') ∧ rV g' (f_or F R) ∧ m_fr sV g g' := by
  intro m
  induction m with
  | zero =>
    intro k A B g o5 h1 h2 h3 hc hA hB hk
    obtain ⟨k, rfl⟩ : ∃ k', k = k' + 1 := ⟨k - 1, by omega⟩
    have hB0 : B = [] := by
      have h4 := fm_len (f := f_or F) B.reverse (fun x hx => f_or_pos hw (h3 x (List.mem_reverse.mp hx)))
      rw [List.length_reverse] at h4
      exact List.eq_nil_of_length_eq_zero (by omega)
    subst hB0
    rw [List.reverse_nil, List.flatMap_nil, List.append_nil] at h2
    subst h2
    refine ⟨g, ?_, hA, m_fr.rf⟩
    rw [eV_lineUp_12, List.length_nil, if_pos (show nI 0 ≤ 0 by decide), ite_self]
  | succ m ih =>
    intro k A B g o5 h1 h2 h3 hc hA hB hk
    obtain ⟨k, rfl⟩ : ∃ k', k = k' + 2 := ⟨k - 2, by omega⟩
    have hlen := f_or_len hw hR
    have hn := hw.1
    rw [← h2, List.length_append] at hlen
    rcases List.eq_nil_or_concat B with rfl | ⟨B', t, rfl⟩
    · rw [List.reverse_nil, List.flatMap_nil, List.append_nil] at h2
      subst h2
      refine ⟨g, ?_, hA, m_fr.rf⟩
      rw [eV_lineUp_12, List.length_nil, if_pos (show nI 0 ≤ 0 by decide), ite_self]
    · rw [List.concat_eq_append] at *
      have ht : t < fN F := h3 t (List.mem_append_right _ (List.mem_singleton.mpr rfl))
      have h3' : ∀ x ∈ B', x < fN F := fun x hx => h3 x (List.mem_append_left _ hx)
      rw [List.reverse_append, List.reverse_singleton, List.singleton_append, List.flatMap_cons, f_or_eq hw ht, List.cons_append, List.length_cons, List.length_append] at h1 hlen
      rw [List.reverse_append, List.reverse_singleton, List.singleton_append, List.flatMap_cons, f_or_eq hw ht] at h2
      have hkl := fm_len (f := f_or F) (f_kd F t) (fun x hx => f_or_pos hw ((f_kd_mem hw ht).mp hx).1)
      have hbl := fm_len (f := f_or F) B'.reverse (fun x hx => f_or_pos hw (h3' x (List.mem_reverse.mp hx)))
      rw [List.length_reverse] at hbl
      have hB't : g 22 0 B'.length = nI t := hB B'.length t (by rw [List.getElem?_append, if_neg (Nat.lt_irrefl _), Nat.sub_self]; rfl)
      have hA24 : A.length < 24 := by omega
      rw [eV_lineUp_12, if_neg (q_s24 hA24), List.length_append, List.length_singleton, if_neg (nI_nle (by omega) (by omega)), pk_m1, eV_lineUp_18, q_c24 (Nat.le_refl 24) (show B'.length < 24 by omega), cond_true, hA.1, q_c24 (Nat.le_refl 24) hA24, cond_true, nI_clamp (by omega), nI_clamp (by omega), hB't, m_sto_ne (by simp), hA.1, nI_1]
      have hc2 : rC (am_put (am_sto g 21 0 A.length (nI t)) 121 0 (nI (A.length + 1))) i F := hc.cg fun c hc => by rw [m_put_ne (by omega), m_sto_ne (by omega)]
      have hA2 : rV (am_put (am_sto g 21 0 A.length (nI t)) 121 0 (nI (A.length + 1))) (A ++ [t]) := by
        refine ⟨by rw [m_put, List.length_append, List.length_singleton], ?_⟩
        unfold rR
        rw [m_put_ne (by simp)]
        exact hA.2.push
      have hB2 : rR (am_put (am_sto g 21 0 A.length (nI t)) 121 0 (nI (A.length + 1))) 22 B' := by
        unfold rR
        rw [m_put_ne (by simp), m_sto_ne (by simp)]
        exact hB.pre
      obtain ⟨g', k1, k2, k3⟩ := C_openChildren d hc2 hw ht hB2 (by omega)
      rw [k1, bi_some]
      have hc3 : rC g' i F := hc2.fr k3 (fun c hc => by have := hc.1; omega)
      have hA3 : rV g' (A ++ [t]) := by
        refine ⟨?_, hA2.2.fr k3 (fun q => by have := q.1; omega)⟩
        rw [k3 121 0 (fun q => by have := q.1; omega)]
        exact hA2.1
      obtain ⟨g2, l1, l2, l3⟩ := ih k (A ++ [t]) (B' ++ (f_kd F t).reverse) g' (some (.inl (nI t))) (by
        rw [List.reverse_append, List.reverse_reverse, List.flatMap_append, List.length_append]
        omega) (by
        rw [List.reverse_append, List.reverse_reverse, List.flatMap_append, ← h2, List.append_assoc]
        rfl) (fun x hx => by
        rw [List.mem_append, List.mem_reverse] at hx
        rcases hx with hx | hx
        · exact h3' x hx
        · exact ((f_kd_mem hw ht).mp hx).1) hc3 hA3 k2 (by omega)
      rw [show (A ++ [t]).length = A.length + 1 by simp] at l1
      refine ⟨g2, l1, l2, ?_⟩
      exact ((((m_fr.rf.sto ⟨rfl, by omega⟩).put ⟨rfl, by omega⟩).tr (k3.mono fun c j q => ⟨q.2, by have := q.1; omega⟩))).tr l3
theorem C_lineUp {g : am_G} (d : Nat) (hc : rC g i F) (hw : f_wf F) {R : Nat} (hR : R < fN F) :
    ∃ g', am_call (d + 2) 52 [.inr (.inr (20, 0)), .inr (.inr (1, i)), .inl (nI R)] g = some (none, g') ∧ rV g' (f_or F R) ∧ m_fr sV g g' := by
  rw [cV_lineUp, eV_lineUp_0, show am_in (0 : Int32) 24 = true from rfl, cond_true, z0]
  have hc2 : rC (am_sto (am_put g 121 0 0) 22 0 0 (nI R)) i F := hc.cg fun c hc => by rw [m_sto_ne (by omega), m_put_ne (by omega)]
  obtain ⟨g', k1, k2, k3⟩ := C_line_loop (i := i) d hw hR (nI R) 24 99999 [] [R] (am_sto (am_put g 121 0 0) 22 0 0 (nI R)) none (by
    rw [List.reverse_singleton, List.flatMap_singleton]
    exact Nat.le_trans (f_or_len hw hR) hw.1) (by rw [List.reverse_singleton, List.flatMap_singleton]; rfl) (fun x hx => by rw [List.mem_singleton] at hx; subst hx; exact hR) hc2 ⟨by rw [m_sto_ne (by simp), m_put]; rfl, fun k x hk => by simp at hk⟩ (fun k x hk => by
    match k with
    | 0 => cases hk; rw [m_sto, if_pos rfl]
    | k + 1 => cases hk) (by omega)
  exact ⟨g', k1, k2, ((m_fr.rf.put ⟨rfl, by omega⟩).sto ⟨rfl, by omega⟩).tr k3⟩
/-- the first place of a town in a row -/
def l_pl (L : List Nat) (x : Nat) : Option Nat := ff (fun t => decide (L[t]? = some x)) 0 L.length
theorem C_placeOf {g : am_G} (d : Nat) {L : List Nat} (h : rV g L) (hl : L.length ≤ 24) (hL : ∀ x ∈ L, x < 24) {x : Nat} (hx : x < 24) : am_call (d + 1) 54 [.inr (.inr (20, 0)), .inl (nI x)] g = some (some (.inl (eC (l_pl L x))), g) := by
  rw [cV_placeOf, eV_placeOf_0]
  have := for_find (fun k t => am_run (am_call d) 54 k 2 [some (.inr (.inr (20, 0))), some (.inl (nI x)), some (.inl (nI t))] [] g) L.length (fun t => decide (L[t]? = some x)) (fun t => some (some (.inl (nI t)), g)) (some (some (.inl (-1)), g)) (fun k t ht => by
    obtain ⟨y, hy⟩ : ∃ y, L[t]? = some y := ⟨_, List.getElem?_eq_getElem ht⟩
    have hy2 := hL y (List.mem_of_getElem? hy)
    rw [eV_placeOf_2, h.1, if_neg (nI_ge ht (by omega)), q_c24 hl ht, cond_true, nI_clamp (q24 hl ht), h.2 t y hy, nI_1, hy]
    by_cases hyx : y = x
    · rw [if_pos (by rw [hyx]), if_pos (by rw [hyx]; simp)]
    · rw [if_neg (fun q => hyx ((q_inj (by omega) (by omega)).mp q)), if_neg (by simpa using hyx)]) (fun k => by
    rw [eV_placeOf_2, h.1, if_pos (nI_le (Nat.le_refl _) (by omega))]) L.length 0 99999 (by omega) (by omega)
  rw [show (0 : Int32) = nI 0 from rfl, this]
  unfold l_pl
  cases ff (fun t => decide (L[t]? = some x)) 0 L.length with
  | none => rfl
  | some t => rfl
end SV
end

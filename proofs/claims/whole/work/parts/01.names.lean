-- ===== PART A: goes FIRST, ahead of the names: the tables' words, and 'selects' of the private methods out of them =====
/-- a private method of a class that the tables say can be made, by its rows of tables_1 -/
def lw_okq (q : MethodName × Nat) : Prop := (q.1.cls ≠ "java/lang/invoke/MethodHandle" ∧ q.1.cls ≠ "java/lang/invoke/VarHandle") ∧ Cond.instantiable q.1.cls q.2 ∈ tables_1 ∧ Cond.privateMethod q.1 ∈ tables_1 ∧ Cond.instanceMethod q.1 ∈ tables_1
theorem lw_p0 : lw_okq (⟨"OnlyMovesHisLips", "refuse", "(I)I"⟩, 11) := ⟨⟨by decide +kernel, by decide +kernel⟩, List.mem_of_getElem? (i := 20) (by decide +kernel), List.mem_of_getElem? (i := 323) (by decide +kernel), List.mem_of_getElem? (i := 324) (by decide +kernel)⟩
theorem lw_p1 : lw_okq (⟨"OnlyMovesHisLips", "lackOfRow", "(I)I"⟩, 11) := ⟨⟨by decide +kernel, by decide +kernel⟩, List.mem_of_getElem? (i := 20) (by decide +kernel), List.mem_of_getElem? (i := 341) (by decide +kernel), List.mem_of_getElem? (i := 342) (by decide +kernel)⟩
theorem lw_p2 : lw_okq (⟨"OnlyMovesHisLips", "lackForCopy", "(II)I"⟩, 11) := ⟨⟨by decide +kernel, by decide +kernel⟩, List.mem_of_getElem? (i := 20) (by decide +kernel), List.mem_of_getElem? (i := 362) (by decide +kernel), List.mem_of_getElem? (i := 363) (by decide +kernel)⟩
theorem lw_p3 : lw_okq (⟨"OnlyMovesHisLips$Hall", "beginAnew", "()V"⟩, 9) := ⟨⟨by decide +kernel, by decide +kernel⟩, List.mem_of_getElem? (i := 137) (by decide +kernel), List.mem_of_getElem? (i := 434) (by decide +kernel), List.mem_of_getElem? (i := 435) (by decide +kernel)⟩
theorem lw_p4 : lw_okq (⟨"OnlyMovesHisLips$Worlds", "add", "(I)V"⟩, 9) := ⟨⟨by decide +kernel, by decide +kernel⟩, List.mem_of_getElem? (i := 178) (by decide +kernel), List.mem_of_getElem? (i := 452) (by decide +kernel), List.mem_of_getElem? (i := 453) (by decide +kernel)⟩
theorem lw_p5 : lw_okq (⟨"OnlyMovesHisLips$Reader", "readWord", "()I"⟩, 4) := ⟨⟨by decide +kernel, by decide +kernel⟩, List.mem_of_getElem? (i := 54) (by decide +kernel), List.mem_of_getElem? (i := 534) (by decide +kernel), List.mem_of_getElem? (i := 535) (by decide +kernel)⟩
theorem lw_p6 : lw_okq (⟨"OnlyMovesHisLips$Reader", "sign", "(I)I"⟩, 4) := ⟨⟨by decide +kernel, by decide +kernel⟩, List.mem_of_getElem? (i := 54) (by decide +kernel), List.mem_of_getElem? (i := 558) (by decide +kernel), List.mem_of_getElem? (i := 559) (by decide +kernel)⟩
theorem lw_p7 : lw_okq (⟨"OnlyMovesHisLips$Reader", "fails", "(I)Z"⟩, 4) := ⟨⟨by decide +kernel, by decide +kernel⟩, List.mem_of_getElem? (i := 54) (by decide +kernel), List.mem_of_getElem? (i := 610) (by decide +kernel), List.mem_of_getElem? (i := 611) (by decide +kernel)⟩
theorem lw_p8 : lw_okq (⟨"OnlyMovesHisLips$Reader", "stands", "(C)Z"⟩, 4) := ⟨⟨by decide +kernel, by decide +kernel⟩, List.mem_of_getElem? (i := 54) (by decide +kernel), List.mem_of_getElem? (i := 616) (by decide +kernel), List.mem_of_getElem? (i := 617) (by decide +kernel)⟩
theorem lw_p9 : lw_okq (⟨"OnlyMovesHisLips$Reader", "readNumber", "(I)Z"⟩, 4) := ⟨⟨by decide +kernel, by decide +kernel⟩, List.mem_of_getElem? (i := 54) (by decide +kernel), List.mem_of_getElem? (i := 620) (by decide +kernel), List.mem_of_getElem? (i := 621) (by decide +kernel)⟩
theorem lw_p10 : lw_okq (⟨"OnlyMovesHisLips$Reader", "fits", "(LOnlyMovesHisLips$Hall;II)Z"⟩, 4) := ⟨⟨by decide +kernel, by decide +kernel⟩, List.mem_of_getElem? (i := 54) (by decide +kernel), List.mem_of_getElem? (i := 624) (by decide +kernel), List.mem_of_getElem? (i := 625) (by decide +kernel)⟩
theorem lw_p11 : lw_okq (⟨"OnlyMovesHisLips$Reader", "tell", "(LOnlyMovesHisLips$Hall;I)V"⟩, 4) := ⟨⟨by decide +kernel, by decide +kernel⟩, List.mem_of_getElem? (i := 54) (by decide +kernel), List.mem_of_getElem? (i := 659) (by decide +kernel), List.mem_of_getElem? (i := 660) (by decide +kernel)⟩
theorem lw_p12 : lw_okq (⟨"OnlyMovesHisLips$Course", "lay", "(JJI)V"⟩, 8) := ⟨⟨by decide +kernel, by decide +kernel⟩, List.mem_of_getElem? (i := 74) (by decide +kernel), List.mem_of_getElem? (i := 815) (by decide +kernel), List.mem_of_getElem? (i := 816) (by decide +kernel)⟩
theorem lw_p13 : lw_okq (⟨"OnlyMovesHisLips", "lackOfTold", "(II)I"⟩, 11) := ⟨⟨by decide +kernel, by decide +kernel⟩, List.mem_of_getElem? (i := 20) (by decide +kernel), List.mem_of_getElem? (i := 834) (by decide +kernel), List.mem_of_getElem? (i := 835) (by decide +kernel)⟩
theorem lw_p14 : lw_okq (⟨"OnlyMovesHisLips$Told", "sortIn", "(I)V"⟩, 6) := ⟨⟨by decide +kernel, by decide +kernel⟩, List.mem_of_getElem? (i := 108) (by decide +kernel), List.mem_of_getElem? (i := 850) (by decide +kernel), List.mem_of_getElem? (i := 851) (by decide +kernel)⟩
theorem lw_p15 : lw_okq (⟨"OnlyMovesHisLips$Hall", "exchangeForTrial", "(II)V"⟩, 9) := ⟨⟨by decide +kernel, by decide +kernel⟩, List.mem_of_getElem? (i := 137) (by decide +kernel), List.mem_of_getElem? (i := 903) (by decide +kernel), List.mem_of_getElem? (i := 904) (by decide +kernel)⟩
def lw_privs_1 : List (MethodName × Nat) := [(⟨"OnlyMovesHisLips", "refuse", "(I)I"⟩, 11), (⟨"OnlyMovesHisLips", "lackOfRow", "(I)I"⟩, 11), (⟨"OnlyMovesHisLips", "lackForCopy", "(II)I"⟩, 11), (⟨"OnlyMovesHisLips$Hall", "beginAnew", "()V"⟩, 9), (⟨"OnlyMovesHisLips$Worlds", "add", "(I)V"⟩, 9), (⟨"OnlyMovesHisLips$Reader", "readWord", "()I"⟩, 4), (⟨"OnlyMovesHisLips$Reader", "sign", "(I)I"⟩, 4), (⟨"OnlyMovesHisLips$Reader", "fails", "(I)Z"⟩, 4), (⟨"OnlyMovesHisLips$Reader", "stands", "(C)Z"⟩, 4), (⟨"OnlyMovesHisLips$Reader", "readNumber", "(I)Z"⟩, 4), (⟨"OnlyMovesHisLips$Reader", "fits", "(LOnlyMovesHisLips$Hall;II)Z"⟩, 4), (⟨"OnlyMovesHisLips$Reader", "tell", "(LOnlyMovesHisLips$Hall;I)V"⟩, 4), (⟨"OnlyMovesHisLips$Course", "lay", "(JJI)V"⟩, 8), (⟨"OnlyMovesHisLips", "lackOfTold", "(II)I"⟩, 11), (⟨"OnlyMovesHisLips$Told", "sortIn", "(I)V"⟩, 6), (⟨"OnlyMovesHisLips$Hall", "exchangeForTrial", "(II)V"⟩, 9)]
theorem lw_r1 : ∀ q ∈ lw_privs_1, lw_okq q := List.forall_mem_cons.mpr ⟨lw_p0, List.forall_mem_cons.mpr ⟨lw_p1, List.forall_mem_cons.mpr ⟨lw_p2, List.forall_mem_cons.mpr ⟨lw_p3, List.forall_mem_cons.mpr ⟨lw_p4, List.forall_mem_cons.mpr ⟨lw_p5, List.forall_mem_cons.mpr ⟨lw_p6, List.forall_mem_cons.mpr ⟨lw_p7, List.forall_mem_cons.mpr ⟨lw_p8, List.forall_mem_cons.mpr ⟨lw_p9, List.forall_mem_cons.mpr ⟨lw_p10, List.forall_mem_cons.mpr ⟨lw_p11, List.forall_mem_cons.mpr ⟨lw_p12, List.forall_mem_cons.mpr ⟨lw_p13, List.forall_mem_cons.mpr ⟨lw_p14, List.forall_mem_cons.mpr ⟨lw_p15, fun _ h => absurd h List.not_mem_nil⟩⟩⟩⟩⟩⟩⟩⟩⟩⟩⟩⟩⟩⟩⟩⟩
theorem lw_p16 : lw_okq (⟨"OnlyMovesHisLips$Hall", "draw", "(I)I"⟩, 9) := ⟨⟨by decide +kernel, by decide +kernel⟩, List.mem_of_getElem? (i := 137) (by decide +kernel), List.mem_of_getElem? (i := 960) (by decide +kernel), List.mem_of_getElem? (i := 961) (by decide +kernel)⟩
theorem lw_p17 : lw_okq (⟨"OnlyMovesHisLips$Voice", "note", "(I)V"⟩, 5) := ⟨⟨by decide +kernel, by decide +kernel⟩, List.mem_of_getElem? (i := 30) (by decide +kernel), List.mem_of_getElem? (i := 996) (by decide +kernel), List.mem_of_getElem? (i := 997) (by decide +kernel)⟩
theorem lw_p18 : lw_okq (⟨"OnlyMovesHisLips", "refusalsOf", "(I)I"⟩, 11) := ⟨⟨by decide +kernel, by decide +kernel⟩, List.mem_of_getElem? (i := 20) (by decide +kernel), List.mem_of_getElem? (i := 1020) (by decide +kernel), List.mem_of_getElem? (i := 1021) (by decide +kernel)⟩
theorem lw_p19 : lw_okq (⟨"OnlyMovesHisLipsModel", "isShelf", "(I)Z"⟩, 45) := ⟨⟨by decide +kernel, by decide +kernel⟩, List.mem_of_getElem? (i := 1024) (by decide +kernel), List.mem_of_getElem? (i := 1170) (by decide +kernel), List.mem_of_getElem? (i := 1171) (by decide +kernel)⟩
theorem lw_p20 : lw_okq (⟨"OnlyMovesHisLipsModel", "no", "(I)I"⟩, 45) := ⟨⟨by decide +kernel, by decide +kernel⟩, List.mem_of_getElem? (i := 1024) (by decide +kernel), List.mem_of_getElem? (i := 1174) (by decide +kernel), List.mem_of_getElem? (i := 1175) (by decide +kernel)⟩
theorem lw_p21 : lw_okq (⟨"OnlyMovesHisLipsModel", "isSinger", "(I)Z"⟩, 45) := ⟨⟨by decide +kernel, by decide +kernel⟩, List.mem_of_getElem? (i := 1024) (by decide +kernel), List.mem_of_getElem? (i := 1194) (by decide +kernel), List.mem_of_getElem? (i := 1195) (by decide +kernel)⟩
theorem lw_p22 : lw_okq (⟨"OnlyMovesHisLipsModel", "who", "(I)I"⟩, 45) := ⟨⟨by decide +kernel, by decide +kernel⟩, List.mem_of_getElem? (i := 1024) (by decide +kernel), List.mem_of_getElem? (i := 1206) (by decide +kernel), List.mem_of_getElem? (i := 1207) (by decide +kernel)⟩
theorem lw_p23 : lw_okq (⟨"OnlyMovesHisLipsModel", "adds", "(III)I"⟩, 45) := ⟨⟨by decide +kernel, by decide +kernel⟩, List.mem_of_getElem? (i := 1024) (by decide +kernel), List.mem_of_getElem? (i := 1214) (by decide +kernel), List.mem_of_getElem? (i := 1215) (by decide +kernel)⟩
theorem lw_p24 : lw_okq (⟨"OnlyMovesHisLipsModel", "anew", "()V"⟩, 45) := ⟨⟨by decide +kernel, by decide +kernel⟩, List.mem_of_getElem? (i := 1024) (by decide +kernel), List.mem_of_getElem? (i := 1218) (by decide +kernel), List.mem_of_getElem? (i := 1219) (by decide +kernel)⟩
theorem lw_p25 : lw_okq (⟨"OnlyMovesHisLipsModel", "likely", "(I)I"⟩, 45) := ⟨⟨by decide +kernel, by decide +kernel⟩, List.mem_of_getElem? (i := 1024) (by decide +kernel), List.mem_of_getElem? (i := 1226) (by decide +kernel), List.mem_of_getElem? (i := 1227) (by decide +kernel)⟩
theorem lw_p26 : lw_okq (⟨"OnlyMovesHisLipsModel", "possible", "()I"⟩, 45) := ⟨⟨by decide +kernel, by decide +kernel⟩, List.mem_of_getElem? (i := 1024) (by decide +kernel), List.mem_of_getElem? (i := 1230) (by decide +kernel), List.mem_of_getElem? (i := 1231) (by decide +kernel)⟩
theorem lw_p27 : lw_okq (⟨"OnlyMovesHisLipsModel", "lists", "()I"⟩, 45) := ⟨⟨by decide +kernel, by decide +kernel⟩, List.mem_of_getElem? (i := 1024) (by decide +kernel), List.mem_of_getElem? (i := 1234) (by decide +kernel), List.mem_of_getElem? (i := 1235) (by decide +kernel)⟩
theorem lw_p28 : lw_okq (⟨"OnlyMovesHisLipsModel", "everybody", "()I"⟩, 45) := ⟨⟨by decide +kernel, by decide +kernel⟩, List.mem_of_getElem? (i := 1024) (by decide +kernel), List.mem_of_getElem? (i := 1238) (by decide +kernel), List.mem_of_getElem? (i := 1239) (by decide +kernel)⟩
theorem lw_p29 : lw_okq (⟨"OnlyMovesHisLipsModel", "count", "(I)I"⟩, 45) := ⟨⟨by decide +kernel, by decide +kernel⟩, List.mem_of_getElem? (i := 1024) (by decide +kernel), List.mem_of_getElem? (i := 1242) (by decide +kernel), List.mem_of_getElem? (i := 1243) (by decide +kernel)⟩
theorem lw_p30 : lw_okq (⟨"OnlyMovesHisLipsModel", "stays", "(III)I"⟩, 45) := ⟨⟨by decide +kernel, by decide +kernel⟩, List.mem_of_getElem? (i := 1024) (by decide +kernel), List.mem_of_getElem? (i := 1246) (by decide +kernel), List.mem_of_getElem? (i := 1247) (by decide +kernel)⟩
theorem lw_p31 : lw_okq (⟨"OnlyMovesHisLipsModel", "soundOf", "(II)I"⟩, 45) := ⟨⟨by decide +kernel, by decide +kernel⟩, List.mem_of_getElem? (i := 1024) (by decide +kernel), List.mem_of_getElem? (i := 1250) (by decide +kernel), List.mem_of_getElem? (i := 1251) (by decide +kernel)⟩
def lw_privs_2 : List (MethodName × Nat) := [(⟨"OnlyMovesHisLips$Hall", "draw", "(I)I"⟩, 9), (⟨"OnlyMovesHisLips$Voice", "note", "(I)V"⟩, 5), (⟨"OnlyMovesHisLips", "refusalsOf", "(I)I"⟩, 11), (⟨"OnlyMovesHisLipsModel", "isShelf", "(I)Z"⟩, 45), (⟨"OnlyMovesHisLipsModel", "no", "(I)I"⟩, 45), (⟨"OnlyMovesHisLipsModel", "isSinger", "(I)Z"⟩, 45), (⟨"OnlyMovesHisLipsModel", "who", "(I)I"⟩, 45), (⟨"OnlyMovesHisLipsModel", "adds", "(III)I"⟩, 45), (⟨"OnlyMovesHisLipsModel", "anew", "()V"⟩, 45), (⟨"OnlyMovesHisLipsModel", "likely", "(I)I"⟩, 45), (⟨"OnlyMovesHisLipsModel", "possible", "()I"⟩, 45), (⟨"OnlyMovesHisLipsModel", "lists", "()I"⟩, 45), (⟨"OnlyMovesHisLipsModel", "everybody", "()I"⟩, 45), (⟨"OnlyMovesHisLipsModel", "count", "(I)I"⟩, 45), (⟨"OnlyMovesHisLipsModel", "stays", "(III)I"⟩, 45), (⟨"OnlyMovesHisLipsModel", "soundOf", "(II)I"⟩, 45)]
theorem lw_r2 : ∀ q ∈ lw_privs_2, lw_okq q := List.forall_mem_cons.mpr ⟨lw_p16, List.forall_mem_cons.mpr ⟨lw_p17, List.forall_mem_cons.mpr ⟨lw_p18, List.forall_mem_cons.mpr ⟨lw_p19, List.forall_mem_cons.mpr ⟨lw_p20, List.forall_mem_cons.mpr ⟨lw_p21, List.forall_mem_cons.mpr ⟨lw_p22, List.forall_mem_cons.mpr ⟨lw_p23, List.forall_mem_cons.mpr ⟨lw_p24, List.forall_mem_cons.mpr ⟨lw_p25, List.forall_mem_cons.mpr ⟨lw_p26, List.forall_mem_cons.mpr ⟨lw_p27, List.forall_mem_cons.mpr ⟨lw_p28, List.forall_mem_cons.mpr ⟨lw_p29, List.forall_mem_cons.mpr ⟨lw_p30, List.forall_mem_cons.mpr ⟨lw_p31, fun _ h => absurd h List.not_mem_nil⟩⟩⟩⟩⟩⟩⟩⟩⟩⟩⟩⟩⟩⟩⟩⟩
theorem lw_p32 : lw_okq (⟨"OnlyMovesHisLipsModel", "isIn", "(II)Z"⟩, 45) := ⟨⟨by decide +kernel, by decide +kernel⟩, List.mem_of_getElem? (i := 1024) (by decide +kernel), List.mem_of_getElem? (i := 1254) (by decide +kernel), List.mem_of_getElem? (i := 1255) (by decide +kernel)⟩
theorem lw_p33 : lw_okq (⟨"OnlyMovesHisLipsModel", "isHeard", "(III)Z"⟩, 45) := ⟨⟨by decide +kernel, by decide +kernel⟩, List.mem_of_getElem? (i := 1024) (by decide +kernel), List.mem_of_getElem? (i := 1258) (by decide +kernel), List.mem_of_getElem? (i := 1259) (by decide +kernel)⟩
theorem lw_p34 : lw_okq (⟨"OnlyMovesHisLipsModel", "holdsUp", "(III)Z"⟩, 45) := ⟨⟨by decide +kernel, by decide +kernel⟩, List.mem_of_getElem? (i := 1024) (by decide +kernel), List.mem_of_getElem? (i := 1262) (by decide +kernel), List.mem_of_getElem? (i := 1263) (by decide +kernel)⟩
theorem lw_p35 : lw_okq (⟨"OnlyMovesHisLipsModel", "weight", "(I)I"⟩, 45) := ⟨⟨by decide +kernel, by decide +kernel⟩, List.mem_of_getElem? (i := 1024) (by decide +kernel), List.mem_of_getElem? (i := 1266) (by decide +kernel), List.mem_of_getElem? (i := 1267) (by decide +kernel)⟩
theorem lw_p36 : lw_okq (⟨"OnlyMovesHisLipsModel", "isAsked", "(II)Z"⟩, 45) := ⟨⟨by decide +kernel, by decide +kernel⟩, List.mem_of_getElem? (i := 1024) (by decide +kernel), List.mem_of_getElem? (i := 1274) (by decide +kernel), List.mem_of_getElem? (i := 1275) (by decide +kernel)⟩
theorem lw_p37 : lw_okq (⟨"OnlyMovesHisLipsModel", "asks", "(II)I"⟩, 45) := ⟨⟨by decide +kernel, by decide +kernel⟩, List.mem_of_getElem? (i := 1024) (by decide +kernel), List.mem_of_getElem? (i := 1278) (by decide +kernel), List.mem_of_getElem? (i := 1279) (by decide +kernel)⟩
theorem lw_p38 : lw_okq (⟨"OnlyMovesHisLipsModel", "wanted", "(I)I"⟩, 45) := ⟨⟨by decide +kernel, by decide +kernel⟩, List.mem_of_getElem? (i := 1024) (by decide +kernel), List.mem_of_getElem? (i := 1286) (by decide +kernel), List.mem_of_getElem? (i := 1287) (by decide +kernel)⟩
theorem lw_p39 : lw_okq (⟨"OnlyMovesHisLipsModel", "all", "([IZ)V"⟩, 45) := ⟨⟨by decide +kernel, by decide +kernel⟩, List.mem_of_getElem? (i := 1024) (by decide +kernel), List.mem_of_getElem? (i := 1290) (by decide +kernel), List.mem_of_getElem? (i := 1291) (by decide +kernel)⟩
theorem lw_p40 : lw_okq (⟨"OnlyMovesHisLipsModel", "carries", "([II[IIZ)I"⟩, 45) := ⟨⟨by decide +kernel, by decide +kernel⟩, List.mem_of_getElem? (i := 1024) (by decide +kernel), List.mem_of_getElem? (i := 1294) (by decide +kernel), List.mem_of_getElem? (i := 1295) (by decide +kernel)⟩
theorem lw_p41 : lw_okq (⟨"OnlyMovesHisLipsModel", "item", "()Z"⟩, 45) := ⟨⟨by decide +kernel, by decide +kernel⟩, List.mem_of_getElem? (i := 1024) (by decide +kernel), List.mem_of_getElem? (i := 1298) (by decide +kernel), List.mem_of_getElem? (i := 1299) (by decide +kernel)⟩
theorem lw_p42 : lw_okq (⟨"OnlyMovesHisLipsModel", "isWordAt", "(I)Z"⟩, 45) := ⟨⟨by decide +kernel, by decide +kernel⟩, List.mem_of_getElem? (i := 1024) (by decide +kernel), List.mem_of_getElem? (i := 1302) (by decide +kernel), List.mem_of_getElem? (i := 1303) (by decide +kernel)⟩
theorem lw_p43 : lw_okq (⟨"OnlyMovesHisLipsModel", "wrong", "(I)Z"⟩, 45) := ⟨⟨by decide +kernel, by decide +kernel⟩, List.mem_of_getElem? (i := 1024) (by decide +kernel), List.mem_of_getElem? (i := 1306) (by decide +kernel), List.mem_of_getElem? (i := 1307) (by decide +kernel)⟩
theorem lw_p44 : lw_okq (⟨"OnlyMovesHisLipsModel", "word", "()I"⟩, 45) := ⟨⟨by decide +kernel, by decide +kernel⟩, List.mem_of_getElem? (i := 1024) (by decide +kernel), List.mem_of_getElem? (i := 1310) (by decide +kernel), List.mem_of_getElem? (i := 1311) (by decide +kernel)⟩
theorem lw_p45 : lw_okq (⟨"OnlyMovesHisLipsModel", "reads", "()Z"⟩, 45) := ⟨⟨by decide +kernel, by decide +kernel⟩, List.mem_of_getElem? (i := 1024) (by decide +kernel), List.mem_of_getElem? (i := 1314) (by decide +kernel), List.mem_of_getElem? (i := 1315) (by decide +kernel)⟩
theorem lw_p46 : lw_okq (⟨"OnlyMovesHisLipsModel", "isDigit", "()Z"⟩, 45) := ⟨⟨by decide +kernel, by decide +kernel⟩, List.mem_of_getElem? (i := 1024) (by decide +kernel), List.mem_of_getElem? (i := 1318) (by decide +kernel), List.mem_of_getElem? (i := 1319) (by decide +kernel)⟩
theorem lw_p47 : lw_okq (⟨"OnlyMovesHisLipsModel", "isSo", "(II)Z"⟩, 45) := ⟨⟨by decide +kernel, by decide +kernel⟩, List.mem_of_getElem? (i := 1024) (by decide +kernel), List.mem_of_getElem? (i := 1322) (by decide +kernel), List.mem_of_getElem? (i := 1323) (by decide +kernel)⟩
def lw_privs_3 : List (MethodName × Nat) := [(⟨"OnlyMovesHisLipsModel", "isIn", "(II)Z"⟩, 45), (⟨"OnlyMovesHisLipsModel", "isHeard", "(III)Z"⟩, 45), (⟨"OnlyMovesHisLipsModel", "holdsUp", "(III)Z"⟩, 45), (⟨"OnlyMovesHisLipsModel", "weight", "(I)I"⟩, 45), (⟨"OnlyMovesHisLipsModel", "isAsked", "(II)Z"⟩, 45), (⟨"OnlyMovesHisLipsModel", "asks", "(II)I"⟩, 45), (⟨"OnlyMovesHisLipsModel", "wanted", "(I)I"⟩, 45), (⟨"OnlyMovesHisLipsModel", "all", "([IZ)V"⟩, 45), (⟨"OnlyMovesHisLipsModel", "carries", "([II[IIZ)I"⟩, 45), (⟨"OnlyMovesHisLipsModel", "item", "()Z"⟩, 45), (⟨"OnlyMovesHisLipsModel", "isWordAt", "(I)Z"⟩, 45), (⟨"OnlyMovesHisLipsModel", "wrong", "(I)Z"⟩, 45), (⟨"OnlyMovesHisLipsModel", "word", "()I"⟩, 45), (⟨"OnlyMovesHisLipsModel", "reads", "()Z"⟩, 45), (⟨"OnlyMovesHisLipsModel", "isDigit", "()Z"⟩, 45), (⟨"OnlyMovesHisLipsModel", "isSo", "(II)Z"⟩, 45)]
theorem lw_r3 : ∀ q ∈ lw_privs_3, lw_okq q := List.forall_mem_cons.mpr ⟨lw_p32, List.forall_mem_cons.mpr ⟨lw_p33, List.forall_mem_cons.mpr ⟨lw_p34, List.forall_mem_cons.mpr ⟨lw_p35, List.forall_mem_cons.mpr ⟨lw_p36, List.forall_mem_cons.mpr ⟨lw_p37, List.forall_mem_cons.mpr ⟨lw_p38, List.forall_mem_cons.mpr ⟨lw_p39, List.forall_mem_cons.mpr ⟨lw_p40, List.forall_mem_cons.mpr ⟨lw_p41, List.forall_mem_cons.mpr ⟨lw_p42, List.forall_mem_cons.mpr ⟨lw_p43, List.forall_mem_cons.mpr ⟨lw_p44, List.forall_mem_cons.mpr ⟨lw_p45, List.forall_mem_cons.mpr ⟨lw_p46, List.forall_mem_cons.mpr ⟨lw_p47, fun _ h => absurd h List.not_mem_nil⟩⟩⟩⟩⟩⟩⟩⟩⟩⟩⟩⟩⟩⟩⟩⟩
theorem lw_p48 : lw_okq (⟨"OnlyMovesHisLipsModel", "isSet", "(I)Z"⟩, 45) := ⟨⟨by decide +kernel, by decide +kernel⟩, List.mem_of_getElem? (i := 1024) (by decide +kernel), List.mem_of_getElem? (i := 1326) (by decide +kernel), List.mem_of_getElem? (i := 1327) (by decide +kernel)⟩
theorem lw_p49 : lw_okq (⟨"OnlyMovesHisLipsModel", "isOne", "(I)Z"⟩, 45) := ⟨⟨by decide +kernel, by decide +kernel⟩, List.mem_of_getElem? (i := 1024) (by decide +kernel), List.mem_of_getElem? (i := 1330) (by decide +kernel), List.mem_of_getElem? (i := 1331) (by decide +kernel)⟩
theorem lw_p50 : lw_okq (⟨"OnlyMovesHisLipsModel", "mayBe", "(II)Z"⟩, 45) := ⟨⟨by decide +kernel, by decide +kernel⟩, List.mem_of_getElem? (i := 1024) (by decide +kernel), List.mem_of_getElem? (i := 1334) (by decide +kernel), List.mem_of_getElem? (i := 1335) (by decide +kernel)⟩
theorem lw_p51 : lw_okq (⟨"OnlyMovesHisLipsModel", "isKnown", "(II)Z"⟩, 45) := ⟨⟨by decide +kernel, by decide +kernel⟩, List.mem_of_getElem? (i := 1024) (by decide +kernel), List.mem_of_getElem? (i := 1338) (by decide +kernel), List.mem_of_getElem? (i := 1339) (by decide +kernel)⟩
theorem lw_p52 : lw_okq (⟨"OnlyMovesHisLipsModel", "knows", "(II)V"⟩, 45) := ⟨⟨by decide +kernel, by decide +kernel⟩, List.mem_of_getElem? (i := 1024) (by decide +kernel), List.mem_of_getElem? (i := 1342) (by decide +kernel), List.mem_of_getElem? (i := 1343) (by decide +kernel)⟩
theorem lw_p53 : lw_okq (⟨"OnlyMovesHisLipsModel", "changes", "(II)V"⟩, 45) := ⟨⟨by decide +kernel, by decide +kernel⟩, List.mem_of_getElem? (i := 1024) (by decide +kernel), List.mem_of_getElem? (i := 1346) (by decide +kernel), List.mem_of_getElem? (i := 1347) (by decide +kernel)⟩
theorem lw_p54 : lw_okq (⟨"OnlyMovesHisLipsModel", "isWorld", "(I)Z"⟩, 45) := ⟨⟨by decide +kernel, by decide +kernel⟩, List.mem_of_getElem? (i := 1024) (by decide +kernel), List.mem_of_getElem? (i := 1366) (by decide +kernel), List.mem_of_getElem? (i := 1367) (by decide +kernel)⟩
theorem lw_p55 : lw_okq (⟨"OnlyMovesHisLipsModel", "isLawful", "(I)Z"⟩, 45) := ⟨⟨by decide +kernel, by decide +kernel⟩, List.mem_of_getElem? (i := 1024) (by decide +kernel), List.mem_of_getElem? (i := 1394) (by decide +kernel), List.mem_of_getElem? (i := 1395) (by decide +kernel)⟩
theorem lw_p56 : lw_okq (⟨"OnlyMovesHisLipsModel", "wrongOf", "(III)I"⟩, 45) := ⟨⟨by decide +kernel, by decide +kernel⟩, List.mem_of_getElem? (i := 1024) (by decide +kernel), List.mem_of_getElem? (i := 1402) (by decide +kernel), List.mem_of_getElem? (i := 1403) (by decide +kernel)⟩
theorem lw_p57 : lw_okq (⟨"OnlyMovesHisLipsModel", "begins", "()I"⟩, 45) := ⟨⟨by decide +kernel, by decide +kernel⟩, List.mem_of_getElem? (i := 1024) (by decide +kernel), List.mem_of_getElem? (i := 1410) (by decide +kernel), List.mem_of_getElem? (i := 1411) (by decide +kernel)⟩
theorem lw_p58 : lw_okq (⟨"OnlyMovesHisLipsModel", "tables", "(I)V"⟩, 45) := ⟨⟨by decide +kernel, by decide +kernel⟩, List.mem_of_getElem? (i := 1024) (by decide +kernel), List.mem_of_getElem? (i := 1414) (by decide +kernel), List.mem_of_getElem? (i := 1415) (by decide +kernel)⟩
theorem lw_p59 : lw_okq (⟨"OnlyMovesHisLipsModel", "nextOf", "(II)I"⟩, 45) := ⟨⟨by decide +kernel, by decide +kernel⟩, List.mem_of_getElem? (i := 1024) (by decide +kernel), List.mem_of_getElem? (i := 1418) (by decide +kernel), List.mem_of_getElem? (i := 1419) (by decide +kernel)⟩
theorem lw_p60 : lw_okq (⟨"OnlyMovesHisLipsModel", "goesBy", "(III)V"⟩, 45) := ⟨⟨by decide +kernel, by decide +kernel⟩, List.mem_of_getElem? (i := 1024) (by decide +kernel), List.mem_of_getElem? (i := 1426) (by decide +kernel), List.mem_of_getElem? (i := 1427) (by decide +kernel)⟩
theorem lw_p61 : lw_okq (⟨"OnlyMovesHisLipsModel", "bars", "(II)I"⟩, 45) := ⟨⟨by decide +kernel, by decide +kernel⟩, List.mem_of_getElem? (i := 1024) (by decide +kernel), List.mem_of_getElem? (i := 1435) (by decide +kernel), List.mem_of_getElem? (i := 1436) (by decide +kernel)⟩
theorem lw_p62 : lw_okq (⟨"OnlyMovesHisLipsModel", "intAt", "(II)I"⟩, 45) := ⟨⟨by decide +kernel, by decide +kernel⟩, List.mem_of_getElem? (i := 1024) (by decide +kernel), List.mem_of_getElem? (i := 1439) (by decide +kernel), List.mem_of_getElem? (i := 1440) (by decide +kernel)⟩
theorem lw_p63 : lw_okq (⟨"OnlyMovesHisLipsModel", "barsOf", "(II)I"⟩, 45) := ⟨⟨by decide +kernel, by decide +kernel⟩, List.mem_of_getElem? (i := 1024) (by decide +kernel), List.mem_of_getElem? (i := 1447) (by decide +kernel), List.mem_of_getElem? (i := 1448) (by decide +kernel)⟩
def lw_privs_4 : List (MethodName × Nat) := [(⟨"OnlyMovesHisLipsModel", "isSet", "(I)Z"⟩, 45), (⟨"OnlyMovesHisLipsModel", "isOne", "(I)Z"⟩, 45), (⟨"OnlyMovesHisLipsModel", "mayBe", "(II)Z"⟩, 45), (⟨"OnlyMovesHisLipsModel", "isKnown", "(II)Z"⟩, 45), (⟨"OnlyMovesHisLipsModel", "knows", "(II)V"⟩, 45), (⟨"OnlyMovesHisLipsModel", "changes", "(II)V"⟩, 45), (⟨"OnlyMovesHisLipsModel", "isWorld", "(I)Z"⟩, 45), (⟨"OnlyMovesHisLipsModel", "isLawful", "(I)Z"⟩, 45), (⟨"OnlyMovesHisLipsModel", "wrongOf", "(III)I"⟩, 45), (⟨"OnlyMovesHisLipsModel", "begins", "()I"⟩, 45), (⟨"OnlyMovesHisLipsModel", "tables", "(I)V"⟩, 45), (⟨"OnlyMovesHisLipsModel", "nextOf", "(II)I"⟩, 45), (⟨"OnlyMovesHisLipsModel", "goesBy", "(III)V"⟩, 45), (⟨"OnlyMovesHisLipsModel", "bars", "(II)I"⟩, 45), (⟨"OnlyMovesHisLipsModel", "intAt", "(II)I"⟩, 45), (⟨"OnlyMovesHisLipsModel", "barsOf", "(II)I"⟩, 45)]
theorem lw_r4 : ∀ q ∈ lw_privs_4, lw_okq q := List.forall_mem_cons.mpr ⟨lw_p48, List.forall_mem_cons.mpr ⟨lw_p49, List.forall_mem_cons.mpr ⟨lw_p50, List.forall_mem_cons.mpr ⟨lw_p51, List.forall_mem_cons.mpr ⟨lw_p52, List.forall_mem_cons.mpr ⟨lw_p53, List.forall_mem_cons.mpr ⟨lw_p54, List.forall_mem_cons.mpr ⟨lw_p55, List.forall_mem_cons.mpr ⟨lw_p56, List.forall_mem_cons.mpr ⟨lw_p57, List.forall_mem_cons.mpr ⟨lw_p58, List.forall_mem_cons.mpr ⟨lw_p59, List.forall_mem_cons.mpr ⟨lw_p60, List.forall_mem_cons.mpr ⟨lw_p61, List.forall_mem_cons.mpr ⟨lw_p62, List.forall_mem_cons.mpr ⟨lw_p63, fun _ h => absurd h List.not_mem_nil⟩⟩⟩⟩⟩⟩⟩⟩⟩⟩⟩⟩⟩⟩⟩⟩
theorem lw_p64 : lw_okq (⟨"OnlyMovesHisLipsModel", "noTen", "(I)I"⟩, 45) := ⟨⟨by decide +kernel, by decide +kernel⟩, List.mem_of_getElem? (i := 1024) (by decide +kernel), List.mem_of_getElem? (i := 1451) (by decide +kernel), List.mem_of_getElem? (i := 1452) (by decide +kernel)⟩
theorem lw_p65 : lw_okq (⟨"OnlyMovesHisLipsModel", "wrongIn", "(II)I"⟩, 45) := ⟨⟨by decide +kernel, by decide +kernel⟩, List.mem_of_getElem? (i := 1024) (by decide +kernel), List.mem_of_getElem? (i := 1455) (by decide +kernel), List.mem_of_getElem? (i := 1456) (by decide +kernel)⟩
theorem lw_p66 : lw_okq (⟨"OnlyMovesHisLipsModel", "right", "()I"⟩, 45) := ⟨⟨by decide +kernel, by decide +kernel⟩, List.mem_of_getElem? (i := 1024) (by decide +kernel), List.mem_of_getElem? (i := 1476) (by decide +kernel), List.mem_of_getElem? (i := 1477) (by decide +kernel)⟩
theorem lw_p67 : lw_okq (⟨"OnlyMovesHisLipsModel", "evening", "()I"⟩, 45) := ⟨⟨by decide +kernel, by decide +kernel⟩, List.mem_of_getElem? (i := 1024) (by decide +kernel), List.mem_of_getElem? (i := 1496) (by decide +kernel), List.mem_of_getElem? (i := 1497) (by decide +kernel)⟩
theorem lw_p68 : lw_okq (⟨"OnlyMovesHisLipsModel", "draw", "(I)I"⟩, 45) := ⟨⟨by decide +kernel, by decide +kernel⟩, List.mem_of_getElem? (i := 1024) (by decide +kernel), List.mem_of_getElem? (i := 1500) (by decide +kernel), List.mem_of_getElem? (i := 1501) (by decide +kernel)⟩
theorem lw_p69 : lw_okq (⟨"OnlyMovesHisLipsModel", "singing", "(II)I"⟩, 45) := ⟨⟨by decide +kernel, by decide +kernel⟩, List.mem_of_getElem? (i := 1024) (by decide +kernel), List.mem_of_getElem? (i := 1513) (by decide +kernel), List.mem_of_getElem? (i := 1514) (by decide +kernel)⟩
theorem lw_p70 : lw_okq (⟨"OnlyMovesHisLipsModel", "body", "(I)V"⟩, 45) := ⟨⟨by decide +kernel, by decide +kernel⟩, List.mem_of_getElem? (i := 1024) (by decide +kernel), List.mem_of_getElem? (i := 1517) (by decide +kernel), List.mem_of_getElem? (i := 1518) (by decide +kernel)⟩
theorem lw_p71 : lw_okq (⟨"OnlyMovesHisLipsModel", "hearing", "(II)I"⟩, 45) := ⟨⟨by decide +kernel, by decide +kernel⟩, List.mem_of_getElem? (i := 1024) (by decide +kernel), List.mem_of_getElem? (i := 1521) (by decide +kernel), List.mem_of_getElem? (i := 1522) (by decide +kernel)⟩
theorem lw_p72 : lw_okq (⟨"OnlyMovesHisLipsModel", "leaning", "(II)I"⟩, 45) := ⟨⟨by decide +kernel, by decide +kernel⟩, List.mem_of_getElem? (i := 1024) (by decide +kernel), List.mem_of_getElem? (i := 1525) (by decide +kernel), List.mem_of_getElem? (i := 1526) (by decide +kernel)⟩
def lw_privs_5 : List (MethodName × Nat) := [(⟨"OnlyMovesHisLipsModel", "noTen", "(I)I"⟩, 45), (⟨"OnlyMovesHisLipsModel", "wrongIn", "(II)I"⟩, 45), (⟨"OnlyMovesHisLipsModel", "right", "()I"⟩, 45), (⟨"OnlyMovesHisLipsModel", "evening", "()I"⟩, 45), (⟨"OnlyMovesHisLipsModel", "draw", "(I)I"⟩, 45), (⟨"OnlyMovesHisLipsModel", "singing", "(II)I"⟩, 45), (⟨"OnlyMovesHisLipsModel", "body", "(I)V"⟩, 45), (⟨"OnlyMovesHisLipsModel", "hearing", "(II)I"⟩, 45), (⟨"OnlyMovesHisLipsModel", "leaning", "(II)I"⟩, 45)]
theorem lw_r5 : ∀ q ∈ lw_privs_5, lw_okq q := List.forall_mem_cons.mpr ⟨lw_p64, List.forall_mem_cons.mpr ⟨lw_p65, List.forall_mem_cons.mpr ⟨lw_p66, List.forall_mem_cons.mpr ⟨lw_p67, List.forall_mem_cons.mpr ⟨lw_p68, List.forall_mem_cons.mpr ⟨lw_p69, List.forall_mem_cons.mpr ⟨lw_p70, List.forall_mem_cons.mpr ⟨lw_p71, List.forall_mem_cons.mpr ⟨lw_p72, fun _ h => absurd h List.not_mem_nil⟩⟩⟩⟩⟩⟩⟩⟩⟩
def lw_privs : List (MethodName × Nat) := lw_privs_1 ++ (lw_privs_2 ++ (lw_privs_3 ++ (lw_privs_4 ++ (lw_privs_5))))
def lw_tbl : List Cond := k2_sels lw_privs ++ tables_1
theorem lw_privs_ok : ∀ q ∈ lw_privs, lw_okq q := by
  show ∀ q ∈ lw_privs_1 ++ (lw_privs_2 ++ (lw_privs_3 ++ (lw_privs_4 ++ (lw_privs_5)))), lw_okq q
  exact List.forall_mem_append.mpr ⟨lw_r1, List.forall_mem_append.mpr ⟨lw_r2, List.forall_mem_append.mpr ⟨lw_r3, List.forall_mem_append.mpr ⟨lw_r4, lw_r5⟩⟩⟩⟩
/-! ===== BEGIN words of one list among another's, by their places ===== -/
theorem goodIn_r {big : List Cond} (ws : List Cond) (ps : List Nat) (hp : ws = ps.filterMap (fun i => big[i]?)) (h : ws.all goodWord = true) : GoodIn big ws := by
  intro w hw
  have h1 := List.all_eq_true.mp h w hw
  rw [hp] at hw
  obtain ⟨i, -, hi⟩ := List.mem_filterMap.mp hw
  have hm : w ∈ big := by first | exact List.mem_of_getElem? hi | exact List.getElem?_mem hi
  exact ⟨hm, good_of_word h1⟩
theorem goodIn_app {big a b : List Cond} (ha : GoodIn big a) (hb : GoodIn big b) : GoodIn big (a ++ b) := fun w h => (List.mem_append.mp h).elim (ha w) (hb w)
theorem goodIn_ca {big a b : List Cond} {c : Cond} (ha : GoodIn big (c :: a)) (hb : GoodIn big b) : GoodIn big (c :: (a ++ b)) := fun w h => (List.mem_cons.mp h).elim (fun e => ha w (List.mem_cons.mpr (Or.inl e))) (fun h => (List.mem_append.mp h).elim (fun h => ha w (List.mem_cons.mpr (Or.inr h))) (hb w))
theorem goodIn_sub {big ws : List Cond} (hm : ∀ w ∈ ws, w ∈ big) (h : ws.all goodWord = true) : GoodIn big ws := fun w hw => ⟨hm w hw, good_of_word (List.all_eq_true.mp h w hw)⟩
/-! ===== END ===== -/

/-! ===== BEGIN printed: names, fields, word lists, decode rows ===== -/
def RX0 : String := "OnlyMovesHisLips$Choir"
def TX0 : u_T := fun k => match k with
  | 0 => ("OnlyMovesHisLips$Choir", "kinds", "[I", true)
  | 1 => ("OnlyMovesHisLips$Choir", "as", "[I", true)
  | 2 => ("OnlyMovesHisLips$Choir", "odds", "[I", true)
  | 3 => ("OnlyMovesHisLips$Choir", "places", "[I", true)
  | 4 => ("OnlyMovesHisLips$Choir", "standing", "[I", true)
  | _ => ("OnlyMovesHisLips$Choir", "count", "I", false)
def tyX0 : Nat → FieldType := fun k => match k with
  | 0 => .array .int
  | 1 => .array .int
  | 2 => .array .int
  | 3 => .array .int
  | 4 => .array .int
  | _ => .int
abbrev wsX00 : List Cond := u_ws RX0 TX0 6
theorem nmX0 : ∀ a, a < 6 → ∀ b, b < 6 → a ≠ b → (TX0 a).2.1 ≠ (TX0 b).2.1 := by decide +kernel
theorem tyX0_ok : ∀ k, k < 6 → parseFieldDescriptor (TX0 k).2.2.1 = some (tyX0 k) := by decide +kernel
abbrev cX0_init : ByteArray := prog_2_method_1_code
def yX0_init : MethodName := ⟨RX0, "<init>", "()V"⟩
abbrev cX0_isKind : ByteArray := prog_2_method_2_code
def yX0_isKind : MethodName := ⟨RX0, "isKind", "(I)Z"⟩
abbrev cX0_isA : ByteArray := prog_2_method_3_code
def yX0_isA : MethodName := ⟨RX0, "isA", "(I)Z"⟩
abbrev cX0_isOdds : ByteArray := prog_2_method_4_code
def yX0_isOdds : MethodName := ⟨RX0, "isOdds", "(I)Z"⟩
abbrev cX0_isUnder : ByteArray := prog_2_method_5_code
def yX0_isUnder : MethodName := ⟨RX0, "isUnder", "(II)Z"⟩
abbrev cX0_copyOf : ByteArray := prog_2_method_6_code
def yX0_copyOf : MethodName := ⟨RX0, "copyOf", "(LOnlyMovesHisLips$Choir;)V"⟩
abbrev cX0_has : ByteArray := prog_2_method_7_code
def yX0_has : MethodName := ⟨RX0, "has", "(I)Z"⟩
abbrev cX0_hasRoom : ByteArray := prog_2_method_8_code
def yX0_hasRoom : MethodName := ⟨RX0, "hasRoom", "()Z"⟩
abbrev cX0_all : ByteArray := prog_2_method_9_code
def yX0_all : MethodName := ⟨RX0, "all", "()I"⟩
abbrev cX0_isSet : ByteArray := prog_2_method_10_code
def yX0_isSet : MethodName := ⟨RX0, "isSet", "(I)Z"⟩
abbrev cX0_add : ByteArray := prog_2_method_11_code
def yX0_add : MethodName := ⟨RX0, "add", "(III)V"⟩
abbrev cX0_exchange : ByteArray := prog_2_method_12_code
def yX0_exchange : MethodName := ⟨RX0, "exchange", "(II)V"⟩
abbrev cX0_wrongWith : ByteArray := prog_2_method_13_code
def yX0_wrongWith : MethodName := ⟨RX0, "wrongWith", "(II)I"⟩
abbrev cX0_tellsOf : ByteArray := prog_2_method_14_code
def yX0_tellsOf : MethodName := ⟨RX0, "tellsOf", "(II)I"⟩
abbrev cX0_isWithoutGap : ByteArray := prog_2_method_15_code
def yX0_isWithoutGap : MethodName := ⟨RX0, "isWithoutGap", "(I)Z"⟩
def RX1 : String := "OnlyMovesHisLips$Course"
def TX1 : u_T := fun k => match k with
  | 0 => ("OnlyMovesHisLips$Course", "lows", "[J", true)
  | 1 => ("OnlyMovesHisLips$Course", "highs", "[J", true)
  | 2 => ("OnlyMovesHisLips$Course", "depths", "[I", true)
  | 3 => ("OnlyMovesHisLips$Course", "size", "I", false)
  | 4 => ("OnlyMovesHisLips$Course", "hearings", "J", false)
  | 5 => ("OnlyMovesHisLips$Course", "weight", "J", false)
  | 6 => ("OnlyMovesHisLips$Course", "worst", "I", false)
  | _ => ("OnlyMovesHisLips$Course", "left", "I", false)
def tyX1 : Nat → FieldType := fun k => match k with
  | 0 => .array .long
  | 1 => .array .long
  | 2 => .array .int
  | 3 => .int
  | 4 => .long
  | 5 => .long
  | 6 => .int
  | _ => .int
abbrev wsX10 : List Cond := u_ws RX1 TX1 8
theorem nmX1 : ∀ a, a < 8 → ∀ b, b < 8 → a ≠ b → (TX1 a).2.1 ≠ (TX1 b).2.1 := by decide +kernel
theorem tyX1_ok : ∀ k, k < 8 → parseFieldDescriptor (TX1 k).2.2.1 = some (tyX1 k) := by decide +kernel
abbrev cX1_init : ByteArray := prog_3_method_1_code
def yX1_init : MethodName := ⟨RX1, "<init>", "()V"⟩
abbrev cX1_follow : ByteArray := prog_3_method_2_code
def yX1_follow : MethodName := ⟨RX1, "follow", "(LOnlyMovesHisLips$Hall;)V"⟩
abbrev cX1_lay : ByteArray := prog_3_method_3_code
def yX1_lay : MethodName := ⟨RX1, "lay", "(JJI)V"⟩
abbrev cX1_mean : ByteArray := prog_3_method_4_code
def yX1_mean : MethodName := ⟨RX1, "mean", "()I"⟩
def RX2 : String := "OnlyMovesHisLips$Hall"
def TX2 : u_T := fun k => match k with
  | 0 => ("OnlyMovesHisLips$Hall", "choir", "LOnlyMovesHisLips$Choir;", true)
  | 1 => ("OnlyMovesHisLips$Hall", "worlds", "LOnlyMovesHisLips$Worlds;", true)
  | 2 => ("OnlyMovesHisLips$Hall", "rules", "[I", true)
  | 3 => ("OnlyMovesHisLips$Hall", "hearings", "[I", true)
  | 4 => ("OnlyMovesHisLips$Hall", "hearingCount", "I", false)
  | 5 => ("OnlyMovesHisLips$Hall", "seed", "I", false)
  | 6 => ("OnlyMovesHisLips$Hall", "truth", "I", false)
  | 7 => ("OnlyMovesHisLips$Hall", "low", "J", false)
  | _ => ("OnlyMovesHisLips$Hall", "high", "J", false)
def tyX2 : Nat → FieldType := fun k => match k with
  | 0 => .object "OnlyMovesHisLips$Choir"
  | 1 => .object "OnlyMovesHisLips$Worlds"
  | 2 => .array .int
  | 3 => .array .int
  | 4 => .int
  | 5 => .int
  | 6 => .int
  | 7 => .long
  | _ => .long
abbrev wsX20 : List Cond := u_ws RX2 TX2 9
theorem nmX2 : ∀ a, a < 9 → ∀ b, b < 9 → a ≠ b → (TX2 a).2.1 ≠ (TX2 b).2.1 := by decide +kernel
theorem tyX2_ok : ∀ k, k < 9 → parseFieldDescriptor (TX2 k).2.2.1 = some (tyX2 k) := by decide +kernel
abbrev cX2_init : ByteArray := prog_4_method_1_code
def yX2_init : MethodName := ⟨RX2, "<init>", "()V"⟩
abbrev cX2_suits : ByteArray := prog_4_method_2_code
def yX2_suits : MethodName := ⟨RX2, "suits", "(II)Z"⟩
abbrev cX2_rule : ByteArray := prog_4_method_3_code
def yX2_rule : MethodName := ⟨RX2, "rule", "(I)I"⟩
abbrev cX2_put : ByteArray := prog_4_method_4_code
def yX2_put : MethodName := ⟨RX2, "put", "(II)V"⟩
abbrev cX2_copyOf : ByteArray := prog_4_method_5_code
def yX2_copyOf : MethodName := ⟨RX2, "copyOf", "(LOnlyMovesHisLips$Hall;)V"⟩
abbrev cX2_beginAnew : ByteArray := prog_4_method_6_code
def yX2_beginAnew : MethodName := ⟨RX2, "beginAnew", "()V"⟩
abbrev cX2_join : ByteArray := prog_4_method_7_code
def yX2_join : MethodName := ⟨RX2, "join", "(III)V"⟩
abbrev cX2_changePlaces : ByteArray := prog_4_method_8_code
def yX2_changePlaces : MethodName := ⟨RX2, "changePlaces", "(II)V"⟩
abbrev cX2_makeTrue : ByteArray := prog_4_method_9_code
def yX2_makeTrue : MethodName := ⟨RX2, "makeTrue", "(I)V"⟩
abbrev cX2_trueWorld : ByteArray := prog_4_method_10_code
def yX2_trueWorld : MethodName := ⟨RX2, "trueWorld", "()I"⟩
abbrev cX2_soundInTruth : ByteArray := prog_4_method_11_code
def yX2_soundInTruth : MethodName := ⟨RX2, "soundInTruth", "(I)I"⟩
abbrev cX2_forgetAll : ByteArray := prog_4_method_12_code
def yX2_forgetAll : MethodName := ⟨RX2, "forgetAll", "()V"⟩
abbrev cX2_hasRoom : ByteArray := prog_4_method_13_code
def yX2_hasRoom : MethodName := ⟨RX2, "hasRoom", "()Z"⟩
abbrev cX2_possible : ByteArray := prog_4_method_14_code
def yX2_possible : MethodName := ⟨RX2, "possible", "()I"⟩
abbrev cX2_possibleWorld : ByteArray := prog_4_method_15_code
def yX2_possibleWorld : MethodName := ⟨RX2, "possibleWorld", "(I)I"⟩
abbrev cX2_canSound : ByteArray := prog_4_method_16_code
def yX2_canSound : MethodName := ⟨RX2, "canSound", "(II)Z"⟩
abbrev cX2_isKnown : ByteArray := prog_4_method_17_code
def yX2_isKnown : MethodName := ⟨RX2, "isKnown", "(II)Z"⟩
abbrev cX2_learn : ByteArray := prog_4_method_18_code
def yX2_learn : MethodName := ⟨RX2, "learn", "(II)V"⟩
abbrev cX2_wrongInSome : ByteArray := prog_4_method_19_code
def yX2_wrongInSome : MethodName := ⟨RX2, "wrongInSome", "()I"⟩
abbrev cX2_wrongInAll : ByteArray := prog_4_method_20_code
def yX2_wrongInAll : MethodName := ⟨RX2, "wrongInAll", "()I"⟩
abbrev cX2_likely : ByteArray := prog_4_method_21_code
def yX2_likely : MethodName := ⟨RX2, "likely", "(I)I"⟩
abbrev cX2_likeliestWorld : ByteArray := prog_4_method_22_code
def yX2_likeliestWorld : MethodName := ⟨RX2, "likeliestWorld", "()I"⟩
abbrev cX2_allows : ByteArray := prog_4_method_23_code
def yX2_allows : MethodName := ⟨RX2, "allows", "(I)Z"⟩
abbrev cX2_best : ByteArray := prog_4_method_24_code
def yX2_best : MethodName := ⟨RX2, "best", "(JJ)I"⟩
abbrev cX2_draw : ByteArray := prog_4_method_25_code
def yX2_draw : MethodName := ⟨RX2, "draw", "(I)I"⟩
abbrev cX2_evening : ByteArray := prog_4_method_26_code
def yX2_evening : MethodName := ⟨RX2, "evening", "()I"⟩
abbrev cX2_exchangeForTrial : ByteArray := prog_4_method_27_code
def yX2_exchangeForTrial : MethodName := ⟨RX2, "exchangeForTrial", "(II)V"⟩
abbrev cX2_firstToChange : ByteArray := prog_4_method_28_code
def yX2_firstToChange : MethodName := ⟨RX2, "firstToChange", "()I"⟩
abbrev cX2_mostQuiet : ByteArray := prog_4_method_29_code
def yX2_mostQuiet : MethodName := ⟨RX2, "mostQuiet", "()I"⟩
def RX3 : String := "OnlyMovesHisLips$Reader"
def TX3 : u_T := fun k => match k with
  | 0 => ("OnlyMovesHisLips$Reader", "numbers", "[I", true)
  | 1 => ("OnlyMovesHisLips$Reader", "text", "LOnlyMovesHisLips$Shelf;", false)
  | 2 => ("OnlyMovesHisLips$Reader", "at", "I", false)
  | _ => ("OnlyMovesHisLips$Reader", "fault", "I", false)
def tyX3 : Nat → FieldType := fun k => match k with
  | 0 => .array .int
  | 1 => .object "OnlyMovesHisLips$Shelf"
  | 2 => .int
  | _ => .int
abbrev wsX30 : List Cond := u_ws RX3 TX3 4
theorem nmX3 : ∀ a, a < 4 → ∀ b, b < 4 → a ≠ b → (TX3 a).2.1 ≠ (TX3 b).2.1 := by decide +kernel
theorem tyX3_ok : ∀ k, k < 4 → parseFieldDescriptor (TX3 k).2.2.1 = some (tyX3 k) := by decide +kernel
abbrev cX3_init : ByteArray := prog_5_method_1_code
def yX3_init : MethodName := ⟨RX3, "<init>", "()V"⟩
abbrev cX3_begin : ByteArray := prog_5_method_2_code
def yX3_begin : MethodName := ⟨RX3, "begin", "(LOnlyMovesHisLips$Shelf;)V"⟩
abbrev cX3_goesOn : ByteArray := prog_5_method_3_code
def yX3_goesOn : MethodName := ⟨RX3, "goesOn", "()Z"⟩
abbrev cX3_fails : ByteArray := prog_5_method_4_code
def yX3_fails : MethodName := ⟨RX3, "fails", "(I)Z"⟩
abbrev cX3_sign : ByteArray := prog_5_method_5_code
def yX3_sign : MethodName := ⟨RX3, "sign", "(I)I"⟩
abbrev cX3_stands : ByteArray := prog_5_method_6_code
def yX3_stands : MethodName := ⟨RX3, "stands", "(C)Z"⟩
abbrev cX3_readItem : ByteArray := prog_5_method_7_code
def yX3_readItem : MethodName := ⟨RX3, "readItem", "(LOnlyMovesHisLips$Hall;)Z"⟩
abbrev cX3_spelled : ByteArray := prog_5_method_8_code
def yX3_spelled : MethodName := ⟨RX3, "spelled", "(I)Ljava/lang/String;"⟩
abbrev cX3_readWord : ByteArray := prog_5_method_9_code
def yX3_readWord : MethodName := ⟨RX3, "readWord", "()I"⟩
abbrev cX3_readNumber : ByteArray := prog_5_method_10_code
def yX3_readNumber : MethodName := ⟨RX3, "readNumber", "(I)Z"⟩
abbrev cX3_fits : ByteArray := prog_5_method_11_code
def yX3_fits : MethodName := ⟨RX3, "fits", "(LOnlyMovesHisLips$Hall;II)Z"⟩
abbrev cX3_tell : ByteArray := prog_5_method_12_code
def yX3_tell : MethodName := ⟨RX3, "tell", "(LOnlyMovesHisLips$Hall;I)V"⟩
def RX4 : String := "OnlyMovesHisLips$Shelf"
def TX4 : u_T := fun k => match k with
  | 0 => ("OnlyMovesHisLips$Shelf", "held", "I", false)
  | 1 => ("OnlyMovesHisLips$Shelf", "length", "I", false)
  | _ => ("OnlyMovesHisLips$Shelf", "elements", "[J", true)
def tyX4 : Nat → FieldType := fun k => match k with
  | 0 => .int
  | 1 => .int
  | _ => .array .long
abbrev wsX40 : List Cond := u_ws RX4 TX4 3
theorem nmX4 : ∀ a, a < 3 → ∀ b, b < 3 → a ≠ b → (TX4 a).2.1 ≠ (TX4 b).2.1 := by decide +kernel
theorem tyX4_ok : ∀ k, k < 3 → parseFieldDescriptor (TX4 k).2.2.1 = some (tyX4 k) := by decide +kernel
abbrev cX4_init : ByteArray := prog_6_method_1_code
def yX4_init : MethodName := ⟨RX4, "<init>", "()V"⟩
abbrev cX4_holdsRow : ByteArray := prog_6_method_2_code
def yX4_holdsRow : MethodName := ⟨RX4, "holdsRow", "()Z"⟩
abbrev cX4_begin : ByteArray := prog_6_method_3_code
def yX4_begin : MethodName := ⟨RX4, "begin", "(II)V"⟩
abbrev cX4_hasElement : ByteArray := prog_6_method_4_code
def yX4_hasElement : MethodName := ⟨RX4, "hasElement", "(I)Z"⟩
abbrev cX4_hasElements : ByteArray := prog_6_method_5_code
def yX4_hasElements : MethodName := ⟨RX4, "hasElements", "(II)Z"⟩
abbrev cX4_put : ByteArray := prog_6_method_6_code
def yX4_put : MethodName := ⟨RX4, "put", "(IJ)V"⟩
abbrev cX4_asInt : ByteArray := prog_6_method_7_code
def yX4_asInt : MethodName := ⟨RX4, "asInt", "(I)I"⟩
def RX5 : String := "OnlyMovesHisLips$Told"
def TX5 : u_T := fun k => match k with
  | 0 => ("OnlyMovesHisLips$Told", "rows", "[I", true)
  | 1 => ("OnlyMovesHisLips$Told", "having", "[I", true)
  | 2 => ("OnlyMovesHisLips$Told", "unlike", "I", false)
  | 3 => ("OnlyMovesHisLips$Told", "alike", "I", false)
  | 4 => ("OnlyMovesHisLips$Told", "low", "J", false)
  | _ => ("OnlyMovesHisLips$Told", "high", "J", false)
def tyX5 : Nat → FieldType := fun k => match k with
  | 0 => .array .int
  | 1 => .array .int
  | 2 => .int
  | 3 => .int
  | 4 => .long
  | _ => .long
abbrev wsX50 : List Cond := u_ws RX5 TX5 6
theorem nmX5 : ∀ a, a < 6 → ∀ b, b < 6 → a ≠ b → (TX5 a).2.1 ≠ (TX5 b).2.1 := by decide +kernel
theorem tyX5_ok : ∀ k, k < 6 → parseFieldDescriptor (TX5 k).2.2.1 = some (tyX5 k) := by decide +kernel
abbrev cX5_init : ByteArray := prog_7_method_1_code
def yX5_init : MethodName := ⟨RX5, "<init>", "()V"⟩
abbrev cX5_areSets : ByteArray := prog_7_method_2_code
def yX5_areSets : MethodName := ⟨RX5, "areSets", "(LOnlyMovesHisLips$Hall;LOnlyMovesHisLips$Shelf;I)Z"⟩
abbrev cX5_arePairs : ByteArray := prog_7_method_3_code
def yX5_arePairs : MethodName := ⟨RX5, "arePairs", "(LOnlyMovesHisLips$Hall;LOnlyMovesHisLips$Shelf;I)Z"⟩
abbrev cX5_sortOut : ByteArray := prog_7_method_4_code
def yX5_sortOut : MethodName := ⟨RX5, "sortOut", "(LOnlyMovesHisLips$Hall;LOnlyMovesHisLips$Shelf;I)V"⟩
abbrev cX5_sortIn : ByteArray := prog_7_method_5_code
def yX5_sortIn : MethodName := ⟨RX5, "sortIn", "(I)V"⟩
abbrev cX5_firstWrong : ByteArray := prog_7_method_6_code
def yX5_firstWrong : MethodName := ⟨RX5, "firstWrong", "(LOnlyMovesHisLips$Hall;LOnlyMovesHisLips$Shelf;I)I"⟩
abbrev cX5_likeliestByEar : ByteArray := prog_7_method_7_code
def yX5_likeliestByEar : MethodName := ⟨RX5, "likeliestByEar", "(LOnlyMovesHisLips$Hall;LOnlyMovesHisLips$Shelf;I)I"⟩
def RX6 : String := "OnlyMovesHisLips$Voice"
def TX6 : u_T := fun k => match k with
  | 0 => ("OnlyMovesHisLips$Voice", "kept", "[I", true)
  | 1 => ("OnlyMovesHisLips$Voice", "ran", "I", false)
  | 2 => ("OnlyMovesHisLips$Voice", "kind", "I", false)
  | 3 => ("OnlyMovesHisLips$Voice", "m", "I", false)
  | _ => ("OnlyMovesHisLips$Voice", "k", "I", false)
def tyX6 : Nat → FieldType := fun k => match k with
  | 0 => .array .int
  | 1 => .int
  | 2 => .int
  | 3 => .int
  | _ => .int
abbrev wsX60 : List Cond := u_ws RX6 TX6 5
theorem nmX6 : ∀ a, a < 5 → ∀ b, b < 5 → a ≠ b → (TX6 a).2.1 ≠ (TX6 b).2.1 := by decide +kernel
theorem tyX6_ok : ∀ k, k < 5 → parseFieldDescriptor (TX6 k).2.2.1 = some (tyX6 k) := by decide +kernel
abbrev cX6_init : ByteArray := prog_8_method_1_code
def yX6_init : MethodName := ⟨RX6, "<init>", "()V"⟩
abbrev cX6_silence : ByteArray := prog_8_method_2_code
def yX6_silence : MethodName := ⟨RX6, "silence", "()V"⟩
abbrev cX6_traced : ByteArray := prog_8_method_3_code
def yX6_traced : MethodName := ⟨RX6, "traced", "(I)I"⟩
abbrev cX6_perform : ByteArray := prog_8_method_4_code
def yX6_perform : MethodName := ⟨RX6, "perform", "(LOnlyMovesHisLips$Choir;III)I"⟩
abbrev cX6_note : ByteArray := prog_8_method_5_code
def yX6_note : MethodName := ⟨RX6, "note", "(I)V"⟩
abbrev cX6_owner : ByteArray := prog_8_method_6_code
def yX6_owner : MethodName := ⟨RX6, "owner", "(II)I"⟩
abbrev cX6_run : ByteArray := prog_8_method_7_code
def yX6_run : MethodName := ⟨RX6, "run", "(LOnlyMovesHisLips$Voice;IIII)I"⟩
def RX7 : String := "OnlyMovesHisLips$Worlds"
def TX7 : u_T := fun k => match k with
  | 0 => ("OnlyMovesHisLips$Worlds", "choir", "LOnlyMovesHisLips$Choir;", true)
  | 1 => ("OnlyMovesHisLips$Worlds", "list", "[I", true)
  | 2 => ("OnlyMovesHisLips$Worlds", "weights", "[I", true)
  | 3 => ("OnlyMovesHisLips$Worlds", "count", "I", false)
  | 4 => ("OnlyMovesHisLips$Worlds", "hasLow", "[J", true)
  | 5 => ("OnlyMovesHisLips$Worlds", "hasHigh", "[J", true)
  | 6 => ("OnlyMovesHisLips$Worlds", "wrongLow", "[J", true)
  | 7 => ("OnlyMovesHisLips$Worlds", "wrongHigh", "[J", true)
  | _ => ("OnlyMovesHisLips$Worlds", "figured", "[Z", true)
def tyX7 : Nat → FieldType := fun k => match k with
  | 0 => .object "OnlyMovesHisLips$Choir"
  | 1 => .array .int
  | 2 => .array .int
  | 3 => .int
  | 4 => .array .long
  | 5 => .array .long
  | 6 => .array .long
  | 7 => .array .long
  | _ => .array .boolean
abbrev wsX70 : List Cond := u_ws RX7 TX7 9
theorem nmX7 : ∀ a, a < 9 → ∀ b, b < 9 → a ≠ b → (TX7 a).2.1 ≠ (TX7 b).2.1 := by decide +kernel
theorem tyX7_ok : ∀ k, k < 9 → parseFieldDescriptor (TX7 k).2.2.1 = some (tyX7 k) := by decide +kernel
abbrev cX7_init : ByteArray := prog_9_method_1_code
def yX7_init : MethodName := ⟨RX7, "<init>", "(LOnlyMovesHisLips$Choir;)V"⟩
abbrev cX7_copyOf : ByteArray := prog_9_method_2_code
def yX7_copyOf : MethodName := ⟨RX7, "copyOf", "(LOnlyMovesHisLips$Worlds;)V"⟩
abbrev cX7_build : ByteArray := prog_9_method_3_code
def yX7_build : MethodName := ⟨RX7, "build", "(I)V"⟩
abbrev cX7_add : ByteArray := prog_9_method_4_code
def yX7_add : MethodName := ⟨RX7, "add", "(I)V"⟩
abbrev cX7_lowBit : ByteArray := prog_9_method_5_code
def yX7_lowBit : MethodName := ⟨RX7, "lowBit", "(I)J"⟩
abbrev cX7_highBit : ByteArray := prog_9_method_6_code
def yX7_highBit : MethodName := ⟨RX7, "highBit", "(I)J"⟩
abbrev cX7_countIn : ByteArray := prog_9_method_7_code
def yX7_countIn : MethodName := ⟨RX7, "countIn", "(JJ)I"⟩
abbrev cX7_isIn : ByteArray := prog_9_method_8_code
def yX7_isIn : MethodName := ⟨RX7, "isIn", "(IJJ)Z"⟩
abbrev cX7_allLow : ByteArray := prog_9_method_9_code
def yX7_allLow : MethodName := ⟨RX7, "allLow", "()J"⟩
abbrev cX7_allHigh : ByteArray := prog_9_method_10_code
def yX7_allHigh : MethodName := ⟨RX7, "allHigh", "()J"⟩
abbrev cX7_indexOf : ByteArray := prog_9_method_11_code
def yX7_indexOf : MethodName := ⟨RX7, "indexOf", "(I)I"⟩
abbrev cX7_weightIn : ByteArray := prog_9_method_12_code
def yX7_weightIn : MethodName := ⟨RX7, "weightIn", "(JJ)J"⟩
abbrev cX7_slot : ByteArray := prog_9_method_13_code
def yX7_slot : MethodName := ⟨RX7, "slot", "(I)I"⟩
abbrev cX7_lowBy : ByteArray := prog_9_method_14_code
def yX7_lowBy : MethodName := ⟨RX7, "lowBy", "(IIJ)J"⟩
abbrev cX7_highBy : ByteArray := prog_9_method_15_code
def yX7_highBy : MethodName := ⟨RX7, "highBy", "(IIJ)J"⟩
abbrev cX7_wrongAmong : ByteArray := prog_9_method_16_code
def yX7_wrongAmong : MethodName := ⟨RX7, "wrongAmong", "(IJJ)I"⟩
abbrev cX7_soundOf : ByteArray := prog_9_method_17_code
def yX7_soundOf : MethodName := ⟨RX7, "soundOf", "(II)I"⟩
abbrev cX7_doubtAll : ByteArray := prog_9_method_18_code
def yX7_doubtAll : MethodName := ⟨RX7, "doubtAll", "()V"⟩
abbrev cX7_rightWhenAllSing : ByteArray := prog_9_method_19_code
def yX7_rightWhenAllSing : MethodName := ⟨RX7, "rightWhenAllSing", "()I"⟩
abbrev cX7_isRightWhenAllSing : ByteArray := prog_9_method_20_code
def yX7_isRightWhenAllSing : MethodName := ⟨RX7, "isRightWhenAllSing", "(I)Z"⟩
def RX8 : String := "OnlyMovesHisLips"
def TX8 : u_T := fun k => match k with
  | 0 => ("OnlyMovesHisLips", "shelves", "[LOnlyMovesHisLips$Shelf;", true)
  | 1 => ("OnlyMovesHisLips", "refusals", "[I", true)
  | 2 => ("OnlyMovesHisLips", "voice", "LOnlyMovesHisLips$Voice;", true)
  | 3 => ("OnlyMovesHisLips", "reader", "LOnlyMovesHisLips$Reader;", true)
  | 4 => ("OnlyMovesHisLips", "course", "LOnlyMovesHisLips$Course;", true)
  | 5 => ("OnlyMovesHisLips", "told", "LOnlyMovesHisLips$Told;", true)
  | 6 => ("OnlyMovesHisLips", "hall", "LOnlyMovesHisLips$Hall;", false)
  | 7 => ("OnlyMovesHisLips", "spare", "LOnlyMovesHisLips$Hall;", false)
  | 8 => ("OnlyMovesHisLips", "image", "LOnlyMovesHisLips$Hall;", true)
  | 9 => ("OnlyMovesHisLips", "hasImage", "Z", false)
  | _ => ("OnlyMovesHisLips", "latestFault", "I", false)
def tyX8 : Nat → FieldType := fun k => match k with
  | 0 => .array (.object "OnlyMovesHisLips$Shelf")
  | 1 => .array .int
  | 2 => .object "OnlyMovesHisLips$Voice"
  | 3 => .object "OnlyMovesHisLips$Reader"
  | 4 => .object "OnlyMovesHisLips$Course"
  | 5 => .object "OnlyMovesHisLips$Told"
  | 6 => .object "OnlyMovesHisLips$Hall"
  | 7 => .object "OnlyMovesHisLips$Hall"
  | 8 => .object "OnlyMovesHisLips$Hall"
  | 9 => .boolean
  | _ => .int
abbrev wsX80 : List Cond := u_ws RX8 TX8 11
theorem nmX8 : ∀ a, a < 11 → ∀ b, b < 11 → a ≠ b → (TX8 a).2.1 ≠ (TX8 b).2.1 := by decide +kernel
theorem tyX8_ok : ∀ k, k < 11 → parseFieldDescriptor (TX8 k).2.2.1 = some (tyX8 k) := by decide +kernel
abbrev cX8_init : ByteArray := prog_1_method_1_code
def yX8_init : MethodName := ⟨RX8, "<init>", "()V"⟩
abbrev cX8_row : ByteArray := prog_1_method_2_code
def yX8_row : MethodName := ⟨RX8, "row", "(III)I"⟩
abbrev cX8_set : ByteArray := prog_1_method_3_code
def yX8_set : MethodName := ⟨RX8, "set", "(IIJ)I"⟩
abbrev cX8_copy : ByteArray := prog_1_method_4_code
def yX8_copy : MethodName := ⟨RX8, "copy", "(IIIII)I"⟩
abbrev cX8_element : ByteArray := prog_1_method_5_code
def yX8_element : MethodName := ⟨RX8, "element", "(II)J"⟩
abbrev cX8_show : ByteArray := prog_1_method_6_code
def yX8_show : MethodName := ⟨RX8, "show", "(II)I"⟩
abbrev cX8_holds : ByteArray := prog_1_method_7_code
def yX8_holds : MethodName := ⟨RX8, "holds", "(I)I"⟩
abbrev cX8_says : ByteArray := prog_1_method_8_code
def yX8_says : MethodName := ⟨RX8, "says", "(II)I"⟩
abbrev cX8_singer : ByteArray := prog_1_method_9_code
def yX8_singer : MethodName := ⟨RX8, "singer", "(III)I"⟩
abbrev cX8_singerOf : ByteArray := prog_1_method_10_code
def yX8_singerOf : MethodName := ⟨RX8, "singerOf", "(II)I"⟩
abbrev cX8_ask : ByteArray := prog_1_method_11_code
def yX8_ask : MethodName := ⟨RX8, "ask", "(II)I"⟩
abbrev cX8_loft : ByteArray := prog_1_method_12_code
def yX8_loft : MethodName := ⟨RX8, "loft", "(I)I"⟩
abbrev cX8_fault : ByteArray := prog_1_method_13_code
def yX8_fault : MethodName := ⟨RX8, "fault", "()I"⟩
abbrev cX8_worlds : ByteArray := prog_1_method_14_code
def yX8_worlds : MethodName := ⟨RX8, "worlds", "(I)I"⟩
abbrev cX8_world : ByteArray := prog_1_method_15_code
def yX8_world : MethodName := ⟨RX8, "world", "(I)I"⟩
abbrev cX8_sounds : ByteArray := prog_1_method_16_code
def yX8_sounds : MethodName := ⟨RX8, "sounds", "(II)I"⟩
abbrev cX8_heard : ByteArray := prog_1_method_17_code
def yX8_heard : MethodName := ⟨RX8, "heard", "(II)I"⟩
abbrev cX8_known : ByteArray := prog_1_method_18_code
def yX8_known : MethodName := ⟨RX8, "known", "(I)I"⟩
abbrev cX8_forget : ByteArray := prog_1_method_19_code
def yX8_forget : MethodName := ⟨RX8, "forget", "()I"⟩
abbrev cX8_may : ByteArray := prog_1_method_20_code
def yX8_may : MethodName := ⟨RX8, "may", "(I)I"⟩
abbrev cX8_likeliest : ByteArray := prog_1_method_21_code
def yX8_likeliest : MethodName := ⟨RX8, "likeliest", "()I"⟩
abbrev cX8_lawful : ByteArray := prog_1_method_22_code
def yX8_lawful : MethodName := ⟨RX8, "lawful", "(I)I"⟩
abbrev cX8_parts : ByteArray := prog_1_method_23_code
def yX8_parts : MethodName := ⟨RX8, "parts", "(II)I"⟩
abbrev cX8_next : ByteArray := prog_1_method_24_code
def yX8_next : MethodName := ⟨RX8, "next", "()I"⟩
abbrev cX8_by : ByteArray := prog_1_method_25_code
def yX8_by : MethodName := ⟨RX8, "by", "(I)I"⟩
abbrev cX8_ahead : ByteArray := prog_1_method_26_code
def yX8_ahead : MethodName := ⟨RX8, "ahead", "(III)I"⟩
abbrev cX8_judge : ByteArray := prog_1_method_27_code
def yX8_judge : MethodName := ⟨RX8, "judge", "(II)I"⟩
abbrev cX8_behind : ByteArray := prog_1_method_28_code
def yX8_behind : MethodName := ⟨RX8, "behind", "(II)I"⟩
abbrev cX8_byEar : ByteArray := prog_1_method_29_code
def yX8_byEar : MethodName := ⟨RX8, "byEar", "(II)I"⟩
abbrev cX8_beside : ByteArray := prog_1_method_30_code
def yX8_beside : MethodName := ⟨RX8, "beside", "()I"⟩
abbrev cX8_quiet : ByteArray := prog_1_method_31_code
def yX8_quiet : MethodName := ⟨RX8, "quiet", "()I"⟩
abbrev cX8_swap : ByteArray := prog_1_method_32_code
def yX8_swap : MethodName := ⟨RX8, "swap", "(II)I"⟩
abbrev cX8_isTrue : ByteArray := prog_1_method_33_code
def yX8_isTrue : MethodName := ⟨RX8, "isTrue", "(I)I"⟩
abbrev cX8_hear : ByteArray := prog_1_method_34_code
def yX8_hear : MethodName := ⟨RX8, "hear", "(I)I"⟩
abbrev cX8_evenings : ByteArray := prog_1_method_35_code
def yX8_evenings : MethodName := ⟨RX8, "evenings", "(I)I"⟩
abbrev cX8_seed : ByteArray := prog_1_method_36_code
def yX8_seed : MethodName := ⟨RX8, "seed", "(I)I"⟩
abbrev cX8_act : ByteArray := prog_1_method_37_code
def yX8_act : MethodName := ⟨RX8, "act", "(III)I"⟩
abbrev cX8_trace : ByteArray := prog_1_method_38_code
def yX8_trace : MethodName := ⟨RX8, "trace", "(I)I"⟩
abbrev cX8_image : ByteArray := prog_1_method_39_code
def yX8_image : MethodName := ⟨RX8, "image", "()I"⟩
abbrev cX8_restore : ByteArray := prog_1_method_40_code
def yX8_restore : MethodName := ⟨RX8, "restore", "()I"⟩
abbrev cX8_status : ByteArray := prog_1_method_41_code
def yX8_status : MethodName := ⟨RX8, "status", "(I)I"⟩
abbrev cX8_refuse : ByteArray := prog_1_method_42_code
def yX8_refuse : MethodName := ⟨RX8, "refuse", "(I)I"⟩
abbrev cX8_refusalsOf : ByteArray := prog_1_method_43_code
def yX8_refusalsOf : MethodName := ⟨RX8, "refusalsOf", "(I)I"⟩
abbrev cX8_isShelf : ByteArray := prog_1_method_44_code
def yX8_isShelf : MethodName := ⟨RX8, "isShelf", "(I)Z"⟩
abbrev cX8_lackOfRow : ByteArray := prog_1_method_45_code
def yX8_lackOfRow : MethodName := ⟨RX8, "lackOfRow", "(I)I"⟩
abbrev cX8_lackForCopy : ByteArray := prog_1_method_46_code
def yX8_lackForCopy : MethodName := ⟨RX8, "lackForCopy", "(II)I"⟩
abbrev cX8_lackOfTold : ByteArray := prog_1_method_47_code
def yX8_lackOfTold : MethodName := ⟨RX8, "lackOfTold", "(II)I"⟩
abbrev cX8_isToldInPairs : ByteArray := prog_1_method_48_code
def yX8_isToldInPairs : MethodName := ⟨RX8, "isToldInPairs", "(I)Z"⟩
def RX9 : String := "OnlyMovesHisLipsModel"
def TX9 : u_T := fun k => match k with
  | 0 => ("OnlyMovesHisLipsModel", "many", "I", false)
  | 1 => ("OnlyMovesHisLipsModel", "most", "I", false)
  | 2 => ("OnlyMovesHisLipsModel", "least", "I", false)
  | 3 => ("OnlyMovesHisLipsModel", "near", "I", false)
  | 4 => ("OnlyMovesHisLipsModel", "ear", "I", false)
  | 5 => ("OnlyMovesHisLipsModel", "known", "I", false)
  | 6 => ("OnlyMovesHisLipsModel", "truth", "I", false)
  | 7 => ("OnlyMovesHisLipsModel", "seed", "I", false)
  | 8 => ("OnlyMovesHisLipsModel", "fault", "I", false)
  | 9 => ("OnlyMovesHisLipsModel", "refused", "[I", true)
  | 10 => ("OnlyMovesHisLipsModel", "kind", "[I", true)
  | 11 => ("OnlyMovesHisLipsModel", "part", "[I", true)
  | 12 => ("OnlyMovesHisLipsModel", "odds", "[I", true)
  | 13 => ("OnlyMovesHisLipsModel", "place", "[I", true)
  | 14 => ("OnlyMovesHisLipsModel", "sets", "[I", true)
  | 15 => ("OnlyMovesHisLipsModel", "sounds", "[I", true)
  | 16 => ("OnlyMovesHisLipsModel", "held", "[I", true)
  | 17 => ("OnlyMovesHisLipsModel", "sort", "[I", true)
  | 18 => ("OnlyMovesHisLipsModel", "size", "[I", true)
  | 19 => ("OnlyMovesHisLipsModel", "shown", "[I", true)
  | 20 => ("OnlyMovesHisLipsModel", "cells", "[J", true)
  | 21 => ("OnlyMovesHisLipsModel", "carried", "[J", true)
  | 22 => ("OnlyMovesHisLipsModel", "words", "[I", true)
  | 23 => ("OnlyMovesHisLipsModel", "numbers", "[I", true)
  | 24 => ("OnlyMovesHisLipsModel", "tell", "[I", true)
  | 25 => ("OnlyMovesHisLipsModel", "base", "I", false)
  | 26 => ("OnlyMovesHisLipsModel", "at", "I", false)
  | 27 => ("OnlyMovesHisLipsModel", "end", "I", false)
  | 28 => ("OnlyMovesHisLipsModel", "number", "I", false)
  | 29 => ("OnlyMovesHisLipsModel", "wrongAt", "I", false)
  | 30 => ("OnlyMovesHisLipsModel", "was", "[I", true)
  | 31 => ("OnlyMovesHisLipsModel", "kept", "[I", true)
  | 32 => ("OnlyMovesHisLipsModel", "worlds", "[I", true)
  | 33 => ("OnlyMovesHisLipsModel", "list", "[I", true)
  | 34 => ("OnlyMovesHisLipsModel", "worldsMany", "I", false)
  | 35 => ("OnlyMovesHisLipsModel", "table", "[I", true)
  | 36 => ("OnlyMovesHisLipsModel", "which", "[I", true)
  | 37 => ("OnlyMovesHisLipsModel", "deepest", "I", false)
  | 38 => ("OnlyMovesHisLipsModel", "left", "I", false)
  | 39 => ("OnlyMovesHisLipsModel", "hearings", "J", false)
  | 40 => ("OnlyMovesHisLipsModel", "rows", "[I", true)
  | 41 => ("OnlyMovesHisLipsModel", "behind", "I", false)
  | 42 => ("OnlyMovesHisLipsModel", "trace", "[I", true)
  | 43 => ("OnlyMovesHisLipsModel", "ran", "I", false)
  | _ => ("OnlyMovesHisLipsModel", "isKept", "Z", false)
def tyX9 : Nat → FieldType := fun k => match k with
  | 0 => .int
  | 1 => .int
  | 2 => .int
  | 3 => .int
  | 4 => .int
  | 5 => .int
  | 6 => .int
  | 7 => .int
  | 8 => .int
  | 9 => .array .int
  | 10 => .array .int
  | 11 => .array .int
  | 12 => .array .int
  | 13 => .array .int
  | 14 => .array .int
  | 15 => .array .int
  | 16 => .array .int
  | 17 => .array .int
  | 18 => .array .int
  | 19 => .array .int
  | 20 => .array .long
  | 21 => .array .long
  | 22 => .array .int
  | 23 => .array .int
  | 24 => .array .int
  | 25 => .int
  | 26 => .int
  | 27 => .int
  | 28 => .int
  | 29 => .int
  | 30 => .array .int
  | 31 => .array .int
  | 32 => .array .int
  | 33 => .array .int
  | 34 => .int
  | 35 => .array .int
  | 36 => .array .int
  | 37 => .int
  | 38 => .int
  | 39 => .long
  | 40 => .array .int
  | 41 => .int
  | 42 => .array .int
  | 43 => .int
  | _ => .boolean
abbrev wsX90 : List Cond := u_ws RX9 TX9 45
theorem nmX9 : ∀ a, a < 45 → ∀ b, b < 45 → a ≠ b → (TX9 a).2.1 ≠ (TX9 b).2.1 := by decide +kernel
theorem tyX9_ok : ∀ k, k < 45 → parseFieldDescriptor (TX9 k).2.2.1 = some (tyX9 k) := by decide +kernel
abbrev cX9_init : ByteArray := prog_11_method_1_code
def yX9_init : MethodName := ⟨RX9, "<init>", "()V"⟩
abbrev cX9_no : ByteArray := prog_11_method_2_code
def yX9_no : MethodName := ⟨RX9, "no", "(I)I"⟩
abbrev cX9_noTen : ByteArray := prog_11_method_3_code
def yX9_noTen : MethodName := ⟨RX9, "noTen", "(I)I"⟩
abbrev cX9_isShelf : ByteArray := prog_11_method_4_code
def yX9_isShelf : MethodName := ⟨RX9, "isShelf", "(I)Z"⟩
abbrev cX9_isSinger : ByteArray := prog_11_method_5_code
def yX9_isSinger : MethodName := ⟨RX9, "isSinger", "(I)Z"⟩
abbrev cX9_isIn : ByteArray := prog_11_method_6_code
def yX9_isIn : MethodName := ⟨RX9, "isIn", "(II)Z"⟩
abbrev cX9_everybody : ByteArray := prog_11_method_7_code
def yX9_everybody : MethodName := ⟨RX9, "everybody", "()I"⟩
abbrev cX9_isSet : ByteArray := prog_11_method_8_code
def yX9_isSet : MethodName := ⟨RX9, "isSet", "(I)Z"⟩
abbrev cX9_count : ByteArray := prog_11_method_9_code
def yX9_count : MethodName := ⟨RX9, "count", "(I)I"⟩
abbrev cX9_isOne : ByteArray := prog_11_method_10_code
def yX9_isOne : MethodName := ⟨RX9, "isOne", "(I)Z"⟩
abbrev cX9_row : ByteArray := prog_11_method_11_code
def yX9_row : MethodName := ⟨RX9, "row", "(III)I"⟩
abbrev cX9_set : ByteArray := prog_11_method_12_code
def yX9_set : MethodName := ⟨RX9, "set", "(IIJ)I"⟩
abbrev cX9_copy : ByteArray := prog_11_method_13_code
def yX9_copy : MethodName := ⟨RX9, "copy", "(IIIII)I"⟩
abbrev cX9_element : ByteArray := prog_11_method_14_code
def yX9_element : MethodName := ⟨RX9, "element", "(II)J"⟩
abbrev cX9_show : ByteArray := prog_11_method_15_code
def yX9_show : MethodName := ⟨RX9, "show", "(II)I"⟩
abbrev cX9_holds : ByteArray := prog_11_method_16_code
def yX9_holds : MethodName := ⟨RX9, "holds", "(I)I"⟩
abbrev cX9_says : ByteArray := prog_11_method_17_code
def yX9_says : MethodName := ⟨RX9, "says", "(II)I"⟩
abbrev cX9_wanted : ByteArray := prog_11_method_18_code
def yX9_wanted : MethodName := ⟨RX9, "wanted", "(I)I"⟩
abbrev cX9_intAt : ByteArray := prog_11_method_19_code
def yX9_intAt : MethodName := ⟨RX9, "intAt", "(II)I"⟩
abbrev cX9_bars : ByteArray := prog_11_method_20_code
def yX9_bars : MethodName := ⟨RX9, "bars", "(II)I"⟩
abbrev cX9_anew : ByteArray := prog_11_method_21_code
def yX9_anew : MethodName := ⟨RX9, "anew", "()V"⟩
abbrev cX9_adds : ByteArray := prog_11_method_22_code
def yX9_adds : MethodName := ⟨RX9, "adds", "(III)I"⟩
abbrev cX9_singer : ByteArray := prog_11_method_23_code
def yX9_singer : MethodName := ⟨RX9, "singer", "(III)I"⟩
abbrev cX9_who : ByteArray := prog_11_method_24_code
def yX9_who : MethodName := ⟨RX9, "who", "(I)I"⟩
abbrev cX9_singerOf : ByteArray := prog_11_method_25_code
def yX9_singerOf : MethodName := ⟨RX9, "singerOf", "(II)I"⟩
abbrev cX9_isAsked : ByteArray := prog_11_method_26_code
def yX9_isAsked : MethodName := ⟨RX9, "isAsked", "(II)Z"⟩
abbrev cX9_asks : ByteArray := prog_11_method_27_code
def yX9_asks : MethodName := ⟨RX9, "asks", "(II)I"⟩
abbrev cX9_ask : ByteArray := prog_11_method_28_code
def yX9_ask : MethodName := ⟨RX9, "ask", "(II)I"⟩
abbrev cX9_changes : ByteArray := prog_11_method_29_code
def yX9_changes : MethodName := ⟨RX9, "changes", "(II)V"⟩
abbrev cX9_wrong : ByteArray := prog_11_method_30_code
def yX9_wrong : MethodName := ⟨RX9, "wrong", "(I)Z"⟩
abbrev cX9_isWordAt : ByteArray := prog_11_method_31_code
def yX9_isWordAt : MethodName := ⟨RX9, "isWordAt", "(I)Z"⟩
abbrev cX9_word : ByteArray := prog_11_method_32_code
def yX9_word : MethodName := ⟨RX9, "word", "()I"⟩
abbrev cX9_isDigit : ByteArray := prog_11_method_33_code
def yX9_isDigit : MethodName := ⟨RX9, "isDigit", "()Z"⟩
abbrev cX9_reads : ByteArray := prog_11_method_34_code
def yX9_reads : MethodName := ⟨RX9, "reads", "()Z"⟩
abbrev cX9_isSo : ByteArray := prog_11_method_35_code
def yX9_isSo : MethodName := ⟨RX9, "isSo", "(II)Z"⟩
abbrev cX9_item : ByteArray := prog_11_method_36_code
def yX9_item : MethodName := ⟨RX9, "item", "()Z"⟩
abbrev cX9_carries : ByteArray := prog_11_method_37_code
def yX9_carries : MethodName := ⟨RX9, "carries", "([II[IIZ)I"⟩
abbrev cX9_all : ByteArray := prog_11_method_38_code
def yX9_all : MethodName := ⟨RX9, "all", "([IZ)V"⟩
abbrev cX9_loft : ByteArray := prog_11_method_39_code
def yX9_loft : MethodName := ⟨RX9, "loft", "(I)I"⟩
abbrev cX9_fault : ByteArray := prog_11_method_40_code
def yX9_fault : MethodName := ⟨RX9, "fault", "()I"⟩
abbrev cX9_holdsUp : ByteArray := prog_11_method_41_code
def yX9_holdsUp : MethodName := ⟨RX9, "holdsUp", "(III)Z"⟩
abbrev cX9_isHeard : ByteArray := prog_11_method_42_code
def yX9_isHeard : MethodName := ⟨RX9, "isHeard", "(III)Z"⟩
abbrev cX9_soundOf : ByteArray := prog_11_method_43_code
def yX9_soundOf : MethodName := ⟨RX9, "soundOf", "(II)I"⟩
abbrev cX9_isWorld : ByteArray := prog_11_method_44_code
def yX9_isWorld : MethodName := ⟨RX9, "isWorld", "(I)Z"⟩
abbrev cX9_lists : ByteArray := prog_11_method_45_code
def yX9_lists : MethodName := ⟨RX9, "lists", "()I"⟩
abbrev cX9_weight : ByteArray := prog_11_method_46_code
def yX9_weight : MethodName := ⟨RX9, "weight", "(I)I"⟩
abbrev cX9_stays : ByteArray := prog_11_method_47_code
def yX9_stays : MethodName := ⟨RX9, "stays", "(III)I"⟩
abbrev cX9_possible : ByteArray := prog_11_method_48_code
def yX9_possible : MethodName := ⟨RX9, "possible", "()I"⟩
abbrev cX9_mayBe : ByteArray := prog_11_method_49_code
def yX9_mayBe : MethodName := ⟨RX9, "mayBe", "(II)Z"⟩
abbrev cX9_worlds : ByteArray := prog_11_method_50_code
def yX9_worlds : MethodName := ⟨RX9, "worlds", "(I)I"⟩
abbrev cX9_world : ByteArray := prog_11_method_51_code
def yX9_world : MethodName := ⟨RX9, "world", "(I)I"⟩
abbrev cX9_sounds : ByteArray := prog_11_method_52_code
def yX9_sounds : MethodName := ⟨RX9, "sounds", "(II)I"⟩
abbrev cX9_knows : ByteArray := prog_11_method_53_code
def yX9_knows : MethodName := ⟨RX9, "knows", "(II)V"⟩
abbrev cX9_heard : ByteArray := prog_11_method_54_code
def yX9_heard : MethodName := ⟨RX9, "heard", "(II)I"⟩
abbrev cX9_known : ByteArray := prog_11_method_55_code
def yX9_known : MethodName := ⟨RX9, "known", "(I)I"⟩
abbrev cX9_forget : ByteArray := prog_11_method_56_code
def yX9_forget : MethodName := ⟨RX9, "forget", "()I"⟩
abbrev cX9_may : ByteArray := prog_11_method_57_code
def yX9_may : MethodName := ⟨RX9, "may", "(I)I"⟩
abbrev cX9_likely : ByteArray := prog_11_method_58_code
def yX9_likely : MethodName := ⟨RX9, "likely", "(I)I"⟩
abbrev cX9_likeliest : ByteArray := prog_11_method_59_code
def yX9_likeliest : MethodName := ⟨RX9, "likeliest", "()I"⟩
abbrev cX9_isLawful : ByteArray := prog_11_method_60_code
def yX9_isLawful : MethodName := ⟨RX9, "isLawful", "(I)Z"⟩
abbrev cX9_lawful : ByteArray := prog_11_method_61_code
def yX9_lawful : MethodName := ⟨RX9, "lawful", "(I)I"⟩
abbrev cX9_wrongOf : ByteArray := prog_11_method_62_code
def yX9_wrongOf : MethodName := ⟨RX9, "wrongOf", "(III)I"⟩
abbrev cX9_parts : ByteArray := prog_11_method_63_code
def yX9_parts : MethodName := ⟨RX9, "parts", "(II)I"⟩
abbrev cX9_tables : ByteArray := prog_11_method_64_code
def yX9_tables : MethodName := ⟨RX9, "tables", "(I)V"⟩
abbrev cX9_nextOf : ByteArray := prog_11_method_65_code
def yX9_nextOf : MethodName := ⟨RX9, "nextOf", "(II)I"⟩
abbrev cX9_begins : ByteArray := prog_11_method_66_code
def yX9_begins : MethodName := ⟨RX9, "begins", "()I"⟩
abbrev cX9_next : ByteArray := prog_11_method_67_code
def yX9_next : MethodName := ⟨RX9, "next", "()I"⟩
abbrev cX9_goesBy : ByteArray := prog_11_method_68_code
def yX9_goesBy : MethodName := ⟨RX9, "goesBy", "(III)V"⟩
abbrev cX9_by : ByteArray := prog_11_method_69_code
def yX9_by : MethodName := ⟨RX9, "by", "(I)I"⟩
abbrev cX9_ahead : ByteArray := prog_11_method_70_code
def yX9_ahead : MethodName := ⟨RX9, "ahead", "(III)I"⟩
abbrev cX9_wrongIn : ByteArray := prog_11_method_71_code
def yX9_wrongIn : MethodName := ⟨RX9, "wrongIn", "(II)I"⟩
abbrev cX9_barsOf : ByteArray := prog_11_method_72_code
def yX9_barsOf : MethodName := ⟨RX9, "barsOf", "(II)I"⟩
abbrev cX9_judge : ByteArray := prog_11_method_73_code
def yX9_judge : MethodName := ⟨RX9, "judge", "(II)I"⟩
abbrev cX9_behind : ByteArray := prog_11_method_74_code
def yX9_behind : MethodName := ⟨RX9, "behind", "(II)I"⟩
abbrev cX9_byEar : ByteArray := prog_11_method_75_code
def yX9_byEar : MethodName := ⟨RX9, "byEar", "(II)I"⟩
abbrev cX9_beside : ByteArray := prog_11_method_76_code
def yX9_beside : MethodName := ⟨RX9, "beside", "()I"⟩
abbrev cX9_right : ByteArray := prog_11_method_77_code
def yX9_right : MethodName := ⟨RX9, "right", "()I"⟩
abbrev cX9_quiet : ByteArray := prog_11_method_78_code
def yX9_quiet : MethodName := ⟨RX9, "quiet", "()I"⟩
abbrev cX9_swap : ByteArray := prog_11_method_79_code
def yX9_swap : MethodName := ⟨RX9, "swap", "(II)I"⟩
abbrev cX9_isTrue : ByteArray := prog_11_method_80_code
def yX9_isTrue : MethodName := ⟨RX9, "isTrue", "(I)I"⟩
abbrev cX9_isKnown : ByteArray := prog_11_method_81_code
def yX9_isKnown : MethodName := ⟨RX9, "isKnown", "(II)Z"⟩
abbrev cX9_hear : ByteArray := prog_11_method_82_code
def yX9_hear : MethodName := ⟨RX9, "hear", "(I)I"⟩
abbrev cX9_draw : ByteArray := prog_11_method_83_code
def yX9_draw : MethodName := ⟨RX9, "draw", "(I)I"⟩
abbrev cX9_evening : ByteArray := prog_11_method_84_code
def yX9_evening : MethodName := ⟨RX9, "evening", "()I"⟩
abbrev cX9_evenings : ByteArray := prog_11_method_85_code
def yX9_evenings : MethodName := ⟨RX9, "evenings", "(I)I"⟩
abbrev cX9_seed : ByteArray := prog_11_method_86_code
def yX9_seed : MethodName := ⟨RX9, "seed", "(I)I"⟩
abbrev cX9_body : ByteArray := prog_11_method_87_code
def yX9_body : MethodName := ⟨RX9, "body", "(I)V"⟩
abbrev cX9_singing : ByteArray := prog_11_method_88_code
def yX9_singing : MethodName := ⟨RX9, "singing", "(II)I"⟩
abbrev cX9_hearing : ByteArray := prog_11_method_89_code
def yX9_hearing : MethodName := ⟨RX9, "hearing", "(II)I"⟩
abbrev cX9_leaning : ByteArray := prog_11_method_90_code
def yX9_leaning : MethodName := ⟨RX9, "leaning", "(II)I"⟩
abbrev cX9_act : ByteArray := prog_11_method_91_code
def yX9_act : MethodName := ⟨RX9, "act", "(III)I"⟩
abbrev cX9_trace : ByteArray := prog_11_method_92_code
def yX9_trace : MethodName := ⟨RX9, "trace", "(I)I"⟩
abbrev cX9_image : ByteArray := prog_11_method_93_code
def yX9_image : MethodName := ⟨RX9, "image", "()I"⟩
abbrev cX9_restore : ByteArray := prog_11_method_94_code
def yX9_restore : MethodName := ⟨RX9, "restore", "()I"⟩
abbrev cX9_status : ByteArray := prog_11_method_95_code
def yX9_status : MethodName := ⟨RX9, "status", "(I)I"⟩
def RJ6 : String := "java/lang/Integer"
def TJ6 : u_T := fun k => match k with
  | _ => ("", "", "", false)
def tyJ6 : Nat → FieldType := fun k => match k with
  | _ => .int
abbrev wsJ60 : List Cond := u_ws RJ6 TJ6 0
theorem nmJ6 : ∀ a, a < 0 → ∀ b, b < 0 → a ≠ b → (TJ6 a).2.1 ≠ (TJ6 b).2.1 := by decide +kernel
theorem tyJ6_ok : ∀ k, k < 0 → parseFieldDescriptor (TJ6 k).2.2.1 = some (tyJ6 k) := by decide +kernel
abbrev cJ6_numberOfTrailingZeros_0f7a4 : ByteArray := prog_12_method_48_code
def yJ6_numberOfTrailingZeros_0f7a4 : MethodName := ⟨RJ6, "numberOfTrailingZeros", "(I)I"⟩
abbrev cJ6_bitCount_0f7a4 : ByteArray := prog_12_method_49_code
def yJ6_bitCount_0f7a4 : MethodName := ⟨RJ6, "bitCount", "(I)I"⟩
def RJ13 : String := "java/lang/Long"
def TJ13 : u_T := fun k => match k with
  | _ => ("", "", "", false)
def tyJ13 : Nat → FieldType := fun k => match k with
  | _ => .int
abbrev wsJ130 : List Cond := u_ws RJ13 TJ13 0
theorem nmJ13 : ∀ a, a < 0 → ∀ b, b < 0 → a ≠ b → (TJ13 a).2.1 ≠ (TJ13 b).2.1 := by decide +kernel
theorem tyJ13_ok : ∀ k, k < 0 → parseFieldDescriptor (TJ13 k).2.2.1 = some (tyJ13 k) := by decide +kernel
abbrev cJ13_bitCount_95d88 : ByteArray := prog_13_method_50_code
def yJ13_bitCount_95d88 : MethodName := ⟨RJ13, "bitCount", "(J)I"⟩
def RJ9 : String := "java/lang/Math"
def TJ9 : u_T := fun k => match k with
  | _ => ("", "", "", false)
def tyJ9 : Nat → FieldType := fun k => match k with
  | _ => .int
abbrev wsJ90 : List Cond := u_ws RJ9 TJ9 0
theorem nmJ9 : ∀ a, a < 0 → ∀ b, b < 0 → a ≠ b → (TJ9 a).2.1 ≠ (TJ9 b).2.1 := by decide +kernel
theorem tyJ9_ok : ∀ k, k < 0 → parseFieldDescriptor (TJ9 k).2.2.1 = some (tyJ9 k) := by decide +kernel
abbrev cJ9_max_7cf53 : ByteArray := prog_14_method_65_code
def yJ9_max_7cf53 : MethodName := ⟨RJ9, "max", "(II)I"⟩
abbrev cJ9_min_7cf53 : ByteArray := prog_14_method_69_code
def yJ9_min_7cf53 : MethodName := ⟨RJ9, "min", "(II)I"⟩
def RJ0 : String := "java/lang/String"
def TJ0 : u_T := fun k => match k with
  | _ => ("", "", "", false)
def tyJ0 : Nat → FieldType := fun k => match k with
  | _ => .int
abbrev wsJ00 : List Cond := u_ws RJ0 TJ0 0
theorem nmJ0 : ∀ a, a < 0 → ∀ b, b < 0 → a ≠ b → (TJ0 a).2.1 ≠ (TJ0 b).2.1 := by decide +kernel
theorem tyJ0_ok : ∀ k, k < 0 → parseFieldDescriptor (TJ0 k).2.2.1 = some (tyJ0 k) := by decide +kernel
abbrev cJ0_length_8abf5 : ByteArray := prog_15_method_54_code
def yJ0_length_8abf5 : MethodName := ⟨RJ0, "length", "()I"⟩
abbrev cJ0_charAt_5068e : ByteArray := prog_15_method_56_code
def yJ0_charAt_5068e : MethodName := ⟨RJ0, "charAt", "(I)C"⟩
abbrev cJ0_coder_7d493 : ByteArray := prog_15_method_152_code
def yJ0_coder_7d493 : MethodName := ⟨RJ0, "coder", "()B"⟩
abbrev cJ0_isLatin1_aae02 : ByteArray := prog_15_method_154_code
def yJ0_isLatin1_aae02 : MethodName := ⟨RJ0, "isLatin1", "()Z"⟩
abbrev cJ0_checkIndex_df160 : ByteArray := prog_15_method_155_code
def yJ0_checkIndex_df160 : MethodName := ⟨RJ0, "checkIndex", "(II)V"⟩
def RJ1 : String := "java/lang/StringLatin1"
def TJ1 : u_T := fun k => match k with
  | _ => ("", "", "", false)
def tyJ1 : Nat → FieldType := fun k => match k with
  | _ => .int
abbrev wsJ10 : List Cond := u_ws RJ1 TJ1 0
theorem nmJ1 : ∀ a, a < 0 → ∀ b, b < 0 → a ≠ b → (TJ1 a).2.1 ≠ (TJ1 b).2.1 := by decide +kernel
theorem tyJ1_ok : ∀ k, k < 0 → parseFieldDescriptor (TJ1 k).2.2.1 = some (tyJ1 k) := by decide +kernel
abbrev cJ1_charAt_3b067 : ByteArray := prog_16_method_2_code
def yJ1_charAt_3b067 : MethodName := ⟨RJ1, "charAt", "([BI)C"⟩
def RJ2 : String := "java/lang/StringUTF16"
def TJ2 : u_T := fun k => match k with
  | _ => ("", "", "", false)
def tyJ2 : Nat → FieldType := fun k => match k with
  | _ => .int
abbrev wsJ20 : List Cond := u_ws RJ2 TJ2 0
theorem nmJ2 : ∀ a, a < 0 → ∀ b, b < 0 → a ≠ b → (TJ2 a).2.1 ≠ (TJ2 b).2.1 := by decide +kernel
theorem tyJ2_ok : ∀ k, k < 0 → parseFieldDescriptor (TJ2 k).2.2.1 = some (tyJ2 k) := by decide +kernel
abbrev cJ2_getChar_3b067 : ByteArray := prog_17_method_5_code
def yJ2_getChar_3b067 : MethodName := ⟨RJ2, "getChar", "([BI)C"⟩
abbrev cJ2_length_9d52b : ByteArray := prog_17_method_6_code
def yJ2_length_9d52b : MethodName := ⟨RJ2, "length", "([B)I"⟩
abbrev cJ2_charAt_3b067 : ByteArray := prog_17_method_83_code
def yJ2_charAt_3b067 : MethodName := ⟨RJ2, "charAt", "([BI)C"⟩
abbrev cJ2_checkIndex_2214a : ByteArray := prog_17_method_91_code
def yJ2_checkIndex_2214a : MethodName := ⟨RJ2, "checkIndex", "(I[B)V"⟩
def RJ10 : String := "java/lang/System"
def TJ10 : u_T := fun k => match k with
  | _ => ("", "", "", false)
def tyJ10 : Nat → FieldType := fun k => match k with
  | _ => .int
abbrev wsJ100 : List Cond := u_ws RJ10 TJ10 0
theorem nmJ10 : ∀ a, a < 0 → ∀ b, b < 0 → a ≠ b → (TJ10 a).2.1 ≠ (TJ10 b).2.1 := by decide +kernel
theorem tyJ10_ok : ∀ k, k < 0 → parseFieldDescriptor (TJ10 k).2.2.1 = some (tyJ10 k) := by decide +kernel
def RJ3 : String := "jdk/internal/util/Preconditions"
def TJ3 : u_T := fun k => match k with
  | _ => ("", "", "", false)
def tyJ3 : Nat → FieldType := fun k => match k with
  | _ => .int
abbrev wsJ30 : List Cond := u_ws RJ3 TJ3 0
theorem nmJ3 : ∀ a, a < 0 → ∀ b, b < 0 → a ≠ b → (TJ3 a).2.1 ≠ (TJ3 b).2.1 := by decide +kernel
theorem tyJ3_ok : ∀ k, k < 0 → parseFieldDescriptor (TJ3 k).2.2.1 = some (tyJ3 k) := by decide +kernel
abbrev cJ3_checkIndex_8e157 : ByteArray := prog_19_method_11_code
def yJ3_checkIndex_8e157 : MethodName := ⟨RJ3, "checkIndex", "(IILjava/util/function/BiFunction;)I"⟩
def RL : String := "OnlyMovesHisLipsLaw"
abbrev cL_law : ByteArray := code
def yL_law : MethodName := ⟨RL, "law", "([I)Z"⟩
abbrev vwCl : List vw_C := [(RX0, TX0, 6), (RX1, TX1, 8), (RX2, TX2, 9), (RX3, TX3, 4), (RX4, TX4, 3), (RX5, TX5, 6), (RX6, TX6, 5), (RX7, TX7, 9), (RX8, TX8, 11), (RX9, TX9, 45)]

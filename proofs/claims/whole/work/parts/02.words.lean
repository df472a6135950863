/-! the words: those of the tables that may be handed on in a call -/
def TB : List Cond := lw_tbl.filter goodWord
theorem TB_good {w : Cond} (h : w ∈ TB) : (w.onTables && w.keeps) = true ∨ ∃ ty, w = .arrayClass ty := good_of_word (List.mem_filter.mp h).2
theorem TB_of {w : Cond} (h : w ∈ lw_tbl) (g : goodWord w = true) : w ∈ TB := List.mem_filter.mpr ⟨h, g⟩
theorem tb_1 {w : Cond} (h : w ∈ tables_1_1) (g : goodWord w = true) : w ∈ TB := TB_of (List.mem_append_right _ (List.mem_append_left _ h)) g
theorem tb_2 {w : Cond} (h : w ∈ tables_1_2) (g : goodWord w = true) : w ∈ TB := TB_of (List.mem_append_right _ (List.mem_append_right _ (List.mem_append_left _ h))) g
theorem tb_3 {w : Cond} (h : w ∈ tables_1_3) (g : goodWord w = true) : w ∈ TB := TB_of (List.mem_append_right _ (List.mem_append_right _ (List.mem_append_right _ (List.mem_append_left _ h)))) g
theorem tb_4 {w : Cond} (h : w ∈ tables_1_4) (g : goodWord w = true) : w ∈ TB := TB_of (List.mem_append_right _ (List.mem_append_right _ (List.mem_append_right _ (List.mem_append_right _ (List.mem_append_left _ h))))) g
theorem tb_5 {w : Cond} (h : w ∈ tables_1_5) (g : goodWord w = true) : w ∈ TB := TB_of (List.mem_append_right _ (List.mem_append_right _ (List.mem_append_right _ (List.mem_append_right _ (List.mem_append_right _ (List.mem_append_left _ h)))))) g
theorem tb_6 {w : Cond} (h : w ∈ tables_1_6) (g : goodWord w = true) : w ∈ TB := TB_of (List.mem_append_right _ (List.mem_append_right _ (List.mem_append_right _ (List.mem_append_right _ (List.mem_append_right _ (List.mem_append_right _ (List.mem_append_left _ h))))))) g
theorem tb_7 {w : Cond} (h : w ∈ tables_1_7) (g : goodWord w = true) : w ∈ TB := TB_of (List.mem_append_right _ (List.mem_append_right _ (List.mem_append_right _ (List.mem_append_right _ (List.mem_append_right _ (List.mem_append_right _ (List.mem_append_right _ h))))))) g
theorem tb_p1 {q : MethodName × Nat} (h : q ∈ lw_privs_1) : Cond.selects q.1.cls q.1 q.1 ∈ TB := TB_of (List.mem_append_left _ (List.mem_map.mpr ⟨q, (List.mem_append_left _ h), rfl⟩)) rfl
theorem tb_p2 {q : MethodName × Nat} (h : q ∈ lw_privs_2) : Cond.selects q.1.cls q.1 q.1 ∈ TB := TB_of (List.mem_append_left _ (List.mem_map.mpr ⟨q, (List.mem_append_right _ (List.mem_append_left _ h)), rfl⟩)) rfl
theorem tb_p3 {q : MethodName × Nat} (h : q ∈ lw_privs_3) : Cond.selects q.1.cls q.1 q.1 ∈ TB := TB_of (List.mem_append_left _ (List.mem_map.mpr ⟨q, (List.mem_append_right _ (List.mem_append_right _ (List.mem_append_left _ h))), rfl⟩)) rfl
theorem tb_p4 {q : MethodName × Nat} (h : q ∈ lw_privs_4) : Cond.selects q.1.cls q.1 q.1 ∈ TB := TB_of (List.mem_append_left _ (List.mem_map.mpr ⟨q, (List.mem_append_right _ (List.mem_append_right _ (List.mem_append_right _ (List.mem_append_left _ h)))), rfl⟩)) rfl
theorem tb_p5 {q : MethodName × Nat} (h : q ∈ lw_privs_5) : Cond.selects q.1.cls q.1 q.1 ∈ TB := TB_of (List.mem_append_left _ (List.mem_map.mpr ⟨q, (List.mem_append_right _ (List.mem_append_right _ (List.mem_append_right _ (List.mem_append_right _ h)))), rfl⟩)) rfl
theorem kl_L_7 : Cond.classLink RL 7 RX8 ∈ TB := tb_1 (List.mem_of_getElem? (i := 19) rfl) rfl
theorem ka_X8 : Cond.instantiable RX8 11 ∈ TB := tb_1 (List.mem_of_getElem? (i := 20) rfl) rfl
theorem kn_X8 : Cond.initialized RX8 ∈ TB := tb_1 (List.mem_of_getElem? (i := 1) rfl) rfl
theorem kl_L_10 : Cond.classLink RL 10 RX9 ∈ TB := tb_5 (List.mem_of_getElem? (i := 63) rfl) rfl
theorem ka_X9 : Cond.instantiable RX9 45 ∈ TB := tb_5 (List.mem_of_getElem? (i := 64) rfl) rfl
theorem kn_X9 : Cond.initialized RX9 ∈ TB := tb_1 (List.mem_of_getElem? (i := 10) rfl) rfl
theorem kk_L_18 : Cond.constantLong RL 18 (4294967295) ∈ TB := tb_7 (List.mem_of_getElem? (i := 104) rfl) rfl
theorem km_L_9 : Cond.methodLink RL 9 yX8_init ∈ TB := tb_1 (List.mem_of_getElem? (i := 21) rfl) rfl
theorem ki_X8_init : Cond.instanceMethod yX8_init ∈ TB := tb_1 (List.mem_of_getElem? (i := 22) rfl) rfl
theorem kc_X8_init : Cond.code yX8_init cX8_init 2 none ∈ TB := tb_1 (List.mem_of_getElem? (i := 23) rfl) rfl
theorem km_X8_1 : Cond.methodLink RX8 1 objectInit ∈ TB := tb_1 (List.mem_of_getElem? (i := 24) rfl) rfl
theorem ki_objectInit : Cond.instanceMethod objectInit ∈ TB := tb_1 (List.mem_of_getElem? (i := 25) rfl) rfl
theorem kc_objectInit : Cond.code objectInit ⟨#[0xb1]⟩ 1 none ∈ TB := tb_1 (List.mem_of_getElem? (i := 26) rfl) rfl
theorem kl_X8_9 : Cond.classLink RX8 9 RX4 ∈ TB := tb_1 (List.mem_of_getElem? (i := 27) rfl) rfl
theorem kf_X8_11 : Cond.fieldLink RX8 11 "OnlyMovesHisLips" "shelves" "[LOnlyMovesHisLips$Shelf;" ∈ TB := tb_2 (List.mem_of_getElem? (i := 41) rfl) rfl
theorem ky_int : Cond.arrayClass .int ∈ TB := tb_1 (List.mem_of_getElem? (i := 52) rfl) rfl
theorem kf_X8_15 : Cond.fieldLink RX8 15 "OnlyMovesHisLips" "refusals" "[I" ∈ TB := tb_2 (List.mem_of_getElem? (i := 42) rfl) rfl
theorem kl_X8_19 : Cond.classLink RX8 19 RX6 ∈ TB := tb_1 (List.mem_of_getElem? (i := 29) rfl) rfl
theorem ka_X6 : Cond.instantiable RX6 5 ∈ TB := tb_1 (List.mem_of_getElem? (i := 30) rfl) rfl
theorem kn_X6 : Cond.initialized RX6 ∈ TB := tb_1 (List.mem_of_getElem? (i := 2) rfl) rfl
theorem kf_X8_22 : Cond.fieldLink RX8 22 "OnlyMovesHisLips" "voice" "LOnlyMovesHisLips$Voice;" ∈ TB := tb_2 (List.mem_of_getElem? (i := 43) rfl) rfl
theorem kl_X8_26 : Cond.classLink RX8 26 RX3 ∈ TB := tb_1 (List.mem_of_getElem? (i := 53) rfl) rfl
theorem ka_X3 : Cond.instantiable RX3 4 ∈ TB := tb_1 (List.mem_of_getElem? (i := 54) rfl) rfl
theorem kn_X3 : Cond.initialized RX3 ∈ TB := tb_1 (List.mem_of_getElem? (i := 3) rfl) rfl
theorem kf_X8_29 : Cond.fieldLink RX8 29 "OnlyMovesHisLips" "reader" "LOnlyMovesHisLips$Reader;" ∈ TB := tb_2 (List.mem_of_getElem? (i := 44) rfl) rfl
theorem kl_X8_33 : Cond.classLink RX8 33 RX1 ∈ TB := tb_1 (List.mem_of_getElem? (i := 73) rfl) rfl
theorem ka_X1 : Cond.instantiable RX1 8 ∈ TB := tb_1 (List.mem_of_getElem? (i := 74) rfl) rfl
theorem kn_X1 : Cond.initialized RX1 ∈ TB := tb_1 (List.mem_of_getElem? (i := 4) rfl) rfl
theorem kf_X8_36 : Cond.fieldLink RX8 36 "OnlyMovesHisLips" "course" "LOnlyMovesHisLips$Course;" ∈ TB := tb_2 (List.mem_of_getElem? (i := 45) rfl) rfl
theorem kl_X8_40 : Cond.classLink RX8 40 RX5 ∈ TB := tb_1 (List.mem_of_getElem? (i := 107) rfl) rfl
theorem ka_X5 : Cond.instantiable RX5 6 ∈ TB := tb_1 (List.mem_of_getElem? (i := 108) rfl) rfl
theorem kn_X5 : Cond.initialized RX5 ∈ TB := tb_1 (List.mem_of_getElem? (i := 5) rfl) rfl
theorem kf_X8_43 : Cond.fieldLink RX8 43 "OnlyMovesHisLips" "told" "LOnlyMovesHisLips$Told;" ∈ TB := tb_2 (List.mem_of_getElem? (i := 46) rfl) rfl
theorem kl_X8_47 : Cond.classLink RX8 47 RX2 ∈ TB := tb_1 (List.mem_of_getElem? (i := 136) rfl) rfl
theorem ka_X2 : Cond.instantiable RX2 9 ∈ TB := tb_1 (List.mem_of_getElem? (i := 137) rfl) rfl
theorem kn_X2 : Cond.initialized RX2 ∈ TB := tb_1 (List.mem_of_getElem? (i := 6) rfl) rfl
theorem kf_X8_50 : Cond.fieldLink RX8 50 "OnlyMovesHisLips" "hall" "LOnlyMovesHisLips$Hall;" ∈ TB := tb_2 (List.mem_of_getElem? (i := 47) rfl) rfl
theorem kf_X8_54 : Cond.fieldLink RX8 54 "OnlyMovesHisLips" "spare" "LOnlyMovesHisLips$Hall;" ∈ TB := tb_2 (List.mem_of_getElem? (i := 48) rfl) rfl
theorem kf_X8_57 : Cond.fieldLink RX8 57 "OnlyMovesHisLips" "image" "LOnlyMovesHisLips$Hall;" ∈ TB := tb_2 (List.mem_of_getElem? (i := 49) rfl) rfl
theorem kf_X8_60 : Cond.fieldLink RX8 60 "OnlyMovesHisLips" "hasImage" "Z" ∈ TB := tb_2 (List.mem_of_getElem? (i := 50) rfl) rfl
theorem kf_X8_64 : Cond.fieldLink RX8 64 "OnlyMovesHisLips" "latestFault" "I" ∈ TB := tb_2 (List.mem_of_getElem? (i := 51) rfl) rfl
theorem ka_X4 : Cond.instantiable RX4 3 ∈ TB := tb_2 (List.mem_of_getElem? (i := 22) rfl) rfl
theorem kn_X4 : Cond.initialized RX4 ∈ TB := tb_1 (List.mem_of_getElem? (i := 9) rfl) rfl
theorem km_X8_21 : Cond.methodLink RX8 21 yX6_init ∈ TB := tb_1 (List.mem_of_getElem? (i := 31) rfl) rfl
theorem ki_X6_init : Cond.instanceMethod yX6_init ∈ TB := tb_1 (List.mem_of_getElem? (i := 32) rfl) rfl
theorem kc_X6_init : Cond.code yX6_init cX6_init 1 none ∈ TB := tb_1 (List.mem_of_getElem? (i := 33) rfl) rfl
theorem km_X6_3 : Cond.methodLink RX6 3 objectInit ∈ TB := tb_1 (List.mem_of_getElem? (i := 34) rfl) rfl
theorem kf_X6_11 : Cond.fieldLink RX6 11 "OnlyMovesHisLips$Voice" "kept" "[I" ∈ TB := tb_1 (List.mem_of_getElem? (i := 35) rfl) rfl
theorem kf_X6_15 : Cond.fieldLink RX6 15 "OnlyMovesHisLips$Voice" "ran" "I" ∈ TB := tb_1 (List.mem_of_getElem? (i := 36) rfl) rfl
theorem kf_X6_19 : Cond.fieldLink RX6 19 "OnlyMovesHisLips$Voice" "kind" "I" ∈ TB := tb_1 (List.mem_of_getElem? (i := 38) rfl) rfl
theorem kf_X6_22 : Cond.fieldLink RX6 22 "OnlyMovesHisLips$Voice" "m" "I" ∈ TB := tb_1 (List.mem_of_getElem? (i := 39) rfl) rfl
theorem kf_X6_25 : Cond.fieldLink RX6 25 "OnlyMovesHisLips$Voice" "k" "I" ∈ TB := tb_1 (List.mem_of_getElem? (i := 40) rfl) rfl
theorem km_X8_28 : Cond.methodLink RX8 28 yX3_init ∈ TB := tb_1 (List.mem_of_getElem? (i := 55) rfl) rfl
theorem ki_X3_init : Cond.instanceMethod yX3_init ∈ TB := tb_1 (List.mem_of_getElem? (i := 56) rfl) rfl
theorem kc_X3_init : Cond.code yX3_init cX3_init 1 none ∈ TB := tb_1 (List.mem_of_getElem? (i := 57) rfl) rfl
theorem km_X3_3 : Cond.methodLink RX3 3 objectInit ∈ TB := tb_1 (List.mem_of_getElem? (i := 58) rfl) rfl
theorem kf_X3_9 : Cond.fieldLink RX3 9 "OnlyMovesHisLips$Reader" "numbers" "[I" ∈ TB := tb_1 (List.mem_of_getElem? (i := 59) rfl) rfl
theorem kf_X3_15 : Cond.fieldLink RX3 15 "OnlyMovesHisLips$Reader" "text" "LOnlyMovesHisLips$Shelf;" ∈ TB := tb_1 (List.mem_of_getElem? (i := 60) rfl) rfl
theorem kf_X3_19 : Cond.fieldLink RX3 19 "OnlyMovesHisLips$Reader" "at" "I" ∈ TB := tb_1 (List.mem_of_getElem? (i := 61) rfl) rfl
theorem kf_X3_23 : Cond.fieldLink RX3 23 "OnlyMovesHisLips$Reader" "fault" "I" ∈ TB := tb_1 (List.mem_of_getElem? (i := 62) rfl) rfl
theorem km_X8_35 : Cond.methodLink RX8 35 yX1_init ∈ TB := tb_1 (List.mem_of_getElem? (i := 75) rfl) rfl
theorem ki_X1_init : Cond.instanceMethod yX1_init ∈ TB := tb_1 (List.mem_of_getElem? (i := 76) rfl) rfl
theorem kc_X1_init : Cond.code yX1_init cX1_init 1 none ∈ TB := tb_1 (List.mem_of_getElem? (i := 77) rfl) rfl
theorem km_X1_5 : Cond.methodLink RX1 5 objectInit ∈ TB := tb_1 (List.mem_of_getElem? (i := 78) rfl) rfl
theorem ky_long : Cond.arrayClass .long ∈ TB := tb_1 (List.mem_of_getElem? (i := 106) rfl) rfl
theorem kf_X1_13 : Cond.fieldLink RX1 13 "OnlyMovesHisLips$Course" "lows" "[J" ∈ TB := tb_1 (List.mem_of_getElem? (i := 79) rfl) rfl
theorem kf_X1_17 : Cond.fieldLink RX1 17 "OnlyMovesHisLips$Course" "highs" "[J" ∈ TB := tb_1 (List.mem_of_getElem? (i := 80) rfl) rfl
theorem kf_X1_20 : Cond.fieldLink RX1 20 "OnlyMovesHisLips$Course" "depths" "[I" ∈ TB := tb_1 (List.mem_of_getElem? (i := 81) rfl) rfl
theorem kf_X1_24 : Cond.fieldLink RX1 24 "OnlyMovesHisLips$Course" "size" "I" ∈ TB := tb_1 (List.mem_of_getElem? (i := 82) rfl) rfl
theorem kf_X1_28 : Cond.fieldLink RX1 28 "OnlyMovesHisLips$Course" "hearings" "J" ∈ TB := tb_1 (List.mem_of_getElem? (i := 83) rfl) rfl
theorem kf_X1_32 : Cond.fieldLink RX1 32 "OnlyMovesHisLips$Course" "weight" "J" ∈ TB := tb_1 (List.mem_of_getElem? (i := 84) rfl) rfl
theorem kf_X1_35 : Cond.fieldLink RX1 35 "OnlyMovesHisLips$Course" "worst" "I" ∈ TB := tb_1 (List.mem_of_getElem? (i := 85) rfl) rfl
theorem kf_X1_38 : Cond.fieldLink RX1 38 "OnlyMovesHisLips$Course" "left" "I" ∈ TB := tb_1 (List.mem_of_getElem? (i := 87) rfl) rfl
theorem km_X8_42 : Cond.methodLink RX8 42 yX5_init ∈ TB := tb_1 (List.mem_of_getElem? (i := 109) rfl) rfl
theorem ki_X5_init : Cond.instanceMethod yX5_init ∈ TB := tb_1 (List.mem_of_getElem? (i := 110) rfl) rfl
theorem kc_X5_init : Cond.code yX5_init cX5_init 1 none ∈ TB := tb_1 (List.mem_of_getElem? (i := 111) rfl) rfl
theorem km_X5_3 : Cond.methodLink RX5 3 objectInit ∈ TB := tb_1 (List.mem_of_getElem? (i := 112) rfl) rfl
theorem kf_X5_11 : Cond.fieldLink RX5 11 "OnlyMovesHisLips$Told" "rows" "[I" ∈ TB := tb_1 (List.mem_of_getElem? (i := 113) rfl) rfl
theorem kf_X5_17 : Cond.fieldLink RX5 17 "OnlyMovesHisLips$Told" "having" "[I" ∈ TB := tb_1 (List.mem_of_getElem? (i := 114) rfl) rfl
theorem kf_X5_20 : Cond.fieldLink RX5 20 "OnlyMovesHisLips$Told" "unlike" "I" ∈ TB := tb_1 (List.mem_of_getElem? (i := 115) rfl) rfl
theorem kf_X5_24 : Cond.fieldLink RX5 24 "OnlyMovesHisLips$Told" "alike" "I" ∈ TB := tb_1 (List.mem_of_getElem? (i := 117) rfl) rfl
theorem kf_X5_27 : Cond.fieldLink RX5 27 "OnlyMovesHisLips$Told" "low" "J" ∈ TB := tb_1 (List.mem_of_getElem? (i := 119) rfl) rfl
theorem kf_X5_31 : Cond.fieldLink RX5 31 "OnlyMovesHisLips$Told" "high" "J" ∈ TB := tb_1 (List.mem_of_getElem? (i := 121) rfl) rfl
theorem km_X8_49 : Cond.methodLink RX8 49 yX2_init ∈ TB := tb_1 (List.mem_of_getElem? (i := 138) rfl) rfl
theorem ki_X2_init : Cond.instanceMethod yX2_init ∈ TB := tb_1 (List.mem_of_getElem? (i := 139) rfl) rfl
theorem kc_X2_init : Cond.code yX2_init cX2_init 1 none ∈ TB := tb_1 (List.mem_of_getElem? (i := 140) rfl) rfl
theorem km_X2_3 : Cond.methodLink RX2 3 objectInit ∈ TB := tb_1 (List.mem_of_getElem? (i := 141) rfl) rfl
theorem kl_X2_9 : Cond.classLink RX2 9 RX0 ∈ TB := tb_1 (List.mem_of_getElem? (i := 142) rfl) rfl
theorem ka_X0 : Cond.instantiable RX0 6 ∈ TB := tb_1 (List.mem_of_getElem? (i := 143) rfl) rfl
theorem kn_X0 : Cond.initialized RX0 ∈ TB := tb_1 (List.mem_of_getElem? (i := 7) rfl) rfl
theorem kf_X2_12 : Cond.fieldLink RX2 12 "OnlyMovesHisLips$Hall" "choir" "LOnlyMovesHisLips$Choir;" ∈ TB := tb_1 (List.mem_of_getElem? (i := 219) rfl) rfl
theorem kl_X2_18 : Cond.classLink RX2 18 RX7 ∈ TB := tb_1 (List.mem_of_getElem? (i := 177) rfl) rfl
theorem ka_X7 : Cond.instantiable RX7 9 ∈ TB := tb_1 (List.mem_of_getElem? (i := 178) rfl) rfl
theorem kn_X7 : Cond.initialized RX7 ∈ TB := tb_1 (List.mem_of_getElem? (i := 8) rfl) rfl
theorem kf_X2_23 : Cond.fieldLink RX2 23 "OnlyMovesHisLips$Hall" "worlds" "LOnlyMovesHisLips$Worlds;" ∈ TB := tb_1 (List.mem_of_getElem? (i := 223) rfl) rfl
theorem kf_X2_27 : Cond.fieldLink RX2 27 "OnlyMovesHisLips$Hall" "rules" "[I" ∈ TB := tb_1 (List.mem_of_getElem? (i := 227) rfl) rfl
theorem kf_X2_31 : Cond.fieldLink RX2 31 "OnlyMovesHisLips$Hall" "hearings" "[I" ∈ TB := tb_1 (List.mem_of_getElem? (i := 228) rfl) rfl
theorem kf_X2_34 : Cond.fieldLink RX2 34 "OnlyMovesHisLips$Hall" "hearingCount" "I" ∈ TB := tb_1 (List.mem_of_getElem? (i := 230) rfl) rfl
theorem kf_X2_38 : Cond.fieldLink RX2 38 "OnlyMovesHisLips$Hall" "seed" "I" ∈ TB := tb_1 (List.mem_of_getElem? (i := 232) rfl) rfl
theorem kf_X2_41 : Cond.fieldLink RX2 41 "OnlyMovesHisLips$Hall" "truth" "I" ∈ TB := tb_1 (List.mem_of_getElem? (i := 234) rfl) rfl
theorem kf_X2_44 : Cond.fieldLink RX2 44 "OnlyMovesHisLips$Hall" "low" "J" ∈ TB := tb_1 (List.mem_of_getElem? (i := 235) rfl) rfl
theorem kf_X2_48 : Cond.fieldLink RX2 48 "OnlyMovesHisLips$Hall" "high" "J" ∈ TB := tb_1 (List.mem_of_getElem? (i := 239) rfl) rfl
theorem km_X2_11 : Cond.methodLink RX2 11 yX0_init ∈ TB := tb_1 (List.mem_of_getElem? (i := 144) rfl) rfl
theorem ki_X0_init : Cond.instanceMethod yX0_init ∈ TB := tb_1 (List.mem_of_getElem? (i := 145) rfl) rfl
theorem kc_X0_init : Cond.code yX0_init cX0_init 1 none ∈ TB := tb_1 (List.mem_of_getElem? (i := 146) rfl) rfl
theorem km_X0_3 : Cond.methodLink RX0 3 objectInit ∈ TB := tb_1 (List.mem_of_getElem? (i := 147) rfl) rfl
theorem kf_X0_11 : Cond.fieldLink RX0 11 "OnlyMovesHisLips$Choir" "kinds" "[I" ∈ TB := tb_1 (List.mem_of_getElem? (i := 148) rfl) rfl
theorem kf_X0_15 : Cond.fieldLink RX0 15 "OnlyMovesHisLips$Choir" "as" "[I" ∈ TB := tb_1 (List.mem_of_getElem? (i := 151) rfl) rfl
theorem kf_X0_18 : Cond.fieldLink RX0 18 "OnlyMovesHisLips$Choir" "odds" "[I" ∈ TB := tb_1 (List.mem_of_getElem? (i := 154) rfl) rfl
theorem kf_X0_21 : Cond.fieldLink RX0 21 "OnlyMovesHisLips$Choir" "places" "[I" ∈ TB := tb_1 (List.mem_of_getElem? (i := 157) rfl) rfl
theorem kf_X0_24 : Cond.fieldLink RX0 24 "OnlyMovesHisLips$Choir" "standing" "[I" ∈ TB := tb_1 (List.mem_of_getElem? (i := 159) rfl) rfl
theorem kf_X0_27 : Cond.fieldLink RX0 27 "OnlyMovesHisLips$Choir" "count" "I" ∈ TB := tb_1 (List.mem_of_getElem? (i := 160) rfl) rfl
theorem km_X2_20 : Cond.methodLink RX2 20 yX7_init ∈ TB := tb_1 (List.mem_of_getElem? (i := 179) rfl) rfl
theorem ki_X7_init : Cond.instanceMethod yX7_init ∈ TB := tb_1 (List.mem_of_getElem? (i := 180) rfl) rfl
theorem kc_X7_init : Cond.code yX7_init cX7_init 2 none ∈ TB := tb_1 (List.mem_of_getElem? (i := 181) rfl) rfl
theorem km_X7_5 : Cond.methodLink RX7 5 objectInit ∈ TB := tb_1 (List.mem_of_getElem? (i := 182) rfl) rfl
theorem kf_X7_13 : Cond.fieldLink RX7 13 "OnlyMovesHisLips$Worlds" "list" "[I" ∈ TB := tb_1 (List.mem_of_getElem? (i := 184) rfl) rfl
theorem kf_X7_17 : Cond.fieldLink RX7 17 "OnlyMovesHisLips$Worlds" "weights" "[I" ∈ TB := tb_1 (List.mem_of_getElem? (i := 187) rfl) rfl
theorem kf_X7_20 : Cond.fieldLink RX7 20 "OnlyMovesHisLips$Worlds" "count" "I" ∈ TB := tb_1 (List.mem_of_getElem? (i := 190) rfl) rfl
theorem kf_X7_24 : Cond.fieldLink RX7 24 "OnlyMovesHisLips$Worlds" "hasLow" "[J" ∈ TB := tb_1 (List.mem_of_getElem? (i := 194) rfl) rfl
theorem kf_X7_28 : Cond.fieldLink RX7 28 "OnlyMovesHisLips$Worlds" "hasHigh" "[J" ∈ TB := tb_1 (List.mem_of_getElem? (i := 195) rfl) rfl
theorem kf_X7_31 : Cond.fieldLink RX7 31 "OnlyMovesHisLips$Worlds" "wrongLow" "[J" ∈ TB := tb_1 (List.mem_of_getElem? (i := 196) rfl) rfl
theorem kf_X7_34 : Cond.fieldLink RX7 34 "OnlyMovesHisLips$Worlds" "wrongHigh" "[J" ∈ TB := tb_1 (List.mem_of_getElem? (i := 197) rfl) rfl
theorem ky_boolean : Cond.arrayClass .boolean ∈ TB := tb_1 (List.mem_of_getElem? (i := 218) rfl) rfl
theorem kf_X7_37 : Cond.fieldLink RX7 37 "OnlyMovesHisLips$Worlds" "figured" "[Z" ∈ TB := tb_1 (List.mem_of_getElem? (i := 198) rfl) rfl
theorem kf_X7_41 : Cond.fieldLink RX7 41 "OnlyMovesHisLips$Worlds" "choir" "LOnlyMovesHisLips$Choir;" ∈ TB := tb_1 (List.mem_of_getElem? (i := 183) rfl) rfl
theorem km_X8_68 : Cond.methodLink RX8 68 yX4_init ∈ TB := tb_2 (List.mem_of_getElem? (i := 23) rfl) rfl
theorem ki_X4_init : Cond.instanceMethod yX4_init ∈ TB := tb_2 (List.mem_of_getElem? (i := 24) rfl) rfl
theorem kc_X4_init : Cond.code yX4_init cX4_init 1 none ∈ TB := tb_2 (List.mem_of_getElem? (i := 25) rfl) rfl
theorem km_X4_3 : Cond.methodLink RX4 3 objectInit ∈ TB := tb_2 (List.mem_of_getElem? (i := 26) rfl) rfl
theorem kf_X4_9 : Cond.fieldLink RX4 9 "OnlyMovesHisLips$Shelf" "held" "I" ∈ TB := tb_2 (List.mem_of_getElem? (i := 27) rfl) rfl
theorem kf_X4_15 : Cond.fieldLink RX4 15 "OnlyMovesHisLips$Shelf" "length" "I" ∈ TB := tb_2 (List.mem_of_getElem? (i := 29) rfl) rfl
theorem kf_X4_18 : Cond.fieldLink RX4 18 "OnlyMovesHisLips$Shelf" "elements" "[J" ∈ TB := tb_2 (List.mem_of_getElem? (i := 32) rfl) rfl
theorem km_L_12 : Cond.methodLink RL 12 yX9_init ∈ TB := tb_5 (List.mem_of_getElem? (i := 65) rfl) rfl
theorem ki_X9_init : Cond.instanceMethod yX9_init ∈ TB := tb_5 (List.mem_of_getElem? (i := 66) rfl) rfl
theorem kc_X9_init : Cond.code yX9_init cX9_init 1 none ∈ TB := tb_5 (List.mem_of_getElem? (i := 67) rfl) rfl
theorem km_X9_1 : Cond.methodLink RX9 1 objectInit ∈ TB := tb_5 (List.mem_of_getElem? (i := 68) rfl) rfl
theorem kf_X9_7 : Cond.fieldLink RX9 7 "OnlyMovesHisLipsModel" "most" "I" ∈ TB := tb_5 (List.mem_of_getElem? (i := 70) rfl) rfl
theorem kf_X9_13 : Cond.fieldLink RX9 13 "OnlyMovesHisLipsModel" "least" "I" ∈ TB := tb_5 (List.mem_of_getElem? (i := 71) rfl) rfl
theorem kf_X9_16 : Cond.fieldLink RX9 16 "OnlyMovesHisLipsModel" "seed" "I" ∈ TB := tb_5 (List.mem_of_getElem? (i := 76) rfl) rfl
theorem kf_X9_19 : Cond.fieldLink RX9 19 "OnlyMovesHisLipsModel" "fault" "I" ∈ TB := tb_5 (List.mem_of_getElem? (i := 77) rfl) rfl
theorem kf_X9_22 : Cond.fieldLink RX9 22 "OnlyMovesHisLipsModel" "refused" "[I" ∈ TB := tb_5 (List.mem_of_getElem? (i := 78) rfl) rfl
theorem kf_X9_26 : Cond.fieldLink RX9 26 "OnlyMovesHisLipsModel" "kind" "[I" ∈ TB := tb_5 (List.mem_of_getElem? (i := 79) rfl) rfl
theorem kf_X9_29 : Cond.fieldLink RX9 29 "OnlyMovesHisLipsModel" "part" "[I" ∈ TB := tb_5 (List.mem_of_getElem? (i := 80) rfl) rfl
theorem kf_X9_32 : Cond.fieldLink RX9 32 "OnlyMovesHisLipsModel" "odds" "[I" ∈ TB := tb_5 (List.mem_of_getElem? (i := 81) rfl) rfl
theorem kf_X9_35 : Cond.fieldLink RX9 35 "OnlyMovesHisLipsModel" "place" "[I" ∈ TB := tb_5 (List.mem_of_getElem? (i := 82) rfl) rfl
theorem kf_X9_38 : Cond.fieldLink RX9 38 "OnlyMovesHisLipsModel" "sets" "[I" ∈ TB := tb_5 (List.mem_of_getElem? (i := 83) rfl) rfl
theorem kf_X9_41 : Cond.fieldLink RX9 41 "OnlyMovesHisLipsModel" "sounds" "[I" ∈ TB := tb_5 (List.mem_of_getElem? (i := 84) rfl) rfl
theorem kf_X9_44 : Cond.fieldLink RX9 44 "OnlyMovesHisLipsModel" "held" "[I" ∈ TB := tb_5 (List.mem_of_getElem? (i := 85) rfl) rfl
theorem kf_X9_47 : Cond.fieldLink RX9 47 "OnlyMovesHisLipsModel" "sort" "[I" ∈ TB := tb_5 (List.mem_of_getElem? (i := 86) rfl) rfl
theorem kf_X9_50 : Cond.fieldLink RX9 50 "OnlyMovesHisLipsModel" "size" "[I" ∈ TB := tb_5 (List.mem_of_getElem? (i := 87) rfl) rfl
theorem kf_X9_53 : Cond.fieldLink RX9 53 "OnlyMovesHisLipsModel" "shown" "[I" ∈ TB := tb_5 (List.mem_of_getElem? (i := 88) rfl) rfl
theorem kf_X9_56 : Cond.fieldLink RX9 56 "OnlyMovesHisLipsModel" "cells" "[J" ∈ TB := tb_5 (List.mem_of_getElem? (i := 89) rfl) rfl
theorem kf_X9_60 : Cond.fieldLink RX9 60 "OnlyMovesHisLipsModel" "carried" "[J" ∈ TB := tb_5 (List.mem_of_getElem? (i := 90) rfl) rfl
theorem kf_X9_63 : Cond.fieldLink RX9 63 "OnlyMovesHisLipsModel" "words" "[I" ∈ TB := tb_5 (List.mem_of_getElem? (i := 91) rfl) rfl
theorem kf_X9_66 : Cond.fieldLink RX9 66 "OnlyMovesHisLipsModel" "numbers" "[I" ∈ TB := tb_5 (List.mem_of_getElem? (i := 92) rfl) rfl
theorem kf_X9_69 : Cond.fieldLink RX9 69 "OnlyMovesHisLipsModel" "tell" "[I" ∈ TB := tb_5 (List.mem_of_getElem? (i := 93) rfl) rfl
theorem kf_X9_72 : Cond.fieldLink RX9 72 "OnlyMovesHisLipsModel" "was" "[I" ∈ TB := tb_5 (List.mem_of_getElem? (i := 99) rfl) rfl
theorem kf_X9_75 : Cond.fieldLink RX9 75 "OnlyMovesHisLipsModel" "kept" "[I" ∈ TB := tb_5 (List.mem_of_getElem? (i := 100) rfl) rfl
theorem kf_X9_78 : Cond.fieldLink RX9 78 "OnlyMovesHisLipsModel" "worlds" "[I" ∈ TB := tb_5 (List.mem_of_getElem? (i := 101) rfl) rfl
theorem kf_X9_81 : Cond.fieldLink RX9 81 "OnlyMovesHisLipsModel" "list" "[I" ∈ TB := tb_5 (List.mem_of_getElem? (i := 102) rfl) rfl
theorem kf_X9_84 : Cond.fieldLink RX9 84 "OnlyMovesHisLipsModel" "table" "[I" ∈ TB := tb_5 (List.mem_of_getElem? (i := 104) rfl) rfl
theorem kf_X9_87 : Cond.fieldLink RX9 87 "OnlyMovesHisLipsModel" "which" "[I" ∈ TB := tb_5 (List.mem_of_getElem? (i := 105) rfl) rfl
theorem kf_X9_90 : Cond.fieldLink RX9 90 "OnlyMovesHisLipsModel" "rows" "[I" ∈ TB := tb_5 (List.mem_of_getElem? (i := 109) rfl) rfl
theorem kf_X9_93 : Cond.fieldLink RX9 93 "OnlyMovesHisLipsModel" "trace" "[I" ∈ TB := tb_5 (List.mem_of_getElem? (i := 111) rfl) rfl
theorem km_L_13 : Cond.methodLink RL 13 yX8_row ∈ TB := tb_2 (List.mem_of_getElem? (i := 75) rfl) rfl
theorem ki_X8_row : Cond.instanceMethod yX8_row ∈ TB := tb_2 (List.mem_of_getElem? (i := 76) rfl) rfl
theorem ks_X8_row : Cond.selects RX8 yX8_row yX8_row ∈ TB := tb_2 (List.mem_of_getElem? (i := 77) rfl) rfl
theorem kc_X8_row : Cond.code yX8_row cX8_row 4 (some .int) ∈ TB := tb_2 (List.mem_of_getElem? (i := 78) rfl) rfl
theorem km_X8_69 : Cond.methodLink RX8 69 yX8_isShelf ∈ TB := tb_2 (List.mem_of_getElem? (i := 79) rfl) rfl
theorem kt_X8_isShelf : Cond.static yX8_isShelf ∈ TB := tb_2 (List.mem_of_getElem? (i := 80) rfl) rfl
theorem kc_X8_isShelf : Cond.code yX8_isShelf cX8_isShelf 1 (some .boolean) ∈ TB := tb_2 (List.mem_of_getElem? (i := 81) rfl) rfl
theorem km_X8_73 : Cond.methodLink RX8 73 yX8_refuse ∈ TB := tb_2 (List.mem_of_getElem? (i := 82) rfl) rfl
theorem ki_X8_refuse : Cond.instanceMethod yX8_refuse ∈ TB := tb_2 (List.mem_of_getElem? (i := 84) rfl) rfl
theorem ks_X8_refuse : Cond.selects RX8 yX8_refuse yX8_refuse ∈ TB := tb_p1 (q := (yX8_refuse, 11)) (List.mem_of_getElem? (i := 0) rfl)
theorem kc_X8_refuse : Cond.code yX8_refuse cX8_refuse 2 (some .int) ∈ TB := tb_2 (List.mem_of_getElem? (i := 85) rfl) rfl
theorem km_X8_77 : Cond.methodLink RX8 77 yX4_begin ∈ TB := tb_2 (List.mem_of_getElem? (i := 86) rfl) rfl
theorem ki_X4_begin : Cond.instanceMethod yX4_begin ∈ TB := tb_2 (List.mem_of_getElem? (i := 87) rfl) rfl
theorem ks_X4_begin : Cond.selects RX4 yX4_begin yX4_begin ∈ TB := tb_2 (List.mem_of_getElem? (i := 88) rfl) rfl
theorem kc_X4_begin : Cond.code yX4_begin cX4_begin 4 none ∈ TB := tb_2 (List.mem_of_getElem? (i := 89) rfl) rfl
theorem km_X4_22 : Cond.methodLink RX4 22 Lib.Math.min.name ∈ TB := tb_2 (List.mem_of_getElem? (i := 90) rfl) rfl
theorem kt_Lib_Math_min_name : Cond.static Lib.Math.min.name ∈ TB := tb_2 (List.mem_of_getElem? (i := 91) rfl) rfl
theorem kn_J9 : Cond.initialized "java/lang/Math" ∈ TB := tb_1 (List.mem_of_getElem? (i := 11) rfl) rfl
theorem kc_Lib_Math_min_name : Cond.code Lib.Math.min.name Lib.Math.min.code 2 (some .int) ∈ TB := tb_2 (List.mem_of_getElem? (i := 92) rfl) rfl
theorem km_X4_28 : Cond.methodLink RX4 28 Lib.Math.max.name ∈ TB := tb_2 (List.mem_of_getElem? (i := 93) rfl) rfl
theorem kt_Lib_Math_max_name : Cond.static Lib.Math.max.name ∈ TB := tb_2 (List.mem_of_getElem? (i := 94) rfl) rfl
theorem kc_Lib_Math_max_name : Cond.code Lib.Math.max.name Lib.Math.max.code 2 (some .int) ∈ TB := tb_2 (List.mem_of_getElem? (i := 95) rfl) rfl
theorem km_L_17 : Cond.methodLink RL 17 yX9_row ∈ TB := tb_5 (List.mem_of_getElem? (i := 205) rfl) rfl
theorem ki_X9_row : Cond.instanceMethod yX9_row ∈ TB := tb_5 (List.mem_of_getElem? (i := 206) rfl) rfl
theorem ks_X9_row : Cond.selects RX9 yX9_row yX9_row ∈ TB := tb_5 (List.mem_of_getElem? (i := 207) rfl) rfl
theorem kc_X9_row : Cond.code yX9_row cX9_row 5 (some .int) ∈ TB := tb_5 (List.mem_of_getElem? (i := 208) rfl) rfl
theorem km_X9_103 : Cond.methodLink RX9 103 yX9_isShelf ∈ TB := tb_5 (List.mem_of_getElem? (i := 209) rfl) rfl
theorem ki_X9_isShelf : Cond.instanceMethod yX9_isShelf ∈ TB := tb_5 (List.mem_of_getElem? (i := 211) rfl) rfl
theorem ks_X9_isShelf : Cond.selects RX9 yX9_isShelf yX9_isShelf ∈ TB := tb_p2 (q := (yX9_isShelf, 45)) (List.mem_of_getElem? (i := 3) rfl)
theorem kc_X9_isShelf : Cond.code yX9_isShelf cX9_isShelf 2 (some .boolean) ∈ TB := tb_5 (List.mem_of_getElem? (i := 212) rfl) rfl
theorem km_X9_107 : Cond.methodLink RX9 107 yX9_no ∈ TB := tb_5 (List.mem_of_getElem? (i := 213) rfl) rfl
theorem ki_X9_no : Cond.instanceMethod yX9_no ∈ TB := tb_5 (List.mem_of_getElem? (i := 215) rfl) rfl
theorem ks_X9_no : Cond.selects RX9 yX9_no yX9_no ∈ TB := tb_p2 (q := (yX9_no, 45)) (List.mem_of_getElem? (i := 4) rfl)
theorem kc_X9_no : Cond.code yX9_no cX9_no 2 (some .int) ∈ TB := tb_5 (List.mem_of_getElem? (i := 216) rfl) rfl
theorem km_L_20 : Cond.methodLink RL 20 yX8_set ∈ TB := tb_2 (List.mem_of_getElem? (i := 96) rfl) rfl
theorem ki_X8_set : Cond.instanceMethod yX8_set ∈ TB := tb_2 (List.mem_of_getElem? (i := 97) rfl) rfl
theorem ks_X8_set : Cond.selects RX8 yX8_set yX8_set ∈ TB := tb_2 (List.mem_of_getElem? (i := 98) rfl) rfl
theorem kc_X8_set : Cond.code yX8_set cX8_set 6 (some .int) ∈ TB := tb_2 (List.mem_of_getElem? (i := 99) rfl) rfl
theorem km_X8_81 : Cond.methodLink RX8 81 yX8_lackOfRow ∈ TB := tb_2 (List.mem_of_getElem? (i := 100) rfl) rfl
theorem ki_X8_lackOfRow : Cond.instanceMethod yX8_lackOfRow ∈ TB := tb_2 (List.mem_of_getElem? (i := 102) rfl) rfl
theorem ks_X8_lackOfRow : Cond.selects RX8 yX8_lackOfRow yX8_lackOfRow ∈ TB := tb_p1 (q := (yX8_lackOfRow, 11)) (List.mem_of_getElem? (i := 1) rfl)
theorem kc_X8_lackOfRow : Cond.code yX8_lackOfRow cX8_lackOfRow 2 (some .int) ∈ TB := tb_2 (List.mem_of_getElem? (i := 103) rfl) rfl
theorem kf_X8_118 : Cond.fieldLink RX8 118 "OnlyMovesHisLips$Shelf" "held" "I" ∈ TB := tb_2 (List.mem_of_getElem? (i := 28) rfl) rfl
theorem km_X8_124 : Cond.methodLink RX8 124 yX4_holdsRow ∈ TB := tb_2 (List.mem_of_getElem? (i := 104) rfl) rfl
theorem ki_X4_holdsRow : Cond.instanceMethod yX4_holdsRow ∈ TB := tb_2 (List.mem_of_getElem? (i := 105) rfl) rfl
theorem ks_X4_holdsRow : Cond.selects RX4 yX4_holdsRow yX4_holdsRow ∈ TB := tb_2 (List.mem_of_getElem? (i := 106) rfl) rfl
theorem kc_X4_holdsRow : Cond.code yX4_holdsRow cX4_holdsRow 1 (some .boolean) ∈ TB := tb_2 (List.mem_of_getElem? (i := 107) rfl) rfl
theorem km_X8_84 : Cond.methodLink RX8 84 yX4_hasElement ∈ TB := tb_2 (List.mem_of_getElem? (i := 108) rfl) rfl
theorem ki_X4_hasElement : Cond.instanceMethod yX4_hasElement ∈ TB := tb_2 (List.mem_of_getElem? (i := 109) rfl) rfl
theorem ks_X4_hasElement : Cond.selects RX4 yX4_hasElement yX4_hasElement ∈ TB := tb_2 (List.mem_of_getElem? (i := 110) rfl) rfl
theorem kc_X4_hasElement : Cond.code yX4_hasElement cX4_hasElement 2 (some .boolean) ∈ TB := tb_2 (List.mem_of_getElem? (i := 111) rfl) rfl
theorem km_X8_87 : Cond.methodLink RX8 87 yX4_put ∈ TB := tb_2 (List.mem_of_getElem? (i := 112) rfl) rfl
theorem ki_X4_put : Cond.instanceMethod yX4_put ∈ TB := tb_2 (List.mem_of_getElem? (i := 113) rfl) rfl
theorem ks_X4_put : Cond.selects RX4 yX4_put yX4_put ∈ TB := tb_2 (List.mem_of_getElem? (i := 114) rfl) rfl
theorem kc_X4_put : Cond.code yX4_put cX4_put 4 none ∈ TB := tb_2 (List.mem_of_getElem? (i := 115) rfl) rfl
theorem km_X4_31 : Cond.methodLink RX4 31 yX4_hasElement ∈ TB := tb_2 (List.mem_of_getElem? (i := 116) rfl) rfl
theorem km_L_24 : Cond.methodLink RL 24 yX9_set ∈ TB := tb_5 (List.mem_of_getElem? (i := 217) rfl) rfl
theorem ki_X9_set : Cond.instanceMethod yX9_set ∈ TB := tb_5 (List.mem_of_getElem? (i := 218) rfl) rfl
theorem ks_X9_set : Cond.selects RX9 yX9_set yX9_set ∈ TB := tb_5 (List.mem_of_getElem? (i := 219) rfl) rfl
theorem kc_X9_set : Cond.code yX9_set cX9_set 5 (some .int) ∈ TB := tb_5 (List.mem_of_getElem? (i := 220) rfl) rfl
theorem km_L_25 : Cond.methodLink RL 25 yX8_copy ∈ TB := tb_2 (List.mem_of_getElem? (i := 117) rfl) rfl
theorem ki_X8_copy : Cond.instanceMethod yX8_copy ∈ TB := tb_2 (List.mem_of_getElem? (i := 118) rfl) rfl
theorem ks_X8_copy : Cond.selects RX8 yX8_copy yX8_copy ∈ TB := tb_2 (List.mem_of_getElem? (i := 119) rfl) rfl
theorem kc_X8_copy : Cond.code yX8_copy cX8_copy 7 (some .int) ∈ TB := tb_2 (List.mem_of_getElem? (i := 120) rfl) rfl
theorem kf_X8_99 : Cond.fieldLink RX8 99 "OnlyMovesHisLips$Shelf" "elements" "[J" ∈ TB := tb_2 (List.mem_of_getElem? (i := 33) rfl) rfl
theorem km_X8_103 : Cond.methodLink RX8 103 arraycopyName ∈ TB := tb_2 (List.mem_of_getElem? (i := 129) rfl) rfl
theorem kv_arraycopyName : Cond.native arraycopyName ∈ TB := tb_2 (List.mem_of_getElem? (i := 131) rfl) rfl
theorem kt_arraycopyName : Cond.static arraycopyName ∈ TB := tb_2 (List.mem_of_getElem? (i := 130) rfl) rfl
theorem kn_J10 : Cond.initialized "java/lang/System" ∈ TB := tb_1 (List.mem_of_getElem? (i := 12) rfl) rfl
theorem km_X8_91 : Cond.methodLink RX8 91 yX8_lackForCopy ∈ TB := tb_2 (List.mem_of_getElem? (i := 121) rfl) rfl
theorem ki_X8_lackForCopy : Cond.instanceMethod yX8_lackForCopy ∈ TB := tb_2 (List.mem_of_getElem? (i := 123) rfl) rfl
theorem ks_X8_lackForCopy : Cond.selects RX8 yX8_lackForCopy yX8_lackForCopy ∈ TB := tb_p1 (q := (yX8_lackForCopy, 11)) (List.mem_of_getElem? (i := 2) rfl)
theorem kc_X8_lackForCopy : Cond.code yX8_lackForCopy cX8_lackForCopy 5 (some .int) ∈ TB := tb_2 (List.mem_of_getElem? (i := 124) rfl) rfl
theorem km_X8_95 : Cond.methodLink RX8 95 yX4_hasElements ∈ TB := tb_2 (List.mem_of_getElem? (i := 125) rfl) rfl
theorem ki_X4_hasElements : Cond.instanceMethod yX4_hasElements ∈ TB := tb_2 (List.mem_of_getElem? (i := 126) rfl) rfl
theorem ks_X4_hasElements : Cond.selects RX4 yX4_hasElements yX4_hasElements ∈ TB := tb_2 (List.mem_of_getElem? (i := 127) rfl) rfl
theorem kc_X4_hasElements : Cond.code yX4_hasElements cX4_hasElements 3 (some .boolean) ∈ TB := tb_2 (List.mem_of_getElem? (i := 128) rfl) rfl
theorem km_L_29 : Cond.methodLink RL 29 yX9_copy ∈ TB := tb_5 (List.mem_of_getElem? (i := 221) rfl) rfl
theorem ki_X9_copy : Cond.instanceMethod yX9_copy ∈ TB := tb_5 (List.mem_of_getElem? (i := 222) rfl) rfl
theorem ks_X9_copy : Cond.selects RX9 yX9_copy yX9_copy ∈ TB := tb_5 (List.mem_of_getElem? (i := 223) rfl) rfl
theorem kc_X9_copy : Cond.code yX9_copy cX9_copy 7 (some .int) ∈ TB := tb_5 (List.mem_of_getElem? (i := 224) rfl) rfl
theorem km_L_30 : Cond.methodLink RL 30 yX8_element ∈ TB := tb_2 (List.mem_of_getElem? (i := 132) rfl) rfl
theorem ki_X8_element : Cond.instanceMethod yX8_element ∈ TB := tb_2 (List.mem_of_getElem? (i := 133) rfl) rfl
theorem ks_X8_element : Cond.selects RX8 yX8_element yX8_element ∈ TB := tb_2 (List.mem_of_getElem? (i := 134) rfl) rfl
theorem kc_X8_element : Cond.code yX8_element cX8_element 3 (some .long) ∈ TB := tb_2 (List.mem_of_getElem? (i := 135) rfl) rfl
theorem km_L_34 : Cond.methodLink RL 34 yX9_element ∈ TB := tb_5 (List.mem_of_getElem? (i := 225) rfl) rfl
theorem ki_X9_element : Cond.instanceMethod yX9_element ∈ TB := tb_5 (List.mem_of_getElem? (i := 226) rfl) rfl
theorem ks_X9_element : Cond.selects RX9 yX9_element yX9_element ∈ TB := tb_5 (List.mem_of_getElem? (i := 227) rfl) rfl
theorem kc_X9_element : Cond.code yX9_element cX9_element 3 (some .long) ∈ TB := tb_5 (List.mem_of_getElem? (i := 228) rfl) rfl
theorem km_L_35 : Cond.methodLink RL 35 yX8_show ∈ TB := tb_2 (List.mem_of_getElem? (i := 136) rfl) rfl
theorem ki_X8_show : Cond.instanceMethod yX8_show ∈ TB := tb_2 (List.mem_of_getElem? (i := 137) rfl) rfl
theorem ks_X8_show : Cond.selects RX8 yX8_show yX8_show ∈ TB := tb_2 (List.mem_of_getElem? (i := 138) rfl) rfl
theorem kc_X8_show : Cond.code yX8_show cX8_show 3 (some .int) ∈ TB := tb_2 (List.mem_of_getElem? (i := 139) rfl) rfl
theorem kf_X8_109 : Cond.fieldLink RX8 109 "OnlyMovesHisLips$Hall" "choir" "LOnlyMovesHisLips$Choir;" ∈ TB := tb_1 (List.mem_of_getElem? (i := 221) rfl) rfl
theorem km_X8_113 : Cond.methodLink RX8 113 yX0_has ∈ TB := tb_2 (List.mem_of_getElem? (i := 140) rfl) rfl
theorem ki_X0_has : Cond.instanceMethod yX0_has ∈ TB := tb_2 (List.mem_of_getElem? (i := 141) rfl) rfl
theorem ks_X0_has : Cond.selects RX0 yX0_has yX0_has ∈ TB := tb_2 (List.mem_of_getElem? (i := 142) rfl) rfl
theorem kc_X0_has : Cond.code yX0_has cX0_has 2 (some .boolean) ∈ TB := tb_2 (List.mem_of_getElem? (i := 143) rfl) rfl
theorem km_L_39 : Cond.methodLink RL 39 yX9_show ∈ TB := tb_5 (List.mem_of_getElem? (i := 229) rfl) rfl
theorem ki_X9_show : Cond.instanceMethod yX9_show ∈ TB := tb_5 (List.mem_of_getElem? (i := 230) rfl) rfl
theorem ks_X9_show : Cond.selects RX9 yX9_show yX9_show ∈ TB := tb_5 (List.mem_of_getElem? (i := 231) rfl) rfl
theorem kc_X9_show : Cond.code yX9_show cX9_show 3 (some .int) ∈ TB := tb_5 (List.mem_of_getElem? (i := 232) rfl) rfl
theorem km_X9_111 : Cond.methodLink RX9 111 yX9_isSinger ∈ TB := tb_5 (List.mem_of_getElem? (i := 233) rfl) rfl
theorem ki_X9_isSinger : Cond.instanceMethod yX9_isSinger ∈ TB := tb_5 (List.mem_of_getElem? (i := 235) rfl) rfl
theorem ks_X9_isSinger : Cond.selects RX9 yX9_isSinger yX9_isSinger ∈ TB := tb_p2 (q := (yX9_isSinger, 45)) (List.mem_of_getElem? (i := 5) rfl)
theorem kc_X9_isSinger : Cond.code yX9_isSinger cX9_isSinger 2 (some .boolean) ∈ TB := tb_5 (List.mem_of_getElem? (i := 236) rfl) rfl
theorem kf_X9_96 : Cond.fieldLink RX9 96 "OnlyMovesHisLipsModel" "many" "I" ∈ TB := tb_5 (List.mem_of_getElem? (i := 69) rfl) rfl
theorem km_L_40 : Cond.methodLink RL 40 yX8_holds ∈ TB := tb_2 (List.mem_of_getElem? (i := 144) rfl) rfl
theorem ki_X8_holds : Cond.instanceMethod yX8_holds ∈ TB := tb_2 (List.mem_of_getElem? (i := 145) rfl) rfl
theorem ks_X8_holds : Cond.selects RX8 yX8_holds yX8_holds ∈ TB := tb_2 (List.mem_of_getElem? (i := 146) rfl) rfl
theorem kc_X8_holds : Cond.code yX8_holds cX8_holds 2 (some .int) ∈ TB := tb_2 (List.mem_of_getElem? (i := 147) rfl) rfl
theorem km_L_44 : Cond.methodLink RL 44 yX9_holds ∈ TB := tb_5 (List.mem_of_getElem? (i := 237) rfl) rfl
theorem ki_X9_holds : Cond.instanceMethod yX9_holds ∈ TB := tb_5 (List.mem_of_getElem? (i := 238) rfl) rfl
theorem ks_X9_holds : Cond.selects RX9 yX9_holds yX9_holds ∈ TB := tb_5 (List.mem_of_getElem? (i := 239) rfl) rfl
theorem kc_X9_holds : Cond.code yX9_holds cX9_holds 2 (some .int) ∈ TB := tb_6 (List.mem_of_getElem? (i := 0) rfl) rfl
theorem km_L_45 : Cond.methodLink RL 45 yX8_says ∈ TB := tb_2 (List.mem_of_getElem? (i := 148) rfl) rfl
theorem ki_X8_says : Cond.instanceMethod yX8_says ∈ TB := tb_2 (List.mem_of_getElem? (i := 149) rfl) rfl
theorem ks_X8_says : Cond.selects RX8 yX8_says yX8_says ∈ TB := tb_2 (List.mem_of_getElem? (i := 150) rfl) rfl
theorem kc_X8_says : Cond.code yX8_says cX8_says 4 (some .int) ∈ TB := tb_2 (List.mem_of_getElem? (i := 151) rfl) rfl
theorem kf_X8_128 : Cond.fieldLink RX8 128 "OnlyMovesHisLips$Choir" "kinds" "[I" ∈ TB := tb_1 (List.mem_of_getElem? (i := 150) rfl) rfl
theorem km_X8_121 : Cond.methodLink RX8 121 yX0_isKind ∈ TB := tb_2 (List.mem_of_getElem? (i := 152) rfl) rfl
theorem kt_X0_isKind : Cond.static yX0_isKind ∈ TB := tb_2 (List.mem_of_getElem? (i := 153) rfl) rfl
theorem kc_X0_isKind : Cond.code yX0_isKind cX0_isKind 1 (some .boolean) ∈ TB := tb_2 (List.mem_of_getElem? (i := 154) rfl) rfl
theorem km_X8_131 : Cond.methodLink RX8 131 yX0_isUnder ∈ TB := tb_2 (List.mem_of_getElem? (i := 155) rfl) rfl
theorem kt_X0_isUnder : Cond.static yX0_isUnder ∈ TB := tb_2 (List.mem_of_getElem? (i := 156) rfl) rfl
theorem kc_X0_isUnder : Cond.code yX0_isUnder cX0_isUnder 4 (some .boolean) ∈ TB := tb_2 (List.mem_of_getElem? (i := 157) rfl) rfl
theorem kf_X0_31 : Cond.fieldLink RX0 31 "OnlyMovesHisLips$Choir" "ABOVE" "[I" ∈ TB := tb_2 (List.mem_of_getElem? (i := 158) rfl) rfl
theorem km_X0_34 : Cond.methodLink RX0 34 yX0_isKind ∈ TB := tb_2 (List.mem_of_getElem? (i := 160) rfl) rfl
theorem km_X8_134 : Cond.methodLink RX8 134 yX0_tellsOf ∈ TB := tb_2 (List.mem_of_getElem? (i := 161) rfl) rfl
theorem ki_X0_tellsOf : Cond.instanceMethod yX0_tellsOf ∈ TB := tb_2 (List.mem_of_getElem? (i := 162) rfl) rfl
theorem ks_X0_tellsOf : Cond.selects RX0 yX0_tellsOf yX0_tellsOf ∈ TB := tb_2 (List.mem_of_getElem? (i := 163) rfl) rfl
theorem kc_X0_tellsOf : Cond.code yX0_tellsOf cX0_tellsOf 4 (some .int) ∈ TB := tb_2 (List.mem_of_getElem? (i := 164) rfl) rfl
theorem km_X0_52 : Cond.methodLink RX0 52 yX0_has ∈ TB := tb_2 (List.mem_of_getElem? (i := 165) rfl) rfl
theorem km_X0_61 : Cond.methodLink RX0 61 yJ6_numberOfTrailingZeros_0f7a4 ∈ TB := tb_2 (List.mem_of_getElem? (i := 166) rfl) rfl
theorem kt_J6_numberOfTrailingZeros_0f7a4 : Cond.static yJ6_numberOfTrailingZeros_0f7a4 ∈ TB := tb_2 (List.mem_of_getElem? (i := 167) rfl) rfl
theorem kn_J6 : Cond.initialized RJ6 ∈ TB := tb_1 (List.mem_of_getElem? (i := 13) rfl) rfl
theorem kc_J6_numberOfTrailingZeros_0f7a4 : Cond.code yJ6_numberOfTrailingZeros_0f7a4 cJ6_numberOfTrailingZeros_0f7a4 2 (some .int) ∈ TB := tb_2 (List.mem_of_getElem? (i := 168) rfl) rfl
theorem kk_J6_264 : Cond.constant RJ6 264 (65536) ∈ TB := tb_2 (List.mem_of_getElem? (i := 169) rfl) rfl
theorem km_L_48 : Cond.methodLink RL 48 yX9_says ∈ TB := tb_6 (List.mem_of_getElem? (i := 1) rfl) rfl
theorem ki_X9_says : Cond.instanceMethod yX9_says ∈ TB := tb_6 (List.mem_of_getElem? (i := 2) rfl) rfl
theorem ks_X9_says : Cond.selects RX9 yX9_says yX9_says ∈ TB := tb_6 (List.mem_of_getElem? (i := 3) rfl) rfl
theorem kc_X9_says : Cond.code yX9_says cX9_says 6 (some .int) ∈ TB := tb_6 (List.mem_of_getElem? (i := 4) rfl) rfl
theorem km_X9_114 : Cond.methodLink RX9 114 yX9_who ∈ TB := tb_6 (List.mem_of_getElem? (i := 5) rfl) rfl
theorem ki_X9_who : Cond.instanceMethod yX9_who ∈ TB := tb_6 (List.mem_of_getElem? (i := 7) rfl) rfl
theorem ks_X9_who : Cond.selects RX9 yX9_who yX9_who ∈ TB := tb_p2 (q := (yX9_who, 45)) (List.mem_of_getElem? (i := 6) rfl)
theorem kc_X9_who : Cond.code yX9_who cX9_who 3 (some .int) ∈ TB := tb_6 (List.mem_of_getElem? (i := 8) rfl) rfl
theorem km_L_49 : Cond.methodLink RL 49 yX8_singer ∈ TB := tb_2 (List.mem_of_getElem? (i := 170) rfl) rfl
theorem ki_X8_singer : Cond.instanceMethod yX8_singer ∈ TB := tb_2 (List.mem_of_getElem? (i := 171) rfl) rfl
theorem ks_X8_singer : Cond.selects RX8 yX8_singer yX8_singer ∈ TB := tb_2 (List.mem_of_getElem? (i := 172) rfl) rfl
theorem kc_X8_singer : Cond.code yX8_singer cX8_singer 4 (some .int) ∈ TB := tb_2 (List.mem_of_getElem? (i := 173) rfl) rfl
theorem kf_X8_150 : Cond.fieldLink RX8 150 "OnlyMovesHisLips$Choir" "count" "I" ∈ TB := tb_1 (List.mem_of_getElem? (i := 162) rfl) rfl
theorem km_X8_137 : Cond.methodLink RX8 137 yX0_isA ∈ TB := tb_2 (List.mem_of_getElem? (i := 174) rfl) rfl
theorem kt_X0_isA : Cond.static yX0_isA ∈ TB := tb_2 (List.mem_of_getElem? (i := 175) rfl) rfl
theorem kc_X0_isA : Cond.code yX0_isA cX0_isA 1 (some .boolean) ∈ TB := tb_2 (List.mem_of_getElem? (i := 176) rfl) rfl
theorem km_X8_140 : Cond.methodLink RX8 140 yX0_isOdds ∈ TB := tb_2 (List.mem_of_getElem? (i := 177) rfl) rfl
theorem kt_X0_isOdds : Cond.static yX0_isOdds ∈ TB := tb_2 (List.mem_of_getElem? (i := 178) rfl) rfl
theorem kc_X0_isOdds : Cond.code yX0_isOdds cX0_isOdds 1 (some .boolean) ∈ TB := tb_2 (List.mem_of_getElem? (i := 179) rfl) rfl
theorem km_X8_143 : Cond.methodLink RX8 143 yX0_hasRoom ∈ TB := tb_2 (List.mem_of_getElem? (i := 180) rfl) rfl
theorem ki_X0_hasRoom : Cond.instanceMethod yX0_hasRoom ∈ TB := tb_2 (List.mem_of_getElem? (i := 181) rfl) rfl
theorem ks_X0_hasRoom : Cond.selects RX0 yX0_hasRoom yX0_hasRoom ∈ TB := tb_2 (List.mem_of_getElem? (i := 182) rfl) rfl
theorem kc_X0_hasRoom : Cond.code yX0_hasRoom cX0_hasRoom 1 (some .boolean) ∈ TB := tb_2 (List.mem_of_getElem? (i := 183) rfl) rfl
theorem km_X8_146 : Cond.methodLink RX8 146 yX2_join ∈ TB := tb_2 (List.mem_of_getElem? (i := 184) rfl) rfl
theorem ki_X2_join : Cond.instanceMethod yX2_join ∈ TB := tb_2 (List.mem_of_getElem? (i := 185) rfl) rfl
theorem ks_X2_join : Cond.selects RX2 yX2_join yX2_join ∈ TB := tb_2 (List.mem_of_getElem? (i := 186) rfl) rfl
theorem kc_X2_join : Cond.code yX2_join cX2_join 4 none ∈ TB := tb_2 (List.mem_of_getElem? (i := 187) rfl) rfl
theorem km_X2_83 : Cond.methodLink RX2 83 yX0_add ∈ TB := tb_2 (List.mem_of_getElem? (i := 188) rfl) rfl
theorem ki_X0_add : Cond.instanceMethod yX0_add ∈ TB := tb_2 (List.mem_of_getElem? (i := 189) rfl) rfl
theorem ks_X0_add : Cond.selects RX0 yX0_add yX0_add ∈ TB := tb_2 (List.mem_of_getElem? (i := 190) rfl) rfl
theorem kc_X0_add : Cond.code yX0_add cX0_add 4 none ∈ TB := tb_2 (List.mem_of_getElem? (i := 191) rfl) rfl
theorem km_X0_48 : Cond.methodLink RX0 48 yX0_hasRoom ∈ TB := tb_2 (List.mem_of_getElem? (i := 192) rfl) rfl
theorem km_X2_61 : Cond.methodLink RX2 61 yX2_beginAnew ∈ TB := tb_2 (List.mem_of_getElem? (i := 193) rfl) rfl
theorem ki_X2_beginAnew : Cond.instanceMethod yX2_beginAnew ∈ TB := tb_2 (List.mem_of_getElem? (i := 195) rfl) rfl
theorem ks_X2_beginAnew : Cond.selects RX2 yX2_beginAnew yX2_beginAnew ∈ TB := tb_p1 (q := (yX2_beginAnew, 9)) (List.mem_of_getElem? (i := 3) rfl)
theorem kc_X2_beginAnew : Cond.code yX2_beginAnew cX2_beginAnew 1 none ∈ TB := tb_2 (List.mem_of_getElem? (i := 196) rfl) rfl
theorem km_X2_76 : Cond.methodLink RX2 76 yX7_build ∈ TB := tb_2 (List.mem_of_getElem? (i := 197) rfl) rfl
theorem ki_X7_build : Cond.instanceMethod yX7_build ∈ TB := tb_2 (List.mem_of_getElem? (i := 198) rfl) rfl
theorem ks_X7_build : Cond.selects RX7 yX7_build yX7_build ∈ TB := tb_2 (List.mem_of_getElem? (i := 199) rfl) rfl
theorem kc_X7_build : Cond.code yX7_build cX7_build 5 none ∈ TB := tb_2 (List.mem_of_getElem? (i := 200) rfl) rfl
theorem km_X7_51 : Cond.methodLink RX7 51 yX0_all ∈ TB := tb_2 (List.mem_of_getElem? (i := 201) rfl) rfl
theorem ki_X0_all : Cond.instanceMethod yX0_all ∈ TB := tb_2 (List.mem_of_getElem? (i := 202) rfl) rfl
theorem ks_X0_all : Cond.selects RX0 yX0_all yX0_all ∈ TB := tb_2 (List.mem_of_getElem? (i := 203) rfl) rfl
theorem kc_X0_all : Cond.code yX0_all cX0_all 1 (some .int) ∈ TB := tb_2 (List.mem_of_getElem? (i := 204) rfl) rfl
theorem km_X7_55 : Cond.methodLink RX7 55 yJ6_bitCount_0f7a4 ∈ TB := tb_2 (List.mem_of_getElem? (i := 205) rfl) rfl
theorem kt_J6_bitCount_0f7a4 : Cond.static yJ6_bitCount_0f7a4 ∈ TB := tb_2 (List.mem_of_getElem? (i := 206) rfl) rfl
theorem kc_J6_bitCount_0f7a4 : Cond.code yJ6_bitCount_0f7a4 cJ6_bitCount_0f7a4 1 (some .int) ∈ TB := tb_2 (List.mem_of_getElem? (i := 207) rfl) rfl
theorem kk_J6_265 : Cond.constant RJ6 265 (1431655765) ∈ TB := tb_2 (List.mem_of_getElem? (i := 208) rfl) rfl
theorem kk_J6_266 : Cond.constant RJ6 266 (858993459) ∈ TB := tb_2 (List.mem_of_getElem? (i := 209) rfl) rfl
theorem kk_J6_267 : Cond.constant RJ6 267 (252645135) ∈ TB := tb_2 (List.mem_of_getElem? (i := 210) rfl) rfl
theorem km_X7_61 : Cond.methodLink RX7 61 yX7_add ∈ TB := tb_2 (List.mem_of_getElem? (i := 211) rfl) rfl
theorem ki_X7_add : Cond.instanceMethod yX7_add ∈ TB := tb_2 (List.mem_of_getElem? (i := 213) rfl) rfl
theorem ks_X7_add : Cond.selects RX7 yX7_add yX7_add ∈ TB := tb_p1 (q := (yX7_add, 9)) (List.mem_of_getElem? (i := 4) rfl)
theorem kc_X7_add : Cond.code yX7_add cX7_add 8 none ∈ TB := tb_2 (List.mem_of_getElem? (i := 214) rfl) rfl
theorem kf_X7_72 : Cond.fieldLink RX7 72 "OnlyMovesHisLips$Choir" "count" "I" ∈ TB := tb_1 (List.mem_of_getElem? (i := 161) rfl) rfl
theorem kf_X7_73 : Cond.fieldLink RX7 73 "OnlyMovesHisLips$Choir" "odds" "[I" ∈ TB := tb_1 (List.mem_of_getElem? (i := 155) rfl) rfl
theorem km_X7_65 : Cond.methodLink RX7 65 yX7_lowBit ∈ TB := tb_2 (List.mem_of_getElem? (i := 215) rfl) rfl
theorem kt_X7_lowBit : Cond.static yX7_lowBit ∈ TB := tb_2 (List.mem_of_getElem? (i := 216) rfl) rfl
theorem kc_X7_lowBit : Cond.code yX7_lowBit cX7_lowBit 1 (some .long) ∈ TB := tb_2 (List.mem_of_getElem? (i := 217) rfl) rfl
theorem km_X7_69 : Cond.methodLink RX7 69 yX7_highBit ∈ TB := tb_2 (List.mem_of_getElem? (i := 218) rfl) rfl
theorem kt_X7_highBit : Cond.static yX7_highBit ∈ TB := tb_2 (List.mem_of_getElem? (i := 219) rfl) rfl
theorem kc_X7_highBit : Cond.code yX7_highBit cX7_highBit 1 (some .long) ∈ TB := tb_2 (List.mem_of_getElem? (i := 220) rfl) rfl
theorem km_X2_80 : Cond.methodLink RX2 80 yX2_forgetAll ∈ TB := tb_2 (List.mem_of_getElem? (i := 221) rfl) rfl
theorem ki_X2_forgetAll : Cond.instanceMethod yX2_forgetAll ∈ TB := tb_2 (List.mem_of_getElem? (i := 222) rfl) rfl
theorem ks_X2_forgetAll : Cond.selects RX2 yX2_forgetAll yX2_forgetAll ∈ TB := tb_2 (List.mem_of_getElem? (i := 223) rfl) rfl
theorem kc_X2_forgetAll : Cond.code yX2_forgetAll cX2_forgetAll 1 none ∈ TB := tb_2 (List.mem_of_getElem? (i := 224) rfl) rfl
theorem km_X2_101 : Cond.methodLink RX2 101 yX7_allLow ∈ TB := tb_2 (List.mem_of_getElem? (i := 225) rfl) rfl
theorem ki_X7_allLow : Cond.instanceMethod yX7_allLow ∈ TB := tb_2 (List.mem_of_getElem? (i := 226) rfl) rfl
theorem ks_X7_allLow : Cond.selects RX7 yX7_allLow yX7_allLow ∈ TB := tb_2 (List.mem_of_getElem? (i := 227) rfl) rfl
theorem kc_X7_allLow : Cond.code yX7_allLow cX7_allLow 1 (some .long) ∈ TB := tb_2 (List.mem_of_getElem? (i := 228) rfl) rfl
theorem kk_X7_81 : Cond.constantLong RX7 81 (-1) ∈ TB := tb_2 (List.mem_of_getElem? (i := 229) rfl) rfl
theorem km_X2_105 : Cond.methodLink RX2 105 yX7_allHigh ∈ TB := tb_2 (List.mem_of_getElem? (i := 230) rfl) rfl
theorem ki_X7_allHigh : Cond.instanceMethod yX7_allHigh ∈ TB := tb_2 (List.mem_of_getElem? (i := 231) rfl) rfl
theorem ks_X7_allHigh : Cond.selects RX7 yX7_allHigh yX7_allHigh ∈ TB := tb_2 (List.mem_of_getElem? (i := 232) rfl) rfl
theorem kc_X7_allHigh : Cond.code yX7_allHigh cX7_allHigh 1 (some .long) ∈ TB := tb_2 (List.mem_of_getElem? (i := 233) rfl) rfl
theorem km_L_52 : Cond.methodLink RL 52 yX9_singer ∈ TB := tb_6 (List.mem_of_getElem? (i := 9) rfl) rfl
theorem ki_X9_singer : Cond.instanceMethod yX9_singer ∈ TB := tb_6 (List.mem_of_getElem? (i := 10) rfl) rfl
theorem ks_X9_singer : Cond.selects RX9 yX9_singer yX9_singer ∈ TB := tb_6 (List.mem_of_getElem? (i := 11) rfl) rfl
theorem kc_X9_singer : Cond.code yX9_singer cX9_singer 4 (some .int) ∈ TB := tb_6 (List.mem_of_getElem? (i := 12) rfl) rfl
theorem km_X9_129 : Cond.methodLink RX9 129 yX9_adds ∈ TB := tb_6 (List.mem_of_getElem? (i := 13) rfl) rfl
theorem ki_X9_adds : Cond.instanceMethod yX9_adds ∈ TB := tb_6 (List.mem_of_getElem? (i := 15) rfl) rfl
theorem ks_X9_adds : Cond.selects RX9 yX9_adds yX9_adds ∈ TB := tb_p2 (q := (yX9_adds, 45)) (List.mem_of_getElem? (i := 7) rfl)
theorem kc_X9_adds : Cond.code yX9_adds cX9_adds 4 (some .int) ∈ TB := tb_6 (List.mem_of_getElem? (i := 16) rfl) rfl
theorem km_X9_126 : Cond.methodLink RX9 126 yX9_anew ∈ TB := tb_6 (List.mem_of_getElem? (i := 17) rfl) rfl
theorem ki_X9_anew : Cond.instanceMethod yX9_anew ∈ TB := tb_6 (List.mem_of_getElem? (i := 19) rfl) rfl
theorem ks_X9_anew : Cond.selects RX9 yX9_anew yX9_anew ∈ TB := tb_p2 (q := (yX9_anew, 45)) (List.mem_of_getElem? (i := 8) rfl)
theorem kc_X9_anew : Cond.code yX9_anew cX9_anew 1 none ∈ TB := tb_6 (List.mem_of_getElem? (i := 20) rfl) rfl
theorem kf_X9_120 : Cond.fieldLink RX9 120 "OnlyMovesHisLipsModel" "truth" "I" ∈ TB := tb_5 (List.mem_of_getElem? (i := 75) rfl) rfl
theorem kf_X9_123 : Cond.fieldLink RX9 123 "OnlyMovesHisLipsModel" "known" "I" ∈ TB := tb_5 (List.mem_of_getElem? (i := 74) rfl) rfl
theorem km_L_53 : Cond.methodLink RL 53 yX8_singerOf ∈ TB := tb_2 (List.mem_of_getElem? (i := 234) rfl) rfl
theorem ki_X8_singerOf : Cond.instanceMethod yX8_singerOf ∈ TB := tb_2 (List.mem_of_getElem? (i := 235) rfl) rfl
theorem ks_X8_singerOf : Cond.selects RX8 yX8_singerOf yX8_singerOf ∈ TB := tb_2 (List.mem_of_getElem? (i := 236) rfl) rfl
theorem kc_X8_singerOf : Cond.code yX8_singerOf cX8_singerOf 4 (some .int) ∈ TB := tb_2 (List.mem_of_getElem? (i := 237) rfl) rfl
theorem kf_X8_153 : Cond.fieldLink RX8 153 "OnlyMovesHisLips$Choir" "as" "[I" ∈ TB := tb_1 (List.mem_of_getElem? (i := 153) rfl) rfl
theorem kf_X8_156 : Cond.fieldLink RX8 156 "OnlyMovesHisLips$Choir" "odds" "[I" ∈ TB := tb_1 (List.mem_of_getElem? (i := 156) rfl) rfl
theorem kf_X8_159 : Cond.fieldLink RX8 159 "OnlyMovesHisLips$Choir" "places" "[I" ∈ TB := tb_1 (List.mem_of_getElem? (i := 158) rfl) rfl
theorem km_X8_162 : Cond.methodLink RX8 162 yX2_likely ∈ TB := tb_2 (List.mem_of_getElem? (i := 238) rfl) rfl
theorem ki_X2_likely : Cond.instanceMethod yX2_likely ∈ TB := tb_2 (List.mem_of_getElem? (i := 239) rfl) rfl
theorem ks_X2_likely : Cond.selects RX2 yX2_likely yX2_likely ∈ TB := tb_3 (List.mem_of_getElem? (i := 0) rfl) rfl
theorem kc_X2_likely : Cond.code yX2_likely cX2_likely 7 (some .int) ∈ TB := tb_3 (List.mem_of_getElem? (i := 1) rfl) rfl
theorem kf_X2_91 : Cond.fieldLink RX2 91 "OnlyMovesHisLips$Worlds" "count" "I" ∈ TB := tb_1 (List.mem_of_getElem? (i := 192) rfl) rfl
theorem kf_X2_137 : Cond.fieldLink RX2 137 "OnlyMovesHisLips$Worlds" "weights" "[I" ∈ TB := tb_1 (List.mem_of_getElem? (i := 189) rfl) rfl
theorem kf_X2_94 : Cond.fieldLink RX2 94 "OnlyMovesHisLips$Worlds" "list" "[I" ∈ TB := tb_1 (List.mem_of_getElem? (i := 186) rfl) rfl
theorem kk_X2_140 : Cond.constantLong RX2 140 (1000) ∈ TB := tb_3 (List.mem_of_getElem? (i := 5) rfl) rfl
theorem km_X2_112 : Cond.methodLink RX2 112 yX7_isIn ∈ TB := tb_3 (List.mem_of_getElem? (i := 2) rfl) rfl
theorem kt_X7_isIn : Cond.static yX7_isIn ∈ TB := tb_3 (List.mem_of_getElem? (i := 3) rfl) rfl
theorem kc_X7_isIn : Cond.code yX7_isIn cX7_isIn 5 (some .boolean) ∈ TB := tb_3 (List.mem_of_getElem? (i := 4) rfl) rfl
theorem km_L_56 : Cond.methodLink RL 56 yX9_singerOf ∈ TB := tb_6 (List.mem_of_getElem? (i := 21) rfl) rfl
theorem ki_X9_singerOf : Cond.instanceMethod yX9_singerOf ∈ TB := tb_6 (List.mem_of_getElem? (i := 22) rfl) rfl
theorem ks_X9_singerOf : Cond.selects RX9 yX9_singerOf yX9_singerOf ∈ TB := tb_6 (List.mem_of_getElem? (i := 23) rfl) rfl
theorem kc_X9_singerOf : Cond.code yX9_singerOf cX9_singerOf 3 (some .int) ∈ TB := tb_6 (List.mem_of_getElem? (i := 24) rfl) rfl
theorem km_X9_133 : Cond.methodLink RX9 133 yX9_likely ∈ TB := tb_6 (List.mem_of_getElem? (i := 25) rfl) rfl
theorem ki_X9_likely : Cond.instanceMethod yX9_likely ∈ TB := tb_6 (List.mem_of_getElem? (i := 27) rfl) rfl
theorem ks_X9_likely : Cond.selects RX9 yX9_likely yX9_likely ∈ TB := tb_p2 (q := (yX9_likely, 45)) (List.mem_of_getElem? (i := 9) rfl)
theorem kc_X9_likely : Cond.code yX9_likely cX9_likely 7 (some .int) ∈ TB := tb_6 (List.mem_of_getElem? (i := 28) rfl) rfl
theorem km_X9_239 : Cond.methodLink RX9 239 yX9_possible ∈ TB := tb_6 (List.mem_of_getElem? (i := 29) rfl) rfl
theorem ki_X9_possible : Cond.instanceMethod yX9_possible ∈ TB := tb_6 (List.mem_of_getElem? (i := 31) rfl) rfl
theorem ks_X9_possible : Cond.selects RX9 yX9_possible yX9_possible ∈ TB := tb_p2 (q := (yX9_possible, 45)) (List.mem_of_getElem? (i := 10) rfl)
theorem kc_X9_possible : Cond.code yX9_possible cX9_possible 3 (some .int) ∈ TB := tb_6 (List.mem_of_getElem? (i := 32) rfl) rfl
theorem km_X9_233 : Cond.methodLink RX9 233 yX9_lists ∈ TB := tb_6 (List.mem_of_getElem? (i := 33) rfl) rfl
theorem ki_X9_lists : Cond.instanceMethod yX9_lists ∈ TB := tb_6 (List.mem_of_getElem? (i := 35) rfl) rfl
theorem ks_X9_lists : Cond.selects RX9 yX9_lists yX9_lists ∈ TB := tb_p2 (q := (yX9_lists, 45)) (List.mem_of_getElem? (i := 11) rfl)
theorem kc_X9_lists : Cond.code yX9_lists cX9_lists 3 (some .int) ∈ TB := tb_6 (List.mem_of_getElem? (i := 36) rfl) rfl
theorem kf_X9_227 : Cond.fieldLink RX9 227 "OnlyMovesHisLipsModel" "worldsMany" "I" ∈ TB := tb_5 (List.mem_of_getElem? (i := 103) rfl) rfl
theorem km_X9_99 : Cond.methodLink RX9 99 yX9_everybody ∈ TB := tb_6 (List.mem_of_getElem? (i := 37) rfl) rfl
theorem ki_X9_everybody : Cond.instanceMethod yX9_everybody ∈ TB := tb_6 (List.mem_of_getElem? (i := 39) rfl) rfl
theorem ks_X9_everybody : Cond.selects RX9 yX9_everybody yX9_everybody ∈ TB := tb_p2 (q := (yX9_everybody, 45)) (List.mem_of_getElem? (i := 12) rfl)
theorem kc_X9_everybody : Cond.code yX9_everybody cX9_everybody 1 (some .int) ∈ TB := tb_6 (List.mem_of_getElem? (i := 40) rfl) rfl
theorem km_X9_221 : Cond.methodLink RX9 221 yX9_count ∈ TB := tb_6 (List.mem_of_getElem? (i := 41) rfl) rfl
theorem ki_X9_count : Cond.instanceMethod yX9_count ∈ TB := tb_6 (List.mem_of_getElem? (i := 43) rfl) rfl
theorem ks_X9_count : Cond.selects RX9 yX9_count yX9_count ∈ TB := tb_p2 (q := (yX9_count, 45)) (List.mem_of_getElem? (i := 13) rfl)
theorem kc_X9_count : Cond.code yX9_count cX9_count 4 (some .int) ∈ TB := tb_6 (List.mem_of_getElem? (i := 44) rfl) rfl
theorem km_X9_236 : Cond.methodLink RX9 236 yX9_stays ∈ TB := tb_6 (List.mem_of_getElem? (i := 45) rfl) rfl
theorem ki_X9_stays : Cond.instanceMethod yX9_stays ∈ TB := tb_6 (List.mem_of_getElem? (i := 47) rfl) rfl
theorem ks_X9_stays : Cond.selects RX9 yX9_stays yX9_stays ∈ TB := tb_p2 (q := (yX9_stays, 45)) (List.mem_of_getElem? (i := 14) rfl)
theorem kc_X9_stays : Cond.code yX9_stays cX9_stays 6 (some .int) ∈ TB := tb_6 (List.mem_of_getElem? (i := 48) rfl) rfl
theorem km_X9_230 : Cond.methodLink RX9 230 yX9_soundOf ∈ TB := tb_6 (List.mem_of_getElem? (i := 49) rfl) rfl
theorem ki_X9_soundOf : Cond.instanceMethod yX9_soundOf ∈ TB := tb_6 (List.mem_of_getElem? (i := 51) rfl) rfl
theorem ks_X9_soundOf : Cond.selects RX9 yX9_soundOf yX9_soundOf ∈ TB := tb_p2 (q := (yX9_soundOf, 45)) (List.mem_of_getElem? (i := 15) rfl)
theorem kc_X9_soundOf : Cond.code yX9_soundOf cX9_soundOf 4 (some .int) ∈ TB := tb_6 (List.mem_of_getElem? (i := 52) rfl) rfl
theorem km_X9_214 : Cond.methodLink RX9 214 yX9_isIn ∈ TB := tb_6 (List.mem_of_getElem? (i := 53) rfl) rfl
theorem ki_X9_isIn : Cond.instanceMethod yX9_isIn ∈ TB := tb_6 (List.mem_of_getElem? (i := 55) rfl) rfl
theorem ks_X9_isIn : Cond.selects RX9 yX9_isIn yX9_isIn ∈ TB := tb_p3 (q := (yX9_isIn, 45)) (List.mem_of_getElem? (i := 0) rfl)
theorem kc_X9_isIn : Cond.code yX9_isIn cX9_isIn 3 (some .boolean) ∈ TB := tb_6 (List.mem_of_getElem? (i := 56) rfl) rfl
theorem km_X9_224 : Cond.methodLink RX9 224 yX9_isHeard ∈ TB := tb_6 (List.mem_of_getElem? (i := 57) rfl) rfl
theorem ki_X9_isHeard : Cond.instanceMethod yX9_isHeard ∈ TB := tb_6 (List.mem_of_getElem? (i := 59) rfl) rfl
theorem ks_X9_isHeard : Cond.selects RX9 yX9_isHeard yX9_isHeard ∈ TB := tb_p3 (q := (yX9_isHeard, 45)) (List.mem_of_getElem? (i := 1) rfl)
theorem kc_X9_isHeard : Cond.code yX9_isHeard cX9_isHeard 5 (some .boolean) ∈ TB := tb_6 (List.mem_of_getElem? (i := 60) rfl) rfl
theorem km_X9_217 : Cond.methodLink RX9 217 yX9_holdsUp ∈ TB := tb_6 (List.mem_of_getElem? (i := 61) rfl) rfl
theorem ki_X9_holdsUp : Cond.instanceMethod yX9_holdsUp ∈ TB := tb_6 (List.mem_of_getElem? (i := 63) rfl) rfl
theorem ks_X9_holdsUp : Cond.selects RX9 yX9_holdsUp yX9_holdsUp ∈ TB := tb_p3 (q := (yX9_holdsUp, 45)) (List.mem_of_getElem? (i := 2) rfl)
theorem kc_X9_holdsUp : Cond.code yX9_holdsUp cX9_holdsUp 5 (some .boolean) ∈ TB := tb_6 (List.mem_of_getElem? (i := 64) rfl) rfl
theorem km_X9_245 : Cond.methodLink RX9 245 yX9_weight ∈ TB := tb_6 (List.mem_of_getElem? (i := 65) rfl) rfl
theorem ki_X9_weight : Cond.instanceMethod yX9_weight ∈ TB := tb_6 (List.mem_of_getElem? (i := 67) rfl) rfl
theorem ks_X9_weight : Cond.selects RX9 yX9_weight yX9_weight ∈ TB := tb_p3 (q := (yX9_weight, 45)) (List.mem_of_getElem? (i := 3) rfl)
theorem kc_X9_weight : Cond.code yX9_weight cX9_weight 4 (some .int) ∈ TB := tb_6 (List.mem_of_getElem? (i := 68) rfl) rfl
theorem km_L_57 : Cond.methodLink RL 57 yX8_ask ∈ TB := tb_3 (List.mem_of_getElem? (i := 6) rfl) rfl
theorem ki_X8_ask : Cond.instanceMethod yX8_ask ∈ TB := tb_3 (List.mem_of_getElem? (i := 7) rfl) rfl
theorem ks_X8_ask : Cond.selects RX8 yX8_ask yX8_ask ∈ TB := tb_3 (List.mem_of_getElem? (i := 8) rfl) rfl
theorem kc_X8_ask : Cond.code yX8_ask cX8_ask 4 (some .int) ∈ TB := tb_3 (List.mem_of_getElem? (i := 9) rfl) rfl
theorem km_X8_165 : Cond.methodLink RX8 165 yX2_suits ∈ TB := tb_3 (List.mem_of_getElem? (i := 10) rfl) rfl
theorem kt_X2_suits : Cond.static yX2_suits ∈ TB := tb_3 (List.mem_of_getElem? (i := 11) rfl) rfl
theorem kc_X2_suits : Cond.code yX2_suits cX2_suits 2 (some .boolean) ∈ TB := tb_3 (List.mem_of_getElem? (i := 12) rfl) rfl
theorem kf_X2_51 : Cond.fieldLink RX2 51 "OnlyMovesHisLips$Hall" "FEWEST" "[I" ∈ TB := tb_3 (List.mem_of_getElem? (i := 13) rfl) rfl
theorem kf_X2_54 : Cond.fieldLink RX2 54 "OnlyMovesHisLips$Hall" "GREATEST" "[I" ∈ TB := tb_3 (List.mem_of_getElem? (i := 15) rfl) rfl
theorem km_X8_168 : Cond.methodLink RX8 168 yX2_rule ∈ TB := tb_3 (List.mem_of_getElem? (i := 17) rfl) rfl
theorem ki_X2_rule : Cond.instanceMethod yX2_rule ∈ TB := tb_3 (List.mem_of_getElem? (i := 18) rfl) rfl
theorem ks_X2_rule : Cond.selects RX2 yX2_rule yX2_rule ∈ TB := tb_3 (List.mem_of_getElem? (i := 19) rfl) rfl
theorem kc_X2_rule : Cond.code yX2_rule cX2_rule 2 (some .int) ∈ TB := tb_3 (List.mem_of_getElem? (i := 20) rfl) rfl
theorem km_X8_171 : Cond.methodLink RX8 171 yX2_put ∈ TB := tb_3 (List.mem_of_getElem? (i := 21) rfl) rfl
theorem ki_X2_put : Cond.instanceMethod yX2_put ∈ TB := tb_3 (List.mem_of_getElem? (i := 22) rfl) rfl
theorem ks_X2_put : Cond.selects RX2 yX2_put yX2_put ∈ TB := tb_3 (List.mem_of_getElem? (i := 23) rfl) rfl
theorem kc_X2_put : Cond.code yX2_put cX2_put 3 none ∈ TB := tb_3 (List.mem_of_getElem? (i := 24) rfl) rfl
theorem km_X2_57 : Cond.methodLink RX2 57 yX2_suits ∈ TB := tb_3 (List.mem_of_getElem? (i := 25) rfl) rfl
theorem km_L_60 : Cond.methodLink RL 60 yX9_ask ∈ TB := tb_6 (List.mem_of_getElem? (i := 69) rfl) rfl
theorem ki_X9_ask : Cond.instanceMethod yX9_ask ∈ TB := tb_6 (List.mem_of_getElem? (i := 70) rfl) rfl
theorem ks_X9_ask : Cond.selects RX9 yX9_ask yX9_ask ∈ TB := tb_6 (List.mem_of_getElem? (i := 71) rfl) rfl
theorem kc_X9_ask : Cond.code yX9_ask cX9_ask 3 (some .int) ∈ TB := tb_6 (List.mem_of_getElem? (i := 72) rfl) rfl
theorem km_X9_142 : Cond.methodLink RX9 142 yX9_isAsked ∈ TB := tb_6 (List.mem_of_getElem? (i := 73) rfl) rfl
theorem ki_X9_isAsked : Cond.instanceMethod yX9_isAsked ∈ TB := tb_6 (List.mem_of_getElem? (i := 75) rfl) rfl
theorem ks_X9_isAsked : Cond.selects RX9 yX9_isAsked yX9_isAsked ∈ TB := tb_p3 (q := (yX9_isAsked, 45)) (List.mem_of_getElem? (i := 4) rfl)
theorem kc_X9_isAsked : Cond.code yX9_isAsked cX9_isAsked 3 (some .boolean) ∈ TB := tb_6 (List.mem_of_getElem? (i := 76) rfl) rfl
theorem km_X9_146 : Cond.methodLink RX9 146 yX9_asks ∈ TB := tb_6 (List.mem_of_getElem? (i := 77) rfl) rfl
theorem ki_X9_asks : Cond.instanceMethod yX9_asks ∈ TB := tb_6 (List.mem_of_getElem? (i := 79) rfl) rfl
theorem ks_X9_asks : Cond.selects RX9 yX9_asks yX9_asks ∈ TB := tb_p3 (q := (yX9_asks, 45)) (List.mem_of_getElem? (i := 5) rfl)
theorem kc_X9_asks : Cond.code yX9_asks cX9_asks 4 (some .int) ∈ TB := tb_6 (List.mem_of_getElem? (i := 80) rfl) rfl
theorem kf_X9_136 : Cond.fieldLink RX9 136 "OnlyMovesHisLipsModel" "near" "I" ∈ TB := tb_5 (List.mem_of_getElem? (i := 72) rfl) rfl
theorem kf_X9_139 : Cond.fieldLink RX9 139 "OnlyMovesHisLipsModel" "ear" "I" ∈ TB := tb_5 (List.mem_of_getElem? (i := 73) rfl) rfl
theorem km_L_61 : Cond.methodLink RL 61 yX8_loft ∈ TB := tb_3 (List.mem_of_getElem? (i := 26) rfl) rfl
theorem ki_X8_loft : Cond.instanceMethod yX8_loft ∈ TB := tb_3 (List.mem_of_getElem? (i := 27) rfl) rfl
theorem ks_X8_loft : Cond.selects RX8 yX8_loft yX8_loft ∈ TB := tb_3 (List.mem_of_getElem? (i := 28) rfl) rfl
theorem kc_X8_loft : Cond.code yX8_loft cX8_loft 6 (some .int) ∈ TB := tb_3 (List.mem_of_getElem? (i := 29) rfl) rfl
theorem kf_X8_187 : Cond.fieldLink RX8 187 "OnlyMovesHisLips$Reader" "fault" "I" ∈ TB := tb_1 (List.mem_of_getElem? (i := 63) rfl) rfl
theorem km_X8_173 : Cond.methodLink RX8 173 yX2_copyOf ∈ TB := tb_3 (List.mem_of_getElem? (i := 30) rfl) rfl
theorem ki_X2_copyOf : Cond.instanceMethod yX2_copyOf ∈ TB := tb_3 (List.mem_of_getElem? (i := 31) rfl) rfl
theorem ks_X2_copyOf : Cond.selects RX2 yX2_copyOf yX2_copyOf ∈ TB := tb_3 (List.mem_of_getElem? (i := 32) rfl) rfl
theorem kc_X2_copyOf : Cond.code yX2_copyOf cX2_copyOf 2 none ∈ TB := tb_3 (List.mem_of_getElem? (i := 33) rfl) rfl
theorem km_X2_70 : Cond.methodLink RX2 70 arraycopyName ∈ TB := tb_3 (List.mem_of_getElem? (i := 44) rfl) rfl
theorem km_X2_64 : Cond.methodLink RX2 64 yX0_copyOf ∈ TB := tb_3 (List.mem_of_getElem? (i := 34) rfl) rfl
theorem ki_X0_copyOf : Cond.instanceMethod yX0_copyOf ∈ TB := tb_3 (List.mem_of_getElem? (i := 35) rfl) rfl
theorem ks_X0_copyOf : Cond.selects RX0 yX0_copyOf yX0_copyOf ∈ TB := tb_3 (List.mem_of_getElem? (i := 36) rfl) rfl
theorem kc_X0_copyOf : Cond.code yX0_copyOf cX0_copyOf 2 none ∈ TB := tb_3 (List.mem_of_getElem? (i := 37) rfl) rfl
theorem km_X0_38 : Cond.methodLink RX0 38 arraycopyName ∈ TB := tb_3 (List.mem_of_getElem? (i := 38) rfl) rfl
theorem km_X2_67 : Cond.methodLink RX2 67 yX7_copyOf ∈ TB := tb_3 (List.mem_of_getElem? (i := 39) rfl) rfl
theorem ki_X7_copyOf : Cond.instanceMethod yX7_copyOf ∈ TB := tb_3 (List.mem_of_getElem? (i := 40) rfl) rfl
theorem ks_X7_copyOf : Cond.selects RX7 yX7_copyOf yX7_copyOf ∈ TB := tb_3 (List.mem_of_getElem? (i := 41) rfl) rfl
theorem kc_X7_copyOf : Cond.code yX7_copyOf cX7_copyOf 2 none ∈ TB := tb_3 (List.mem_of_getElem? (i := 42) rfl) rfl
theorem km_X7_45 : Cond.methodLink RX7 45 arraycopyName ∈ TB := tb_3 (List.mem_of_getElem? (i := 43) rfl) rfl
theorem km_X8_177 : Cond.methodLink RX8 177 yX3_begin ∈ TB := tb_3 (List.mem_of_getElem? (i := 45) rfl) rfl
theorem ki_X3_begin : Cond.instanceMethod yX3_begin ∈ TB := tb_3 (List.mem_of_getElem? (i := 46) rfl) rfl
theorem ks_X3_begin : Cond.selects RX3 yX3_begin yX3_begin ∈ TB := tb_3 (List.mem_of_getElem? (i := 47) rfl) rfl
theorem kc_X3_begin : Cond.code yX3_begin cX3_begin 2 none ∈ TB := tb_3 (List.mem_of_getElem? (i := 48) rfl) rfl
theorem km_X8_180 : Cond.methodLink RX8 180 yX3_readItem ∈ TB := tb_3 (List.mem_of_getElem? (i := 49) rfl) rfl
theorem ki_X3_readItem : Cond.instanceMethod yX3_readItem ∈ TB := tb_3 (List.mem_of_getElem? (i := 50) rfl) rfl
theorem ks_X3_readItem : Cond.selects RX3 yX3_readItem yX3_readItem ∈ TB := tb_3 (List.mem_of_getElem? (i := 51) rfl) rfl
theorem kc_X3_readItem : Cond.code yX3_readItem cX3_readItem 6 (some .boolean) ∈ TB := tb_3 (List.mem_of_getElem? (i := 52) rfl) rfl
theorem kf_X3_50 : Cond.fieldLink RX3 50 "OnlyMovesHisLips$Hall" "choir" "LOnlyMovesHisLips$Choir;" ∈ TB := tb_1 (List.mem_of_getElem? (i := 222) rfl) rfl
theorem kf_X3_63 : Cond.fieldLink RX3 63 "OnlyMovesHisLips$Reader" "WANTED" "[I" ∈ TB := tb_3 (List.mem_of_getElem? (i := 133) rfl) rfl
theorem km_X3_46 : Cond.methodLink RX3 46 yX3_readWord ∈ TB := tb_3 (List.mem_of_getElem? (i := 53) rfl) rfl
theorem ki_X3_readWord : Cond.instanceMethod yX3_readWord ∈ TB := tb_3 (List.mem_of_getElem? (i := 55) rfl) rfl
theorem ks_X3_readWord : Cond.selects RX3 yX3_readWord yX3_readWord ∈ TB := tb_p1 (q := (yX3_readWord, 4)) (List.mem_of_getElem? (i := 5) rfl)
theorem kc_X3_readWord : Cond.code yX3_readWord cX3_readWord 5 (some .int) ∈ TB := tb_3 (List.mem_of_getElem? (i := 56) rfl) rfl
theorem km_X3_103 : Cond.methodLink RX3 103 Lib.Math.max.name ∈ TB := tb_3 (List.mem_of_getElem? (i := 123) rfl) rfl
theorem km_X3_91 : Cond.methodLink RX3 91 yX3_spelled ∈ TB := tb_3 (List.mem_of_getElem? (i := 57) rfl) rfl
theorem kt_X3_spelled : Cond.static yX3_spelled ∈ TB := tb_3 (List.mem_of_getElem? (i := 58) rfl) rfl
theorem kc_X3_spelled : Cond.code yX3_spelled cX3_spelled 1 (some (.object "java/lang/String")) ∈ TB := tb_3 (List.mem_of_getElem? (i := 59) rfl) rfl
theorem km_X3_95 : Cond.methodLink RX3 95 yJ0_length_8abf5 ∈ TB := tb_3 (List.mem_of_getElem? (i := 67) rfl) rfl
theorem ki_J0_length_8abf5 : Cond.instanceMethod yJ0_length_8abf5 ∈ TB := tb_3 (List.mem_of_getElem? (i := 68) rfl) rfl
theorem ks_J0_length_8abf5 : Cond.selects RJ0 yJ0_length_8abf5 yJ0_length_8abf5 ∈ TB := tb_3 (List.mem_of_getElem? (i := 69) rfl) rfl
theorem kn_J0 : Cond.initialized RJ0 ∈ TB := tb_1 (List.mem_of_getElem? (i := 14) rfl) rfl
theorem kc_J0_length_8abf5 : Cond.code yJ0_length_8abf5 cJ0_length_8abf5 1 (some .int) ∈ TB := tb_3 (List.mem_of_getElem? (i := 70) rfl) rfl
theorem kf_J0_9 : Cond.fieldLink RJ0 9 "java/lang/String" "value" "[B" ∈ TB := tb_7 (List.mem_of_getElem? (i := 105) rfl) rfl
theorem km_J0_335 : Cond.methodLink RJ0 335 yJ0_coder_7d493 ∈ TB := tb_3 (List.mem_of_getElem? (i := 71) rfl) rfl
theorem ki_J0_coder_7d493 : Cond.instanceMethod yJ0_coder_7d493 ∈ TB := tb_3 (List.mem_of_getElem? (i := 72) rfl) rfl
theorem ks_J0_coder_7d493 : Cond.selects RJ0 yJ0_coder_7d493 yJ0_coder_7d493 ∈ TB := tb_3 (List.mem_of_getElem? (i := 73) rfl) rfl
theorem kc_J0_coder_7d493 : Cond.code yJ0_coder_7d493 cJ0_coder_7d493 1 (some .byte) ∈ TB := tb_3 (List.mem_of_getElem? (i := 74) rfl) rfl
theorem kf_J0_38 : Cond.fieldLink RJ0 38 "java/lang/String" "COMPACT_STRINGS" "Z" ∈ TB := tb_3 (List.mem_of_getElem? (i := 75) rfl) rfl
theorem kf_J0_15 : Cond.fieldLink RJ0 15 "java/lang/String" "coder" "B" ∈ TB := tb_7 (List.mem_of_getElem? (i := 106) rfl) rfl
theorem km_X3_39 : Cond.methodLink RX3 39 yX3_sign ∈ TB := tb_3 (List.mem_of_getElem? (i := 77) rfl) rfl
theorem ki_X3_sign : Cond.instanceMethod yX3_sign ∈ TB := tb_3 (List.mem_of_getElem? (i := 79) rfl) rfl
theorem ks_X3_sign : Cond.selects RX3 yX3_sign yX3_sign ∈ TB := tb_p1 (q := (yX3_sign, 4)) (List.mem_of_getElem? (i := 6) rfl)
theorem kc_X3_sign : Cond.code yX3_sign cX3_sign 2 (some .int) ∈ TB := tb_3 (List.mem_of_getElem? (i := 80) rfl) rfl
theorem km_X3_35 : Cond.methodLink RX3 35 yX4_asInt ∈ TB := tb_3 (List.mem_of_getElem? (i := 81) rfl) rfl
theorem ki_X4_asInt : Cond.instanceMethod yX4_asInt ∈ TB := tb_3 (List.mem_of_getElem? (i := 82) rfl) rfl
theorem ks_X4_asInt : Cond.selects RX4 yX4_asInt yX4_asInt ∈ TB := tb_3 (List.mem_of_getElem? (i := 83) rfl) rfl
theorem kc_X4_asInt : Cond.code yX4_asInt cX4_asInt 2 (some .int) ∈ TB := tb_3 (List.mem_of_getElem? (i := 84) rfl) rfl
theorem km_X3_99 : Cond.methodLink RX3 99 yJ0_charAt_5068e ∈ TB := tb_3 (List.mem_of_getElem? (i := 85) rfl) rfl
theorem ki_J0_charAt_5068e : Cond.instanceMethod yJ0_charAt_5068e ∈ TB := tb_3 (List.mem_of_getElem? (i := 86) rfl) rfl
theorem ks_J0_charAt_5068e : Cond.selects RJ0 yJ0_charAt_5068e yJ0_charAt_5068e ∈ TB := tb_3 (List.mem_of_getElem? (i := 87) rfl) rfl
theorem kc_J0_charAt_5068e : Cond.code yJ0_charAt_5068e cJ0_charAt_5068e 2 (some .char) ∈ TB := tb_3 (List.mem_of_getElem? (i := 88) rfl) rfl
theorem km_J0_492 : Cond.methodLink RJ0 492 yJ0_isLatin1_aae02 ∈ TB := tb_3 (List.mem_of_getElem? (i := 89) rfl) rfl
theorem ki_J0_isLatin1_aae02 : Cond.instanceMethod yJ0_isLatin1_aae02 ∈ TB := tb_3 (List.mem_of_getElem? (i := 90) rfl) rfl
theorem ks_J0_isLatin1_aae02 : Cond.selects RJ0 yJ0_isLatin1_aae02 yJ0_isLatin1_aae02 ∈ TB := tb_3 (List.mem_of_getElem? (i := 91) rfl) rfl
theorem kc_J0_isLatin1_aae02 : Cond.code yJ0_isLatin1_aae02 cJ0_isLatin1_aae02 1 (some .boolean) ∈ TB := tb_3 (List.mem_of_getElem? (i := 92) rfl) rfl
theorem km_J0_495 : Cond.methodLink RJ0 495 yJ1_charAt_3b067 ∈ TB := tb_3 (List.mem_of_getElem? (i := 93) rfl) rfl
theorem kt_J1_charAt_3b067 : Cond.static yJ1_charAt_3b067 ∈ TB := tb_3 (List.mem_of_getElem? (i := 94) rfl) rfl
theorem kn_J1 : Cond.initialized RJ1 ∈ TB := tb_1 (List.mem_of_getElem? (i := 15) rfl) rfl
theorem kc_J1_charAt_3b067 : Cond.code yJ1_charAt_3b067 cJ1_charAt_3b067 2 (some .char) ∈ TB := tb_3 (List.mem_of_getElem? (i := 95) rfl) rfl
theorem km_J1_9 : Cond.methodLink RJ1 9 yJ0_checkIndex_df160 ∈ TB := tb_3 (List.mem_of_getElem? (i := 96) rfl) rfl
theorem kt_J0_checkIndex_df160 : Cond.static yJ0_checkIndex_df160 ∈ TB := tb_3 (List.mem_of_getElem? (i := 97) rfl) rfl
theorem kc_J0_checkIndex_df160 : Cond.code yJ0_checkIndex_df160 cJ0_checkIndex_df160 2 none ∈ TB := tb_3 (List.mem_of_getElem? (i := 98) rfl) rfl
theorem kf_J0_1053 : Cond.fieldLink RJ0 1053 "jdk/internal/util/Preconditions" "SIOOBE_FORMATTER" "Ljava/util/function/BiFunction;" ∈ TB := tb_3 (List.mem_of_getElem? (i := 99) rfl) rfl
theorem km_J0_1059 : Cond.methodLink RJ0 1059 yJ3_checkIndex_8e157 ∈ TB := tb_3 (List.mem_of_getElem? (i := 101) rfl) rfl
theorem kt_J3_checkIndex_8e157 : Cond.static yJ3_checkIndex_8e157 ∈ TB := tb_3 (List.mem_of_getElem? (i := 102) rfl) rfl
theorem kn_J3 : Cond.initialized RJ3 ∈ TB := tb_1 (List.mem_of_getElem? (i := 16) rfl) rfl
theorem kc_J3_checkIndex_8e157 : Cond.code yJ3_checkIndex_8e157 cJ3_checkIndex_8e157 3 (some .int) ∈ TB := tb_3 (List.mem_of_getElem? (i := 103) rfl) rfl
theorem km_J0_498 : Cond.methodLink RJ0 498 yJ2_charAt_3b067 ∈ TB := tb_3 (List.mem_of_getElem? (i := 104) rfl) rfl
theorem kt_J2_charAt_3b067 : Cond.static yJ2_charAt_3b067 ∈ TB := tb_3 (List.mem_of_getElem? (i := 105) rfl) rfl
theorem kn_J2 : Cond.initialized RJ2 ∈ TB := tb_1 (List.mem_of_getElem? (i := 17) rfl) rfl
theorem kc_J2_charAt_3b067 : Cond.code yJ2_charAt_3b067 cJ2_charAt_3b067 2 (some .char) ∈ TB := tb_3 (List.mem_of_getElem? (i := 106) rfl) rfl
theorem km_J2_67 : Cond.methodLink RJ2 67 yJ2_checkIndex_2214a ∈ TB := tb_3 (List.mem_of_getElem? (i := 107) rfl) rfl
theorem kt_J2_checkIndex_2214a : Cond.static yJ2_checkIndex_2214a ∈ TB := tb_3 (List.mem_of_getElem? (i := 108) rfl) rfl
theorem kc_J2_checkIndex_2214a : Cond.code yJ2_checkIndex_2214a cJ2_checkIndex_2214a 2 none ∈ TB := tb_3 (List.mem_of_getElem? (i := 109) rfl) rfl
theorem km_J2_48 : Cond.methodLink RJ2 48 yJ2_length_9d52b ∈ TB := tb_3 (List.mem_of_getElem? (i := 110) rfl) rfl
theorem kt_J2_length_9d52b : Cond.static yJ2_length_9d52b ∈ TB := tb_3 (List.mem_of_getElem? (i := 111) rfl) rfl
theorem kc_J2_length_9d52b : Cond.code yJ2_length_9d52b cJ2_length_9d52b 1 (some .int) ∈ TB := tb_3 (List.mem_of_getElem? (i := 112) rfl) rfl
theorem km_J2_414 : Cond.methodLink RJ2 414 yJ0_checkIndex_df160 ∈ TB := tb_3 (List.mem_of_getElem? (i := 113) rfl) rfl
theorem km_J2_71 : Cond.methodLink RJ2 71 yJ2_getChar_3b067 ∈ TB := tb_3 (List.mem_of_getElem? (i := 114) rfl) rfl
theorem kt_J2_getChar_3b067 : Cond.static yJ2_getChar_3b067 ∈ TB := tb_3 (List.mem_of_getElem? (i := 115) rfl) rfl
theorem kc_J2_getChar_3b067 : Cond.code yJ2_getChar_3b067 cJ2_getChar_3b067 2 (some .char) ∈ TB := tb_3 (List.mem_of_getElem? (i := 116) rfl) rfl
theorem kf_J2_44 : Cond.fieldLink RJ2 44 "java/lang/StringUTF16" "$assertionsDisabled" "Z" ∈ TB := tb_3 (List.mem_of_getElem? (i := 117) rfl) rfl
theorem kf_J2_59 : Cond.fieldLink RJ2 59 "java/lang/StringUTF16" "HI_BYTE_SHIFT" "I" ∈ TB := tb_3 (List.mem_of_getElem? (i := 119) rfl) rfl
theorem kf_J2_63 : Cond.fieldLink RJ2 63 "java/lang/StringUTF16" "LO_BYTE_SHIFT" "I" ∈ TB := tb_3 (List.mem_of_getElem? (i := 121) rfl) rfl
theorem km_X3_56 : Cond.methodLink RX3 56 yX0_hasRoom ∈ TB := tb_3 (List.mem_of_getElem? (i := 124) rfl) rfl
theorem km_X3_62 : Cond.methodLink RX3 62 yX2_hasRoom ∈ TB := tb_3 (List.mem_of_getElem? (i := 125) rfl) rfl
theorem ki_X2_hasRoom : Cond.instanceMethod yX2_hasRoom ∈ TB := tb_3 (List.mem_of_getElem? (i := 126) rfl) rfl
theorem ks_X2_hasRoom : Cond.selects RX2 yX2_hasRoom yX2_hasRoom ∈ TB := tb_3 (List.mem_of_getElem? (i := 127) rfl) rfl
theorem kc_X2_hasRoom : Cond.code yX2_hasRoom cX2_hasRoom 1 (some .boolean) ∈ TB := tb_3 (List.mem_of_getElem? (i := 128) rfl) rfl
theorem km_X3_42 : Cond.methodLink RX3 42 yX3_fails ∈ TB := tb_3 (List.mem_of_getElem? (i := 129) rfl) rfl
theorem ki_X3_fails : Cond.instanceMethod yX3_fails ∈ TB := tb_3 (List.mem_of_getElem? (i := 131) rfl) rfl
theorem ks_X3_fails : Cond.selects RX3 yX3_fails yX3_fails ∈ TB := tb_p1 (q := (yX3_fails, 4)) (List.mem_of_getElem? (i := 7) rfl)
theorem kc_X3_fails : Cond.code yX3_fails cX3_fails 2 (some .boolean) ∈ TB := tb_3 (List.mem_of_getElem? (i := 132) rfl) rfl
theorem km_X3_31 : Cond.methodLink RX3 31 yX3_stands ∈ TB := tb_3 (List.mem_of_getElem? (i := 135) rfl) rfl
theorem ki_X3_stands : Cond.instanceMethod yX3_stands ∈ TB := tb_3 (List.mem_of_getElem? (i := 137) rfl) rfl
theorem ks_X3_stands : Cond.selects RX3 yX3_stands yX3_stands ∈ TB := tb_p1 (q := (yX3_stands, 4)) (List.mem_of_getElem? (i := 8) rfl)
theorem kc_X3_stands : Cond.code yX3_stands cX3_stands 2 (some .boolean) ∈ TB := tb_3 (List.mem_of_getElem? (i := 138) rfl) rfl
theorem km_X3_66 : Cond.methodLink RX3 66 yX3_readNumber ∈ TB := tb_3 (List.mem_of_getElem? (i := 139) rfl) rfl
theorem ki_X3_readNumber : Cond.instanceMethod yX3_readNumber ∈ TB := tb_3 (List.mem_of_getElem? (i := 141) rfl) rfl
theorem ks_X3_readNumber : Cond.selects RX3 yX3_readNumber yX3_readNumber ∈ TB := tb_p1 (q := (yX3_readNumber, 4)) (List.mem_of_getElem? (i := 9) rfl)
theorem kc_X3_readNumber : Cond.code yX3_readNumber cX3_readNumber 4 (some .boolean) ∈ TB := tb_3 (List.mem_of_getElem? (i := 142) rfl) rfl
theorem km_X3_69 : Cond.methodLink RX3 69 yX3_fits ∈ TB := tb_3 (List.mem_of_getElem? (i := 143) rfl) rfl
theorem ki_X3_fits : Cond.instanceMethod yX3_fits ∈ TB := tb_3 (List.mem_of_getElem? (i := 145) rfl) rfl
theorem ks_X3_fits : Cond.selects RX3 yX3_fits yX3_fits ∈ TB := tb_p1 (q := (yX3_fits, 4)) (List.mem_of_getElem? (i := 10) rfl)
theorem kc_X3_fits : Cond.code yX3_fits cX3_fits 5 (some .boolean) ∈ TB := tb_3 (List.mem_of_getElem? (i := 146) rfl) rfl
theorem km_X3_109 : Cond.methodLink RX3 109 yX0_isKind ∈ TB := tb_3 (List.mem_of_getElem? (i := 147) rfl) rfl
theorem km_X3_112 : Cond.methodLink RX3 112 yX0_isA ∈ TB := tb_3 (List.mem_of_getElem? (i := 148) rfl) rfl
theorem km_X3_115 : Cond.methodLink RX3 115 yX0_isOdds ∈ TB := tb_3 (List.mem_of_getElem? (i := 149) rfl) rfl
theorem km_X3_118 : Cond.methodLink RX3 118 yX2_suits ∈ TB := tb_3 (List.mem_of_getElem? (i := 150) rfl) rfl
theorem km_X3_122 : Cond.methodLink RX3 122 yX0_isSet ∈ TB := tb_3 (List.mem_of_getElem? (i := 151) rfl) rfl
theorem ki_X0_isSet : Cond.instanceMethod yX0_isSet ∈ TB := tb_3 (List.mem_of_getElem? (i := 152) rfl) rfl
theorem ks_X0_isSet : Cond.selects RX0 yX0_isSet yX0_isSet ∈ TB := tb_3 (List.mem_of_getElem? (i := 153) rfl) rfl
theorem kc_X0_isSet : Cond.code yX0_isSet cX0_isSet 2 (some .boolean) ∈ TB := tb_3 (List.mem_of_getElem? (i := 154) rfl) rfl
theorem km_X0_44 : Cond.methodLink RX0 44 yX0_all ∈ TB := tb_3 (List.mem_of_getElem? (i := 155) rfl) rfl
theorem km_X3_125 : Cond.methodLink RX3 125 yX2_canSound ∈ TB := tb_3 (List.mem_of_getElem? (i := 156) rfl) rfl
theorem ki_X2_canSound : Cond.instanceMethod yX2_canSound ∈ TB := tb_3 (List.mem_of_getElem? (i := 157) rfl) rfl
theorem ks_X2_canSound : Cond.selects RX2 yX2_canSound yX2_canSound ∈ TB := tb_3 (List.mem_of_getElem? (i := 158) rfl) rfl
theorem kc_X2_canSound : Cond.code yX2_canSound cX2_canSound 3 (some .boolean) ∈ TB := tb_3 (List.mem_of_getElem? (i := 159) rfl) rfl
theorem km_X2_116 : Cond.methodLink RX2 116 yX7_lowBy ∈ TB := tb_3 (List.mem_of_getElem? (i := 160) rfl) rfl
theorem ki_X7_lowBy : Cond.instanceMethod yX7_lowBy ∈ TB := tb_3 (List.mem_of_getElem? (i := 161) rfl) rfl
theorem ks_X7_lowBy : Cond.selects RX7 yX7_lowBy yX7_lowBy ∈ TB := tb_3 (List.mem_of_getElem? (i := 162) rfl) rfl
theorem kc_X7_lowBy : Cond.code yX7_lowBy cX7_lowBy 7 (some .long) ∈ TB := tb_3 (List.mem_of_getElem? (i := 163) rfl) rfl
theorem km_X7_91 : Cond.methodLink RX7 91 yX7_slot ∈ TB := tb_3 (List.mem_of_getElem? (i := 164) rfl) rfl
theorem ki_X7_slot : Cond.instanceMethod yX7_slot ∈ TB := tb_3 (List.mem_of_getElem? (i := 165) rfl) rfl
theorem ks_X7_slot : Cond.selects RX7 yX7_slot yX7_slot ∈ TB := tb_3 (List.mem_of_getElem? (i := 166) rfl) rfl
theorem kc_X7_slot : Cond.code yX7_slot cX7_slot 13 (some .int) ∈ TB := tb_3 (List.mem_of_getElem? (i := 167) rfl) rfl
theorem km_X7_87 : Cond.methodLink RX7 87 yX0_wrongWith ∈ TB := tb_3 (List.mem_of_getElem? (i := 168) rfl) rfl
theorem ki_X0_wrongWith : Cond.instanceMethod yX0_wrongWith ∈ TB := tb_3 (List.mem_of_getElem? (i := 169) rfl) rfl
theorem ks_X0_wrongWith : Cond.selects RX0 yX0_wrongWith yX0_wrongWith ∈ TB := tb_3 (List.mem_of_getElem? (i := 170) rfl) rfl
theorem kc_X0_wrongWith : Cond.code yX0_wrongWith cX0_wrongWith 5 (some .int) ∈ TB := tb_3 (List.mem_of_getElem? (i := 171) rfl) rfl
theorem km_X0_55 : Cond.methodLink RX0 55 yJ6_bitCount_0f7a4 ∈ TB := tb_3 (List.mem_of_getElem? (i := 172) rfl) rfl
theorem km_X2_120 : Cond.methodLink RX2 120 yX7_highBy ∈ TB := tb_3 (List.mem_of_getElem? (i := 173) rfl) rfl
theorem ki_X7_highBy : Cond.instanceMethod yX7_highBy ∈ TB := tb_3 (List.mem_of_getElem? (i := 174) rfl) rfl
theorem ks_X7_highBy : Cond.selects RX7 yX7_highBy yX7_highBy ∈ TB := tb_3 (List.mem_of_getElem? (i := 175) rfl) rfl
theorem kc_X7_highBy : Cond.code yX7_highBy cX7_highBy 7 (some .long) ∈ TB := tb_3 (List.mem_of_getElem? (i := 176) rfl) rfl
theorem km_X3_128 : Cond.methodLink RX3 128 yX0_has ∈ TB := tb_3 (List.mem_of_getElem? (i := 177) rfl) rfl
theorem km_X3_73 : Cond.methodLink RX3 73 yX3_tell ∈ TB := tb_3 (List.mem_of_getElem? (i := 178) rfl) rfl
theorem ki_X3_tell : Cond.instanceMethod yX3_tell ∈ TB := tb_3 (List.mem_of_getElem? (i := 180) rfl) rfl
theorem ks_X3_tell : Cond.selects RX3 yX3_tell yX3_tell ∈ TB := tb_p1 (q := (yX3_tell, 4)) (List.mem_of_getElem? (i := 11) rfl)
theorem kc_X3_tell : Cond.code yX3_tell cX3_tell 3 none ∈ TB := tb_3 (List.mem_of_getElem? (i := 181) rfl) rfl
theorem km_X3_131 : Cond.methodLink RX3 131 yX2_join ∈ TB := tb_3 (List.mem_of_getElem? (i := 182) rfl) rfl
theorem km_X3_135 : Cond.methodLink RX3 135 yX2_put ∈ TB := tb_3 (List.mem_of_getElem? (i := 183) rfl) rfl
theorem km_X3_139 : Cond.methodLink RX3 139 yX2_learn ∈ TB := tb_3 (List.mem_of_getElem? (i := 184) rfl) rfl
theorem ki_X2_learn : Cond.instanceMethod yX2_learn ∈ TB := tb_3 (List.mem_of_getElem? (i := 185) rfl) rfl
theorem ks_X2_learn : Cond.selects RX2 yX2_learn yX2_learn ∈ TB := tb_3 (List.mem_of_getElem? (i := 186) rfl) rfl
theorem kc_X2_learn : Cond.code yX2_learn cX2_learn 3 none ∈ TB := tb_3 (List.mem_of_getElem? (i := 187) rfl) rfl
theorem km_X2_123 : Cond.methodLink RX2 123 yX2_isKnown ∈ TB := tb_3 (List.mem_of_getElem? (i := 188) rfl) rfl
theorem ki_X2_isKnown : Cond.instanceMethod yX2_isKnown ∈ TB := tb_3 (List.mem_of_getElem? (i := 189) rfl) rfl
theorem ks_X2_isKnown : Cond.selects RX2 yX2_isKnown yX2_isKnown ∈ TB := tb_3 (List.mem_of_getElem? (i := 190) rfl) rfl
theorem kc_X2_isKnown : Cond.code yX2_isKnown cX2_isKnown 4 (some .boolean) ∈ TB := tb_3 (List.mem_of_getElem? (i := 191) rfl) rfl
theorem km_X2_126 : Cond.methodLink RX2 126 yX2_hasRoom ∈ TB := tb_3 (List.mem_of_getElem? (i := 192) rfl) rfl
theorem km_X3_142 : Cond.methodLink RX3 142 yX2_changePlaces ∈ TB := tb_3 (List.mem_of_getElem? (i := 193) rfl) rfl
theorem ki_X2_changePlaces : Cond.instanceMethod yX2_changePlaces ∈ TB := tb_3 (List.mem_of_getElem? (i := 194) rfl) rfl
theorem ks_X2_changePlaces : Cond.selects RX2 yX2_changePlaces yX2_changePlaces ∈ TB := tb_3 (List.mem_of_getElem? (i := 195) rfl) rfl
theorem kc_X2_changePlaces : Cond.code yX2_changePlaces cX2_changePlaces 3 none ∈ TB := tb_3 (List.mem_of_getElem? (i := 196) rfl) rfl
theorem km_X2_87 : Cond.methodLink RX2 87 yX0_exchange ∈ TB := tb_3 (List.mem_of_getElem? (i := 197) rfl) rfl
theorem ki_X0_exchange : Cond.instanceMethod yX0_exchange ∈ TB := tb_3 (List.mem_of_getElem? (i := 198) rfl) rfl
theorem ks_X0_exchange : Cond.selects RX0 yX0_exchange yX0_exchange ∈ TB := tb_3 (List.mem_of_getElem? (i := 199) rfl) rfl
theorem kc_X0_exchange : Cond.code yX0_exchange cX0_exchange 4 none ∈ TB := tb_3 (List.mem_of_getElem? (i := 200) rfl) rfl
theorem km_X8_184 : Cond.methodLink RX8 184 yX3_goesOn ∈ TB := tb_3 (List.mem_of_getElem? (i := 201) rfl) rfl
theorem ki_X3_goesOn : Cond.instanceMethod yX3_goesOn ∈ TB := tb_3 (List.mem_of_getElem? (i := 202) rfl) rfl
theorem ks_X3_goesOn : Cond.selects RX3 yX3_goesOn yX3_goesOn ∈ TB := tb_3 (List.mem_of_getElem? (i := 203) rfl) rfl
theorem kc_X3_goesOn : Cond.code yX3_goesOn cX3_goesOn 1 (some .boolean) ∈ TB := tb_3 (List.mem_of_getElem? (i := 204) rfl) rfl
theorem kf_X3_26 : Cond.fieldLink RX3 26 "OnlyMovesHisLips$Shelf" "length" "I" ∈ TB := tb_2 (List.mem_of_getElem? (i := 30) rfl) rfl
theorem km_L_64 : Cond.methodLink RL 64 yX9_loft ∈ TB := tb_6 (List.mem_of_getElem? (i := 81) rfl) rfl
theorem ki_X9_loft : Cond.instanceMethod yX9_loft ∈ TB := tb_6 (List.mem_of_getElem? (i := 82) rfl) rfl
theorem ks_X9_loft : Cond.selects RX9 yX9_loft yX9_loft ∈ TB := tb_6 (List.mem_of_getElem? (i := 83) rfl) rfl
theorem kc_X9_loft : Cond.code yX9_loft cX9_loft 5 (some .int) ∈ TB := tb_6 (List.mem_of_getElem? (i := 84) rfl) rfl
theorem kf_X9_159 : Cond.fieldLink RX9 159 "OnlyMovesHisLipsModel" "base" "I" ∈ TB := tb_5 (List.mem_of_getElem? (i := 94) rfl) rfl
theorem kf_X9_153 : Cond.fieldLink RX9 153 "OnlyMovesHisLipsModel" "at" "I" ∈ TB := tb_5 (List.mem_of_getElem? (i := 95) rfl) rfl
theorem kf_X9_156 : Cond.fieldLink RX9 156 "OnlyMovesHisLipsModel" "end" "I" ∈ TB := tb_5 (List.mem_of_getElem? (i := 96) rfl) rfl
theorem kf_X9_150 : Cond.fieldLink RX9 150 "OnlyMovesHisLipsModel" "wrongAt" "I" ∈ TB := tb_5 (List.mem_of_getElem? (i := 98) rfl) rfl
theorem km_X9_117 : Cond.methodLink RX9 117 yX9_wanted ∈ TB := tb_6 (List.mem_of_getElem? (i := 85) rfl) rfl
theorem ki_X9_wanted : Cond.instanceMethod yX9_wanted ∈ TB := tb_6 (List.mem_of_getElem? (i := 87) rfl) rfl
theorem ks_X9_wanted : Cond.selects RX9 yX9_wanted yX9_wanted ∈ TB := tb_p3 (q := (yX9_wanted, 45)) (List.mem_of_getElem? (i := 6) rfl)
theorem kc_X9_wanted : Cond.code yX9_wanted cX9_wanted 2 (some .int) ∈ TB := tb_6 (List.mem_of_getElem? (i := 88) rfl) rfl
theorem km_X9_207 : Cond.methodLink RX9 207 yX9_all ∈ TB := tb_6 (List.mem_of_getElem? (i := 89) rfl) rfl
theorem ki_X9_all : Cond.instanceMethod yX9_all ∈ TB := tb_6 (List.mem_of_getElem? (i := 91) rfl) rfl
theorem ks_X9_all : Cond.selects RX9 yX9_all yX9_all ∈ TB := tb_p3 (q := (yX9_all, 45)) (List.mem_of_getElem? (i := 7) rfl)
theorem kc_X9_all : Cond.code yX9_all cX9_all 4 none ∈ TB := tb_6 (List.mem_of_getElem? (i := 92) rfl) rfl
theorem km_X9_203 : Cond.methodLink RX9 203 yX9_carries ∈ TB := tb_6 (List.mem_of_getElem? (i := 93) rfl) rfl
theorem ki_X9_carries : Cond.instanceMethod yX9_carries ∈ TB := tb_6 (List.mem_of_getElem? (i := 95) rfl) rfl
theorem ks_X9_carries : Cond.selects RX9 yX9_carries yX9_carries ∈ TB := tb_p3 (q := (yX9_carries, 45)) (List.mem_of_getElem? (i := 8) rfl)
theorem kc_X9_carries : Cond.code yX9_carries cX9_carries 7 (some .int) ∈ TB := tb_6 (List.mem_of_getElem? (i := 96) rfl) rfl
theorem km_X9_211 : Cond.methodLink RX9 211 yX9_item ∈ TB := tb_6 (List.mem_of_getElem? (i := 97) rfl) rfl
theorem ki_X9_item : Cond.instanceMethod yX9_item ∈ TB := tb_6 (List.mem_of_getElem? (i := 99) rfl) rfl
theorem ks_X9_item : Cond.selects RX9 yX9_item yX9_item ∈ TB := tb_p3 (q := (yX9_item, 45)) (List.mem_of_getElem? (i := 9) rfl)
theorem kc_X9_item : Cond.code yX9_item cX9_item 4 (some .boolean) ∈ TB := tb_6 (List.mem_of_getElem? (i := 100) rfl) rfl
theorem kf_X9_162 : Cond.fieldLink RX9 162 "OnlyMovesHisLipsModel" "number" "I" ∈ TB := tb_5 (List.mem_of_getElem? (i := 97) rfl) rfl
theorem km_X9_181 : Cond.methodLink RX9 181 yX9_isWordAt ∈ TB := tb_6 (List.mem_of_getElem? (i := 101) rfl) rfl
theorem ki_X9_isWordAt : Cond.instanceMethod yX9_isWordAt ∈ TB := tb_6 (List.mem_of_getElem? (i := 103) rfl) rfl
theorem ks_X9_isWordAt : Cond.selects RX9 yX9_isWordAt yX9_isWordAt ∈ TB := tb_p3 (q := (yX9_isWordAt, 45)) (List.mem_of_getElem? (i := 10) rfl)
theorem kc_X9_isWordAt : Cond.code yX9_isWordAt cX9_isWordAt 4 (some .boolean) ∈ TB := tb_6 (List.mem_of_getElem? (i := 104) rfl) rfl
theorem km_X9_169 : Cond.methodLink RX9 169 yX9_wrong ∈ TB := tb_6 (List.mem_of_getElem? (i := 105) rfl) rfl
theorem ki_X9_wrong : Cond.instanceMethod yX9_wrong ∈ TB := tb_6 (List.mem_of_getElem? (i := 107) rfl) rfl
theorem ks_X9_wrong : Cond.selects RX9 yX9_wrong yX9_wrong ∈ TB := tb_p3 (q := (yX9_wrong, 45)) (List.mem_of_getElem? (i := 11) rfl)
theorem kc_X9_wrong : Cond.code yX9_wrong cX9_wrong 2 (some .boolean) ∈ TB := tb_6 (List.mem_of_getElem? (i := 108) rfl) rfl
theorem km_X9_184 : Cond.methodLink RX9 184 yX9_word ∈ TB := tb_6 (List.mem_of_getElem? (i := 109) rfl) rfl
theorem ki_X9_word : Cond.instanceMethod yX9_word ∈ TB := tb_6 (List.mem_of_getElem? (i := 111) rfl) rfl
theorem ks_X9_word : Cond.selects RX9 yX9_word yX9_word ∈ TB := tb_p3 (q := (yX9_word, 45)) (List.mem_of_getElem? (i := 12) rfl)
theorem kc_X9_word : Cond.code yX9_word cX9_word 6 (some .int) ∈ TB := tb_6 (List.mem_of_getElem? (i := 112) rfl) rfl
theorem km_X9_187 : Cond.methodLink RX9 187 yX9_reads ∈ TB := tb_6 (List.mem_of_getElem? (i := 113) rfl) rfl
theorem ki_X9_reads : Cond.instanceMethod yX9_reads ∈ TB := tb_6 (List.mem_of_getElem? (i := 115) rfl) rfl
theorem ks_X9_reads : Cond.selects RX9 yX9_reads yX9_reads ∈ TB := tb_p3 (q := (yX9_reads, 45)) (List.mem_of_getElem? (i := 13) rfl)
theorem kc_X9_reads : Cond.code yX9_reads cX9_reads 2 (some .boolean) ∈ TB := tb_6 (List.mem_of_getElem? (i := 116) rfl) rfl
theorem km_X9_165 : Cond.methodLink RX9 165 yX9_isDigit ∈ TB := tb_6 (List.mem_of_getElem? (i := 117) rfl) rfl
theorem ki_X9_isDigit : Cond.instanceMethod yX9_isDigit ∈ TB := tb_6 (List.mem_of_getElem? (i := 119) rfl) rfl
theorem ks_X9_isDigit : Cond.selects RX9 yX9_isDigit yX9_isDigit ∈ TB := tb_p3 (q := (yX9_isDigit, 45)) (List.mem_of_getElem? (i := 14) rfl)
theorem kc_X9_isDigit : Cond.code yX9_isDigit cX9_isDigit 1 (some .boolean) ∈ TB := tb_6 (List.mem_of_getElem? (i := 120) rfl) rfl
theorem km_X9_190 : Cond.methodLink RX9 190 yX9_isSo ∈ TB := tb_6 (List.mem_of_getElem? (i := 121) rfl) rfl
theorem ki_X9_isSo : Cond.instanceMethod yX9_isSo ∈ TB := tb_6 (List.mem_of_getElem? (i := 123) rfl) rfl
theorem ks_X9_isSo : Cond.selects RX9 yX9_isSo yX9_isSo ∈ TB := tb_p3 (q := (yX9_isSo, 45)) (List.mem_of_getElem? (i := 15) rfl)
theorem kc_X9_isSo : Cond.code yX9_isSo cX9_isSo 3 (some .boolean) ∈ TB := tb_6 (List.mem_of_getElem? (i := 124) rfl) rfl
theorem km_X9_172 : Cond.methodLink RX9 172 yX9_isSet ∈ TB := tb_6 (List.mem_of_getElem? (i := 125) rfl) rfl
theorem ki_X9_isSet : Cond.instanceMethod yX9_isSet ∈ TB := tb_6 (List.mem_of_getElem? (i := 127) rfl) rfl
theorem ks_X9_isSet : Cond.selects RX9 yX9_isSet yX9_isSet ∈ TB := tb_p4 (q := (yX9_isSet, 45)) (List.mem_of_getElem? (i := 0) rfl)
theorem kc_X9_isSet : Cond.code yX9_isSet cX9_isSet 2 (some .boolean) ∈ TB := tb_6 (List.mem_of_getElem? (i := 128) rfl) rfl
theorem km_X9_175 : Cond.methodLink RX9 175 yX9_isOne ∈ TB := tb_6 (List.mem_of_getElem? (i := 129) rfl) rfl
theorem ki_X9_isOne : Cond.instanceMethod yX9_isOne ∈ TB := tb_6 (List.mem_of_getElem? (i := 131) rfl) rfl
theorem ks_X9_isOne : Cond.selects RX9 yX9_isOne yX9_isOne ∈ TB := tb_p4 (q := (yX9_isOne, 45)) (List.mem_of_getElem? (i := 1) rfl)
theorem kc_X9_isOne : Cond.code yX9_isOne cX9_isOne 2 (some .boolean) ∈ TB := tb_6 (List.mem_of_getElem? (i := 132) rfl) rfl
theorem km_X9_178 : Cond.methodLink RX9 178 yX9_mayBe ∈ TB := tb_6 (List.mem_of_getElem? (i := 133) rfl) rfl
theorem ki_X9_mayBe : Cond.instanceMethod yX9_mayBe ∈ TB := tb_6 (List.mem_of_getElem? (i := 135) rfl) rfl
theorem ks_X9_mayBe : Cond.selects RX9 yX9_mayBe yX9_mayBe ∈ TB := tb_p4 (q := (yX9_mayBe, 45)) (List.mem_of_getElem? (i := 2) rfl)
theorem kc_X9_mayBe : Cond.code yX9_mayBe cX9_mayBe 4 (some .boolean) ∈ TB := tb_6 (List.mem_of_getElem? (i := 136) rfl) rfl
theorem km_X9_193 : Cond.methodLink RX9 193 yX9_isKnown ∈ TB := tb_6 (List.mem_of_getElem? (i := 137) rfl) rfl
theorem ki_X9_isKnown : Cond.instanceMethod yX9_isKnown ∈ TB := tb_6 (List.mem_of_getElem? (i := 139) rfl) rfl
theorem ks_X9_isKnown : Cond.selects RX9 yX9_isKnown yX9_isKnown ∈ TB := tb_p4 (q := (yX9_isKnown, 45)) (List.mem_of_getElem? (i := 3) rfl)
theorem kc_X9_isKnown : Cond.code yX9_isKnown cX9_isKnown 4 (some .boolean) ∈ TB := tb_6 (List.mem_of_getElem? (i := 140) rfl) rfl
theorem km_X9_196 : Cond.methodLink RX9 196 yX9_knows ∈ TB := tb_6 (List.mem_of_getElem? (i := 141) rfl) rfl
theorem ki_X9_knows : Cond.instanceMethod yX9_knows ∈ TB := tb_6 (List.mem_of_getElem? (i := 143) rfl) rfl
theorem ks_X9_knows : Cond.selects RX9 yX9_knows yX9_knows ∈ TB := tb_p4 (q := (yX9_knows, 45)) (List.mem_of_getElem? (i := 4) rfl)
theorem kc_X9_knows : Cond.code yX9_knows cX9_knows 3 none ∈ TB := tb_6 (List.mem_of_getElem? (i := 144) rfl) rfl
theorem km_X9_200 : Cond.methodLink RX9 200 yX9_changes ∈ TB := tb_6 (List.mem_of_getElem? (i := 145) rfl) rfl
theorem ki_X9_changes : Cond.instanceMethod yX9_changes ∈ TB := tb_6 (List.mem_of_getElem? (i := 147) rfl) rfl
theorem ks_X9_changes : Cond.selects RX9 yX9_changes yX9_changes ∈ TB := tb_p4 (q := (yX9_changes, 45)) (List.mem_of_getElem? (i := 5) rfl)
theorem kc_X9_changes : Cond.code yX9_changes cX9_changes 4 none ∈ TB := tb_6 (List.mem_of_getElem? (i := 148) rfl) rfl
theorem km_L_65 : Cond.methodLink RL 65 yX8_fault ∈ TB := tb_3 (List.mem_of_getElem? (i := 206) rfl) rfl
theorem ki_X8_fault : Cond.instanceMethod yX8_fault ∈ TB := tb_3 (List.mem_of_getElem? (i := 207) rfl) rfl
theorem ks_X8_fault : Cond.selects RX8 yX8_fault yX8_fault ∈ TB := tb_3 (List.mem_of_getElem? (i := 208) rfl) rfl
theorem kc_X8_fault : Cond.code yX8_fault cX8_fault 1 (some .int) ∈ TB := tb_3 (List.mem_of_getElem? (i := 209) rfl) rfl
theorem km_L_69 : Cond.methodLink RL 69 yX9_fault ∈ TB := tb_6 (List.mem_of_getElem? (i := 149) rfl) rfl
theorem ki_X9_fault : Cond.instanceMethod yX9_fault ∈ TB := tb_6 (List.mem_of_getElem? (i := 150) rfl) rfl
theorem ks_X9_fault : Cond.selects RX9 yX9_fault yX9_fault ∈ TB := tb_6 (List.mem_of_getElem? (i := 151) rfl) rfl
theorem kc_X9_fault : Cond.code yX9_fault cX9_fault 1 (some .int) ∈ TB := tb_6 (List.mem_of_getElem? (i := 152) rfl) rfl
theorem km_L_70 : Cond.methodLink RL 70 yX8_worlds ∈ TB := tb_3 (List.mem_of_getElem? (i := 210) rfl) rfl
theorem ki_X8_worlds : Cond.instanceMethod yX8_worlds ∈ TB := tb_3 (List.mem_of_getElem? (i := 211) rfl) rfl
theorem ks_X8_worlds : Cond.selects RX8 yX8_worlds yX8_worlds ∈ TB := tb_3 (List.mem_of_getElem? (i := 212) rfl) rfl
theorem kc_X8_worlds : Cond.code yX8_worlds cX8_worlds 2 (some .int) ∈ TB := tb_3 (List.mem_of_getElem? (i := 213) rfl) rfl
theorem kf_X8_190 : Cond.fieldLink RX8 190 "OnlyMovesHisLips$Hall" "worlds" "LOnlyMovesHisLips$Worlds;" ∈ TB := tb_1 (List.mem_of_getElem? (i := 226) rfl) rfl
theorem kf_X8_194 : Cond.fieldLink RX8 194 "OnlyMovesHisLips$Worlds" "count" "I" ∈ TB := tb_1 (List.mem_of_getElem? (i := 193) rfl) rfl
theorem km_X8_197 : Cond.methodLink RX8 197 yX2_possible ∈ TB := tb_3 (List.mem_of_getElem? (i := 214) rfl) rfl
theorem ki_X2_possible : Cond.instanceMethod yX2_possible ∈ TB := tb_3 (List.mem_of_getElem? (i := 215) rfl) rfl
theorem ks_X2_possible : Cond.selects RX2 yX2_possible yX2_possible ∈ TB := tb_3 (List.mem_of_getElem? (i := 216) rfl) rfl
theorem kc_X2_possible : Cond.code yX2_possible cX2_possible 1 (some .int) ∈ TB := tb_3 (List.mem_of_getElem? (i := 217) rfl) rfl
theorem km_X2_108 : Cond.methodLink RX2 108 yX7_countIn ∈ TB := tb_3 (List.mem_of_getElem? (i := 218) rfl) rfl
theorem kt_X7_countIn : Cond.static yX7_countIn ∈ TB := tb_3 (List.mem_of_getElem? (i := 219) rfl) rfl
theorem kc_X7_countIn : Cond.code yX7_countIn cX7_countIn 4 (some .int) ∈ TB := tb_3 (List.mem_of_getElem? (i := 220) rfl) rfl
theorem km_X7_76 : Cond.methodLink RX7 76 yJ13_bitCount_95d88 ∈ TB := tb_3 (List.mem_of_getElem? (i := 221) rfl) rfl
theorem kt_J13_bitCount_95d88 : Cond.static yJ13_bitCount_95d88 ∈ TB := tb_3 (List.mem_of_getElem? (i := 222) rfl) rfl
theorem kn_J13 : Cond.initialized RJ13 ∈ TB := tb_1 (List.mem_of_getElem? (i := 18) rfl) rfl
theorem kc_J13_bitCount_95d88 : Cond.code yJ13_bitCount_95d88 cJ13_bitCount_95d88 2 (some .int) ∈ TB := tb_3 (List.mem_of_getElem? (i := 223) rfl) rfl
theorem kk_J13_314 : Cond.constantLong RJ13 314 (6148914691236517205) ∈ TB := tb_3 (List.mem_of_getElem? (i := 224) rfl) rfl
theorem kk_J13_316 : Cond.constantLong RJ13 316 (3689348814741910323) ∈ TB := tb_3 (List.mem_of_getElem? (i := 225) rfl) rfl
theorem kk_J13_318 : Cond.constantLong RJ13 318 (1085102592571150095) ∈ TB := tb_3 (List.mem_of_getElem? (i := 226) rfl) rfl
theorem km_L_73 : Cond.methodLink RL 73 yX9_worlds ∈ TB := tb_6 (List.mem_of_getElem? (i := 153) rfl) rfl
theorem ki_X9_worlds : Cond.instanceMethod yX9_worlds ∈ TB := tb_6 (List.mem_of_getElem? (i := 154) rfl) rfl
theorem ks_X9_worlds : Cond.selects RX9 yX9_worlds yX9_worlds ∈ TB := tb_6 (List.mem_of_getElem? (i := 155) rfl) rfl
theorem kc_X9_worlds : Cond.code yX9_worlds cX9_worlds 2 (some .int) ∈ TB := tb_6 (List.mem_of_getElem? (i := 156) rfl) rfl
theorem km_L_74 : Cond.methodLink RL 74 yX8_world ∈ TB := tb_3 (List.mem_of_getElem? (i := 227) rfl) rfl
theorem ki_X8_world : Cond.instanceMethod yX8_world ∈ TB := tb_3 (List.mem_of_getElem? (i := 228) rfl) rfl
theorem ks_X8_world : Cond.selects RX8 yX8_world yX8_world ∈ TB := tb_3 (List.mem_of_getElem? (i := 229) rfl) rfl
theorem kc_X8_world : Cond.code yX8_world cX8_world 2 (some .int) ∈ TB := tb_3 (List.mem_of_getElem? (i := 230) rfl) rfl
theorem km_X8_201 : Cond.methodLink RX8 201 yX2_possibleWorld ∈ TB := tb_3 (List.mem_of_getElem? (i := 231) rfl) rfl
theorem ki_X2_possibleWorld : Cond.instanceMethod yX2_possibleWorld ∈ TB := tb_3 (List.mem_of_getElem? (i := 232) rfl) rfl
theorem ks_X2_possibleWorld : Cond.selects RX2 yX2_possibleWorld yX2_possibleWorld ∈ TB := tb_3 (List.mem_of_getElem? (i := 233) rfl) rfl
theorem kc_X2_possibleWorld : Cond.code yX2_possibleWorld cX2_possibleWorld 4 (some .int) ∈ TB := tb_3 (List.mem_of_getElem? (i := 234) rfl) rfl
theorem km_L_77 : Cond.methodLink RL 77 yX9_world ∈ TB := tb_6 (List.mem_of_getElem? (i := 157) rfl) rfl
theorem ki_X9_world : Cond.instanceMethod yX9_world ∈ TB := tb_6 (List.mem_of_getElem? (i := 158) rfl) rfl
theorem ks_X9_world : Cond.selects RX9 yX9_world yX9_world ∈ TB := tb_6 (List.mem_of_getElem? (i := 159) rfl) rfl
theorem kc_X9_world : Cond.code yX9_world cX9_world 2 (some .int) ∈ TB := tb_6 (List.mem_of_getElem? (i := 160) rfl) rfl
theorem km_L_78 : Cond.methodLink RL 78 yX8_sounds ∈ TB := tb_3 (List.mem_of_getElem? (i := 235) rfl) rfl
theorem ki_X8_sounds : Cond.instanceMethod yX8_sounds ∈ TB := tb_3 (List.mem_of_getElem? (i := 236) rfl) rfl
theorem ks_X8_sounds : Cond.selects RX8 yX8_sounds yX8_sounds ∈ TB := tb_3 (List.mem_of_getElem? (i := 237) rfl) rfl
theorem kc_X8_sounds : Cond.code yX8_sounds cX8_sounds 4 (some .int) ∈ TB := tb_3 (List.mem_of_getElem? (i := 238) rfl) rfl
theorem km_X8_204 : Cond.methodLink RX8 204 yX7_indexOf ∈ TB := tb_3 (List.mem_of_getElem? (i := 239) rfl) rfl
theorem ki_X7_indexOf : Cond.instanceMethod yX7_indexOf ∈ TB := tb_4 (List.mem_of_getElem? (i := 0) rfl) rfl
theorem ks_X7_indexOf : Cond.selects RX7 yX7_indexOf yX7_indexOf ∈ TB := tb_4 (List.mem_of_getElem? (i := 1) rfl) rfl
theorem kc_X7_indexOf : Cond.code yX7_indexOf cX7_indexOf 3 (some .int) ∈ TB := tb_4 (List.mem_of_getElem? (i := 2) rfl) rfl
theorem km_X8_207 : Cond.methodLink RX8 207 yX0_isSet ∈ TB := tb_4 (List.mem_of_getElem? (i := 3) rfl) rfl
theorem km_X8_210 : Cond.methodLink RX8 210 yX7_soundOf ∈ TB := tb_4 (List.mem_of_getElem? (i := 4) rfl) rfl
theorem ki_X7_soundOf : Cond.instanceMethod yX7_soundOf ∈ TB := tb_4 (List.mem_of_getElem? (i := 5) rfl) rfl
theorem ks_X7_soundOf : Cond.selects RX7 yX7_soundOf yX7_soundOf ∈ TB := tb_4 (List.mem_of_getElem? (i := 6) rfl) rfl
theorem kc_X7_soundOf : Cond.code yX7_soundOf cX7_soundOf 4 (some .int) ∈ TB := tb_4 (List.mem_of_getElem? (i := 7) rfl) rfl
theorem km_X7_83 : Cond.methodLink RX7 83 yX7_isIn ∈ TB := tb_4 (List.mem_of_getElem? (i := 8) rfl) rfl
theorem km_L_81 : Cond.methodLink RL 81 yX9_sounds ∈ TB := tb_6 (List.mem_of_getElem? (i := 161) rfl) rfl
theorem ki_X9_sounds : Cond.instanceMethod yX9_sounds ∈ TB := tb_6 (List.mem_of_getElem? (i := 162) rfl) rfl
theorem ks_X9_sounds : Cond.selects RX9 yX9_sounds yX9_sounds ∈ TB := tb_6 (List.mem_of_getElem? (i := 163) rfl) rfl
theorem kc_X9_sounds : Cond.code yX9_sounds cX9_sounds 3 (some .int) ∈ TB := tb_6 (List.mem_of_getElem? (i := 164) rfl) rfl
theorem km_X9_242 : Cond.methodLink RX9 242 yX9_isWorld ∈ TB := tb_6 (List.mem_of_getElem? (i := 165) rfl) rfl
theorem ki_X9_isWorld : Cond.instanceMethod yX9_isWorld ∈ TB := tb_6 (List.mem_of_getElem? (i := 167) rfl) rfl
theorem ks_X9_isWorld : Cond.selects RX9 yX9_isWorld yX9_isWorld ∈ TB := tb_p4 (q := (yX9_isWorld, 45)) (List.mem_of_getElem? (i := 6) rfl)
theorem kc_X9_isWorld : Cond.code yX9_isWorld cX9_isWorld 2 (some .boolean) ∈ TB := tb_6 (List.mem_of_getElem? (i := 168) rfl) rfl
theorem km_L_82 : Cond.methodLink RL 82 yX8_heard ∈ TB := tb_4 (List.mem_of_getElem? (i := 9) rfl) rfl
theorem ki_X8_heard : Cond.instanceMethod yX8_heard ∈ TB := tb_4 (List.mem_of_getElem? (i := 10) rfl) rfl
theorem ks_X8_heard : Cond.selects RX8 yX8_heard yX8_heard ∈ TB := tb_4 (List.mem_of_getElem? (i := 11) rfl) rfl
theorem kc_X8_heard : Cond.code yX8_heard cX8_heard 3 (some .int) ∈ TB := tb_4 (List.mem_of_getElem? (i := 12) rfl) rfl
theorem km_X8_213 : Cond.methodLink RX8 213 yX2_canSound ∈ TB := tb_4 (List.mem_of_getElem? (i := 13) rfl) rfl
theorem km_X8_216 : Cond.methodLink RX8 216 yX2_isKnown ∈ TB := tb_4 (List.mem_of_getElem? (i := 14) rfl) rfl
theorem km_X8_219 : Cond.methodLink RX8 219 yX2_hasRoom ∈ TB := tb_4 (List.mem_of_getElem? (i := 15) rfl) rfl
theorem km_X8_220 : Cond.methodLink RX8 220 yX2_learn ∈ TB := tb_4 (List.mem_of_getElem? (i := 16) rfl) rfl
theorem km_L_85 : Cond.methodLink RL 85 yX9_heard ∈ TB := tb_6 (List.mem_of_getElem? (i := 169) rfl) rfl
theorem ki_X9_heard : Cond.instanceMethod yX9_heard ∈ TB := tb_6 (List.mem_of_getElem? (i := 170) rfl) rfl
theorem ks_X9_heard : Cond.selects RX9 yX9_heard yX9_heard ∈ TB := tb_6 (List.mem_of_getElem? (i := 171) rfl) rfl
theorem kc_X9_heard : Cond.code yX9_heard cX9_heard 3 (some .int) ∈ TB := tb_6 (List.mem_of_getElem? (i := 172) rfl) rfl
theorem km_L_86 : Cond.methodLink RL 86 yX8_known ∈ TB := tb_4 (List.mem_of_getElem? (i := 17) rfl) rfl
theorem ki_X8_known : Cond.instanceMethod yX8_known ∈ TB := tb_4 (List.mem_of_getElem? (i := 18) rfl) rfl
theorem ks_X8_known : Cond.selects RX8 yX8_known yX8_known ∈ TB := tb_4 (List.mem_of_getElem? (i := 19) rfl) rfl
theorem kc_X8_known : Cond.code yX8_known cX8_known 2 (some .int) ∈ TB := tb_4 (List.mem_of_getElem? (i := 20) rfl) rfl
theorem kf_X8_223 : Cond.fieldLink RX8 223 "OnlyMovesHisLips$Hall" "hearingCount" "I" ∈ TB := tb_1 (List.mem_of_getElem? (i := 231) rfl) rfl
theorem kf_X8_226 : Cond.fieldLink RX8 226 "OnlyMovesHisLips$Hall" "hearings" "[I" ∈ TB := tb_1 (List.mem_of_getElem? (i := 229) rfl) rfl
theorem km_L_89 : Cond.methodLink RL 89 yX9_known ∈ TB := tb_6 (List.mem_of_getElem? (i := 173) rfl) rfl
theorem ki_X9_known : Cond.instanceMethod yX9_known ∈ TB := tb_6 (List.mem_of_getElem? (i := 174) rfl) rfl
theorem ks_X9_known : Cond.selects RX9 yX9_known yX9_known ∈ TB := tb_6 (List.mem_of_getElem? (i := 175) rfl) rfl
theorem kc_X9_known : Cond.code yX9_known cX9_known 2 (some .int) ∈ TB := tb_6 (List.mem_of_getElem? (i := 176) rfl) rfl
theorem km_L_90 : Cond.methodLink RL 90 yX8_forget ∈ TB := tb_4 (List.mem_of_getElem? (i := 21) rfl) rfl
theorem ki_X8_forget : Cond.instanceMethod yX8_forget ∈ TB := tb_4 (List.mem_of_getElem? (i := 22) rfl) rfl
theorem ks_X8_forget : Cond.selects RX8 yX8_forget yX8_forget ∈ TB := tb_4 (List.mem_of_getElem? (i := 23) rfl) rfl
theorem kc_X8_forget : Cond.code yX8_forget cX8_forget 2 (some .int) ∈ TB := tb_4 (List.mem_of_getElem? (i := 24) rfl) rfl
theorem km_X8_229 : Cond.methodLink RX8 229 yX2_forgetAll ∈ TB := tb_4 (List.mem_of_getElem? (i := 25) rfl) rfl
theorem km_L_93 : Cond.methodLink RL 93 yX9_forget ∈ TB := tb_6 (List.mem_of_getElem? (i := 177) rfl) rfl
theorem ki_X9_forget : Cond.instanceMethod yX9_forget ∈ TB := tb_6 (List.mem_of_getElem? (i := 178) rfl) rfl
theorem ks_X9_forget : Cond.selects RX9 yX9_forget yX9_forget ∈ TB := tb_6 (List.mem_of_getElem? (i := 179) rfl) rfl
theorem kc_X9_forget : Cond.code yX9_forget cX9_forget 2 (some .int) ∈ TB := tb_6 (List.mem_of_getElem? (i := 180) rfl) rfl
theorem km_L_94 : Cond.methodLink RL 94 yX8_may ∈ TB := tb_4 (List.mem_of_getElem? (i := 26) rfl) rfl
theorem ki_X8_may : Cond.instanceMethod yX8_may ∈ TB := tb_4 (List.mem_of_getElem? (i := 27) rfl) rfl
theorem ks_X8_may : Cond.selects RX8 yX8_may yX8_may ∈ TB := tb_4 (List.mem_of_getElem? (i := 28) rfl) rfl
theorem kc_X8_may : Cond.code yX8_may cX8_may 2 (some .int) ∈ TB := tb_4 (List.mem_of_getElem? (i := 29) rfl) rfl
theorem km_X8_232 : Cond.methodLink RX8 232 yX2_wrongInSome ∈ TB := tb_4 (List.mem_of_getElem? (i := 30) rfl) rfl
theorem ki_X2_wrongInSome : Cond.instanceMethod yX2_wrongInSome ∈ TB := tb_4 (List.mem_of_getElem? (i := 31) rfl) rfl
theorem ks_X2_wrongInSome : Cond.selects RX2 yX2_wrongInSome yX2_wrongInSome ∈ TB := tb_4 (List.mem_of_getElem? (i := 32) rfl) rfl
theorem kc_X2_wrongInSome : Cond.code yX2_wrongInSome cX2_wrongInSome 3 (some .int) ∈ TB := tb_4 (List.mem_of_getElem? (i := 33) rfl) rfl
theorem km_X8_235 : Cond.methodLink RX8 235 yX2_wrongInAll ∈ TB := tb_4 (List.mem_of_getElem? (i := 34) rfl) rfl
theorem ki_X2_wrongInAll : Cond.instanceMethod yX2_wrongInAll ∈ TB := tb_4 (List.mem_of_getElem? (i := 35) rfl) rfl
theorem ks_X2_wrongInAll : Cond.selects RX2 yX2_wrongInAll yX2_wrongInAll ∈ TB := tb_4 (List.mem_of_getElem? (i := 36) rfl) rfl
theorem kc_X2_wrongInAll : Cond.code yX2_wrongInAll cX2_wrongInAll 3 (some .int) ∈ TB := tb_4 (List.mem_of_getElem? (i := 37) rfl) rfl
theorem km_X2_130 : Cond.methodLink RX2 130 yX2_possible ∈ TB := tb_4 (List.mem_of_getElem? (i := 38) rfl) rfl
theorem km_X2_134 : Cond.methodLink RX2 134 yX0_all ∈ TB := tb_4 (List.mem_of_getElem? (i := 39) rfl) rfl
theorem km_L_97 : Cond.methodLink RL 97 yX9_may ∈ TB := tb_6 (List.mem_of_getElem? (i := 181) rfl) rfl
theorem ki_X9_may : Cond.instanceMethod yX9_may ∈ TB := tb_6 (List.mem_of_getElem? (i := 182) rfl) rfl
theorem ks_X9_may : Cond.selects RX9 yX9_may yX9_may ∈ TB := tb_6 (List.mem_of_getElem? (i := 183) rfl) rfl
theorem kc_X9_may : Cond.code yX9_may cX9_may 6 (some .int) ∈ TB := tb_6 (List.mem_of_getElem? (i := 184) rfl) rfl
theorem km_L_98 : Cond.methodLink RL 98 yX8_likeliest ∈ TB := tb_4 (List.mem_of_getElem? (i := 40) rfl) rfl
theorem ki_X8_likeliest : Cond.instanceMethod yX8_likeliest ∈ TB := tb_4 (List.mem_of_getElem? (i := 41) rfl) rfl
theorem ks_X8_likeliest : Cond.selects RX8 yX8_likeliest yX8_likeliest ∈ TB := tb_4 (List.mem_of_getElem? (i := 42) rfl) rfl
theorem kc_X8_likeliest : Cond.code yX8_likeliest cX8_likeliest 1 (some .int) ∈ TB := tb_4 (List.mem_of_getElem? (i := 43) rfl) rfl
theorem km_X8_238 : Cond.methodLink RX8 238 yX2_likeliestWorld ∈ TB := tb_4 (List.mem_of_getElem? (i := 44) rfl) rfl
theorem ki_X2_likeliestWorld : Cond.instanceMethod yX2_likeliestWorld ∈ TB := tb_4 (List.mem_of_getElem? (i := 45) rfl) rfl
theorem ks_X2_likeliestWorld : Cond.selects RX2 yX2_likeliestWorld yX2_likeliestWorld ∈ TB := tb_4 (List.mem_of_getElem? (i := 46) rfl) rfl
theorem kc_X2_likeliestWorld : Cond.code yX2_likeliestWorld cX2_likeliestWorld 4 (some .int) ∈ TB := tb_4 (List.mem_of_getElem? (i := 47) rfl) rfl
theorem km_L_101 : Cond.methodLink RL 101 yX9_likeliest ∈ TB := tb_6 (List.mem_of_getElem? (i := 185) rfl) rfl
theorem ki_X9_likeliest : Cond.instanceMethod yX9_likeliest ∈ TB := tb_6 (List.mem_of_getElem? (i := 186) rfl) rfl
theorem ks_X9_likeliest : Cond.selects RX9 yX9_likeliest yX9_likeliest ∈ TB := tb_6 (List.mem_of_getElem? (i := 187) rfl) rfl
theorem kc_X9_likeliest : Cond.code yX9_likeliest cX9_likeliest 4 (some .int) ∈ TB := tb_6 (List.mem_of_getElem? (i := 188) rfl) rfl
theorem km_L_102 : Cond.methodLink RL 102 yX8_lawful ∈ TB := tb_4 (List.mem_of_getElem? (i := 48) rfl) rfl
theorem ki_X8_lawful : Cond.instanceMethod yX8_lawful ∈ TB := tb_4 (List.mem_of_getElem? (i := 49) rfl) rfl
theorem ks_X8_lawful : Cond.selects RX8 yX8_lawful yX8_lawful ∈ TB := tb_4 (List.mem_of_getElem? (i := 50) rfl) rfl
theorem kc_X8_lawful : Cond.code yX8_lawful cX8_lawful 2 (some .int) ∈ TB := tb_4 (List.mem_of_getElem? (i := 51) rfl) rfl
theorem km_X8_241 : Cond.methodLink RX8 241 yX2_allows ∈ TB := tb_4 (List.mem_of_getElem? (i := 52) rfl) rfl
theorem ki_X2_allows : Cond.instanceMethod yX2_allows ∈ TB := tb_4 (List.mem_of_getElem? (i := 53) rfl) rfl
theorem ks_X2_allows : Cond.selects RX2 yX2_allows yX2_allows ∈ TB := tb_4 (List.mem_of_getElem? (i := 54) rfl) rfl
theorem kc_X2_allows : Cond.code yX2_allows cX2_allows 2 (some .boolean) ∈ TB := tb_4 (List.mem_of_getElem? (i := 55) rfl) rfl
theorem km_X2_142 : Cond.methodLink RX2 142 yX0_isSet ∈ TB := tb_4 (List.mem_of_getElem? (i := 56) rfl) rfl
theorem km_X2_146 : Cond.methodLink RX2 146 yJ6_bitCount_0f7a4 ∈ TB := tb_4 (List.mem_of_getElem? (i := 57) rfl) rfl
theorem km_X2_152 : Cond.methodLink RX2 152 yX0_isWithoutGap ∈ TB := tb_4 (List.mem_of_getElem? (i := 58) rfl) rfl
theorem ki_X0_isWithoutGap : Cond.instanceMethod yX0_isWithoutGap ∈ TB := tb_4 (List.mem_of_getElem? (i := 59) rfl) rfl
theorem ks_X0_isWithoutGap : Cond.selects RX0 yX0_isWithoutGap yX0_isWithoutGap ∈ TB := tb_4 (List.mem_of_getElem? (i := 60) rfl) rfl
theorem kc_X0_isWithoutGap : Cond.code yX0_isWithoutGap cX0_isWithoutGap 4 (some .boolean) ∈ TB := tb_4 (List.mem_of_getElem? (i := 61) rfl) rfl
theorem km_L_105 : Cond.methodLink RL 105 yX9_lawful ∈ TB := tb_6 (List.mem_of_getElem? (i := 189) rfl) rfl
theorem ki_X9_lawful : Cond.instanceMethod yX9_lawful ∈ TB := tb_6 (List.mem_of_getElem? (i := 190) rfl) rfl
theorem ks_X9_lawful : Cond.selects RX9 yX9_lawful yX9_lawful ∈ TB := tb_6 (List.mem_of_getElem? (i := 191) rfl) rfl
theorem kc_X9_lawful : Cond.code yX9_lawful cX9_lawful 2 (some .int) ∈ TB := tb_6 (List.mem_of_getElem? (i := 192) rfl) rfl
theorem km_X9_248 : Cond.methodLink RX9 248 yX9_isLawful ∈ TB := tb_6 (List.mem_of_getElem? (i := 193) rfl) rfl
theorem ki_X9_isLawful : Cond.instanceMethod yX9_isLawful ∈ TB := tb_6 (List.mem_of_getElem? (i := 195) rfl) rfl
theorem ks_X9_isLawful : Cond.selects RX9 yX9_isLawful yX9_isLawful ∈ TB := tb_p4 (q := (yX9_isLawful, 45)) (List.mem_of_getElem? (i := 7) rfl)
theorem kc_X9_isLawful : Cond.code yX9_isLawful cX9_isLawful 5 (some .boolean) ∈ TB := tb_6 (List.mem_of_getElem? (i := 196) rfl) rfl
theorem km_L_106 : Cond.methodLink RL 106 yX8_parts ∈ TB := tb_4 (List.mem_of_getElem? (i := 62) rfl) rfl
theorem ki_X8_parts : Cond.instanceMethod yX8_parts ∈ TB := tb_4 (List.mem_of_getElem? (i := 63) rfl) rfl
theorem ks_X8_parts : Cond.selects RX8 yX8_parts yX8_parts ∈ TB := tb_4 (List.mem_of_getElem? (i := 64) rfl) rfl
theorem kc_X8_parts : Cond.code yX8_parts cX8_parts 4 (some .int) ∈ TB := tb_4 (List.mem_of_getElem? (i := 65) rfl) rfl
theorem kf_X8_244 : Cond.fieldLink RX8 244 "OnlyMovesHisLips$Hall" "low" "J" ∈ TB := tb_1 (List.mem_of_getElem? (i := 238) rfl) rfl
theorem kf_X8_248 : Cond.fieldLink RX8 248 "OnlyMovesHisLips$Hall" "high" "J" ∈ TB := tb_2 (List.mem_of_getElem? (i := 2) rfl) rfl
theorem km_X8_255 : Cond.methodLink RX8 255 Lib.Math.max.name ∈ TB := tb_4 (List.mem_of_getElem? (i := 70) rfl) rfl
theorem km_X8_251 : Cond.methodLink RX8 251 yX7_wrongAmong ∈ TB := tb_4 (List.mem_of_getElem? (i := 66) rfl) rfl
theorem ki_X7_wrongAmong : Cond.instanceMethod yX7_wrongAmong ∈ TB := tb_4 (List.mem_of_getElem? (i := 67) rfl) rfl
theorem ks_X7_wrongAmong : Cond.selects RX7 yX7_wrongAmong yX7_wrongAmong ∈ TB := tb_4 (List.mem_of_getElem? (i := 68) rfl) rfl
theorem kc_X7_wrongAmong : Cond.code yX7_wrongAmong cX7_wrongAmong 7 (some .int) ∈ TB := tb_4 (List.mem_of_getElem? (i := 69) rfl) rfl
theorem km_L_109 : Cond.methodLink RL 109 yX9_parts ∈ TB := tb_6 (List.mem_of_getElem? (i := 197) rfl) rfl
theorem ki_X9_parts : Cond.instanceMethod yX9_parts ∈ TB := tb_6 (List.mem_of_getElem? (i := 198) rfl) rfl
theorem ks_X9_parts : Cond.selects RX9 yX9_parts yX9_parts ∈ TB := tb_6 (List.mem_of_getElem? (i := 199) rfl) rfl
theorem kc_X9_parts : Cond.code yX9_parts cX9_parts 5 (some .int) ∈ TB := tb_6 (List.mem_of_getElem? (i := 200) rfl) rfl
theorem km_X9_251 : Cond.methodLink RX9 251 yX9_wrongOf ∈ TB := tb_6 (List.mem_of_getElem? (i := 201) rfl) rfl
theorem ki_X9_wrongOf : Cond.instanceMethod yX9_wrongOf ∈ TB := tb_6 (List.mem_of_getElem? (i := 203) rfl) rfl
theorem ks_X9_wrongOf : Cond.selects RX9 yX9_wrongOf yX9_wrongOf ∈ TB := tb_p4 (q := (yX9_wrongOf, 45)) (List.mem_of_getElem? (i := 8) rfl)
theorem kc_X9_wrongOf : Cond.code yX9_wrongOf cX9_wrongOf 6 (some .int) ∈ TB := tb_6 (List.mem_of_getElem? (i := 204) rfl) rfl
theorem km_L_110 : Cond.methodLink RL 110 yX8_next ∈ TB := tb_4 (List.mem_of_getElem? (i := 71) rfl) rfl
theorem ki_X8_next : Cond.instanceMethod yX8_next ∈ TB := tb_4 (List.mem_of_getElem? (i := 72) rfl) rfl
theorem ks_X8_next : Cond.selects RX8 yX8_next yX8_next ∈ TB := tb_4 (List.mem_of_getElem? (i := 73) rfl) rfl
theorem kc_X8_next : Cond.code yX8_next cX8_next 1 (some .int) ∈ TB := tb_4 (List.mem_of_getElem? (i := 74) rfl) rfl
theorem km_X8_260 : Cond.methodLink RX8 260 yX2_best ∈ TB := tb_4 (List.mem_of_getElem? (i := 75) rfl) rfl
theorem ki_X2_best : Cond.instanceMethod yX2_best ∈ TB := tb_4 (List.mem_of_getElem? (i := 76) rfl) rfl
theorem ks_X2_best : Cond.selects RX2 yX2_best yX2_best ∈ TB := tb_4 (List.mem_of_getElem? (i := 77) rfl) rfl
theorem kc_X2_best : Cond.code yX2_best cX2_best 12 (some .int) ∈ TB := tb_4 (List.mem_of_getElem? (i := 78) rfl) rfl
theorem km_X2_162 : Cond.methodLink RX2 162 Lib.Math.max.name ∈ TB := tb_4 (List.mem_of_getElem? (i := 81) rfl) rfl
theorem km_X2_155 : Cond.methodLink RX2 155 yX2_allows ∈ TB := tb_4 (List.mem_of_getElem? (i := 79) rfl) rfl
theorem km_X2_158 : Cond.methodLink RX2 158 yX7_wrongAmong ∈ TB := tb_4 (List.mem_of_getElem? (i := 80) rfl) rfl
theorem km_L_113 : Cond.methodLink RL 113 yX9_next ∈ TB := tb_6 (List.mem_of_getElem? (i := 205) rfl) rfl
theorem ki_X9_next : Cond.instanceMethod yX9_next ∈ TB := tb_6 (List.mem_of_getElem? (i := 206) rfl) rfl
theorem ks_X9_next : Cond.selects RX9 yX9_next yX9_next ∈ TB := tb_6 (List.mem_of_getElem? (i := 207) rfl) rfl
theorem kc_X9_next : Cond.code yX9_next cX9_next 1 (some .int) ∈ TB := tb_6 (List.mem_of_getElem? (i := 208) rfl) rfl
theorem km_X9_258 : Cond.methodLink RX9 258 yX9_begins ∈ TB := tb_6 (List.mem_of_getElem? (i := 209) rfl) rfl
theorem ki_X9_begins : Cond.instanceMethod yX9_begins ∈ TB := tb_6 (List.mem_of_getElem? (i := 211) rfl) rfl
theorem ks_X9_begins : Cond.selects RX9 yX9_begins yX9_begins ∈ TB := tb_p4 (q := (yX9_begins, 45)) (List.mem_of_getElem? (i := 9) rfl)
theorem kc_X9_begins : Cond.code yX9_begins cX9_begins 3 (some .int) ∈ TB := tb_6 (List.mem_of_getElem? (i := 212) rfl) rfl
theorem km_X9_254 : Cond.methodLink RX9 254 yX9_tables ∈ TB := tb_6 (List.mem_of_getElem? (i := 213) rfl) rfl
theorem ki_X9_tables : Cond.instanceMethod yX9_tables ∈ TB := tb_6 (List.mem_of_getElem? (i := 215) rfl) rfl
theorem ks_X9_tables : Cond.selects RX9 yX9_tables yX9_tables ∈ TB := tb_p4 (q := (yX9_tables, 45)) (List.mem_of_getElem? (i := 10) rfl)
theorem kc_X9_tables : Cond.code yX9_tables cX9_tables 4 none ∈ TB := tb_6 (List.mem_of_getElem? (i := 216) rfl) rfl
theorem km_X9_261 : Cond.methodLink RX9 261 yX9_nextOf ∈ TB := tb_6 (List.mem_of_getElem? (i := 217) rfl) rfl
theorem ki_X9_nextOf : Cond.instanceMethod yX9_nextOf ∈ TB := tb_6 (List.mem_of_getElem? (i := 219) rfl) rfl
theorem ks_X9_nextOf : Cond.selects RX9 yX9_nextOf yX9_nextOf ∈ TB := tb_p4 (q := (yX9_nextOf, 45)) (List.mem_of_getElem? (i := 11) rfl)
theorem kc_X9_nextOf : Cond.code yX9_nextOf cX9_nextOf 8 (some .int) ∈ TB := tb_6 (List.mem_of_getElem? (i := 220) rfl) rfl
theorem km_L_114 : Cond.methodLink RL 114 yX8_by ∈ TB := tb_4 (List.mem_of_getElem? (i := 82) rfl) rfl
theorem ki_X8_by : Cond.instanceMethod yX8_by ∈ TB := tb_4 (List.mem_of_getElem? (i := 83) rfl) rfl
theorem ks_X8_by : Cond.selects RX8 yX8_by yX8_by ∈ TB := tb_4 (List.mem_of_getElem? (i := 84) rfl) rfl
theorem kc_X8_by : Cond.code yX8_by cX8_by 2 (some .int) ∈ TB := tb_4 (List.mem_of_getElem? (i := 85) rfl) rfl
theorem kf_X8_267 : Cond.fieldLink RX8 267 "OnlyMovesHisLips$Course" "worst" "I" ∈ TB := tb_1 (List.mem_of_getElem? (i := 86) rfl) rfl
theorem kf_X8_273 : Cond.fieldLink RX8 273 "OnlyMovesHisLips$Course" "left" "I" ∈ TB := tb_1 (List.mem_of_getElem? (i := 88) rfl) rfl
theorem km_X8_264 : Cond.methodLink RX8 264 yX1_follow ∈ TB := tb_4 (List.mem_of_getElem? (i := 86) rfl) rfl
theorem ki_X1_follow : Cond.instanceMethod yX1_follow ∈ TB := tb_4 (List.mem_of_getElem? (i := 87) rfl) rfl
theorem ks_X1_follow : Cond.selects RX1 yX1_follow yX1_follow ∈ TB := tb_4 (List.mem_of_getElem? (i := 88) rfl) rfl
theorem kc_X1_follow : Cond.code yX1_follow cX1_follow 9 none ∈ TB := tb_4 (List.mem_of_getElem? (i := 89) rfl) rfl
theorem kf_X1_41 : Cond.fieldLink RX1 41 "OnlyMovesHisLips$Hall" "worlds" "LOnlyMovesHisLips$Worlds;" ∈ TB := tb_1 (List.mem_of_getElem? (i := 224) rfl) rfl
theorem kf_X1_47 : Cond.fieldLink RX1 47 "OnlyMovesHisLips$Hall" "low" "J" ∈ TB := tb_1 (List.mem_of_getElem? (i := 236) rfl) rfl
theorem kf_X1_50 : Cond.fieldLink RX1 50 "OnlyMovesHisLips$Hall" "high" "J" ∈ TB := tb_2 (List.mem_of_getElem? (i := 0) rfl) rfl
theorem kk_X1_61 : Cond.constant RX1 61 (1000000) ∈ TB := tb_4 (List.mem_of_getElem? (i := 98) rfl) rfl
theorem km_X1_66 : Cond.methodLink RX1 66 Lib.Math.max.name ∈ TB := tb_4 (List.mem_of_getElem? (i := 100) rfl) rfl
theorem km_X1_53 : Cond.methodLink RX1 53 yX7_weightIn ∈ TB := tb_4 (List.mem_of_getElem? (i := 90) rfl) rfl
theorem ki_X7_weightIn : Cond.instanceMethod yX7_weightIn ∈ TB := tb_4 (List.mem_of_getElem? (i := 91) rfl) rfl
theorem ks_X7_weightIn : Cond.selects RX7 yX7_weightIn yX7_weightIn ∈ TB := tb_4 (List.mem_of_getElem? (i := 92) rfl) rfl
theorem kc_X7_weightIn : Cond.code yX7_weightIn cX7_weightIn 8 (some .long) ∈ TB := tb_4 (List.mem_of_getElem? (i := 93) rfl) rfl
theorem km_X1_57 : Cond.methodLink RX1 57 yX1_lay ∈ TB := tb_4 (List.mem_of_getElem? (i := 94) rfl) rfl
theorem ki_X1_lay : Cond.instanceMethod yX1_lay ∈ TB := tb_4 (List.mem_of_getElem? (i := 96) rfl) rfl
theorem ks_X1_lay : Cond.selects RX1 yX1_lay yX1_lay ∈ TB := tb_p1 (q := (yX1_lay, 8)) (List.mem_of_getElem? (i := 12) rfl)
theorem kc_X1_lay : Cond.code yX1_lay cX1_lay 6 none ∈ TB := tb_4 (List.mem_of_getElem? (i := 97) rfl) rfl
theorem km_X1_62 : Cond.methodLink RX1 62 yX2_best ∈ TB := tb_4 (List.mem_of_getElem? (i := 99) rfl) rfl
theorem km_X1_72 : Cond.methodLink RX1 72 yX7_countIn ∈ TB := tb_4 (List.mem_of_getElem? (i := 101) rfl) rfl
theorem km_X1_75 : Cond.methodLink RX1 75 yX7_lowBy ∈ TB := tb_4 (List.mem_of_getElem? (i := 102) rfl) rfl
theorem km_X1_79 : Cond.methodLink RX1 79 yX7_highBy ∈ TB := tb_4 (List.mem_of_getElem? (i := 103) rfl) rfl
theorem km_X8_270 : Cond.methodLink RX8 270 yX1_mean ∈ TB := tb_4 (List.mem_of_getElem? (i := 104) rfl) rfl
theorem ki_X1_mean : Cond.instanceMethod yX1_mean ∈ TB := tb_4 (List.mem_of_getElem? (i := 105) rfl) rfl
theorem ks_X1_mean : Cond.selects RX1 yX1_mean yX1_mean ∈ TB := tb_4 (List.mem_of_getElem? (i := 106) rfl) rfl
theorem kc_X1_mean : Cond.code yX1_mean cX1_mean 1 (some .int) ∈ TB := tb_4 (List.mem_of_getElem? (i := 107) rfl) rfl
theorem kk_X1_82 : Cond.constantLong RX1 82 (1000) ∈ TB := tb_4 (List.mem_of_getElem? (i := 108) rfl) rfl
theorem km_L_117 : Cond.methodLink RL 117 yX9_by ∈ TB := tb_6 (List.mem_of_getElem? (i := 221) rfl) rfl
theorem ki_X9_by : Cond.instanceMethod yX9_by ∈ TB := tb_6 (List.mem_of_getElem? (i := 222) rfl) rfl
theorem ks_X9_by : Cond.selects RX9 yX9_by yX9_by ∈ TB := tb_6 (List.mem_of_getElem? (i := 223) rfl) rfl
theorem kc_X9_by : Cond.code yX9_by cX9_by 6 (some .int) ∈ TB := tb_6 (List.mem_of_getElem? (i := 224) rfl) rfl
theorem kf_X9_264 : Cond.fieldLink RX9 264 "OnlyMovesHisLipsModel" "deepest" "I" ∈ TB := tb_5 (List.mem_of_getElem? (i := 106) rfl) rfl
theorem kf_X9_267 : Cond.fieldLink RX9 267 "OnlyMovesHisLipsModel" "left" "I" ∈ TB := tb_5 (List.mem_of_getElem? (i := 107) rfl) rfl
theorem kf_X9_270 : Cond.fieldLink RX9 270 "OnlyMovesHisLipsModel" "hearings" "J" ∈ TB := tb_5 (List.mem_of_getElem? (i := 108) rfl) rfl
theorem kk_X9_278 : Cond.constantLong RX9 278 (1000) ∈ TB := tb_6 (List.mem_of_getElem? (i := 229) rfl) rfl
theorem km_X9_274 : Cond.methodLink RX9 274 yX9_goesBy ∈ TB := tb_6 (List.mem_of_getElem? (i := 225) rfl) rfl
theorem ki_X9_goesBy : Cond.instanceMethod yX9_goesBy ∈ TB := tb_6 (List.mem_of_getElem? (i := 227) rfl) rfl
theorem ks_X9_goesBy : Cond.selects RX9 yX9_goesBy yX9_goesBy ∈ TB := tb_p4 (q := (yX9_goesBy, 45)) (List.mem_of_getElem? (i := 12) rfl)
theorem kc_X9_goesBy : Cond.code yX9_goesBy cX9_goesBy 8 none ∈ TB := tb_6 (List.mem_of_getElem? (i := 228) rfl) rfl
theorem km_L_118 : Cond.methodLink RL 118 yX8_ahead ∈ TB := tb_4 (List.mem_of_getElem? (i := 109) rfl) rfl
theorem ki_X8_ahead : Cond.instanceMethod yX8_ahead ∈ TB := tb_4 (List.mem_of_getElem? (i := 110) rfl) rfl
theorem ks_X8_ahead : Cond.selects RX8 yX8_ahead yX8_ahead ∈ TB := tb_4 (List.mem_of_getElem? (i := 111) rfl) rfl
theorem kc_X8_ahead : Cond.code yX8_ahead cX8_ahead 5 (some .int) ∈ TB := tb_4 (List.mem_of_getElem? (i := 112) rfl) rfl
theorem kf_X8_287 : Cond.fieldLink RX8 287 "OnlyMovesHisLips$Told" "unlike" "I" ∈ TB := tb_1 (List.mem_of_getElem? (i := 116) rfl) rfl
theorem kf_X8_290 : Cond.fieldLink RX8 290 "OnlyMovesHisLips$Told" "alike" "I" ∈ TB := tb_1 (List.mem_of_getElem? (i := 118) rfl) rfl
theorem km_X8_276 : Cond.methodLink RX8 276 yX8_lackOfTold ∈ TB := tb_4 (List.mem_of_getElem? (i := 113) rfl) rfl
theorem ki_X8_lackOfTold : Cond.instanceMethod yX8_lackOfTold ∈ TB := tb_4 (List.mem_of_getElem? (i := 115) rfl) rfl
theorem ks_X8_lackOfTold : Cond.selects RX8 yX8_lackOfTold yX8_lackOfTold ∈ TB := tb_p1 (q := (yX8_lackOfTold, 11)) (List.mem_of_getElem? (i := 13) rfl)
theorem kc_X8_lackOfTold : Cond.code yX8_lackOfTold cX8_lackOfTold 4 (some .int) ∈ TB := tb_4 (List.mem_of_getElem? (i := 116) rfl) rfl
theorem kf_X8_352 : Cond.fieldLink RX8 352 "OnlyMovesHisLips$Shelf" "length" "I" ∈ TB := tb_2 (List.mem_of_getElem? (i := 31) rfl) rfl
theorem km_X8_279 : Cond.methodLink RX8 279 yX5_areSets ∈ TB := tb_4 (List.mem_of_getElem? (i := 117) rfl) rfl
theorem ki_X5_areSets : Cond.instanceMethod yX5_areSets ∈ TB := tb_4 (List.mem_of_getElem? (i := 118) rfl) rfl
theorem ks_X5_areSets : Cond.selects RX5 yX5_areSets yX5_areSets ∈ TB := tb_4 (List.mem_of_getElem? (i := 119) rfl) rfl
theorem kc_X5_areSets : Cond.code yX5_areSets cX5_areSets 5 (some .boolean) ∈ TB := tb_4 (List.mem_of_getElem? (i := 120) rfl) rfl
theorem kf_X5_34 : Cond.fieldLink RX5 34 "OnlyMovesHisLips$Hall" "choir" "LOnlyMovesHisLips$Choir;" ∈ TB := tb_1 (List.mem_of_getElem? (i := 220) rfl) rfl
theorem km_X5_40 : Cond.methodLink RX5 40 yX4_asInt ∈ TB := tb_4 (List.mem_of_getElem? (i := 121) rfl) rfl
theorem km_X5_46 : Cond.methodLink RX5 46 yX0_isSet ∈ TB := tb_4 (List.mem_of_getElem? (i := 122) rfl) rfl
theorem km_X8_283 : Cond.methodLink RX8 283 yX5_sortOut ∈ TB := tb_4 (List.mem_of_getElem? (i := 123) rfl) rfl
theorem ki_X5_sortOut : Cond.instanceMethod yX5_sortOut ∈ TB := tb_4 (List.mem_of_getElem? (i := 124) rfl) rfl
theorem ks_X5_sortOut : Cond.selects RX5 yX5_sortOut yX5_sortOut ∈ TB := tb_4 (List.mem_of_getElem? (i := 125) rfl) rfl
theorem kc_X5_sortOut : Cond.code yX5_sortOut cX5_sortOut 7 none ∈ TB := tb_4 (List.mem_of_getElem? (i := 126) rfl) rfl
theorem kf_X5_52 : Cond.fieldLink RX5 52 "OnlyMovesHisLips$Hall" "worlds" "LOnlyMovesHisLips$Worlds;" ∈ TB := tb_1 (List.mem_of_getElem? (i := 225) rfl) rfl
theorem kf_X5_56 : Cond.fieldLink RX5 56 "OnlyMovesHisLips$Worlds" "count" "I" ∈ TB := tb_1 (List.mem_of_getElem? (i := 191) rfl) rfl
theorem kf_X5_59 : Cond.fieldLink RX5 59 "OnlyMovesHisLips$Hall" "low" "J" ∈ TB := tb_1 (List.mem_of_getElem? (i := 237) rfl) rfl
theorem kf_X5_60 : Cond.fieldLink RX5 60 "OnlyMovesHisLips$Hall" "high" "J" ∈ TB := tb_2 (List.mem_of_getElem? (i := 1) rfl) rfl
theorem km_X5_61 : Cond.methodLink RX5 61 yX7_isIn ∈ TB := tb_4 (List.mem_of_getElem? (i := 127) rfl) rfl
theorem km_X5_65 : Cond.methodLink RX5 65 yX7_soundOf ∈ TB := tb_4 (List.mem_of_getElem? (i := 128) rfl) rfl
theorem km_X5_69 : Cond.methodLink RX5 69 yX5_sortIn ∈ TB := tb_4 (List.mem_of_getElem? (i := 129) rfl) rfl
theorem ki_X5_sortIn : Cond.instanceMethod yX5_sortIn ∈ TB := tb_4 (List.mem_of_getElem? (i := 131) rfl) rfl
theorem ks_X5_sortIn : Cond.selects RX5 yX5_sortIn yX5_sortIn ∈ TB := tb_p1 (q := (yX5_sortIn, 6)) (List.mem_of_getElem? (i := 14) rfl)
theorem kc_X5_sortIn : Cond.code yX5_sortIn cX5_sortIn 3 none ∈ TB := tb_4 (List.mem_of_getElem? (i := 132) rfl) rfl
theorem km_X5_73 : Cond.methodLink RX5 73 Lib.Math.max.name ∈ TB := tb_4 (List.mem_of_getElem? (i := 133) rfl) rfl
theorem km_L_121 : Cond.methodLink RL 121 yX9_ahead ∈ TB := tb_6 (List.mem_of_getElem? (i := 230) rfl) rfl
theorem ki_X9_ahead : Cond.instanceMethod yX9_ahead ∈ TB := tb_6 (List.mem_of_getElem? (i := 231) rfl) rfl
theorem ks_X9_ahead : Cond.selects RX9 yX9_ahead yX9_ahead ∈ TB := tb_6 (List.mem_of_getElem? (i := 232) rfl) rfl
theorem kc_X9_ahead : Cond.code yX9_ahead cX9_ahead 12 (some .int) ∈ TB := tb_6 (List.mem_of_getElem? (i := 233) rfl) rfl
theorem km_X9_280 : Cond.methodLink RX9 280 yX9_bars ∈ TB := tb_6 (List.mem_of_getElem? (i := 234) rfl) rfl
theorem ki_X9_bars : Cond.instanceMethod yX9_bars ∈ TB := tb_6 (List.mem_of_getElem? (i := 236) rfl) rfl
theorem ks_X9_bars : Cond.selects RX9 yX9_bars yX9_bars ∈ TB := tb_p4 (q := (yX9_bars, 45)) (List.mem_of_getElem? (i := 13) rfl)
theorem kc_X9_bars : Cond.code yX9_bars cX9_bars 4 (some .int) ∈ TB := tb_6 (List.mem_of_getElem? (i := 237) rfl) rfl
theorem km_X9_283 : Cond.methodLink RX9 283 yX9_intAt ∈ TB := tb_6 (List.mem_of_getElem? (i := 238) rfl) rfl
theorem ki_X9_intAt : Cond.instanceMethod yX9_intAt ∈ TB := tb_7 (List.mem_of_getElem? (i := 0) rfl) rfl
theorem ks_X9_intAt : Cond.selects RX9 yX9_intAt yX9_intAt ∈ TB := tb_p4 (q := (yX9_intAt, 45)) (List.mem_of_getElem? (i := 14) rfl)
theorem kc_X9_intAt : Cond.code yX9_intAt cX9_intAt 3 (some .int) ∈ TB := tb_7 (List.mem_of_getElem? (i := 1) rfl) rfl
theorem km_L_122 : Cond.methodLink RL 122 yX8_judge ∈ TB := tb_4 (List.mem_of_getElem? (i := 134) rfl) rfl
theorem ki_X8_judge : Cond.instanceMethod yX8_judge ∈ TB := tb_4 (List.mem_of_getElem? (i := 135) rfl) rfl
theorem ks_X8_judge : Cond.selects RX8 yX8_judge yX8_judge ∈ TB := tb_4 (List.mem_of_getElem? (i := 136) rfl) rfl
theorem kc_X8_judge : Cond.code yX8_judge cX8_judge 4 (some .int) ∈ TB := tb_4 (List.mem_of_getElem? (i := 137) rfl) rfl
theorem km_X8_293 : Cond.methodLink RX8 293 yX5_firstWrong ∈ TB := tb_4 (List.mem_of_getElem? (i := 138) rfl) rfl
theorem ki_X5_firstWrong : Cond.instanceMethod yX5_firstWrong ∈ TB := tb_4 (List.mem_of_getElem? (i := 139) rfl) rfl
theorem ks_X5_firstWrong : Cond.selects RX5 yX5_firstWrong yX5_firstWrong ∈ TB := tb_4 (List.mem_of_getElem? (i := 140) rfl) rfl
theorem kc_X5_firstWrong : Cond.code yX5_firstWrong cX5_firstWrong 7 (some .int) ∈ TB := tb_4 (List.mem_of_getElem? (i := 141) rfl) rfl
theorem km_X5_78 : Cond.methodLink RX5 78 yX2_allows ∈ TB := tb_4 (List.mem_of_getElem? (i := 142) rfl) rfl
theorem km_X5_81 : Cond.methodLink RX5 81 yX7_lowBy ∈ TB := tb_4 (List.mem_of_getElem? (i := 143) rfl) rfl
theorem km_X5_85 : Cond.methodLink RX5 85 yX7_highBy ∈ TB := tb_4 (List.mem_of_getElem? (i := 144) rfl) rfl
theorem km_L_125 : Cond.methodLink RL 125 yX9_judge ∈ TB := tb_7 (List.mem_of_getElem? (i := 2) rfl) rfl
theorem ki_X9_judge : Cond.instanceMethod yX9_judge ∈ TB := tb_7 (List.mem_of_getElem? (i := 3) rfl) rfl
theorem ks_X9_judge : Cond.selects RX9 yX9_judge yX9_judge ∈ TB := tb_7 (List.mem_of_getElem? (i := 4) rfl) rfl
theorem kc_X9_judge : Cond.code yX9_judge cX9_judge 4 (some .int) ∈ TB := tb_7 (List.mem_of_getElem? (i := 5) rfl) rfl
theorem km_X9_289 : Cond.methodLink RX9 289 yX9_barsOf ∈ TB := tb_7 (List.mem_of_getElem? (i := 6) rfl) rfl
theorem ki_X9_barsOf : Cond.instanceMethod yX9_barsOf ∈ TB := tb_7 (List.mem_of_getElem? (i := 8) rfl) rfl
theorem ks_X9_barsOf : Cond.selects RX9 yX9_barsOf yX9_barsOf ∈ TB := tb_p4 (q := (yX9_barsOf, 45)) (List.mem_of_getElem? (i := 15) rfl)
theorem kc_X9_barsOf : Cond.code yX9_barsOf cX9_barsOf 4 (some .int) ∈ TB := tb_7 (List.mem_of_getElem? (i := 9) rfl) rfl
theorem km_X9_292 : Cond.methodLink RX9 292 yX9_noTen ∈ TB := tb_7 (List.mem_of_getElem? (i := 10) rfl) rfl
theorem ki_X9_noTen : Cond.instanceMethod yX9_noTen ∈ TB := tb_7 (List.mem_of_getElem? (i := 12) rfl) rfl
theorem ks_X9_noTen : Cond.selects RX9 yX9_noTen yX9_noTen ∈ TB := tb_p5 (q := (yX9_noTen, 45)) (List.mem_of_getElem? (i := 0) rfl)
theorem kc_X9_noTen : Cond.code yX9_noTen cX9_noTen 2 (some .int) ∈ TB := tb_7 (List.mem_of_getElem? (i := 13) rfl) rfl
theorem km_X9_295 : Cond.methodLink RX9 295 yX9_wrongIn ∈ TB := tb_7 (List.mem_of_getElem? (i := 14) rfl) rfl
theorem ki_X9_wrongIn : Cond.instanceMethod yX9_wrongIn ∈ TB := tb_7 (List.mem_of_getElem? (i := 16) rfl) rfl
theorem ks_X9_wrongIn : Cond.selects RX9 yX9_wrongIn yX9_wrongIn ∈ TB := tb_p5 (q := (yX9_wrongIn, 45)) (List.mem_of_getElem? (i := 1) rfl)
theorem kc_X9_wrongIn : Cond.code yX9_wrongIn cX9_wrongIn 5 (some .int) ∈ TB := tb_7 (List.mem_of_getElem? (i := 17) rfl) rfl
theorem kf_X9_286 : Cond.fieldLink RX9 286 "OnlyMovesHisLipsModel" "behind" "I" ∈ TB := tb_5 (List.mem_of_getElem? (i := 110) rfl) rfl
theorem km_L_126 : Cond.methodLink RL 126 yX8_behind ∈ TB := tb_4 (List.mem_of_getElem? (i := 145) rfl) rfl
theorem ki_X8_behind : Cond.instanceMethod yX8_behind ∈ TB := tb_4 (List.mem_of_getElem? (i := 146) rfl) rfl
theorem ks_X8_behind : Cond.selects RX8 yX8_behind yX8_behind ∈ TB := tb_4 (List.mem_of_getElem? (i := 147) rfl) rfl
theorem kc_X8_behind : Cond.code yX8_behind cX8_behind 4 (some .int) ∈ TB := tb_4 (List.mem_of_getElem? (i := 148) rfl) rfl
theorem kf_X8_300 : Cond.fieldLink RX8 300 "OnlyMovesHisLips$Told" "low" "J" ∈ TB := tb_1 (List.mem_of_getElem? (i := 120) rfl) rfl
theorem kf_X8_301 : Cond.fieldLink RX8 301 "OnlyMovesHisLips$Told" "high" "J" ∈ TB := tb_1 (List.mem_of_getElem? (i := 122) rfl) rfl
theorem km_X8_297 : Cond.methodLink RX8 297 yX8_isToldInPairs ∈ TB := tb_4 (List.mem_of_getElem? (i := 149) rfl) rfl
theorem kt_X8_isToldInPairs : Cond.static yX8_isToldInPairs ∈ TB := tb_4 (List.mem_of_getElem? (i := 150) rfl) rfl
theorem kc_X8_isToldInPairs : Cond.code yX8_isToldInPairs cX8_isToldInPairs 1 (some .boolean) ∈ TB := tb_4 (List.mem_of_getElem? (i := 151) rfl) rfl
theorem km_X8_302 : Cond.methodLink RX8 302 yX7_countIn ∈ TB := tb_4 (List.mem_of_getElem? (i := 152) rfl) rfl
theorem km_L_129 : Cond.methodLink RL 129 yX9_behind ∈ TB := tb_7 (List.mem_of_getElem? (i := 18) rfl) rfl
theorem ki_X9_behind : Cond.instanceMethod yX9_behind ∈ TB := tb_7 (List.mem_of_getElem? (i := 19) rfl) rfl
theorem ks_X9_behind : Cond.selects RX9 yX9_behind yX9_behind ∈ TB := tb_7 (List.mem_of_getElem? (i := 20) rfl) rfl
theorem kc_X9_behind : Cond.code yX9_behind cX9_behind 4 (some .int) ∈ TB := tb_7 (List.mem_of_getElem? (i := 21) rfl) rfl
theorem km_L_130 : Cond.methodLink RL 130 yX8_byEar ∈ TB := tb_4 (List.mem_of_getElem? (i := 153) rfl) rfl
theorem ki_X8_byEar : Cond.instanceMethod yX8_byEar ∈ TB := tb_4 (List.mem_of_getElem? (i := 154) rfl) rfl
theorem ks_X8_byEar : Cond.selects RX8 yX8_byEar yX8_byEar ∈ TB := tb_4 (List.mem_of_getElem? (i := 155) rfl) rfl
theorem kc_X8_byEar : Cond.code yX8_byEar cX8_byEar 4 (some .int) ∈ TB := tb_4 (List.mem_of_getElem? (i := 156) rfl) rfl
theorem km_X8_305 : Cond.methodLink RX8 305 yX5_arePairs ∈ TB := tb_4 (List.mem_of_getElem? (i := 157) rfl) rfl
theorem ki_X5_arePairs : Cond.instanceMethod yX5_arePairs ∈ TB := tb_4 (List.mem_of_getElem? (i := 158) rfl) rfl
theorem ks_X5_arePairs : Cond.selects RX5 yX5_arePairs yX5_arePairs ∈ TB := tb_4 (List.mem_of_getElem? (i := 159) rfl) rfl
theorem kc_X5_arePairs : Cond.code yX5_arePairs cX5_arePairs 7 (some .boolean) ∈ TB := tb_4 (List.mem_of_getElem? (i := 160) rfl) rfl
theorem km_X8_308 : Cond.methodLink RX8 308 yX5_likeliestByEar ∈ TB := tb_4 (List.mem_of_getElem? (i := 161) rfl) rfl
theorem ki_X5_likeliestByEar : Cond.instanceMethod yX5_likeliestByEar ∈ TB := tb_4 (List.mem_of_getElem? (i := 162) rfl) rfl
theorem ks_X5_likeliestByEar : Cond.selects RX5 yX5_likeliestByEar yX5_likeliestByEar ∈ TB := tb_4 (List.mem_of_getElem? (i := 163) rfl) rfl
theorem kc_X5_likeliestByEar : Cond.code yX5_likeliestByEar cX5_likeliestByEar 13 (some .int) ∈ TB := tb_4 (List.mem_of_getElem? (i := 164) rfl) rfl
theorem kk_X5_91 : Cond.constantLong RX5 91 (-1) ∈ TB := tb_4 (List.mem_of_getElem? (i := 166) rfl) rfl
theorem kk_X5_93 : Cond.constantLong RX5 93 (10000) ∈ TB := tb_4 (List.mem_of_getElem? (i := 167) rfl) rfl
theorem kf_X5_95 : Cond.fieldLink RX5 95 "OnlyMovesHisLips$Worlds" "weights" "[I" ∈ TB := tb_1 (List.mem_of_getElem? (i := 188) rfl) rfl
theorem kk_X5_98 : Cond.constantLong RX5 98 (100) ∈ TB := tb_4 (List.mem_of_getElem? (i := 168) rfl) rfl
theorem kf_X5_100 : Cond.fieldLink RX5 100 "OnlyMovesHisLips$Worlds" "list" "[I" ∈ TB := tb_1 (List.mem_of_getElem? (i := 185) rfl) rfl
theorem km_X5_88 : Cond.methodLink RX5 88 yX2_rule ∈ TB := tb_4 (List.mem_of_getElem? (i := 165) rfl) rfl
theorem km_L_133 : Cond.methodLink RL 133 yX9_byEar ∈ TB := tb_7 (List.mem_of_getElem? (i := 22) rfl) rfl
theorem ki_X9_byEar : Cond.instanceMethod yX9_byEar ∈ TB := tb_7 (List.mem_of_getElem? (i := 23) rfl) rfl
theorem ks_X9_byEar : Cond.selects RX9 yX9_byEar yX9_byEar ∈ TB := tb_7 (List.mem_of_getElem? (i := 24) rfl) rfl
theorem kc_X9_byEar : Cond.code yX9_byEar cX9_byEar 11 (some .int) ∈ TB := tb_7 (List.mem_of_getElem? (i := 25) rfl) rfl
theorem kk_X9_298 : Cond.constantLong RX9 298 (100) ∈ TB := tb_7 (List.mem_of_getElem? (i := 26) rfl) rfl
theorem km_L_134 : Cond.methodLink RL 134 yX8_beside ∈ TB := tb_4 (List.mem_of_getElem? (i := 169) rfl) rfl
theorem ki_X8_beside : Cond.instanceMethod yX8_beside ∈ TB := tb_4 (List.mem_of_getElem? (i := 170) rfl) rfl
theorem ks_X8_beside : Cond.selects RX8 yX8_beside yX8_beside ∈ TB := tb_4 (List.mem_of_getElem? (i := 171) rfl) rfl
theorem kc_X8_beside : Cond.code yX8_beside cX8_beside 1 (some .int) ∈ TB := tb_4 (List.mem_of_getElem? (i := 172) rfl) rfl
theorem km_X8_311 : Cond.methodLink RX8 311 yX2_firstToChange ∈ TB := tb_4 (List.mem_of_getElem? (i := 173) rfl) rfl
theorem ki_X2_firstToChange : Cond.instanceMethod yX2_firstToChange ∈ TB := tb_4 (List.mem_of_getElem? (i := 174) rfl) rfl
theorem ks_X2_firstToChange : Cond.selects RX2 yX2_firstToChange yX2_firstToChange ∈ TB := tb_4 (List.mem_of_getElem? (i := 175) rfl) rfl
theorem kc_X2_firstToChange : Cond.code yX2_firstToChange cX2_firstToChange 5 (some .int) ∈ TB := tb_4 (List.mem_of_getElem? (i := 176) rfl) rfl
theorem kf_X2_189 : Cond.fieldLink RX2 189 "OnlyMovesHisLips$Choir" "count" "I" ∈ TB := tb_1 (List.mem_of_getElem? (i := 163) rfl) rfl
theorem km_X2_186 : Cond.methodLink RX2 186 yX7_isRightWhenAllSing ∈ TB := tb_4 (List.mem_of_getElem? (i := 177) rfl) rfl
theorem ki_X7_isRightWhenAllSing : Cond.instanceMethod yX7_isRightWhenAllSing ∈ TB := tb_4 (List.mem_of_getElem? (i := 178) rfl) rfl
theorem ks_X7_isRightWhenAllSing : Cond.selects RX7 yX7_isRightWhenAllSing yX7_isRightWhenAllSing ∈ TB := tb_4 (List.mem_of_getElem? (i := 179) rfl) rfl
theorem kc_X7_isRightWhenAllSing : Cond.code yX7_isRightWhenAllSing cX7_isRightWhenAllSing 2 (some .boolean) ∈ TB := tb_4 (List.mem_of_getElem? (i := 180) rfl) rfl
theorem km_X7_105 : Cond.methodLink RX7 105 yX7_soundOf ∈ TB := tb_4 (List.mem_of_getElem? (i := 181) rfl) rfl
theorem km_X2_190 : Cond.methodLink RX2 190 yX2_exchangeForTrial ∈ TB := tb_4 (List.mem_of_getElem? (i := 182) rfl) rfl
theorem ki_X2_exchangeForTrial : Cond.instanceMethod yX2_exchangeForTrial ∈ TB := tb_4 (List.mem_of_getElem? (i := 184) rfl) rfl
theorem ks_X2_exchangeForTrial : Cond.selects RX2 yX2_exchangeForTrial yX2_exchangeForTrial ∈ TB := tb_p1 (q := (yX2_exchangeForTrial, 9)) (List.mem_of_getElem? (i := 15) rfl)
theorem kc_X2_exchangeForTrial : Cond.code yX2_exchangeForTrial cX2_exchangeForTrial 3 none ∈ TB := tb_4 (List.mem_of_getElem? (i := 185) rfl) rfl
theorem km_X2_183 : Cond.methodLink RX2 183 yX7_doubtAll ∈ TB := tb_4 (List.mem_of_getElem? (i := 186) rfl) rfl
theorem ki_X7_doubtAll : Cond.instanceMethod yX7_doubtAll ∈ TB := tb_4 (List.mem_of_getElem? (i := 187) rfl) rfl
theorem ks_X7_doubtAll : Cond.selects RX7 yX7_doubtAll yX7_doubtAll ∈ TB := tb_4 (List.mem_of_getElem? (i := 188) rfl) rfl
theorem kc_X7_doubtAll : Cond.code yX7_doubtAll cX7_doubtAll 1 none ∈ TB := tb_4 (List.mem_of_getElem? (i := 189) rfl) rfl
theorem km_L_137 : Cond.methodLink RL 137 yX9_beside ∈ TB := tb_7 (List.mem_of_getElem? (i := 27) rfl) rfl
theorem ki_X9_beside : Cond.instanceMethod yX9_beside ∈ TB := tb_7 (List.mem_of_getElem? (i := 28) rfl) rfl
theorem ks_X9_beside : Cond.selects RX9 yX9_beside yX9_beside ∈ TB := tb_7 (List.mem_of_getElem? (i := 29) rfl) rfl
theorem kc_X9_beside : Cond.code yX9_beside cX9_beside 4 (some .int) ∈ TB := tb_7 (List.mem_of_getElem? (i := 30) rfl) rfl
theorem km_L_138 : Cond.methodLink RL 138 yX8_quiet ∈ TB := tb_4 (List.mem_of_getElem? (i := 190) rfl) rfl
theorem ki_X8_quiet : Cond.instanceMethod yX8_quiet ∈ TB := tb_4 (List.mem_of_getElem? (i := 191) rfl) rfl
theorem ks_X8_quiet : Cond.selects RX8 yX8_quiet yX8_quiet ∈ TB := tb_4 (List.mem_of_getElem? (i := 192) rfl) rfl
theorem kc_X8_quiet : Cond.code yX8_quiet cX8_quiet 1 (some .int) ∈ TB := tb_4 (List.mem_of_getElem? (i := 193) rfl) rfl
theorem km_X8_314 : Cond.methodLink RX8 314 yX2_mostQuiet ∈ TB := tb_4 (List.mem_of_getElem? (i := 194) rfl) rfl
theorem ki_X2_mostQuiet : Cond.instanceMethod yX2_mostQuiet ∈ TB := tb_4 (List.mem_of_getElem? (i := 195) rfl) rfl
theorem ks_X2_mostQuiet : Cond.selects RX2 yX2_mostQuiet yX2_mostQuiet ∈ TB := tb_4 (List.mem_of_getElem? (i := 196) rfl) rfl
theorem kc_X2_mostQuiet : Cond.code yX2_mostQuiet cX2_mostQuiet 4 (some .int) ∈ TB := tb_4 (List.mem_of_getElem? (i := 197) rfl) rfl
theorem km_X2_193 : Cond.methodLink RX2 193 yX7_rightWhenAllSing ∈ TB := tb_4 (List.mem_of_getElem? (i := 198) rfl) rfl
theorem ki_X7_rightWhenAllSing : Cond.instanceMethod yX7_rightWhenAllSing ∈ TB := tb_4 (List.mem_of_getElem? (i := 199) rfl) rfl
theorem ks_X7_rightWhenAllSing : Cond.selects RX7 yX7_rightWhenAllSing yX7_rightWhenAllSing ∈ TB := tb_4 (List.mem_of_getElem? (i := 200) rfl) rfl
theorem kc_X7_rightWhenAllSing : Cond.code yX7_rightWhenAllSing cX7_rightWhenAllSing 1 (some .int) ∈ TB := tb_4 (List.mem_of_getElem? (i := 201) rfl) rfl
theorem km_X7_94 : Cond.methodLink RX7 94 yX7_allLow ∈ TB := tb_4 (List.mem_of_getElem? (i := 202) rfl) rfl
theorem km_X7_98 : Cond.methodLink RX7 98 yX7_allHigh ∈ TB := tb_4 (List.mem_of_getElem? (i := 203) rfl) rfl
theorem km_X7_101 : Cond.methodLink RX7 101 yX7_wrongAmong ∈ TB := tb_4 (List.mem_of_getElem? (i := 204) rfl) rfl
theorem km_L_141 : Cond.methodLink RL 141 yX9_quiet ∈ TB := tb_7 (List.mem_of_getElem? (i := 31) rfl) rfl
theorem ki_X9_quiet : Cond.instanceMethod yX9_quiet ∈ TB := tb_7 (List.mem_of_getElem? (i := 32) rfl) rfl
theorem ks_X9_quiet : Cond.selects RX9 yX9_quiet yX9_quiet ∈ TB := tb_7 (List.mem_of_getElem? (i := 33) rfl) rfl
theorem kc_X9_quiet : Cond.code yX9_quiet cX9_quiet 5 (some .int) ∈ TB := tb_7 (List.mem_of_getElem? (i := 34) rfl) rfl
theorem km_X9_300 : Cond.methodLink RX9 300 yX9_right ∈ TB := tb_7 (List.mem_of_getElem? (i := 35) rfl) rfl
theorem ki_X9_right : Cond.instanceMethod yX9_right ∈ TB := tb_7 (List.mem_of_getElem? (i := 37) rfl) rfl
theorem ks_X9_right : Cond.selects RX9 yX9_right yX9_right ∈ TB := tb_p5 (q := (yX9_right, 45)) (List.mem_of_getElem? (i := 2) rfl)
theorem kc_X9_right : Cond.code yX9_right cX9_right 4 (some .int) ∈ TB := tb_7 (List.mem_of_getElem? (i := 38) rfl) rfl
theorem km_L_142 : Cond.methodLink RL 142 yX8_swap ∈ TB := tb_4 (List.mem_of_getElem? (i := 205) rfl) rfl
theorem ki_X8_swap : Cond.instanceMethod yX8_swap ∈ TB := tb_4 (List.mem_of_getElem? (i := 206) rfl) rfl
theorem ks_X8_swap : Cond.selects RX8 yX8_swap yX8_swap ∈ TB := tb_4 (List.mem_of_getElem? (i := 207) rfl) rfl
theorem kc_X8_swap : Cond.code yX8_swap cX8_swap 3 (some .int) ∈ TB := tb_4 (List.mem_of_getElem? (i := 208) rfl) rfl
theorem km_X8_317 : Cond.methodLink RX8 317 yX2_changePlaces ∈ TB := tb_4 (List.mem_of_getElem? (i := 209) rfl) rfl
theorem km_L_145 : Cond.methodLink RL 145 yX9_swap ∈ TB := tb_7 (List.mem_of_getElem? (i := 39) rfl) rfl
theorem ki_X9_swap : Cond.instanceMethod yX9_swap ∈ TB := tb_7 (List.mem_of_getElem? (i := 40) rfl) rfl
theorem ks_X9_swap : Cond.selects RX9 yX9_swap yX9_swap ∈ TB := tb_7 (List.mem_of_getElem? (i := 41) rfl) rfl
theorem kc_X9_swap : Cond.code yX9_swap cX9_swap 3 (some .int) ∈ TB := tb_7 (List.mem_of_getElem? (i := 42) rfl) rfl
theorem km_L_146 : Cond.methodLink RL 146 yX8_isTrue ∈ TB := tb_4 (List.mem_of_getElem? (i := 210) rfl) rfl
theorem ki_X8_isTrue : Cond.instanceMethod yX8_isTrue ∈ TB := tb_4 (List.mem_of_getElem? (i := 211) rfl) rfl
theorem ks_X8_isTrue : Cond.selects RX8 yX8_isTrue yX8_isTrue ∈ TB := tb_4 (List.mem_of_getElem? (i := 212) rfl) rfl
theorem kc_X8_isTrue : Cond.code yX8_isTrue cX8_isTrue 4 (some .int) ∈ TB := tb_4 (List.mem_of_getElem? (i := 213) rfl) rfl
theorem km_X8_320 : Cond.methodLink RX8 320 yX2_trueWorld ∈ TB := tb_4 (List.mem_of_getElem? (i := 214) rfl) rfl
theorem ki_X2_trueWorld : Cond.instanceMethod yX2_trueWorld ∈ TB := tb_4 (List.mem_of_getElem? (i := 215) rfl) rfl
theorem ks_X2_trueWorld : Cond.selects RX2 yX2_trueWorld yX2_trueWorld ∈ TB := tb_4 (List.mem_of_getElem? (i := 216) rfl) rfl
theorem kc_X2_trueWorld : Cond.code yX2_trueWorld cX2_trueWorld 1 (some .int) ∈ TB := tb_4 (List.mem_of_getElem? (i := 217) rfl) rfl
theorem km_X8_323 : Cond.methodLink RX8 323 yX2_makeTrue ∈ TB := tb_4 (List.mem_of_getElem? (i := 218) rfl) rfl
theorem ki_X2_makeTrue : Cond.instanceMethod yX2_makeTrue ∈ TB := tb_4 (List.mem_of_getElem? (i := 219) rfl) rfl
theorem ks_X2_makeTrue : Cond.selects RX2 yX2_makeTrue yX2_makeTrue ∈ TB := tb_4 (List.mem_of_getElem? (i := 220) rfl) rfl
theorem kc_X2_makeTrue : Cond.code yX2_makeTrue cX2_makeTrue 2 none ∈ TB := tb_4 (List.mem_of_getElem? (i := 221) rfl) rfl
theorem km_L_149 : Cond.methodLink RL 149 yX9_isTrue ∈ TB := tb_7 (List.mem_of_getElem? (i := 43) rfl) rfl
theorem ki_X9_isTrue : Cond.instanceMethod yX9_isTrue ∈ TB := tb_7 (List.mem_of_getElem? (i := 44) rfl) rfl
theorem ks_X9_isTrue : Cond.selects RX9 yX9_isTrue yX9_isTrue ∈ TB := tb_7 (List.mem_of_getElem? (i := 45) rfl) rfl
theorem kc_X9_isTrue : Cond.code yX9_isTrue cX9_isTrue 3 (some .int) ∈ TB := tb_7 (List.mem_of_getElem? (i := 46) rfl) rfl
theorem km_L_150 : Cond.methodLink RL 150 yX8_hear ∈ TB := tb_4 (List.mem_of_getElem? (i := 222) rfl) rfl
theorem ki_X8_hear : Cond.instanceMethod yX8_hear ∈ TB := tb_4 (List.mem_of_getElem? (i := 223) rfl) rfl
theorem ks_X8_hear : Cond.selects RX8 yX8_hear yX8_hear ∈ TB := tb_4 (List.mem_of_getElem? (i := 224) rfl) rfl
theorem kc_X8_hear : Cond.code yX8_hear cX8_hear 3 (some .int) ∈ TB := tb_4 (List.mem_of_getElem? (i := 225) rfl) rfl
theorem km_X8_327 : Cond.methodLink RX8 327 yX2_soundInTruth ∈ TB := tb_4 (List.mem_of_getElem? (i := 226) rfl) rfl
theorem ki_X2_soundInTruth : Cond.instanceMethod yX2_soundInTruth ∈ TB := tb_4 (List.mem_of_getElem? (i := 227) rfl) rfl
theorem ks_X2_soundInTruth : Cond.selects RX2 yX2_soundInTruth yX2_soundInTruth ∈ TB := tb_4 (List.mem_of_getElem? (i := 228) rfl) rfl
theorem kc_X2_soundInTruth : Cond.code yX2_soundInTruth cX2_soundInTruth 2 (some .int) ∈ TB := tb_4 (List.mem_of_getElem? (i := 229) rfl) rfl
theorem km_X2_97 : Cond.methodLink RX2 97 yX7_soundOf ∈ TB := tb_4 (List.mem_of_getElem? (i := 230) rfl) rfl
theorem km_L_153 : Cond.methodLink RL 153 yX9_hear ∈ TB := tb_7 (List.mem_of_getElem? (i := 47) rfl) rfl
theorem ki_X9_hear : Cond.instanceMethod yX9_hear ∈ TB := tb_7 (List.mem_of_getElem? (i := 48) rfl) rfl
theorem ks_X9_hear : Cond.selects RX9 yX9_hear yX9_hear ∈ TB := tb_7 (List.mem_of_getElem? (i := 49) rfl) rfl
theorem kc_X9_hear : Cond.code yX9_hear cX9_hear 3 (some .int) ∈ TB := tb_7 (List.mem_of_getElem? (i := 50) rfl) rfl
theorem km_L_154 : Cond.methodLink RL 154 yX8_evenings ∈ TB := tb_4 (List.mem_of_getElem? (i := 231) rfl) rfl
theorem ki_X8_evenings : Cond.instanceMethod yX8_evenings ∈ TB := tb_4 (List.mem_of_getElem? (i := 232) rfl) rfl
theorem ks_X8_evenings : Cond.selects RX8 yX8_evenings yX8_evenings ∈ TB := tb_4 (List.mem_of_getElem? (i := 233) rfl) rfl
theorem kc_X8_evenings : Cond.code yX8_evenings cX8_evenings 4 (some .int) ∈ TB := tb_4 (List.mem_of_getElem? (i := 234) rfl) rfl
theorem km_X8_330 : Cond.methodLink RX8 330 yX2_evening ∈ TB := tb_4 (List.mem_of_getElem? (i := 235) rfl) rfl
theorem ki_X2_evening : Cond.instanceMethod yX2_evening ∈ TB := tb_4 (List.mem_of_getElem? (i := 236) rfl) rfl
theorem ks_X2_evening : Cond.selects RX2 yX2_evening yX2_evening ∈ TB := tb_4 (List.mem_of_getElem? (i := 237) rfl) rfl
theorem kc_X2_evening : Cond.code yX2_evening cX2_evening 3 (some .int) ∈ TB := tb_4 (List.mem_of_getElem? (i := 238) rfl) rfl
theorem km_X2_168 : Cond.methodLink RX2 168 yX2_draw ∈ TB := tb_4 (List.mem_of_getElem? (i := 239) rfl) rfl
theorem ki_X2_draw : Cond.instanceMethod yX2_draw ∈ TB := tb_5 (List.mem_of_getElem? (i := 1) rfl) rfl
theorem ks_X2_draw : Cond.selects RX2 yX2_draw yX2_draw ∈ TB := tb_p2 (q := (yX2_draw, 9)) (List.mem_of_getElem? (i := 0) rfl)
theorem kc_X2_draw : Cond.code yX2_draw cX2_draw 2 (some .int) ∈ TB := tb_5 (List.mem_of_getElem? (i := 2) rfl) rfl
theorem kk_X2_167 : Cond.constant RX2 167 (1103515245) ∈ TB := tb_5 (List.mem_of_getElem? (i := 3) rfl) rfl
theorem km_X2_171 : Cond.methodLink RX2 171 yX2_makeTrue ∈ TB := tb_5 (List.mem_of_getElem? (i := 4) rfl) rfl
theorem km_X2_174 : Cond.methodLink RX2 174 yX2_best ∈ TB := tb_5 (List.mem_of_getElem? (i := 5) rfl) rfl
theorem km_X2_177 : Cond.methodLink RX2 177 yX2_soundInTruth ∈ TB := tb_5 (List.mem_of_getElem? (i := 6) rfl) rfl
theorem km_X2_180 : Cond.methodLink RX2 180 yX2_learn ∈ TB := tb_5 (List.mem_of_getElem? (i := 7) rfl) rfl
theorem km_L_157 : Cond.methodLink RL 157 yX9_evenings ∈ TB := tb_7 (List.mem_of_getElem? (i := 51) rfl) rfl
theorem ki_X9_evenings : Cond.instanceMethod yX9_evenings ∈ TB := tb_7 (List.mem_of_getElem? (i := 52) rfl) rfl
theorem ks_X9_evenings : Cond.selects RX9 yX9_evenings yX9_evenings ∈ TB := tb_7 (List.mem_of_getElem? (i := 53) rfl) rfl
theorem kc_X9_evenings : Cond.code yX9_evenings cX9_evenings 4 (some .int) ∈ TB := tb_7 (List.mem_of_getElem? (i := 54) rfl) rfl
theorem km_X9_307 : Cond.methodLink RX9 307 yX9_evening ∈ TB := tb_7 (List.mem_of_getElem? (i := 55) rfl) rfl
theorem ki_X9_evening : Cond.instanceMethod yX9_evening ∈ TB := tb_7 (List.mem_of_getElem? (i := 57) rfl) rfl
theorem ks_X9_evening : Cond.selects RX9 yX9_evening yX9_evening ∈ TB := tb_p5 (q := (yX9_evening, 45)) (List.mem_of_getElem? (i := 3) rfl)
theorem kc_X9_evening : Cond.code yX9_evening cX9_evening 8 (some .int) ∈ TB := tb_7 (List.mem_of_getElem? (i := 58) rfl) rfl
theorem km_X9_304 : Cond.methodLink RX9 304 yX9_draw ∈ TB := tb_7 (List.mem_of_getElem? (i := 59) rfl) rfl
theorem ki_X9_draw : Cond.instanceMethod yX9_draw ∈ TB := tb_7 (List.mem_of_getElem? (i := 61) rfl) rfl
theorem ks_X9_draw : Cond.selects RX9 yX9_draw yX9_draw ∈ TB := tb_p5 (q := (yX9_draw, 45)) (List.mem_of_getElem? (i := 4) rfl)
theorem kc_X9_draw : Cond.code yX9_draw cX9_draw 2 (some .int) ∈ TB := tb_7 (List.mem_of_getElem? (i := 62) rfl) rfl
theorem kk_X9_303 : Cond.constant RX9 303 (1103515245) ∈ TB := tb_7 (List.mem_of_getElem? (i := 63) rfl) rfl
theorem km_L_158 : Cond.methodLink RL 158 yX8_seed ∈ TB := tb_5 (List.mem_of_getElem? (i := 8) rfl) rfl
theorem ki_X8_seed : Cond.instanceMethod yX8_seed ∈ TB := tb_5 (List.mem_of_getElem? (i := 9) rfl) rfl
theorem ks_X8_seed : Cond.selects RX8 yX8_seed yX8_seed ∈ TB := tb_5 (List.mem_of_getElem? (i := 10) rfl) rfl
theorem kc_X8_seed : Cond.code yX8_seed cX8_seed 3 (some .int) ∈ TB := tb_5 (List.mem_of_getElem? (i := 11) rfl) rfl
theorem kf_X8_333 : Cond.fieldLink RX8 333 "OnlyMovesHisLips$Hall" "seed" "I" ∈ TB := tb_1 (List.mem_of_getElem? (i := 233) rfl) rfl
theorem km_L_161 : Cond.methodLink RL 161 yX9_seed ∈ TB := tb_7 (List.mem_of_getElem? (i := 64) rfl) rfl
theorem ki_X9_seed : Cond.instanceMethod yX9_seed ∈ TB := tb_7 (List.mem_of_getElem? (i := 65) rfl) rfl
theorem ks_X9_seed : Cond.selects RX9 yX9_seed yX9_seed ∈ TB := tb_7 (List.mem_of_getElem? (i := 66) rfl) rfl
theorem kc_X9_seed : Cond.code yX9_seed cX9_seed 3 (some .int) ∈ TB := tb_7 (List.mem_of_getElem? (i := 67) rfl) rfl
theorem km_L_162 : Cond.methodLink RL 162 yX8_act ∈ TB := tb_5 (List.mem_of_getElem? (i := 12) rfl) rfl
theorem ki_X8_act : Cond.instanceMethod yX8_act ∈ TB := tb_5 (List.mem_of_getElem? (i := 13) rfl) rfl
theorem ks_X8_act : Cond.selects RX8 yX8_act yX8_act ∈ TB := tb_5 (List.mem_of_getElem? (i := 14) rfl) rfl
theorem kc_X8_act : Cond.code yX8_act cX8_act 4 (some .int) ∈ TB := tb_5 (List.mem_of_getElem? (i := 15) rfl) rfl
theorem km_X8_336 : Cond.methodLink RX8 336 yX6_silence ∈ TB := tb_5 (List.mem_of_getElem? (i := 16) rfl) rfl
theorem ki_X6_silence : Cond.instanceMethod yX6_silence ∈ TB := tb_5 (List.mem_of_getElem? (i := 17) rfl) rfl
theorem ks_X6_silence : Cond.selects RX6 yX6_silence yX6_silence ∈ TB := tb_5 (List.mem_of_getElem? (i := 18) rfl) rfl
theorem kc_X6_silence : Cond.code yX6_silence cX6_silence 1 none ∈ TB := tb_5 (List.mem_of_getElem? (i := 19) rfl) rfl
theorem km_X8_339 : Cond.methodLink RX8 339 yX6_perform ∈ TB := tb_5 (List.mem_of_getElem? (i := 20) rfl) rfl
theorem ki_X6_perform : Cond.instanceMethod yX6_perform ∈ TB := tb_5 (List.mem_of_getElem? (i := 21) rfl) rfl
theorem ks_X6_perform : Cond.selects RX6 yX6_perform yX6_perform ∈ TB := tb_5 (List.mem_of_getElem? (i := 22) rfl) rfl
theorem kc_X6_perform : Cond.code yX6_perform cX6_perform 5 (some .int) ∈ TB := tb_5 (List.mem_of_getElem? (i := 23) rfl) rfl
theorem kf_X6_34 : Cond.fieldLink RX6 34 "OnlyMovesHisLips$Choir" "kinds" "[I" ∈ TB := tb_1 (List.mem_of_getElem? (i := 149) rfl) rfl
theorem kf_X6_37 : Cond.fieldLink RX6 37 "OnlyMovesHisLips$Choir" "as" "[I" ∈ TB := tb_1 (List.mem_of_getElem? (i := 152) rfl) rfl
theorem km_X6_28 : Cond.methodLink RX6 28 yX0_has ∈ TB := tb_5 (List.mem_of_getElem? (i := 24) rfl) rfl
theorem km_X6_40 : Cond.methodLink RX6 40 yX6_run ∈ TB := tb_5 (List.mem_of_getElem? (i := 25) rfl) rfl
theorem kt_X6_run : Cond.static yX6_run ∈ TB := tb_5 (List.mem_of_getElem? (i := 26) rfl) rfl
theorem kc_X6_run : Cond.code yX6_run cX6_run 9 (some .int) ∈ TB := tb_5 (List.mem_of_getElem? (i := 27) rfl) rfl
theorem kf_X6_50 : Cond.fieldLink RX6 50 "OnlyMovesHisLips$Voice" "BODIES" "[I" ∈ TB := tb_5 (List.mem_of_getElem? (i := 33) rfl) rfl
theorem kf_X6_44 : Cond.fieldLink RX6 44 "OnlyMovesHisLips$Choir" "ABOVE" "[I" ∈ TB := tb_5 (List.mem_of_getElem? (i := 31) rfl) rfl
theorem km_X6_53 : Cond.methodLink RX6 53 yX6_owner ∈ TB := tb_5 (List.mem_of_getElem? (i := 28) rfl) rfl
theorem kt_X6_owner : Cond.static yX6_owner ∈ TB := tb_5 (List.mem_of_getElem? (i := 29) rfl) rfl
theorem kc_X6_owner : Cond.code yX6_owner cX6_owner 4 (some .int) ∈ TB := tb_5 (List.mem_of_getElem? (i := 30) rfl) rfl
theorem km_X6_47 : Cond.methodLink RX6 47 yX0_isKind ∈ TB := tb_5 (List.mem_of_getElem? (i := 32) rfl) rfl
theorem km_X6_57 : Cond.methodLink RX6 57 yX6_note ∈ TB := tb_5 (List.mem_of_getElem? (i := 35) rfl) rfl
theorem ki_X6_note : Cond.instanceMethod yX6_note ∈ TB := tb_5 (List.mem_of_getElem? (i := 37) rfl) rfl
theorem ks_X6_note : Cond.selects RX6 yX6_note yX6_note ∈ TB := tb_p2 (q := (yX6_note, 5)) (List.mem_of_getElem? (i := 1) rfl)
theorem kc_X6_note : Cond.code yX6_note cX6_note 2 none ∈ TB := tb_5 (List.mem_of_getElem? (i := 38) rfl) rfl
theorem km_L_165 : Cond.methodLink RL 165 yX9_act ∈ TB := tb_7 (List.mem_of_getElem? (i := 68) rfl) rfl
theorem ki_X9_act : Cond.instanceMethod yX9_act ∈ TB := tb_7 (List.mem_of_getElem? (i := 69) rfl) rfl
theorem ks_X9_act : Cond.selects RX9 yX9_act yX9_act ∈ TB := tb_7 (List.mem_of_getElem? (i := 70) rfl) rfl
theorem kc_X9_act : Cond.code yX9_act cX9_act 4 (some .int) ∈ TB := tb_7 (List.mem_of_getElem? (i := 71) rfl) rfl
theorem kf_X9_310 : Cond.fieldLink RX9 310 "OnlyMovesHisLipsModel" "ran" "I" ∈ TB := tb_5 (List.mem_of_getElem? (i := 112) rfl) rfl
theorem km_X9_316 : Cond.methodLink RX9 316 yX9_singing ∈ TB := tb_7 (List.mem_of_getElem? (i := 72) rfl) rfl
theorem ki_X9_singing : Cond.instanceMethod yX9_singing ∈ TB := tb_7 (List.mem_of_getElem? (i := 74) rfl) rfl
theorem ks_X9_singing : Cond.selects RX9 yX9_singing yX9_singing ∈ TB := tb_p5 (q := (yX9_singing, 45)) (List.mem_of_getElem? (i := 5) rfl)
theorem kc_X9_singing : Cond.code yX9_singing cX9_singing 5 (some .int) ∈ TB := tb_7 (List.mem_of_getElem? (i := 75) rfl) rfl
theorem km_X9_313 : Cond.methodLink RX9 313 yX9_body ∈ TB := tb_7 (List.mem_of_getElem? (i := 76) rfl) rfl
theorem ki_X9_body : Cond.instanceMethod yX9_body ∈ TB := tb_7 (List.mem_of_getElem? (i := 78) rfl) rfl
theorem ks_X9_body : Cond.selects RX9 yX9_body yX9_body ∈ TB := tb_p5 (q := (yX9_body, 45)) (List.mem_of_getElem? (i := 6) rfl)
theorem kc_X9_body : Cond.code yX9_body cX9_body 2 none ∈ TB := tb_7 (List.mem_of_getElem? (i := 79) rfl) rfl
theorem km_X9_319 : Cond.methodLink RX9 319 yX9_hearing ∈ TB := tb_7 (List.mem_of_getElem? (i := 80) rfl) rfl
theorem ki_X9_hearing : Cond.instanceMethod yX9_hearing ∈ TB := tb_7 (List.mem_of_getElem? (i := 82) rfl) rfl
theorem ks_X9_hearing : Cond.selects RX9 yX9_hearing yX9_hearing ∈ TB := tb_p5 (q := (yX9_hearing, 45)) (List.mem_of_getElem? (i := 7) rfl)
theorem kc_X9_hearing : Cond.code yX9_hearing cX9_hearing 7 (some .int) ∈ TB := tb_7 (List.mem_of_getElem? (i := 83) rfl) rfl
theorem km_X9_322 : Cond.methodLink RX9 322 yX9_leaning ∈ TB := tb_7 (List.mem_of_getElem? (i := 84) rfl) rfl
theorem ki_X9_leaning : Cond.instanceMethod yX9_leaning ∈ TB := tb_7 (List.mem_of_getElem? (i := 86) rfl) rfl
theorem ks_X9_leaning : Cond.selects RX9 yX9_leaning yX9_leaning ∈ TB := tb_p5 (q := (yX9_leaning, 45)) (List.mem_of_getElem? (i := 8) rfl)
theorem kc_X9_leaning : Cond.code yX9_leaning cX9_leaning 5 (some .int) ∈ TB := tb_7 (List.mem_of_getElem? (i := 87) rfl) rfl
theorem km_L_166 : Cond.methodLink RL 166 yX8_trace ∈ TB := tb_5 (List.mem_of_getElem? (i := 39) rfl) rfl
theorem ki_X8_trace : Cond.instanceMethod yX8_trace ∈ TB := tb_5 (List.mem_of_getElem? (i := 40) rfl) rfl
theorem ks_X8_trace : Cond.selects RX8 yX8_trace yX8_trace ∈ TB := tb_5 (List.mem_of_getElem? (i := 41) rfl) rfl
theorem kc_X8_trace : Cond.code yX8_trace cX8_trace 2 (some .int) ∈ TB := tb_5 (List.mem_of_getElem? (i := 42) rfl) rfl
theorem km_X8_343 : Cond.methodLink RX8 343 yX6_traced ∈ TB := tb_5 (List.mem_of_getElem? (i := 43) rfl) rfl
theorem ki_X6_traced : Cond.instanceMethod yX6_traced ∈ TB := tb_5 (List.mem_of_getElem? (i := 44) rfl) rfl
theorem ks_X6_traced : Cond.selects RX6 yX6_traced yX6_traced ∈ TB := tb_5 (List.mem_of_getElem? (i := 45) rfl) rfl
theorem kc_X6_traced : Cond.code yX6_traced cX6_traced 2 (some .int) ∈ TB := tb_5 (List.mem_of_getElem? (i := 46) rfl) rfl
theorem km_L_169 : Cond.methodLink RL 169 yX9_trace ∈ TB := tb_7 (List.mem_of_getElem? (i := 88) rfl) rfl
theorem ki_X9_trace : Cond.instanceMethod yX9_trace ∈ TB := tb_7 (List.mem_of_getElem? (i := 89) rfl) rfl
theorem ks_X9_trace : Cond.selects RX9 yX9_trace yX9_trace ∈ TB := tb_7 (List.mem_of_getElem? (i := 90) rfl) rfl
theorem kc_X9_trace : Cond.code yX9_trace cX9_trace 2 (some .int) ∈ TB := tb_7 (List.mem_of_getElem? (i := 91) rfl) rfl
theorem km_L_170 : Cond.methodLink RL 170 yX8_image ∈ TB := tb_5 (List.mem_of_getElem? (i := 47) rfl) rfl
theorem ki_X8_image : Cond.instanceMethod yX8_image ∈ TB := tb_5 (List.mem_of_getElem? (i := 48) rfl) rfl
theorem ks_X8_image : Cond.selects RX8 yX8_image yX8_image ∈ TB := tb_5 (List.mem_of_getElem? (i := 49) rfl) rfl
theorem kc_X8_image : Cond.code yX8_image cX8_image 1 (some .int) ∈ TB := tb_5 (List.mem_of_getElem? (i := 50) rfl) rfl
theorem km_L_173 : Cond.methodLink RL 173 yX9_image ∈ TB := tb_7 (List.mem_of_getElem? (i := 92) rfl) rfl
theorem ki_X9_image : Cond.instanceMethod yX9_image ∈ TB := tb_7 (List.mem_of_getElem? (i := 93) rfl) rfl
theorem ks_X9_image : Cond.selects RX9 yX9_image yX9_image ∈ TB := tb_7 (List.mem_of_getElem? (i := 94) rfl) rfl
theorem kc_X9_image : Cond.code yX9_image cX9_image 1 (some .int) ∈ TB := tb_7 (List.mem_of_getElem? (i := 95) rfl) rfl
theorem kf_X9_325 : Cond.fieldLink RX9 325 "OnlyMovesHisLipsModel" "isKept" "Z" ∈ TB := tb_5 (List.mem_of_getElem? (i := 113) rfl) rfl
theorem km_L_174 : Cond.methodLink RL 174 yX8_restore ∈ TB := tb_5 (List.mem_of_getElem? (i := 51) rfl) rfl
theorem ki_X8_restore : Cond.instanceMethod yX8_restore ∈ TB := tb_5 (List.mem_of_getElem? (i := 52) rfl) rfl
theorem ks_X8_restore : Cond.selects RX8 yX8_restore yX8_restore ∈ TB := tb_5 (List.mem_of_getElem? (i := 53) rfl) rfl
theorem kc_X8_restore : Cond.code yX8_restore cX8_restore 2 (some .int) ∈ TB := tb_5 (List.mem_of_getElem? (i := 54) rfl) rfl
theorem km_L_177 : Cond.methodLink RL 177 yX9_restore ∈ TB := tb_7 (List.mem_of_getElem? (i := 96) rfl) rfl
theorem ki_X9_restore : Cond.instanceMethod yX9_restore ∈ TB := tb_7 (List.mem_of_getElem? (i := 97) rfl) rfl
theorem ks_X9_restore : Cond.selects RX9 yX9_restore yX9_restore ∈ TB := tb_7 (List.mem_of_getElem? (i := 98) rfl) rfl
theorem kc_X9_restore : Cond.code yX9_restore cX9_restore 2 (some .int) ∈ TB := tb_7 (List.mem_of_getElem? (i := 99) rfl) rfl
theorem km_L_178 : Cond.methodLink RL 178 yX8_status ∈ TB := tb_5 (List.mem_of_getElem? (i := 55) rfl) rfl
theorem ki_X8_status : Cond.instanceMethod yX8_status ∈ TB := tb_5 (List.mem_of_getElem? (i := 56) rfl) rfl
theorem ks_X8_status : Cond.selects RX8 yX8_status yX8_status ∈ TB := tb_5 (List.mem_of_getElem? (i := 57) rfl) rfl
theorem kc_X8_status : Cond.code yX8_status cX8_status 2 (some .int) ∈ TB := tb_5 (List.mem_of_getElem? (i := 58) rfl) rfl
theorem kf_X8_346 : Cond.fieldLink RX8 346 "OnlyMovesHisLips$Voice" "ran" "I" ∈ TB := tb_1 (List.mem_of_getElem? (i := 37) rfl) rfl
theorem km_X8_349 : Cond.methodLink RX8 349 yX8_refusalsOf ∈ TB := tb_5 (List.mem_of_getElem? (i := 59) rfl) rfl
theorem ki_X8_refusalsOf : Cond.instanceMethod yX8_refusalsOf ∈ TB := tb_5 (List.mem_of_getElem? (i := 61) rfl) rfl
theorem ks_X8_refusalsOf : Cond.selects RX8 yX8_refusalsOf yX8_refusalsOf ∈ TB := tb_p2 (q := (yX8_refusalsOf, 11)) (List.mem_of_getElem? (i := 2) rfl)
theorem kc_X8_refusalsOf : Cond.code yX8_refusalsOf cX8_refusalsOf 3 (some .int) ∈ TB := tb_5 (List.mem_of_getElem? (i := 62) rfl) rfl
theorem km_L_181 : Cond.methodLink RL 181 yX9_status ∈ TB := tb_7 (List.mem_of_getElem? (i := 100) rfl) rfl
theorem ki_X9_status : Cond.instanceMethod yX9_status ∈ TB := tb_7 (List.mem_of_getElem? (i := 101) rfl) rfl
theorem ks_X9_status : Cond.selects RX9 yX9_status yX9_status ∈ TB := tb_7 (List.mem_of_getElem? (i := 102) rfl) rfl
theorem kc_X9_status : Cond.code yX9_status cX9_status 2 (some .int) ∈ TB := tb_7 (List.mem_of_getElem? (i := 103) rfl) rfl
theorem ku_X0_0 : u_lay RX0 TX0 0 ∈ TB := tb_1 (List.mem_of_getElem? (i := 164) rfl) rfl
theorem ku_X0_1 : u_lay RX0 TX0 1 ∈ TB := tb_1 (List.mem_of_getElem? (i := 166) rfl) rfl
theorem ku_X0_2 : u_lay RX0 TX0 2 ∈ TB := tb_1 (List.mem_of_getElem? (i := 168) rfl) rfl
theorem ku_X0_3 : u_lay RX0 TX0 3 ∈ TB := tb_1 (List.mem_of_getElem? (i := 170) rfl) rfl
theorem ku_X0_4 : u_lay RX0 TX0 4 ∈ TB := tb_1 (List.mem_of_getElem? (i := 172) rfl) rfl
theorem ku_X0_5 : u_lay RX0 TX0 5 ∈ TB := tb_1 (List.mem_of_getElem? (i := 174) rfl) rfl
theorem ku_X0 : ∀ w ∈ u_ws RX0 TX0 6, w ∈ TB := (List.forall_mem_cons.mpr ⟨ku_X0_0, (List.forall_mem_cons.mpr ⟨ku_X0_1, (List.forall_mem_cons.mpr ⟨ku_X0_2, (List.forall_mem_cons.mpr ⟨ku_X0_3, (List.forall_mem_cons.mpr ⟨ku_X0_4, (List.forall_mem_cons.mpr ⟨ku_X0_5, (fun _ h => absurd h List.not_mem_nil)⟩)⟩)⟩)⟩)⟩)⟩)
theorem ku_X1_0 : u_lay RX1 TX1 0 ∈ TB := tb_1 (List.mem_of_getElem? (i := 89) rfl) rfl
theorem ku_X1_1 : u_lay RX1 TX1 1 ∈ TB := tb_1 (List.mem_of_getElem? (i := 91) rfl) rfl
theorem ku_X1_2 : u_lay RX1 TX1 2 ∈ TB := tb_1 (List.mem_of_getElem? (i := 93) rfl) rfl
theorem ku_X1_3 : u_lay RX1 TX1 3 ∈ TB := tb_1 (List.mem_of_getElem? (i := 95) rfl) rfl
theorem ku_X1_4 : u_lay RX1 TX1 4 ∈ TB := tb_1 (List.mem_of_getElem? (i := 97) rfl) rfl
theorem ku_X1_5 : u_lay RX1 TX1 5 ∈ TB := tb_1 (List.mem_of_getElem? (i := 99) rfl) rfl
theorem ku_X1_6 : u_lay RX1 TX1 6 ∈ TB := tb_1 (List.mem_of_getElem? (i := 101) rfl) rfl
theorem ku_X1_7 : u_lay RX1 TX1 7 ∈ TB := tb_1 (List.mem_of_getElem? (i := 103) rfl) rfl
theorem ku_X1 : ∀ w ∈ u_ws RX1 TX1 8, w ∈ TB := (List.forall_mem_cons.mpr ⟨ku_X1_0, (List.forall_mem_cons.mpr ⟨ku_X1_1, (List.forall_mem_cons.mpr ⟨ku_X1_2, (List.forall_mem_cons.mpr ⟨ku_X1_3, (List.forall_mem_cons.mpr ⟨ku_X1_4, (List.forall_mem_cons.mpr ⟨ku_X1_5, (List.forall_mem_cons.mpr ⟨ku_X1_6, (List.forall_mem_cons.mpr ⟨ku_X1_7, (fun _ h => absurd h List.not_mem_nil)⟩)⟩)⟩)⟩)⟩)⟩)⟩)⟩)
theorem ku_X2_0 : u_lay RX2 TX2 0 ∈ TB := tb_2 (List.mem_of_getElem? (i := 3) rfl) rfl
theorem ku_X2_1 : u_lay RX2 TX2 1 ∈ TB := tb_2 (List.mem_of_getElem? (i := 5) rfl) rfl
theorem ku_X2_2 : u_lay RX2 TX2 2 ∈ TB := tb_2 (List.mem_of_getElem? (i := 7) rfl) rfl
theorem ku_X2_3 : u_lay RX2 TX2 3 ∈ TB := tb_2 (List.mem_of_getElem? (i := 9) rfl) rfl
theorem ku_X2_4 : u_lay RX2 TX2 4 ∈ TB := tb_2 (List.mem_of_getElem? (i := 11) rfl) rfl
theorem ku_X2_5 : u_lay RX2 TX2 5 ∈ TB := tb_2 (List.mem_of_getElem? (i := 13) rfl) rfl
theorem ku_X2_6 : u_lay RX2 TX2 6 ∈ TB := tb_2 (List.mem_of_getElem? (i := 15) rfl) rfl
theorem ku_X2_7 : u_lay RX2 TX2 7 ∈ TB := tb_2 (List.mem_of_getElem? (i := 17) rfl) rfl
theorem ku_X2_8 : u_lay RX2 TX2 8 ∈ TB := tb_2 (List.mem_of_getElem? (i := 19) rfl) rfl
theorem ku_X2 : ∀ w ∈ u_ws RX2 TX2 9, w ∈ TB := (List.forall_mem_cons.mpr ⟨ku_X2_0, (List.forall_mem_cons.mpr ⟨ku_X2_1, (List.forall_mem_cons.mpr ⟨ku_X2_2, (List.forall_mem_cons.mpr ⟨ku_X2_3, (List.forall_mem_cons.mpr ⟨ku_X2_4, (List.forall_mem_cons.mpr ⟨ku_X2_5, (List.forall_mem_cons.mpr ⟨ku_X2_6, (List.forall_mem_cons.mpr ⟨ku_X2_7, (List.forall_mem_cons.mpr ⟨ku_X2_8, (fun _ h => absurd h List.not_mem_nil)⟩)⟩)⟩)⟩)⟩)⟩)⟩)⟩)⟩)
theorem ku_X3_0 : u_lay RX3 TX3 0 ∈ TB := tb_1 (List.mem_of_getElem? (i := 64) rfl) rfl
theorem ku_X3_1 : u_lay RX3 TX3 1 ∈ TB := tb_1 (List.mem_of_getElem? (i := 66) rfl) rfl
theorem ku_X3_2 : u_lay RX3 TX3 2 ∈ TB := tb_1 (List.mem_of_getElem? (i := 68) rfl) rfl
theorem ku_X3_3 : u_lay RX3 TX3 3 ∈ TB := tb_1 (List.mem_of_getElem? (i := 70) rfl) rfl
theorem ku_X3 : ∀ w ∈ u_ws RX3 TX3 4, w ∈ TB := (List.forall_mem_cons.mpr ⟨ku_X3_0, (List.forall_mem_cons.mpr ⟨ku_X3_1, (List.forall_mem_cons.mpr ⟨ku_X3_2, (List.forall_mem_cons.mpr ⟨ku_X3_3, (fun _ h => absurd h List.not_mem_nil)⟩)⟩)⟩)⟩)
theorem ku_X4_0 : u_lay RX4 TX4 0 ∈ TB := tb_2 (List.mem_of_getElem? (i := 34) rfl) rfl
theorem ku_X4_1 : u_lay RX4 TX4 1 ∈ TB := tb_2 (List.mem_of_getElem? (i := 36) rfl) rfl
theorem ku_X4_2 : u_lay RX4 TX4 2 ∈ TB := tb_2 (List.mem_of_getElem? (i := 38) rfl) rfl
theorem ku_X4 : ∀ w ∈ u_ws RX4 TX4 3, w ∈ TB := (List.forall_mem_cons.mpr ⟨ku_X4_0, (List.forall_mem_cons.mpr ⟨ku_X4_1, (List.forall_mem_cons.mpr ⟨ku_X4_2, (fun _ h => absurd h List.not_mem_nil)⟩)⟩)⟩)
theorem ku_X5_0 : u_lay RX5 TX5 0 ∈ TB := tb_1 (List.mem_of_getElem? (i := 123) rfl) rfl
theorem ku_X5_1 : u_lay RX5 TX5 1 ∈ TB := tb_1 (List.mem_of_getElem? (i := 125) rfl) rfl
theorem ku_X5_2 : u_lay RX5 TX5 2 ∈ TB := tb_1 (List.mem_of_getElem? (i := 127) rfl) rfl
theorem ku_X5_3 : u_lay RX5 TX5 3 ∈ TB := tb_1 (List.mem_of_getElem? (i := 129) rfl) rfl
theorem ku_X5_4 : u_lay RX5 TX5 4 ∈ TB := tb_1 (List.mem_of_getElem? (i := 131) rfl) rfl
theorem ku_X5_5 : u_lay RX5 TX5 5 ∈ TB := tb_1 (List.mem_of_getElem? (i := 133) rfl) rfl
theorem ku_X5 : ∀ w ∈ u_ws RX5 TX5 6, w ∈ TB := (List.forall_mem_cons.mpr ⟨ku_X5_0, (List.forall_mem_cons.mpr ⟨ku_X5_1, (List.forall_mem_cons.mpr ⟨ku_X5_2, (List.forall_mem_cons.mpr ⟨ku_X5_3, (List.forall_mem_cons.mpr ⟨ku_X5_4, (List.forall_mem_cons.mpr ⟨ku_X5_5, (fun _ h => absurd h List.not_mem_nil)⟩)⟩)⟩)⟩)⟩)⟩)
theorem ku_X6_0 : u_lay RX6 TX6 0 ∈ TB := tb_1 (List.mem_of_getElem? (i := 41) rfl) rfl
theorem ku_X6_1 : u_lay RX6 TX6 1 ∈ TB := tb_1 (List.mem_of_getElem? (i := 43) rfl) rfl
theorem ku_X6_2 : u_lay RX6 TX6 2 ∈ TB := tb_1 (List.mem_of_getElem? (i := 45) rfl) rfl
theorem ku_X6_3 : u_lay RX6 TX6 3 ∈ TB := tb_1 (List.mem_of_getElem? (i := 47) rfl) rfl
theorem ku_X6_4 : u_lay RX6 TX6 4 ∈ TB := tb_1 (List.mem_of_getElem? (i := 49) rfl) rfl
theorem ku_X6 : ∀ w ∈ u_ws RX6 TX6 5, w ∈ TB := (List.forall_mem_cons.mpr ⟨ku_X6_0, (List.forall_mem_cons.mpr ⟨ku_X6_1, (List.forall_mem_cons.mpr ⟨ku_X6_2, (List.forall_mem_cons.mpr ⟨ku_X6_3, (List.forall_mem_cons.mpr ⟨ku_X6_4, (fun _ h => absurd h List.not_mem_nil)⟩)⟩)⟩)⟩)⟩)
theorem ku_X7_0 : u_lay RX7 TX7 0 ∈ TB := tb_1 (List.mem_of_getElem? (i := 199) rfl) rfl
theorem ku_X7_1 : u_lay RX7 TX7 1 ∈ TB := tb_1 (List.mem_of_getElem? (i := 201) rfl) rfl
theorem ku_X7_2 : u_lay RX7 TX7 2 ∈ TB := tb_1 (List.mem_of_getElem? (i := 203) rfl) rfl
theorem ku_X7_3 : u_lay RX7 TX7 3 ∈ TB := tb_1 (List.mem_of_getElem? (i := 205) rfl) rfl
theorem ku_X7_4 : u_lay RX7 TX7 4 ∈ TB := tb_1 (List.mem_of_getElem? (i := 207) rfl) rfl
theorem ku_X7_5 : u_lay RX7 TX7 5 ∈ TB := tb_1 (List.mem_of_getElem? (i := 209) rfl) rfl
theorem ku_X7_6 : u_lay RX7 TX7 6 ∈ TB := tb_1 (List.mem_of_getElem? (i := 211) rfl) rfl
theorem ku_X7_7 : u_lay RX7 TX7 7 ∈ TB := tb_1 (List.mem_of_getElem? (i := 213) rfl) rfl
theorem ku_X7_8 : u_lay RX7 TX7 8 ∈ TB := tb_1 (List.mem_of_getElem? (i := 215) rfl) rfl
theorem ku_X7 : ∀ w ∈ u_ws RX7 TX7 9, w ∈ TB := (List.forall_mem_cons.mpr ⟨ku_X7_0, (List.forall_mem_cons.mpr ⟨ku_X7_1, (List.forall_mem_cons.mpr ⟨ku_X7_2, (List.forall_mem_cons.mpr ⟨ku_X7_3, (List.forall_mem_cons.mpr ⟨ku_X7_4, (List.forall_mem_cons.mpr ⟨ku_X7_5, (List.forall_mem_cons.mpr ⟨ku_X7_6, (List.forall_mem_cons.mpr ⟨ku_X7_7, (List.forall_mem_cons.mpr ⟨ku_X7_8, (fun _ h => absurd h List.not_mem_nil)⟩)⟩)⟩)⟩)⟩)⟩)⟩)⟩)⟩)
theorem ku_X8_0 : u_lay RX8 TX8 0 ∈ TB := tb_2 (List.mem_of_getElem? (i := 52) rfl) rfl
theorem ku_X8_1 : u_lay RX8 TX8 1 ∈ TB := tb_2 (List.mem_of_getElem? (i := 54) rfl) rfl
theorem ku_X8_2 : u_lay RX8 TX8 2 ∈ TB := tb_2 (List.mem_of_getElem? (i := 56) rfl) rfl
theorem ku_X8_3 : u_lay RX8 TX8 3 ∈ TB := tb_2 (List.mem_of_getElem? (i := 58) rfl) rfl
theorem ku_X8_4 : u_lay RX8 TX8 4 ∈ TB := tb_2 (List.mem_of_getElem? (i := 60) rfl) rfl
theorem ku_X8_5 : u_lay RX8 TX8 5 ∈ TB := tb_2 (List.mem_of_getElem? (i := 62) rfl) rfl
theorem ku_X8_6 : u_lay RX8 TX8 6 ∈ TB := tb_2 (List.mem_of_getElem? (i := 64) rfl) rfl
theorem ku_X8_7 : u_lay RX8 TX8 7 ∈ TB := tb_2 (List.mem_of_getElem? (i := 66) rfl) rfl
theorem ku_X8_8 : u_lay RX8 TX8 8 ∈ TB := tb_2 (List.mem_of_getElem? (i := 68) rfl) rfl
theorem ku_X8_9 : u_lay RX8 TX8 9 ∈ TB := tb_2 (List.mem_of_getElem? (i := 70) rfl) rfl
theorem ku_X8_10 : u_lay RX8 TX8 10 ∈ TB := tb_2 (List.mem_of_getElem? (i := 72) rfl) rfl
theorem ku_X8 : ∀ w ∈ u_ws RX8 TX8 11, w ∈ TB := (List.forall_mem_cons.mpr ⟨ku_X8_0, (List.forall_mem_cons.mpr ⟨ku_X8_1, (List.forall_mem_cons.mpr ⟨ku_X8_2, (List.forall_mem_cons.mpr ⟨ku_X8_3, (List.forall_mem_cons.mpr ⟨ku_X8_4, (List.forall_mem_cons.mpr ⟨ku_X8_5, (List.forall_mem_cons.mpr ⟨ku_X8_6, (List.forall_mem_cons.mpr ⟨ku_X8_7, (List.forall_mem_cons.mpr ⟨ku_X8_8, (List.forall_mem_cons.mpr ⟨ku_X8_9, (List.forall_mem_cons.mpr ⟨ku_X8_10, (fun _ h => absurd h List.not_mem_nil)⟩)⟩)⟩)⟩)⟩)⟩)⟩)⟩)⟩)⟩)⟩)
theorem ku_X9_0 : u_lay RX9 TX9 0 ∈ TB := tb_5 (List.mem_of_getElem? (i := 114) rfl) rfl
theorem ku_X9_1 : u_lay RX9 TX9 1 ∈ TB := tb_5 (List.mem_of_getElem? (i := 116) rfl) rfl
theorem ku_X9_2 : u_lay RX9 TX9 2 ∈ TB := tb_5 (List.mem_of_getElem? (i := 118) rfl) rfl
theorem ku_X9_3 : u_lay RX9 TX9 3 ∈ TB := tb_5 (List.mem_of_getElem? (i := 120) rfl) rfl
theorem ku_X9_4 : u_lay RX9 TX9 4 ∈ TB := tb_5 (List.mem_of_getElem? (i := 122) rfl) rfl
theorem ku_X9_5 : u_lay RX9 TX9 5 ∈ TB := tb_5 (List.mem_of_getElem? (i := 124) rfl) rfl
theorem ku_X9_6 : u_lay RX9 TX9 6 ∈ TB := tb_5 (List.mem_of_getElem? (i := 126) rfl) rfl
theorem ku_X9_7 : u_lay RX9 TX9 7 ∈ TB := tb_5 (List.mem_of_getElem? (i := 128) rfl) rfl
theorem ku_X9_8 : u_lay RX9 TX9 8 ∈ TB := tb_5 (List.mem_of_getElem? (i := 130) rfl) rfl
theorem ku_X9_9 : u_lay RX9 TX9 9 ∈ TB := tb_5 (List.mem_of_getElem? (i := 132) rfl) rfl
theorem ku_X9_10 : u_lay RX9 TX9 10 ∈ TB := tb_5 (List.mem_of_getElem? (i := 134) rfl) rfl
theorem ku_X9_11 : u_lay RX9 TX9 11 ∈ TB := tb_5 (List.mem_of_getElem? (i := 136) rfl) rfl
theorem ku_X9_12 : u_lay RX9 TX9 12 ∈ TB := tb_5 (List.mem_of_getElem? (i := 138) rfl) rfl
theorem ku_X9_13 : u_lay RX9 TX9 13 ∈ TB := tb_5 (List.mem_of_getElem? (i := 140) rfl) rfl
theorem ku_X9_14 : u_lay RX9 TX9 14 ∈ TB := tb_5 (List.mem_of_getElem? (i := 142) rfl) rfl
theorem ku_X9_15 : u_lay RX9 TX9 15 ∈ TB := tb_5 (List.mem_of_getElem? (i := 144) rfl) rfl
theorem ku_X9_16 : u_lay RX9 TX9 16 ∈ TB := tb_5 (List.mem_of_getElem? (i := 146) rfl) rfl
theorem ku_X9_17 : u_lay RX9 TX9 17 ∈ TB := tb_5 (List.mem_of_getElem? (i := 148) rfl) rfl
theorem ku_X9_18 : u_lay RX9 TX9 18 ∈ TB := tb_5 (List.mem_of_getElem? (i := 150) rfl) rfl
theorem ku_X9_19 : u_lay RX9 TX9 19 ∈ TB := tb_5 (List.mem_of_getElem? (i := 152) rfl) rfl
theorem ku_X9_20 : u_lay RX9 TX9 20 ∈ TB := tb_5 (List.mem_of_getElem? (i := 154) rfl) rfl
theorem ku_X9_21 : u_lay RX9 TX9 21 ∈ TB := tb_5 (List.mem_of_getElem? (i := 156) rfl) rfl
theorem ku_X9_22 : u_lay RX9 TX9 22 ∈ TB := tb_5 (List.mem_of_getElem? (i := 158) rfl) rfl
theorem ku_X9_23 : u_lay RX9 TX9 23 ∈ TB := tb_5 (List.mem_of_getElem? (i := 160) rfl) rfl
theorem ku_X9_24 : u_lay RX9 TX9 24 ∈ TB := tb_5 (List.mem_of_getElem? (i := 162) rfl) rfl
theorem ku_X9_25 : u_lay RX9 TX9 25 ∈ TB := tb_5 (List.mem_of_getElem? (i := 164) rfl) rfl
theorem ku_X9_26 : u_lay RX9 TX9 26 ∈ TB := tb_5 (List.mem_of_getElem? (i := 166) rfl) rfl
theorem ku_X9_27 : u_lay RX9 TX9 27 ∈ TB := tb_5 (List.mem_of_getElem? (i := 168) rfl) rfl
theorem ku_X9_28 : u_lay RX9 TX9 28 ∈ TB := tb_5 (List.mem_of_getElem? (i := 170) rfl) rfl
theorem ku_X9_29 : u_lay RX9 TX9 29 ∈ TB := tb_5 (List.mem_of_getElem? (i := 172) rfl) rfl
theorem ku_X9_30 : u_lay RX9 TX9 30 ∈ TB := tb_5 (List.mem_of_getElem? (i := 174) rfl) rfl
theorem ku_X9_31 : u_lay RX9 TX9 31 ∈ TB := tb_5 (List.mem_of_getElem? (i := 176) rfl) rfl
theorem ku_X9_32 : u_lay RX9 TX9 32 ∈ TB := tb_5 (List.mem_of_getElem? (i := 178) rfl) rfl
theorem ku_X9_33 : u_lay RX9 TX9 33 ∈ TB := tb_5 (List.mem_of_getElem? (i := 180) rfl) rfl
theorem ku_X9_34 : u_lay RX9 TX9 34 ∈ TB := tb_5 (List.mem_of_getElem? (i := 182) rfl) rfl
theorem ku_X9_35 : u_lay RX9 TX9 35 ∈ TB := tb_5 (List.mem_of_getElem? (i := 184) rfl) rfl
theorem ku_X9_36 : u_lay RX9 TX9 36 ∈ TB := tb_5 (List.mem_of_getElem? (i := 186) rfl) rfl
theorem ku_X9_37 : u_lay RX9 TX9 37 ∈ TB := tb_5 (List.mem_of_getElem? (i := 188) rfl) rfl
theorem ku_X9_38 : u_lay RX9 TX9 38 ∈ TB := tb_5 (List.mem_of_getElem? (i := 190) rfl) rfl
theorem ku_X9_39 : u_lay RX9 TX9 39 ∈ TB := tb_5 (List.mem_of_getElem? (i := 192) rfl) rfl
theorem ku_X9_40 : u_lay RX9 TX9 40 ∈ TB := tb_5 (List.mem_of_getElem? (i := 194) rfl) rfl
theorem ku_X9_41 : u_lay RX9 TX9 41 ∈ TB := tb_5 (List.mem_of_getElem? (i := 196) rfl) rfl
theorem ku_X9_42 : u_lay RX9 TX9 42 ∈ TB := tb_5 (List.mem_of_getElem? (i := 198) rfl) rfl
theorem ku_X9_43 : u_lay RX9 TX9 43 ∈ TB := tb_5 (List.mem_of_getElem? (i := 200) rfl) rfl
theorem ku_X9_44 : u_lay RX9 TX9 44 ∈ TB := tb_5 (List.mem_of_getElem? (i := 202) rfl) rfl
theorem ku_X9 : ∀ w ∈ u_ws RX9 TX9 45, w ∈ TB := (List.forall_mem_cons.mpr ⟨ku_X9_0, (List.forall_mem_cons.mpr ⟨ku_X9_1, (List.forall_mem_cons.mpr ⟨ku_X9_2, (List.forall_mem_cons.mpr ⟨ku_X9_3, (List.forall_mem_cons.mpr ⟨ku_X9_4, (List.forall_mem_cons.mpr ⟨ku_X9_5, (List.forall_mem_cons.mpr ⟨ku_X9_6, (List.forall_mem_cons.mpr ⟨ku_X9_7, (List.forall_mem_cons.mpr ⟨ku_X9_8, (List.forall_mem_cons.mpr ⟨ku_X9_9, (List.forall_mem_cons.mpr ⟨ku_X9_10, (List.forall_mem_cons.mpr ⟨ku_X9_11, (List.forall_mem_cons.mpr ⟨ku_X9_12, (List.forall_mem_cons.mpr ⟨ku_X9_13, (List.forall_mem_cons.mpr ⟨ku_X9_14, (List.forall_mem_cons.mpr ⟨ku_X9_15, (List.forall_mem_cons.mpr ⟨ku_X9_16, (List.forall_mem_cons.mpr ⟨ku_X9_17, (List.forall_mem_cons.mpr ⟨ku_X9_18, (List.forall_mem_cons.mpr ⟨ku_X9_19, (List.forall_mem_cons.mpr ⟨ku_X9_20, (List.forall_mem_cons.mpr ⟨ku_X9_21, (List.forall_mem_cons.mpr ⟨ku_X9_22, (List.forall_mem_cons.mpr ⟨ku_X9_23, (List.forall_mem_cons.mpr ⟨ku_X9_24, (List.forall_mem_cons.mpr ⟨ku_X9_25, (List.forall_mem_cons.mpr ⟨ku_X9_26, (List.forall_mem_cons.mpr ⟨ku_X9_27, (List.forall_mem_cons.mpr ⟨ku_X9_28, (List.forall_mem_cons.mpr ⟨ku_X9_29, (List.forall_mem_cons.mpr ⟨ku_X9_30, (List.forall_mem_cons.mpr ⟨ku_X9_31, (List.forall_mem_cons.mpr ⟨ku_X9_32, (List.forall_mem_cons.mpr ⟨ku_X9_33, (List.forall_mem_cons.mpr ⟨ku_X9_34, (List.forall_mem_cons.mpr ⟨ku_X9_35, (List.forall_mem_cons.mpr ⟨ku_X9_36, (List.forall_mem_cons.mpr ⟨ku_X9_37, (List.forall_mem_cons.mpr ⟨ku_X9_38, (List.forall_mem_cons.mpr ⟨ku_X9_39, (List.forall_mem_cons.mpr ⟨ku_X9_40, (List.forall_mem_cons.mpr ⟨ku_X9_41, (List.forall_mem_cons.mpr ⟨ku_X9_42, (List.forall_mem_cons.mpr ⟨ku_X9_43, (List.forall_mem_cons.mpr ⟨ku_X9_44, (fun _ h => absurd h List.not_mem_nil)⟩)⟩)⟩)⟩)⟩)⟩)⟩)⟩)⟩)⟩)⟩)⟩)⟩)⟩)⟩)⟩)⟩)⟩)⟩)⟩)⟩)⟩)⟩)⟩)⟩)⟩)⟩)⟩)⟩)⟩)⟩)⟩)⟩)⟩)⟩)⟩)⟩)⟩)⟩)⟩)⟩)⟩)⟩)⟩)⟩)

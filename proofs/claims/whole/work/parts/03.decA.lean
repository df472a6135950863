theorem dX0_init_0 : decode cX0_init 0 = .ok (.aload_n 0, 1) := by decide +kernel
theorem dX0_init_1 : decode cX0_init 1 = .ok (.invokespecial 3, 3) := by decide +kernel
theorem dX0_init_4 : decode cX0_init 4 = .ok (.aload_n 0, 1) := by decide +kernel
theorem dX0_init_5 : decode cX0_init 5 = .ok (.bipush 8, 2) := by decide +kernel
theorem dX0_init_7 : decode cX0_init 7 = .ok (.newarray .int, 2) := by decide +kernel
theorem dX0_init_9 : decode cX0_init 9 = .ok (.putfield 11, 3) := by decide +kernel
theorem dX0_init_12 : decode cX0_init 12 = .ok (.aload_n 0, 1) := by decide +kernel
theorem dX0_init_13 : decode cX0_init 13 = .ok (.bipush 8, 2) := by decide +kernel
theorem dX0_init_15 : decode cX0_init 15 = .ok (.newarray .int, 2) := by decide +kernel
theorem dX0_init_17 : decode cX0_init 17 = .ok (.putfield 15, 3) := by decide +kernel
theorem dX0_init_20 : decode cX0_init 20 = .ok (.aload_n 0, 1) := by decide +kernel
theorem dX0_init_21 : decode cX0_init 21 = .ok (.bipush 8, 2) := by decide +kernel
theorem dX0_init_23 : decode cX0_init 23 = .ok (.newarray .int, 2) := by decide +kernel
theorem dX0_init_25 : decode cX0_init 25 = .ok (.putfield 18, 3) := by decide +kernel
theorem dX0_init_28 : decode cX0_init 28 = .ok (.aload_n 0, 1) := by decide +kernel
theorem dX0_init_29 : decode cX0_init 29 = .ok (.bipush 8, 2) := by decide +kernel
theorem dX0_init_31 : decode cX0_init 31 = .ok (.newarray .int, 2) := by decide +kernel
theorem dX0_init_33 : decode cX0_init 33 = .ok (.putfield 21, 3) := by decide +kernel
theorem dX0_init_36 : decode cX0_init 36 = .ok (.aload_n 0, 1) := by decide +kernel
theorem dX0_init_37 : decode cX0_init 37 = .ok (.bipush 10, 2) := by decide +kernel
theorem dX0_init_39 : decode cX0_init 39 = .ok (.newarray .int, 2) := by decide +kernel
theorem dX0_init_41 : decode cX0_init 41 = .ok (.putfield 24, 3) := by decide +kernel
theorem dX0_init_44 : decode cX0_init 44 = .ok (.aload_n 0, 1) := by decide +kernel
theorem dX0_init_45 : decode cX0_init 45 = .ok (.iconst 0, 1) := by decide +kernel
theorem dX0_init_46 : decode cX0_init 46 = .ok (.putfield 27, 3) := by decide +kernel
theorem dX0_init_49 : decode cX0_init 49 = .ok (.return_, 1) := by decide +kernel
theorem dX0_isKind_0 : decode cX0_isKind 0 = .ok (.iload_n 0, 1) := by decide +kernel
theorem dX0_isKind_1 : decode cX0_isKind 1 = .ok (.ifCond .lt 13, 3) := by decide +kernel
theorem dX0_isKind_4 : decode cX0_isKind 4 = .ok (.iload_n 0, 1) := by decide +kernel
theorem dX0_isKind_5 : decode cX0_isKind 5 = .ok (.bipush 6, 2) := by decide +kernel
theorem dX0_isKind_7 : decode cX0_isKind 7 = .ok (.if_icmp .gt 7, 3) := by decide +kernel
theorem dX0_isKind_10 : decode cX0_isKind 10 = .ok (.iconst 1, 1) := by decide +kernel
theorem dX0_isKind_11 : decode cX0_isKind 11 = .ok (.goto 4, 3) := by decide +kernel
theorem dX0_isKind_14 : decode cX0_isKind 14 = .ok (.iconst 0, 1) := by decide +kernel
theorem dX0_isKind_15 : decode cX0_isKind 15 = .ok (.ireturn, 1) := by decide +kernel
theorem dX0_isA_0 : decode cX0_isA 0 = .ok (.iload_n 0, 1) := by decide +kernel
theorem dX0_isA_1 : decode cX0_isA 1 = .ok (.ifCond .lt 13, 3) := by decide +kernel
theorem dX0_isA_4 : decode cX0_isA 4 = .ok (.iload_n 0, 1) := by decide +kernel
theorem dX0_isA_5 : decode cX0_isA 5 = .ok (.bipush 9, 2) := by decide +kernel
theorem dX0_isA_7 : decode cX0_isA 7 = .ok (.if_icmp .gt 7, 3) := by decide +kernel
theorem dX0_isA_10 : decode cX0_isA 10 = .ok (.iconst 1, 1) := by decide +kernel
theorem dX0_isA_11 : decode cX0_isA 11 = .ok (.goto 4, 3) := by decide +kernel
theorem dX0_isA_14 : decode cX0_isA 14 = .ok (.iconst 0, 1) := by decide +kernel
theorem dX0_isA_15 : decode cX0_isA 15 = .ok (.ireturn, 1) := by decide +kernel
theorem dX0_isOdds_0 : decode cX0_isOdds 0 = .ok (.iload_n 0, 1) := by decide +kernel
theorem dX0_isOdds_1 : decode cX0_isOdds 1 = .ok (.iconst 1, 1) := by decide +kernel
theorem dX0_isOdds_2 : decode cX0_isOdds 2 = .ok (.if_icmp .lt 13, 3) := by decide +kernel
theorem dX0_isOdds_5 : decode cX0_isOdds 5 = .ok (.iload_n 0, 1) := by decide +kernel
theorem dX0_isOdds_6 : decode cX0_isOdds 6 = .ok (.bipush 9, 2) := by decide +kernel
theorem dX0_isOdds_8 : decode cX0_isOdds 8 = .ok (.if_icmp .gt 7, 3) := by decide +kernel
theorem dX0_isOdds_11 : decode cX0_isOdds 11 = .ok (.iconst 1, 1) := by decide +kernel
theorem dX0_isOdds_12 : decode cX0_isOdds 12 = .ok (.goto 4, 3) := by decide +kernel
theorem dX0_isOdds_15 : decode cX0_isOdds 15 = .ok (.iconst 0, 1) := by decide +kernel
theorem dX0_isOdds_16 : decode cX0_isOdds 16 = .ok (.ireturn, 1) := by decide +kernel
theorem dX0_isUnder_0 : decode cX0_isUnder 0 = .ok (.iload_n 0, 1) := by decide +kernel
theorem dX0_isUnder_1 : decode cX0_isUnder 1 = .ok (.istore_n 2, 1) := by decide +kernel
theorem dX0_isUnder_2 : decode cX0_isUnder 2 = .ok (.iconst 0, 1) := by decide +kernel
theorem dX0_isUnder_3 : decode cX0_isUnder 3 = .ok (.istore_n 3, 1) := by decide +kernel
theorem dX0_isUnder_4 : decode cX0_isUnder 4 = .ok (.iload_n 3, 1) := by decide +kernel
theorem dX0_isUnder_5 : decode cX0_isUnder 5 = .ok (.getstatic 31, 3) := by decide +kernel
theorem dX0_isUnder_8 : decode cX0_isUnder 8 = .ok (.arraylength, 1) := by decide +kernel
theorem dX0_isUnder_9 : decode cX0_isUnder 9 = .ok (.if_icmp .ge 29, 3) := by decide +kernel
theorem dX0_isUnder_12 : decode cX0_isUnder 12 = .ok (.iload_n 2, 1) := by decide +kernel
theorem dX0_isUnder_13 : decode cX0_isUnder 13 = .ok (.invokestatic 34, 3) := by decide +kernel
theorem dX0_isUnder_16 : decode cX0_isUnder 16 = .ok (.ifCond .eq 22, 3) := by decide +kernel
theorem dX0_isUnder_19 : decode cX0_isUnder 19 = .ok (.iload_n 2, 1) := by decide +kernel
theorem dX0_isUnder_20 : decode cX0_isUnder 20 = .ok (.iload_n 1, 1) := by decide +kernel
theorem dX0_isUnder_21 : decode cX0_isUnder 21 = .ok (.if_icmp .ne 5, 3) := by decide +kernel
theorem dX0_isUnder_24 : decode cX0_isUnder 24 = .ok (.iconst 1, 1) := by decide +kernel
theorem dX0_isUnder_25 : decode cX0_isUnder 25 = .ok (.ireturn, 1) := by decide +kernel
theorem dX0_isUnder_26 : decode cX0_isUnder 26 = .ok (.getstatic 31, 3) := by decide +kernel
theorem dX0_isUnder_29 : decode cX0_isUnder 29 = .ok (.iload_n 2, 1) := by decide +kernel
theorem dX0_isUnder_30 : decode cX0_isUnder 30 = .ok (.iaload, 1) := by decide +kernel
theorem dX0_isUnder_31 : decode cX0_isUnder 31 = .ok (.istore_n 2, 1) := by decide +kernel
theorem dX0_isUnder_32 : decode cX0_isUnder 32 = .ok (.iinc 3 1, 3) := by decide +kernel
theorem dX0_isUnder_35 : decode cX0_isUnder 35 = .ok (.goto (-31), 3) := by decide +kernel
theorem dX0_isUnder_38 : decode cX0_isUnder 38 = .ok (.iconst 0, 1) := by decide +kernel
theorem dX0_isUnder_39 : decode cX0_isUnder 39 = .ok (.ireturn, 1) := by decide +kernel
theorem dX0_copyOf_0 : decode cX0_copyOf 0 = .ok (.aload_n 1, 1) := by decide +kernel
theorem dX0_copyOf_1 : decode cX0_copyOf 1 = .ok (.getfield 11, 3) := by decide +kernel
theorem dX0_copyOf_4 : decode cX0_copyOf 4 = .ok (.iconst 0, 1) := by decide +kernel
theorem dX0_copyOf_5 : decode cX0_copyOf 5 = .ok (.aload_n 0, 1) := by decide +kernel
theorem dX0_copyOf_6 : decode cX0_copyOf 6 = .ok (.getfield 11, 3) := by decide +kernel
theorem dX0_copyOf_9 : decode cX0_copyOf 9 = .ok (.iconst 0, 1) := by decide +kernel
theorem dX0_copyOf_10 : decode cX0_copyOf 10 = .ok (.bipush 8, 2) := by decide +kernel
theorem dX0_copyOf_12 : decode cX0_copyOf 12 = .ok (.invokestatic 38, 3) := by decide +kernel
theorem dX0_copyOf_15 : decode cX0_copyOf 15 = .ok (.aload_n 1, 1) := by decide +kernel
theorem dX0_copyOf_16 : decode cX0_copyOf 16 = .ok (.getfield 15, 3) := by decide +kernel
theorem dX0_copyOf_19 : decode cX0_copyOf 19 = .ok (.iconst 0, 1) := by decide +kernel
theorem dX0_copyOf_20 : decode cX0_copyOf 20 = .ok (.aload_n 0, 1) := by decide +kernel
theorem dX0_copyOf_21 : decode cX0_copyOf 21 = .ok (.getfield 15, 3) := by decide +kernel
theorem dX0_copyOf_24 : decode cX0_copyOf 24 = .ok (.iconst 0, 1) := by decide +kernel
theorem dX0_copyOf_25 : decode cX0_copyOf 25 = .ok (.bipush 8, 2) := by decide +kernel
theorem dX0_copyOf_27 : decode cX0_copyOf 27 = .ok (.invokestatic 38, 3) := by decide +kernel
theorem dX0_copyOf_30 : decode cX0_copyOf 30 = .ok (.aload_n 1, 1) := by decide +kernel
theorem dX0_copyOf_31 : decode cX0_copyOf 31 = .ok (.getfield 18, 3) := by decide +kernel
theorem dX0_copyOf_34 : decode cX0_copyOf 34 = .ok (.iconst 0, 1) := by decide +kernel
theorem dX0_copyOf_35 : decode cX0_copyOf 35 = .ok (.aload_n 0, 1) := by decide +kernel
theorem dX0_copyOf_36 : decode cX0_copyOf 36 = .ok (.getfield 18, 3) := by decide +kernel
theorem dX0_copyOf_39 : decode cX0_copyOf 39 = .ok (.iconst 0, 1) := by decide +kernel
theorem dX0_copyOf_40 : decode cX0_copyOf 40 = .ok (.bipush 8, 2) := by decide +kernel
theorem dX0_copyOf_42 : decode cX0_copyOf 42 = .ok (.invokestatic 38, 3) := by decide +kernel
theorem dX0_copyOf_45 : decode cX0_copyOf 45 = .ok (.aload_n 1, 1) := by decide +kernel
theorem dX0_copyOf_46 : decode cX0_copyOf 46 = .ok (.getfield 21, 3) := by decide +kernel
theorem dX0_copyOf_49 : decode cX0_copyOf 49 = .ok (.iconst 0, 1) := by decide +kernel
theorem dX0_copyOf_50 : decode cX0_copyOf 50 = .ok (.aload_n 0, 1) := by decide +kernel
theorem dX0_copyOf_51 : decode cX0_copyOf 51 = .ok (.getfield 21, 3) := by decide +kernel
theorem dX0_copyOf_54 : decode cX0_copyOf 54 = .ok (.iconst 0, 1) := by decide +kernel
theorem dX0_copyOf_55 : decode cX0_copyOf 55 = .ok (.bipush 8, 2) := by decide +kernel
theorem dX0_copyOf_57 : decode cX0_copyOf 57 = .ok (.invokestatic 38, 3) := by decide +kernel
theorem dX0_copyOf_60 : decode cX0_copyOf 60 = .ok (.aload_n 1, 1) := by decide +kernel
theorem dX0_copyOf_61 : decode cX0_copyOf 61 = .ok (.getfield 24, 3) := by decide +kernel
theorem dX0_copyOf_64 : decode cX0_copyOf 64 = .ok (.iconst 0, 1) := by decide +kernel
theorem dX0_copyOf_65 : decode cX0_copyOf 65 = .ok (.aload_n 0, 1) := by decide +kernel
theorem dX0_copyOf_66 : decode cX0_copyOf 66 = .ok (.getfield 24, 3) := by decide +kernel
theorem dX0_copyOf_69 : decode cX0_copyOf 69 = .ok (.iconst 0, 1) := by decide +kernel
theorem dX0_copyOf_70 : decode cX0_copyOf 70 = .ok (.bipush 10, 2) := by decide +kernel
theorem dX0_copyOf_72 : decode cX0_copyOf 72 = .ok (.invokestatic 38, 3) := by decide +kernel
theorem dX0_copyOf_75 : decode cX0_copyOf 75 = .ok (.aload_n 0, 1) := by decide +kernel
theorem dX0_copyOf_76 : decode cX0_copyOf 76 = .ok (.aload_n 1, 1) := by decide +kernel
theorem dX0_copyOf_77 : decode cX0_copyOf 77 = .ok (.getfield 27, 3) := by decide +kernel
theorem dX0_copyOf_80 : decode cX0_copyOf 80 = .ok (.putfield 27, 3) := by decide +kernel
theorem dX0_copyOf_83 : decode cX0_copyOf 83 = .ok (.return_, 1) := by decide +kernel
theorem dX0_has_0 : decode cX0_has 0 = .ok (.iload_n 1, 1) := by decide +kernel
theorem dX0_has_1 : decode cX0_has 1 = .ok (.ifCond .lt 15, 3) := by decide +kernel
theorem dX0_has_4 : decode cX0_has 4 = .ok (.iload_n 1, 1) := by decide +kernel
theorem dX0_has_5 : decode cX0_has 5 = .ok (.aload_n 0, 1) := by decide +kernel
theorem dX0_has_6 : decode cX0_has 6 = .ok (.getfield 27, 3) := by decide +kernel
theorem dX0_has_9 : decode cX0_has 9 = .ok (.if_icmp .ge 7, 3) := by decide +kernel
theorem dX0_has_12 : decode cX0_has 12 = .ok (.iconst 1, 1) := by decide +kernel
theorem dX0_has_13 : decode cX0_has 13 = .ok (.goto 4, 3) := by decide +kernel
theorem dX0_has_16 : decode cX0_has 16 = .ok (.iconst 0, 1) := by decide +kernel
theorem dX0_has_17 : decode cX0_has 17 = .ok (.ireturn, 1) := by decide +kernel
theorem dX0_hasRoom_0 : decode cX0_hasRoom 0 = .ok (.aload_n 0, 1) := by decide +kernel
theorem dX0_hasRoom_1 : decode cX0_hasRoom 1 = .ok (.getfield 27, 3) := by decide +kernel
theorem dX0_hasRoom_4 : decode cX0_hasRoom 4 = .ok (.bipush 8, 2) := by decide +kernel
theorem dX0_hasRoom_6 : decode cX0_hasRoom 6 = .ok (.if_icmp .ge 7, 3) := by decide +kernel
theorem dX0_hasRoom_9 : decode cX0_hasRoom 9 = .ok (.iconst 1, 1) := by decide +kernel
theorem dX0_hasRoom_10 : decode cX0_hasRoom 10 = .ok (.goto 4, 3) := by decide +kernel
theorem dX0_hasRoom_13 : decode cX0_hasRoom 13 = .ok (.iconst 0, 1) := by decide +kernel
theorem dX0_hasRoom_14 : decode cX0_hasRoom 14 = .ok (.ireturn, 1) := by decide +kernel
theorem dX0_all_0 : decode cX0_all 0 = .ok (.iconst 1, 1) := by decide +kernel
theorem dX0_all_1 : decode cX0_all 1 = .ok (.aload_n 0, 1) := by decide +kernel
theorem dX0_all_2 : decode cX0_all 2 = .ok (.getfield 27, 3) := by decide +kernel
theorem dX0_all_5 : decode cX0_all 5 = .ok (.ishl, 1) := by decide +kernel
theorem dX0_all_6 : decode cX0_all 6 = .ok (.iconst 1, 1) := by decide +kernel
theorem dX0_all_7 : decode cX0_all 7 = .ok (.isub, 1) := by decide +kernel
theorem dX0_all_8 : decode cX0_all 8 = .ok (.ireturn, 1) := by decide +kernel
theorem dX0_isSet_0 : decode cX0_isSet 0 = .ok (.iload_n 1, 1) := by decide +kernel
theorem dX0_isSet_1 : decode cX0_isSet 1 = .ok (.ifCond .le 15, 3) := by decide +kernel
theorem dX0_isSet_4 : decode cX0_isSet 4 = .ok (.iload_n 1, 1) := by decide +kernel
theorem dX0_isSet_5 : decode cX0_isSet 5 = .ok (.aload_n 0, 1) := by decide +kernel
theorem dX0_isSet_6 : decode cX0_isSet 6 = .ok (.invokevirtual 44, 3) := by decide +kernel
theorem dX0_isSet_9 : decode cX0_isSet 9 = .ok (.if_icmp .gt 7, 3) := by decide +kernel
theorem dX0_isSet_12 : decode cX0_isSet 12 = .ok (.iconst 1, 1) := by decide +kernel
theorem dX0_isSet_13 : decode cX0_isSet 13 = .ok (.goto 4, 3) := by decide +kernel
theorem dX0_isSet_16 : decode cX0_isSet 16 = .ok (.iconst 0, 1) := by decide +kernel
theorem dX0_isSet_17 : decode cX0_isSet 17 = .ok (.ireturn, 1) := by decide +kernel
theorem dX0_add_0 : decode cX0_add 0 = .ok (.aload_n 0, 1) := by decide +kernel
theorem dX0_add_1 : decode cX0_add 1 = .ok (.invokevirtual 48, 3) := by decide +kernel
theorem dX0_add_4 : decode cX0_add 4 = .ok (.ifCond .ne 4, 3) := by decide +kernel
theorem dX0_add_7 : decode cX0_add 7 = .ok (.return_, 1) := by decide +kernel
theorem dX0_add_8 : decode cX0_add 8 = .ok (.aload_n 0, 1) := by decide +kernel
theorem dX0_add_9 : decode cX0_add 9 = .ok (.getfield 11, 3) := by decide +kernel
theorem dX0_add_12 : decode cX0_add 12 = .ok (.aload_n 0, 1) := by decide +kernel
theorem dX0_add_13 : decode cX0_add 13 = .ok (.getfield 27, 3) := by decide +kernel
theorem dX0_add_16 : decode cX0_add 16 = .ok (.iload_n 1, 1) := by decide +kernel
theorem dX0_add_17 : decode cX0_add 17 = .ok (.iastore, 1) := by decide +kernel
theorem dX0_add_18 : decode cX0_add 18 = .ok (.aload_n 0, 1) := by decide +kernel
theorem dX0_add_19 : decode cX0_add 19 = .ok (.getfield 15, 3) := by decide +kernel
theorem dX0_add_22 : decode cX0_add 22 = .ok (.aload_n 0, 1) := by decide +kernel
theorem dX0_add_23 : decode cX0_add 23 = .ok (.getfield 27, 3) := by decide +kernel
theorem dX0_add_26 : decode cX0_add 26 = .ok (.iload_n 2, 1) := by decide +kernel
theorem dX0_add_27 : decode cX0_add 27 = .ok (.iastore, 1) := by decide +kernel
theorem dX0_add_28 : decode cX0_add 28 = .ok (.aload_n 0, 1) := by decide +kernel
theorem dX0_add_29 : decode cX0_add 29 = .ok (.getfield 18, 3) := by decide +kernel
theorem dX0_add_32 : decode cX0_add 32 = .ok (.aload_n 0, 1) := by decide +kernel
theorem dX0_add_33 : decode cX0_add 33 = .ok (.getfield 27, 3) := by decide +kernel
theorem dX0_add_36 : decode cX0_add 36 = .ok (.iload_n 3, 1) := by decide +kernel
theorem dX0_add_37 : decode cX0_add 37 = .ok (.iastore, 1) := by decide +kernel
theorem dX0_add_38 : decode cX0_add 38 = .ok (.aload_n 0, 1) := by decide +kernel
theorem dX0_add_39 : decode cX0_add 39 = .ok (.getfield 21, 3) := by decide +kernel
theorem dX0_add_42 : decode cX0_add 42 = .ok (.aload_n 0, 1) := by decide +kernel
theorem dX0_add_43 : decode cX0_add 43 = .ok (.getfield 27, 3) := by decide +kernel
theorem dX0_add_46 : decode cX0_add 46 = .ok (.aload_n 0, 1) := by decide +kernel
theorem dX0_add_47 : decode cX0_add 47 = .ok (.getfield 27, 3) := by decide +kernel
theorem dX0_add_50 : decode cX0_add 50 = .ok (.iastore, 1) := by decide +kernel
theorem dX0_add_51 : decode cX0_add 51 = .ok (.aload_n 0, 1) := by decide +kernel
theorem dX0_add_52 : decode cX0_add 52 = .ok (.getfield 24, 3) := by decide +kernel
theorem dX0_add_55 : decode cX0_add 55 = .ok (.aload_n 0, 1) := by decide +kernel
theorem dX0_add_56 : decode cX0_add 56 = .ok (.getfield 27, 3) := by decide +kernel
theorem dX0_add_59 : decode cX0_add 59 = .ok (.iconst 1, 1) := by decide +kernel
theorem dX0_add_60 : decode cX0_add 60 = .ok (.iadd, 1) := by decide +kernel
theorem dX0_add_61 : decode cX0_add 61 = .ok (.iconst 1, 1) := by decide +kernel
theorem dX0_add_62 : decode cX0_add 62 = .ok (.aload_n 0, 1) := by decide +kernel
theorem dX0_add_63 : decode cX0_add 63 = .ok (.getfield 27, 3) := by decide +kernel
theorem dX0_add_66 : decode cX0_add 66 = .ok (.ishl, 1) := by decide +kernel
theorem dX0_add_67 : decode cX0_add 67 = .ok (.iastore, 1) := by decide +kernel
theorem dX0_add_68 : decode cX0_add 68 = .ok (.aload_n 0, 1) := by decide +kernel
theorem dX0_add_69 : decode cX0_add 69 = .ok (.dup, 1) := by decide +kernel
theorem dX0_add_70 : decode cX0_add 70 = .ok (.getfield 27, 3) := by decide +kernel
theorem dX0_add_73 : decode cX0_add 73 = .ok (.iconst 1, 1) := by decide +kernel
theorem dX0_add_74 : decode cX0_add 74 = .ok (.iadd, 1) := by decide +kernel
theorem dX0_add_75 : decode cX0_add 75 = .ok (.putfield 27, 3) := by decide +kernel
theorem dX0_add_78 : decode cX0_add 78 = .ok (.return_, 1) := by decide +kernel
theorem dX0_exchange_0 : decode cX0_exchange 0 = .ok (.aload_n 0, 1) := by decide +kernel
theorem dX0_exchange_1 : decode cX0_exchange 1 = .ok (.iload_n 1, 1) := by decide +kernel
theorem dX0_exchange_2 : decode cX0_exchange 2 = .ok (.invokevirtual 52, 3) := by decide +kernel
theorem dX0_exchange_5 : decode cX0_exchange 5 = .ok (.ifCond .eq 11, 3) := by decide +kernel
theorem dX0_exchange_8 : decode cX0_exchange 8 = .ok (.aload_n 0, 1) := by decide +kernel
theorem dX0_exchange_9 : decode cX0_exchange 9 = .ok (.iload_n 2, 1) := by decide +kernel
theorem dX0_exchange_10 : decode cX0_exchange 10 = .ok (.invokevirtual 52, 3) := by decide +kernel
theorem dX0_exchange_13 : decode cX0_exchange 13 = .ok (.ifCond .ne 4, 3) := by decide +kernel
theorem dX0_exchange_16 : decode cX0_exchange 16 = .ok (.return_, 1) := by decide +kernel
theorem dX0_exchange_17 : decode cX0_exchange 17 = .ok (.aload_n 0, 1) := by decide +kernel
theorem dX0_exchange_18 : decode cX0_exchange 18 = .ok (.getfield 21, 3) := by decide +kernel
theorem dX0_exchange_21 : decode cX0_exchange 21 = .ok (.iload_n 1, 1) := by decide +kernel
theorem dX0_exchange_22 : decode cX0_exchange 22 = .ok (.iaload, 1) := by decide +kernel
theorem dX0_exchange_23 : decode cX0_exchange 23 = .ok (.istore_n 3, 1) := by decide +kernel
theorem dX0_exchange_24 : decode cX0_exchange 24 = .ok (.aload_n 0, 1) := by decide +kernel
theorem dX0_exchange_25 : decode cX0_exchange 25 = .ok (.getfield 21, 3) := by decide +kernel
theorem dX0_exchange_28 : decode cX0_exchange 28 = .ok (.iload_n 1, 1) := by decide +kernel
theorem dX0_exchange_29 : decode cX0_exchange 29 = .ok (.aload_n 0, 1) := by decide +kernel
theorem dX0_exchange_30 : decode cX0_exchange 30 = .ok (.getfield 21, 3) := by decide +kernel
theorem dX0_exchange_33 : decode cX0_exchange 33 = .ok (.iload_n 2, 1) := by decide +kernel
theorem dX0_exchange_34 : decode cX0_exchange 34 = .ok (.iaload, 1) := by decide +kernel
theorem dX0_exchange_35 : decode cX0_exchange 35 = .ok (.iastore, 1) := by decide +kernel
theorem dX0_exchange_36 : decode cX0_exchange 36 = .ok (.aload_n 0, 1) := by decide +kernel
theorem dX0_exchange_37 : decode cX0_exchange 37 = .ok (.getfield 21, 3) := by decide +kernel
theorem dX0_exchange_40 : decode cX0_exchange 40 = .ok (.iload_n 2, 1) := by decide +kernel
theorem dX0_exchange_41 : decode cX0_exchange 41 = .ok (.iload_n 3, 1) := by decide +kernel
theorem dX0_exchange_42 : decode cX0_exchange 42 = .ok (.iastore, 1) := by decide +kernel
theorem dX0_exchange_43 : decode cX0_exchange 43 = .ok (.aload_n 0, 1) := by decide +kernel
theorem dX0_exchange_44 : decode cX0_exchange 44 = .ok (.getfield 24, 3) := by decide +kernel
theorem dX0_exchange_47 : decode cX0_exchange 47 = .ok (.aload_n 0, 1) := by decide +kernel
theorem dX0_exchange_48 : decode cX0_exchange 48 = .ok (.getfield 21, 3) := by decide +kernel
theorem dX0_exchange_51 : decode cX0_exchange 51 = .ok (.iload_n 1, 1) := by decide +kernel
theorem dX0_exchange_52 : decode cX0_exchange 52 = .ok (.iaload, 1) := by decide +kernel
theorem dX0_exchange_53 : decode cX0_exchange 53 = .ok (.iconst 1, 1) := by decide +kernel
theorem dX0_exchange_54 : decode cX0_exchange 54 = .ok (.iadd, 1) := by decide +kernel
theorem dX0_exchange_55 : decode cX0_exchange 55 = .ok (.iconst 1, 1) := by decide +kernel
theorem dX0_exchange_56 : decode cX0_exchange 56 = .ok (.iload_n 1, 1) := by decide +kernel
theorem dX0_exchange_57 : decode cX0_exchange 57 = .ok (.ishl, 1) := by decide +kernel
theorem dX0_exchange_58 : decode cX0_exchange 58 = .ok (.iastore, 1) := by decide +kernel
theorem dX0_exchange_59 : decode cX0_exchange 59 = .ok (.aload_n 0, 1) := by decide +kernel
theorem dX0_exchange_60 : decode cX0_exchange 60 = .ok (.getfield 24, 3) := by decide +kernel
theorem dX0_exchange_63 : decode cX0_exchange 63 = .ok (.aload_n 0, 1) := by decide +kernel
theorem dX0_exchange_64 : decode cX0_exchange 64 = .ok (.getfield 21, 3) := by decide +kernel
theorem dX0_exchange_67 : decode cX0_exchange 67 = .ok (.iload_n 2, 1) := by decide +kernel
theorem dX0_exchange_68 : decode cX0_exchange 68 = .ok (.iaload, 1) := by decide +kernel
theorem dX0_exchange_69 : decode cX0_exchange 69 = .ok (.iconst 1, 1) := by decide +kernel
theorem dX0_exchange_70 : decode cX0_exchange 70 = .ok (.iadd, 1) := by decide +kernel
theorem dX0_exchange_71 : decode cX0_exchange 71 = .ok (.iconst 1, 1) := by decide +kernel
theorem dX0_exchange_72 : decode cX0_exchange 72 = .ok (.iload_n 2, 1) := by decide +kernel
theorem dX0_exchange_73 : decode cX0_exchange 73 = .ok (.ishl, 1) := by decide +kernel
theorem dX0_exchange_74 : decode cX0_exchange 74 = .ok (.iastore, 1) := by decide +kernel
theorem dX0_exchange_75 : decode cX0_exchange 75 = .ok (.return_, 1) := by decide +kernel
theorem dX0_wrongWith_0 : decode cX0_wrongWith 0 = .ok (.iload_n 1, 1) := by decide +kernel
theorem dX0_wrongWith_1 : decode cX0_wrongWith 1 = .ok (.ifCond .lt 11, 3) := by decide +kernel
theorem dX0_wrongWith_4 : decode cX0_wrongWith 4 = .ok (.iload_n 1, 1) := by decide +kernel
theorem dX0_wrongWith_5 : decode cX0_wrongWith 5 = .ok (.aload_n 0, 1) := by decide +kernel
theorem dX0_wrongWith_6 : decode cX0_wrongWith 6 = .ok (.getfield 27, 3) := by decide +kernel
theorem dX0_wrongWith_9 : decode cX0_wrongWith 9 = .ok (.if_icmp .lt 5, 3) := by decide +kernel
theorem dX0_wrongWith_12 : decode cX0_wrongWith 12 = .ok (.iconst (-1), 1) := by decide +kernel
theorem dX0_wrongWith_13 : decode cX0_wrongWith 13 = .ok (.ireturn, 1) := by decide +kernel
theorem dX0_wrongWith_14 : decode cX0_wrongWith 14 = .ok (.aload_n 0, 1) := by decide +kernel
theorem dX0_wrongWith_15 : decode cX0_wrongWith 15 = .ok (.getfield 21, 3) := by decide +kernel
theorem dX0_wrongWith_18 : decode cX0_wrongWith 18 = .ok (.iload_n 1, 1) := by decide +kernel
theorem dX0_wrongWith_19 : decode cX0_wrongWith 19 = .ok (.iaload, 1) := by decide +kernel
theorem dX0_wrongWith_20 : decode cX0_wrongWith 20 = .ok (.istore_n 3, 1) := by decide +kernel
theorem dX0_wrongWith_21 : decode cX0_wrongWith 21 = .ok (.aload_n 0, 1) := by decide +kernel
theorem dX0_wrongWith_22 : decode cX0_wrongWith 22 = .ok (.getfield 11, 3) := by decide +kernel
theorem dX0_wrongWith_25 : decode cX0_wrongWith 25 = .ok (.iload_n 1, 1) := by decide +kernel
theorem dX0_wrongWith_26 : decode cX0_wrongWith 26 = .ok (.iaload, 1) := by decide +kernel
theorem dX0_wrongWith_27 : decode cX0_wrongWith 27 = .ok (.tableswitch 156 0 6 #[41, 43, 70, 52, 156, 91, 138], 41) := by decide +kernel
theorem dX0_wrongWith_68 : decode cX0_wrongWith 68 = .ok (.iconst 0, 1) := by decide +kernel
theorem dX0_wrongWith_69 : decode cX0_wrongWith 69 = .ok (.ireturn, 1) := by decide +kernel
theorem dX0_wrongWith_70 : decode cX0_wrongWith 70 = .ok (.iload_n 2, 1) := by decide +kernel
theorem dX0_wrongWith_71 : decode cX0_wrongWith 71 = .ok (.aload_n 0, 1) := by decide +kernel
theorem dX0_wrongWith_72 : decode cX0_wrongWith 72 = .ok (.getfield 24, 3) := by decide +kernel
theorem dX0_wrongWith_75 : decode cX0_wrongWith 75 = .ok (.iload_n 3, 1) := by decide +kernel
theorem dX0_wrongWith_76 : decode cX0_wrongWith 76 = .ok (.iaload, 1) := by decide +kernel
theorem dX0_wrongWith_77 : decode cX0_wrongWith 77 = .ok (.iand, 1) := by decide +kernel
theorem dX0_wrongWith_78 : decode cX0_wrongWith 78 = .ok (.ireturn, 1) := by decide +kernel
theorem dX0_wrongWith_79 : decode cX0_wrongWith 79 = .ok (.iload_n 2, 1) := by decide +kernel
theorem dX0_wrongWith_80 : decode cX0_wrongWith 80 = .ok (.aload_n 0, 1) := by decide +kernel
theorem dX0_wrongWith_81 : decode cX0_wrongWith 81 = .ok (.getfield 24, 3) := by decide +kernel
theorem dX0_wrongWith_84 : decode cX0_wrongWith 84 = .ok (.iload_n 3, 1) := by decide +kernel
theorem dX0_wrongWith_85 : decode cX0_wrongWith 85 = .ok (.iaload, 1) := by decide +kernel
theorem dX0_wrongWith_86 : decode cX0_wrongWith 86 = .ok (.aload_n 0, 1) := by decide +kernel
theorem dX0_wrongWith_87 : decode cX0_wrongWith 87 = .ok (.getfield 24, 3) := by decide +kernel
theorem dX0_wrongWith_90 : decode cX0_wrongWith 90 = .ok (.iload_n 3, 1) := by decide +kernel
theorem dX0_wrongWith_91 : decode cX0_wrongWith 91 = .ok (.iconst 2, 1) := by decide +kernel
theorem dX0_wrongWith_92 : decode cX0_wrongWith 92 = .ok (.iadd, 1) := by decide +kernel
theorem dX0_wrongWith_93 : decode cX0_wrongWith 93 = .ok (.iaload, 1) := by decide +kernel
theorem dX0_wrongWith_94 : decode cX0_wrongWith 94 = .ok (.ior, 1) := by decide +kernel
theorem dX0_wrongWith_95 : decode cX0_wrongWith 95 = .ok (.iand, 1) := by decide +kernel
theorem dX0_wrongWith_96 : decode cX0_wrongWith 96 = .ok (.ireturn, 1) := by decide +kernel
theorem dX0_wrongWith_97 : decode cX0_wrongWith 97 = .ok (.iload_n 2, 1) := by decide +kernel
theorem dX0_wrongWith_98 : decode cX0_wrongWith 98 = .ok (.invokestatic 55, 3) := by decide +kernel
theorem dX0_wrongWith_101 : decode cX0_wrongWith 101 = .ok (.aload_n 0, 1) := by decide +kernel
theorem dX0_wrongWith_102 : decode cX0_wrongWith 102 = .ok (.getfield 15, 3) := by decide +kernel
theorem dX0_wrongWith_105 : decode cX0_wrongWith 105 = .ok (.iload_n 1, 1) := by decide +kernel
theorem dX0_wrongWith_106 : decode cX0_wrongWith 106 = .ok (.iaload, 1) := by decide +kernel
theorem dX0_wrongWith_107 : decode cX0_wrongWith 107 = .ok (.iconst 1, 1) := by decide +kernel
theorem dX0_wrongWith_108 : decode cX0_wrongWith 108 = .ok (.iadd, 1) := by decide +kernel
theorem dX0_wrongWith_109 : decode cX0_wrongWith 109 = .ok (.if_icmp .gt 7, 3) := by decide +kernel
theorem dX0_wrongWith_112 : decode cX0_wrongWith 112 = .ok (.iconst (-1), 1) := by decide +kernel
theorem dX0_wrongWith_113 : decode cX0_wrongWith 113 = .ok (.goto 4, 3) := by decide +kernel
theorem dX0_wrongWith_116 : decode cX0_wrongWith 116 = .ok (.iconst 0, 1) := by decide +kernel
theorem dX0_wrongWith_117 : decode cX0_wrongWith 117 = .ok (.ireturn, 1) := by decide +kernel
theorem dX0_wrongWith_118 : decode cX0_wrongWith 118 = .ok (.iload_n 3, 1) := by decide +kernel
theorem dX0_wrongWith_119 : decode cX0_wrongWith 119 = .ok (.ifCond .eq 13, 3) := by decide +kernel
theorem dX0_wrongWith_122 : decode cX0_wrongWith 122 = .ok (.iload_n 3, 1) := by decide +kernel
theorem dX0_wrongWith_123 : decode cX0_wrongWith 123 = .ok (.aload_n 0, 1) := by decide +kernel
theorem dX0_wrongWith_124 : decode cX0_wrongWith 124 = .ok (.getfield 27, 3) := by decide +kernel
theorem dX0_wrongWith_127 : decode cX0_wrongWith 127 = .ok (.iconst 1, 1) := by decide +kernel
theorem dX0_wrongWith_128 : decode cX0_wrongWith 128 = .ok (.isub, 1) := by decide +kernel
theorem dX0_wrongWith_129 : decode cX0_wrongWith 129 = .ok (.if_icmp .ne 7, 3) := by decide +kernel
theorem dX0_wrongWith_132 : decode cX0_wrongWith 132 = .ok (.iconst 1, 1) := by decide +kernel
theorem dX0_wrongWith_133 : decode cX0_wrongWith 133 = .ok (.goto 4, 3) := by decide +kernel
theorem dX0_wrongWith_136 : decode cX0_wrongWith 136 = .ok (.iconst 0, 1) := by decide +kernel
theorem dX0_wrongWith_137 : decode cX0_wrongWith 137 = .ok (.istore 4, 2) := by decide +kernel
theorem dX0_wrongWith_139 : decode cX0_wrongWith 139 = .ok (.iload 4, 2) := by decide +kernel
theorem dX0_wrongWith_141 : decode cX0_wrongWith 141 = .ok (.ifCond .ne 18, 3) := by decide +kernel
theorem dX0_wrongWith_144 : decode cX0_wrongWith 144 = .ok (.iload_n 2, 1) := by decide +kernel
theorem dX0_wrongWith_145 : decode cX0_wrongWith 145 = .ok (.invokestatic 55, 3) := by decide +kernel
theorem dX0_wrongWith_148 : decode cX0_wrongWith 148 = .ok (.aload_n 0, 1) := by decide +kernel
theorem dX0_wrongWith_149 : decode cX0_wrongWith 149 = .ok (.getfield 15, 3) := by decide +kernel
theorem dX0_wrongWith_152 : decode cX0_wrongWith 152 = .ok (.iload_n 1, 1) := by decide +kernel
theorem dX0_wrongWith_153 : decode cX0_wrongWith 153 = .ok (.iaload, 1) := by decide +kernel
theorem dX0_wrongWith_154 : decode cX0_wrongWith 154 = .ok (.iconst 1, 1) := by decide +kernel
theorem dX0_wrongWith_155 : decode cX0_wrongWith 155 = .ok (.iadd, 1) := by decide +kernel
theorem dX0_wrongWith_156 : decode cX0_wrongWith 156 = .ok (.if_icmp .gt 7, 3) := by decide +kernel
theorem dX0_wrongWith_159 : decode cX0_wrongWith 159 = .ok (.iconst (-1), 1) := by decide +kernel
theorem dX0_wrongWith_160 : decode cX0_wrongWith 160 = .ok (.goto 4, 3) := by decide +kernel
theorem dX0_wrongWith_163 : decode cX0_wrongWith 163 = .ok (.iconst 0, 1) := by decide +kernel
theorem dX0_wrongWith_164 : decode cX0_wrongWith 164 = .ok (.ireturn, 1) := by decide +kernel
theorem dX0_wrongWith_165 : decode cX0_wrongWith 165 = .ok (.iload_n 2, 1) := by decide +kernel
theorem dX0_wrongWith_166 : decode cX0_wrongWith 166 = .ok (.iconst 1, 1) := by decide +kernel
theorem dX0_wrongWith_167 : decode cX0_wrongWith 167 = .ok (.aload_n 0, 1) := by decide +kernel
theorem dX0_wrongWith_168 : decode cX0_wrongWith 168 = .ok (.getfield 27, 3) := by decide +kernel
theorem dX0_wrongWith_171 : decode cX0_wrongWith 171 = .ok (.ishl, 1) := by decide +kernel
theorem dX0_wrongWith_172 : decode cX0_wrongWith 172 = .ok (.iconst 1, 1) := by decide +kernel
theorem dX0_wrongWith_173 : decode cX0_wrongWith 173 = .ok (.isub, 1) := by decide +kernel
theorem dX0_wrongWith_174 : decode cX0_wrongWith 174 = .ok (.if_icmp .ne 7, 3) := by decide +kernel
theorem dX0_wrongWith_177 : decode cX0_wrongWith 177 = .ok (.iconst 0, 1) := by decide +kernel
theorem dX0_wrongWith_178 : decode cX0_wrongWith 178 = .ok (.goto 4, 3) := by decide +kernel
theorem dX0_wrongWith_181 : decode cX0_wrongWith 181 = .ok (.iconst (-1), 1) := by decide +kernel
theorem dX0_wrongWith_182 : decode cX0_wrongWith 182 = .ok (.ireturn, 1) := by decide +kernel
theorem dX0_wrongWith_183 : decode cX0_wrongWith 183 = .ok (.iconst (-1), 1) := by decide +kernel
theorem dX0_wrongWith_184 : decode cX0_wrongWith 184 = .ok (.ireturn, 1) := by decide +kernel
theorem dX0_tellsOf_0 : decode cX0_tellsOf 0 = .ok (.aload_n 0, 1) := by decide +kernel
theorem dX0_tellsOf_1 : decode cX0_tellsOf 1 = .ok (.iload_n 1, 1) := by decide +kernel
theorem dX0_tellsOf_2 : decode cX0_tellsOf 2 = .ok (.invokevirtual 52, 3) := by decide +kernel
theorem dX0_tellsOf_5 : decode cX0_tellsOf 5 = .ok (.ifCond .ne 5, 3) := by decide +kernel
theorem dX0_tellsOf_8 : decode cX0_tellsOf 8 = .ok (.iconst (-1), 1) := by decide +kernel
theorem dX0_tellsOf_9 : decode cX0_tellsOf 9 = .ok (.ireturn, 1) := by decide +kernel
theorem dX0_tellsOf_10 : decode cX0_tellsOf 10 = .ok (.iload_n 2, 1) := by decide +kernel
theorem dX0_tellsOf_11 : decode cX0_tellsOf 11 = .ok (.tableswitch 78 0 5 #[37, 44, 69, 44, 78, 69], 37) := by decide +kernel
theorem dX0_tellsOf_48 : decode cX0_tellsOf 48 = .ok (.aload_n 0, 1) := by decide +kernel
theorem dX0_tellsOf_49 : decode cX0_tellsOf 49 = .ok (.getfield 21, 3) := by decide +kernel
theorem dX0_tellsOf_52 : decode cX0_tellsOf 52 = .ok (.iload_n 1, 1) := by decide +kernel
theorem dX0_tellsOf_53 : decode cX0_tellsOf 53 = .ok (.iaload, 1) := by decide +kernel
theorem dX0_tellsOf_54 : decode cX0_tellsOf 54 = .ok (.ireturn, 1) := by decide +kernel
theorem dX0_tellsOf_55 : decode cX0_tellsOf 55 = .ok (.aload_n 0, 1) := by decide +kernel
theorem dX0_tellsOf_56 : decode cX0_tellsOf 56 = .ok (.getfield 24, 3) := by decide +kernel
theorem dX0_tellsOf_59 : decode cX0_tellsOf 59 = .ok (.aload_n 0, 1) := by decide +kernel
theorem dX0_tellsOf_60 : decode cX0_tellsOf 60 = .ok (.getfield 21, 3) := by decide +kernel
theorem dX0_tellsOf_63 : decode cX0_tellsOf 63 = .ok (.iload_n 1, 1) := by decide +kernel
theorem dX0_tellsOf_64 : decode cX0_tellsOf 64 = .ok (.iaload, 1) := by decide +kernel
theorem dX0_tellsOf_65 : decode cX0_tellsOf 65 = .ok (.iaload, 1) := by decide +kernel
theorem dX0_tellsOf_66 : decode cX0_tellsOf 66 = .ok (.istore_n 3, 1) := by decide +kernel
theorem dX0_tellsOf_67 : decode cX0_tellsOf 67 = .ok (.iload_n 3, 1) := by decide +kernel
theorem dX0_tellsOf_68 : decode cX0_tellsOf 68 = .ok (.ifCond .ne 7, 3) := by decide +kernel
theorem dX0_tellsOf_71 : decode cX0_tellsOf 71 = .ok (.iconst (-1), 1) := by decide +kernel
theorem dX0_tellsOf_72 : decode cX0_tellsOf 72 = .ok (.goto 7, 3) := by decide +kernel
theorem dX0_tellsOf_75 : decode cX0_tellsOf 75 = .ok (.iload_n 3, 1) := by decide +kernel
theorem dX0_tellsOf_76 : decode cX0_tellsOf 76 = .ok (.invokestatic 61, 3) := by decide +kernel
theorem dX0_tellsOf_79 : decode cX0_tellsOf 79 = .ok (.ireturn, 1) := by decide +kernel
theorem dX0_tellsOf_80 : decode cX0_tellsOf 80 = .ok (.aload_n 0, 1) := by decide +kernel
theorem dX0_tellsOf_81 : decode cX0_tellsOf 81 = .ok (.getfield 15, 3) := by decide +kernel
theorem dX0_tellsOf_84 : decode cX0_tellsOf 84 = .ok (.iload_n 1, 1) := by decide +kernel
theorem dX0_tellsOf_85 : decode cX0_tellsOf 85 = .ok (.iaload, 1) := by decide +kernel
theorem dX0_tellsOf_86 : decode cX0_tellsOf 86 = .ok (.iconst 2, 1) := by decide +kernel
theorem dX0_tellsOf_87 : decode cX0_tellsOf 87 = .ok (.iadd, 1) := by decide +kernel
theorem dX0_tellsOf_88 : decode cX0_tellsOf 88 = .ok (.ireturn, 1) := by decide +kernel
theorem dX0_tellsOf_89 : decode cX0_tellsOf 89 = .ok (.aload_n 0, 1) := by decide +kernel
theorem dX0_tellsOf_90 : decode cX0_tellsOf 90 = .ok (.getfield 15, 3) := by decide +kernel
theorem dX0_tellsOf_93 : decode cX0_tellsOf 93 = .ok (.iload_n 1, 1) := by decide +kernel
theorem dX0_tellsOf_94 : decode cX0_tellsOf 94 = .ok (.iaload, 1) := by decide +kernel
theorem dX0_tellsOf_95 : decode cX0_tellsOf 95 = .ok (.ireturn, 1) := by decide +kernel
theorem dX0_isWithoutGap_0 : decode cX0_isWithoutGap 0 = .ok (.iconst 0, 1) := by decide +kernel
theorem dX0_isWithoutGap_1 : decode cX0_isWithoutGap 1 = .ok (.istore_n 2, 1) := by decide +kernel
theorem dX0_isWithoutGap_2 : decode cX0_isWithoutGap 2 = .ok (.iconst 0, 1) := by decide +kernel
theorem dX0_isWithoutGap_3 : decode cX0_isWithoutGap 3 = .ok (.istore_n 3, 1) := by decide +kernel
theorem dX0_isWithoutGap_4 : decode cX0_isWithoutGap 4 = .ok (.iload_n 3, 1) := by decide +kernel
theorem dX0_isWithoutGap_5 : decode cX0_isWithoutGap 5 = .ok (.aload_n 0, 1) := by decide +kernel
theorem dX0_isWithoutGap_6 : decode cX0_isWithoutGap 6 = .ok (.getfield 27, 3) := by decide +kernel
theorem dX0_isWithoutGap_9 : decode cX0_isWithoutGap 9 = .ok (.if_icmp .ge 28, 3) := by decide +kernel
theorem dX0_isWithoutGap_12 : decode cX0_isWithoutGap 12 = .ok (.iload_n 1, 1) := by decide +kernel
theorem dX0_isWithoutGap_13 : decode cX0_isWithoutGap 13 = .ok (.iload_n 3, 1) := by decide +kernel
theorem dX0_isWithoutGap_14 : decode cX0_isWithoutGap 14 = .ok (.ishr, 1) := by decide +kernel
theorem dX0_isWithoutGap_15 : decode cX0_isWithoutGap 15 = .ok (.iconst 1, 1) := by decide +kernel
theorem dX0_isWithoutGap_16 : decode cX0_isWithoutGap 16 = .ok (.iand, 1) := by decide +kernel
theorem dX0_isWithoutGap_17 : decode cX0_isWithoutGap 17 = .ok (.ifCond .eq 14, 3) := by decide +kernel
theorem dX0_isWithoutGap_20 : decode cX0_isWithoutGap 20 = .ok (.iload_n 2, 1) := by decide +kernel
theorem dX0_isWithoutGap_21 : decode cX0_isWithoutGap 21 = .ok (.iconst 1, 1) := by decide +kernel
theorem dX0_isWithoutGap_22 : decode cX0_isWithoutGap 22 = .ok (.aload_n 0, 1) := by decide +kernel
theorem dX0_isWithoutGap_23 : decode cX0_isWithoutGap 23 = .ok (.getfield 21, 3) := by decide +kernel
theorem dX0_isWithoutGap_26 : decode cX0_isWithoutGap 26 = .ok (.iload_n 3, 1) := by decide +kernel
theorem dX0_isWithoutGap_27 : decode cX0_isWithoutGap 27 = .ok (.iaload, 1) := by decide +kernel
theorem dX0_isWithoutGap_28 : decode cX0_isWithoutGap 28 = .ok (.ishl, 1) := by decide +kernel
theorem dX0_isWithoutGap_29 : decode cX0_isWithoutGap 29 = .ok (.ior, 1) := by decide +kernel
theorem dX0_isWithoutGap_30 : decode cX0_isWithoutGap 30 = .ok (.istore_n 2, 1) := by decide +kernel
theorem dX0_isWithoutGap_31 : decode cX0_isWithoutGap 31 = .ok (.iinc 3 1, 3) := by decide +kernel
theorem dX0_isWithoutGap_34 : decode cX0_isWithoutGap 34 = .ok (.goto (-30), 3) := by decide +kernel
theorem dX0_isWithoutGap_37 : decode cX0_isWithoutGap 37 = .ok (.iload_n 2, 1) := by decide +kernel
theorem dX0_isWithoutGap_38 : decode cX0_isWithoutGap 38 = .ok (.iload_n 2, 1) := by decide +kernel
theorem dX0_isWithoutGap_39 : decode cX0_isWithoutGap 39 = .ok (.ineg, 1) := by decide +kernel
theorem dX0_isWithoutGap_40 : decode cX0_isWithoutGap 40 = .ok (.iand, 1) := by decide +kernel
theorem dX0_isWithoutGap_41 : decode cX0_isWithoutGap 41 = .ok (.istore_n 3, 1) := by decide +kernel
theorem dX0_isWithoutGap_42 : decode cX0_isWithoutGap 42 = .ok (.iload_n 2, 1) := by decide +kernel
theorem dX0_isWithoutGap_43 : decode cX0_isWithoutGap 43 = .ok (.iload_n 3, 1) := by decide +kernel
theorem dX0_isWithoutGap_44 : decode cX0_isWithoutGap 44 = .ok (.iadd, 1) := by decide +kernel
theorem dX0_isWithoutGap_45 : decode cX0_isWithoutGap 45 = .ok (.iload_n 2, 1) := by decide +kernel
theorem dX0_isWithoutGap_46 : decode cX0_isWithoutGap 46 = .ok (.iand, 1) := by decide +kernel
theorem dX0_isWithoutGap_47 : decode cX0_isWithoutGap 47 = .ok (.ifCond .ne 7, 3) := by decide +kernel
theorem dX0_isWithoutGap_50 : decode cX0_isWithoutGap 50 = .ok (.iconst 1, 1) := by decide +kernel
theorem dX0_isWithoutGap_51 : decode cX0_isWithoutGap 51 = .ok (.goto 4, 3) := by decide +kernel
theorem dX0_isWithoutGap_54 : decode cX0_isWithoutGap 54 = .ok (.iconst 0, 1) := by decide +kernel
theorem dX0_isWithoutGap_55 : decode cX0_isWithoutGap 55 = .ok (.ireturn, 1) := by decide +kernel
theorem dX1_init_0 : decode cX1_init 0 = .ok (.aload_n 0, 1) := by decide +kernel
theorem dX1_init_1 : decode cX1_init 1 = .ok (.invokespecial 5, 3) := by decide +kernel
theorem dX1_init_4 : decode cX1_init 4 = .ok (.aload_n 0, 1) := by decide +kernel
theorem dX1_init_5 : decode cX1_init 5 = .ok (.bipush 94, 2) := by decide +kernel
theorem dX1_init_7 : decode cX1_init 7 = .ok (.newarray .long, 2) := by decide +kernel
theorem dX1_init_9 : decode cX1_init 9 = .ok (.putfield 13, 3) := by decide +kernel
theorem dX1_init_12 : decode cX1_init 12 = .ok (.aload_n 0, 1) := by decide +kernel
theorem dX1_init_13 : decode cX1_init 13 = .ok (.bipush 94, 2) := by decide +kernel
theorem dX1_init_15 : decode cX1_init 15 = .ok (.newarray .long, 2) := by decide +kernel
theorem dX1_init_17 : decode cX1_init 17 = .ok (.putfield 17, 3) := by decide +kernel
theorem dX1_init_20 : decode cX1_init 20 = .ok (.aload_n 0, 1) := by decide +kernel
theorem dX1_init_21 : decode cX1_init 21 = .ok (.bipush 94, 2) := by decide +kernel
theorem dX1_init_23 : decode cX1_init 23 = .ok (.newarray .int, 2) := by decide +kernel
theorem dX1_init_25 : decode cX1_init 25 = .ok (.putfield 20, 3) := by decide +kernel
theorem dX1_init_28 : decode cX1_init 28 = .ok (.aload_n 0, 1) := by decide +kernel
theorem dX1_init_29 : decode cX1_init 29 = .ok (.iconst 0, 1) := by decide +kernel
theorem dX1_init_30 : decode cX1_init 30 = .ok (.putfield 24, 3) := by decide +kernel
theorem dX1_init_33 : decode cX1_init 33 = .ok (.aload_n 0, 1) := by decide +kernel
theorem dX1_init_34 : decode cX1_init 34 = .ok (.lconst 0, 1) := by decide +kernel
theorem dX1_init_35 : decode cX1_init 35 = .ok (.putfield 28, 3) := by decide +kernel
theorem dX1_init_38 : decode cX1_init 38 = .ok (.aload_n 0, 1) := by decide +kernel
theorem dX1_init_39 : decode cX1_init 39 = .ok (.lconst 0, 1) := by decide +kernel
theorem dX1_init_40 : decode cX1_init 40 = .ok (.putfield 32, 3) := by decide +kernel
theorem dX1_init_43 : decode cX1_init 43 = .ok (.aload_n 0, 1) := by decide +kernel
theorem dX1_init_44 : decode cX1_init 44 = .ok (.iconst 0, 1) := by decide +kernel
theorem dX1_init_45 : decode cX1_init 45 = .ok (.putfield 35, 3) := by decide +kernel
theorem dX1_init_48 : decode cX1_init 48 = .ok (.aload_n 0, 1) := by decide +kernel
theorem dX1_init_49 : decode cX1_init 49 = .ok (.iconst 0, 1) := by decide +kernel
theorem dX1_init_50 : decode cX1_init 50 = .ok (.putfield 38, 3) := by decide +kernel
theorem dX1_init_53 : decode cX1_init 53 = .ok (.return_, 1) := by decide +kernel
theorem dX1_follow_0 : decode cX1_follow 0 = .ok (.aload_n 0, 1) := by decide +kernel
theorem dX1_follow_1 : decode cX1_follow 1 = .ok (.iconst 0, 1) := by decide +kernel
theorem dX1_follow_2 : decode cX1_follow 2 = .ok (.putfield 35, 3) := by decide +kernel
theorem dX1_follow_5 : decode cX1_follow 5 = .ok (.aload_n 0, 1) := by decide +kernel
theorem dX1_follow_6 : decode cX1_follow 6 = .ok (.iconst 0, 1) := by decide +kernel
theorem dX1_follow_7 : decode cX1_follow 7 = .ok (.putfield 38, 3) := by decide +kernel
theorem dX1_follow_10 : decode cX1_follow 10 = .ok (.aload_n 0, 1) := by decide +kernel
theorem dX1_follow_11 : decode cX1_follow 11 = .ok (.lconst 0, 1) := by decide +kernel
theorem dX1_follow_12 : decode cX1_follow 12 = .ok (.putfield 28, 3) := by decide +kernel
theorem dX1_follow_15 : decode cX1_follow 15 = .ok (.aload_n 0, 1) := by decide +kernel
theorem dX1_follow_16 : decode cX1_follow 16 = .ok (.aload_n 1, 1) := by decide +kernel
theorem dX1_follow_17 : decode cX1_follow 17 = .ok (.getfield 41, 3) := by decide +kernel
theorem dX1_follow_20 : decode cX1_follow 20 = .ok (.aload_n 1, 1) := by decide +kernel
theorem dX1_follow_21 : decode cX1_follow 21 = .ok (.getfield 47, 3) := by decide +kernel
theorem dX1_follow_24 : decode cX1_follow 24 = .ok (.aload_n 1, 1) := by decide +kernel
theorem dX1_follow_25 : decode cX1_follow 25 = .ok (.getfield 50, 3) := by decide +kernel
theorem dX1_follow_28 : decode cX1_follow 28 = .ok (.invokevirtual 53, 3) := by decide +kernel
theorem dX1_follow_31 : decode cX1_follow 31 = .ok (.putfield 32, 3) := by decide +kernel
theorem dX1_follow_34 : decode cX1_follow 34 = .ok (.aload_n 0, 1) := by decide +kernel
theorem dX1_follow_35 : decode cX1_follow 35 = .ok (.iconst 0, 1) := by decide +kernel
theorem dX1_follow_36 : decode cX1_follow 36 = .ok (.putfield 24, 3) := by decide +kernel
theorem dX1_follow_39 : decode cX1_follow 39 = .ok (.aload_n 0, 1) := by decide +kernel
theorem dX1_follow_40 : decode cX1_follow 40 = .ok (.aload_n 1, 1) := by decide +kernel
theorem dX1_follow_41 : decode cX1_follow 41 = .ok (.getfield 47, 3) := by decide +kernel
theorem dX1_follow_44 : decode cX1_follow 44 = .ok (.aload_n 1, 1) := by decide +kernel
theorem dX1_follow_45 : decode cX1_follow 45 = .ok (.getfield 50, 3) := by decide +kernel
theorem dX1_follow_48 : decode cX1_follow 48 = .ok (.iconst 0, 1) := by decide +kernel
theorem dX1_follow_49 : decode cX1_follow 49 = .ok (.invokevirtual 57, 3) := by decide +kernel
theorem dX1_follow_52 : decode cX1_follow 52 = .ok (.iconst 0, 1) := by decide +kernel
theorem dX1_follow_53 : decode cX1_follow 53 = .ok (.istore_n 2, 1) := by decide +kernel
theorem dX1_follow_54 : decode cX1_follow 54 = .ok (.iload_n 2, 1) := by decide +kernel
theorem dX1_follow_55 : decode cX1_follow 55 = .ok (.ldc 61, 2) := by decide +kernel
theorem dX1_follow_57 : decode cX1_follow 57 = .ok (.if_icmp .ge 191, 3) := by decide +kernel
theorem dX1_follow_60 : decode cX1_follow 60 = .ok (.aload_n 0, 1) := by decide +kernel
theorem dX1_follow_61 : decode cX1_follow 61 = .ok (.getfield 24, 3) := by decide +kernel
theorem dX1_follow_64 : decode cX1_follow 64 = .ok (.ifCond .le 184, 3) := by decide +kernel
theorem dX1_follow_67 : decode cX1_follow 67 = .ok (.aload_n 0, 1) := by decide +kernel
theorem dX1_follow_68 : decode cX1_follow 68 = .ok (.dup, 1) := by decide +kernel
theorem dX1_follow_69 : decode cX1_follow 69 = .ok (.getfield 24, 3) := by decide +kernel
theorem dX1_follow_72 : decode cX1_follow 72 = .ok (.iconst 1, 1) := by decide +kernel
theorem dX1_follow_73 : decode cX1_follow 73 = .ok (.isub, 1) := by decide +kernel
theorem dX1_follow_74 : decode cX1_follow 74 = .ok (.putfield 24, 3) := by decide +kernel
theorem dX1_follow_77 : decode cX1_follow 77 = .ok (.aload_n 0, 1) := by decide +kernel
theorem dX1_follow_78 : decode cX1_follow 78 = .ok (.getfield 13, 3) := by decide +kernel
theorem dX1_follow_81 : decode cX1_follow 81 = .ok (.aload_n 0, 1) := by decide +kernel
theorem dX1_follow_82 : decode cX1_follow 82 = .ok (.getfield 24, 3) := by decide +kernel
theorem dX1_follow_85 : decode cX1_follow 85 = .ok (.laload, 1) := by decide +kernel
theorem dX1_follow_86 : decode cX1_follow 86 = .ok (.lstore_n 3, 1) := by decide +kernel
theorem dX1_follow_87 : decode cX1_follow 87 = .ok (.aload_n 0, 1) := by decide +kernel
theorem dX1_follow_88 : decode cX1_follow 88 = .ok (.getfield 17, 3) := by decide +kernel
theorem dX1_follow_91 : decode cX1_follow 91 = .ok (.aload_n 0, 1) := by decide +kernel
theorem dX1_follow_92 : decode cX1_follow 92 = .ok (.getfield 24, 3) := by decide +kernel
theorem dX1_follow_95 : decode cX1_follow 95 = .ok (.laload, 1) := by decide +kernel
theorem dX1_follow_96 : decode cX1_follow 96 = .ok (.lstore 5, 2) := by decide +kernel
theorem dX1_follow_98 : decode cX1_follow 98 = .ok (.aload_n 0, 1) := by decide +kernel
theorem dX1_follow_99 : decode cX1_follow 99 = .ok (.getfield 20, 3) := by decide +kernel
theorem dX1_follow_102 : decode cX1_follow 102 = .ok (.aload_n 0, 1) := by decide +kernel
theorem dX1_follow_103 : decode cX1_follow 103 = .ok (.getfield 24, 3) := by decide +kernel
theorem dX1_follow_106 : decode cX1_follow 106 = .ok (.iaload, 1) := by decide +kernel
theorem dX1_follow_107 : decode cX1_follow 107 = .ok (.istore 7, 2) := by decide +kernel
theorem dX1_follow_109 : decode cX1_follow 109 = .ok (.aload_n 1, 1) := by decide +kernel
theorem dX1_follow_110 : decode cX1_follow 110 = .ok (.lload_n 3, 1) := by decide +kernel
theorem dX1_follow_111 : decode cX1_follow 111 = .ok (.lload 5, 2) := by decide +kernel
theorem dX1_follow_113 : decode cX1_follow 113 = .ok (.invokevirtual 62, 3) := by decide +kernel
theorem dX1_follow_116 : decode cX1_follow 116 = .ok (.istore 8, 2) := by decide +kernel
theorem dX1_follow_118 : decode cX1_follow 118 = .ok (.iload 8, 2) := by decide +kernel
theorem dX1_follow_120 : decode cX1_follow 120 = .ok (.iconst (-1), 1) := by decide +kernel
theorem dX1_follow_121 : decode cX1_follow 121 = .ok (.if_icmp .ne 59, 3) := by decide +kernel
theorem dX1_follow_124 : decode cX1_follow 124 = .ok (.aload_n 0, 1) := by decide +kernel
theorem dX1_follow_125 : decode cX1_follow 125 = .ok (.aload_n 0, 1) := by decide +kernel
theorem dX1_follow_126 : decode cX1_follow 126 = .ok (.getfield 35, 3) := by decide +kernel
theorem dX1_follow_129 : decode cX1_follow 129 = .ok (.iload 7, 2) := by decide +kernel
theorem dX1_follow_131 : decode cX1_follow 131 = .ok (.invokestatic 66, 3) := by decide +kernel
theorem dX1_follow_134 : decode cX1_follow 134 = .ok (.putfield 35, 3) := by decide +kernel
theorem dX1_follow_137 : decode cX1_follow 137 = .ok (.aload_n 0, 1) := by decide +kernel
theorem dX1_follow_138 : decode cX1_follow 138 = .ok (.aload_n 0, 1) := by decide +kernel
theorem dX1_follow_139 : decode cX1_follow 139 = .ok (.getfield 38, 3) := by decide +kernel
theorem dX1_follow_142 : decode cX1_follow 142 = .ok (.lload_n 3, 1) := by decide +kernel
theorem dX1_follow_143 : decode cX1_follow 143 = .ok (.lload 5, 2) := by decide +kernel
theorem dX1_follow_145 : decode cX1_follow 145 = .ok (.invokestatic 72, 3) := by decide +kernel
theorem dX1_follow_148 : decode cX1_follow 148 = .ok (.invokestatic 66, 3) := by decide +kernel
theorem dX1_follow_151 : decode cX1_follow 151 = .ok (.putfield 38, 3) := by decide +kernel
theorem dX1_follow_154 : decode cX1_follow 154 = .ok (.aload_n 0, 1) := by decide +kernel
theorem dX1_follow_155 : decode cX1_follow 155 = .ok (.dup, 1) := by decide +kernel
theorem dX1_follow_156 : decode cX1_follow 156 = .ok (.getfield 28, 3) := by decide +kernel
theorem dX1_follow_159 : decode cX1_follow 159 = .ok (.iload 7, 2) := by decide +kernel
theorem dX1_follow_161 : decode cX1_follow 161 = .ok (.i2l, 1) := by decide +kernel
theorem dX1_follow_162 : decode cX1_follow 162 = .ok (.aload_n 1, 1) := by decide +kernel
theorem dX1_follow_163 : decode cX1_follow 163 = .ok (.getfield 41, 3) := by decide +kernel
theorem dX1_follow_166 : decode cX1_follow 166 = .ok (.lload_n 3, 1) := by decide +kernel
theorem dX1_follow_167 : decode cX1_follow 167 = .ok (.lload 5, 2) := by decide +kernel
theorem dX1_follow_169 : decode cX1_follow 169 = .ok (.invokevirtual 53, 3) := by decide +kernel
theorem dX1_follow_172 : decode cX1_follow 172 = .ok (.lmul, 1) := by decide +kernel
theorem dX1_follow_173 : decode cX1_follow 173 = .ok (.ladd, 1) := by decide +kernel
theorem dX1_follow_174 : decode cX1_follow 174 = .ok (.putfield 28, 3) := by decide +kernel
theorem dX1_follow_177 : decode cX1_follow 177 = .ok (.goto 65, 3) := by decide +kernel
theorem dX1_follow_180 : decode cX1_follow 180 = .ok (.aload_n 0, 1) := by decide +kernel
theorem dX1_follow_181 : decode cX1_follow 181 = .ok (.aload_n 1, 1) := by decide +kernel
theorem dX1_follow_182 : decode cX1_follow 182 = .ok (.getfield 41, 3) := by decide +kernel
theorem dX1_follow_185 : decode cX1_follow 185 = .ok (.iload 8, 2) := by decide +kernel
theorem dX1_follow_187 : decode cX1_follow 187 = .ok (.iconst 1, 1) := by decide +kernel
theorem dX1_follow_188 : decode cX1_follow 188 = .ok (.lload_n 3, 1) := by decide +kernel
theorem dX1_follow_189 : decode cX1_follow 189 = .ok (.invokevirtual 75, 3) := by decide +kernel
theorem dX1_follow_192 : decode cX1_follow 192 = .ok (.aload_n 1, 1) := by decide +kernel
theorem dX1_follow_193 : decode cX1_follow 193 = .ok (.getfield 41, 3) := by decide +kernel
theorem dX1_follow_196 : decode cX1_follow 196 = .ok (.iload 8, 2) := by decide +kernel
theorem dX1_follow_198 : decode cX1_follow 198 = .ok (.iconst 1, 1) := by decide +kernel
theorem dX1_follow_199 : decode cX1_follow 199 = .ok (.lload 5, 2) := by decide +kernel
theorem dX1_follow_201 : decode cX1_follow 201 = .ok (.invokevirtual 79, 3) := by decide +kernel
theorem dX1_follow_204 : decode cX1_follow 204 = .ok (.iload 7, 2) := by decide +kernel
theorem dX1_follow_206 : decode cX1_follow 206 = .ok (.iconst 1, 1) := by decide +kernel
theorem dX1_follow_207 : decode cX1_follow 207 = .ok (.iadd, 1) := by decide +kernel
theorem dX1_follow_208 : decode cX1_follow 208 = .ok (.invokevirtual 57, 3) := by decide +kernel
theorem dX1_follow_211 : decode cX1_follow 211 = .ok (.aload_n 0, 1) := by decide +kernel
theorem dX1_follow_212 : decode cX1_follow 212 = .ok (.aload_n 1, 1) := by decide +kernel
theorem dX1_follow_213 : decode cX1_follow 213 = .ok (.getfield 41, 3) := by decide +kernel
theorem dX1_follow_216 : decode cX1_follow 216 = .ok (.iload 8, 2) := by decide +kernel
theorem dX1_follow_218 : decode cX1_follow 218 = .ok (.iconst 0, 1) := by decide +kernel
theorem dX1_follow_219 : decode cX1_follow 219 = .ok (.lload_n 3, 1) := by decide +kernel
theorem dX1_follow_220 : decode cX1_follow 220 = .ok (.invokevirtual 75, 3) := by decide +kernel
theorem dX1_follow_223 : decode cX1_follow 223 = .ok (.aload_n 1, 1) := by decide +kernel
theorem dX1_follow_224 : decode cX1_follow 224 = .ok (.getfield 41, 3) := by decide +kernel
theorem dX1_follow_227 : decode cX1_follow 227 = .ok (.iload 8, 2) := by decide +kernel
theorem dX1_follow_229 : decode cX1_follow 229 = .ok (.iconst 0, 1) := by decide +kernel
theorem dX1_follow_230 : decode cX1_follow 230 = .ok (.lload 5, 2) := by decide +kernel
theorem dX1_follow_232 : decode cX1_follow 232 = .ok (.invokevirtual 79, 3) := by decide +kernel
theorem dX1_follow_235 : decode cX1_follow 235 = .ok (.iload 7, 2) := by decide +kernel
theorem dX1_follow_237 : decode cX1_follow 237 = .ok (.iconst 1, 1) := by decide +kernel
theorem dX1_follow_238 : decode cX1_follow 238 = .ok (.iadd, 1) := by decide +kernel
theorem dX1_follow_239 : decode cX1_follow 239 = .ok (.invokevirtual 57, 3) := by decide +kernel
theorem dX1_follow_242 : decode cX1_follow 242 = .ok (.iinc 2 1, 3) := by decide +kernel
theorem dX1_follow_245 : decode cX1_follow 245 = .ok (.goto (-191), 3) := by decide +kernel
theorem dX1_follow_248 : decode cX1_follow 248 = .ok (.return_, 1) := by decide +kernel
theorem dX1_lay_0 : decode cX1_lay 0 = .ok (.aload_n 0, 1) := by decide +kernel
theorem dX1_lay_1 : decode cX1_lay 1 = .ok (.getfield 24, 3) := by decide +kernel
theorem dX1_lay_4 : decode cX1_lay 4 = .ok (.bipush 94, 2) := by decide +kernel
theorem dX1_lay_6 : decode cX1_lay 6 = .ok (.if_icmp .ge 44, 3) := by decide +kernel
theorem dX1_lay_9 : decode cX1_lay 9 = .ok (.aload_n 0, 1) := by decide +kernel
theorem dX1_lay_10 : decode cX1_lay 10 = .ok (.getfield 13, 3) := by decide +kernel
theorem dX1_lay_13 : decode cX1_lay 13 = .ok (.aload_n 0, 1) := by decide +kernel
theorem dX1_lay_14 : decode cX1_lay 14 = .ok (.getfield 24, 3) := by decide +kernel
theorem dX1_lay_17 : decode cX1_lay 17 = .ok (.lload_n 1, 1) := by decide +kernel
theorem dX1_lay_18 : decode cX1_lay 18 = .ok (.lastore, 1) := by decide +kernel
theorem dX1_lay_19 : decode cX1_lay 19 = .ok (.aload_n 0, 1) := by decide +kernel
theorem dX1_lay_20 : decode cX1_lay 20 = .ok (.getfield 17, 3) := by decide +kernel
theorem dX1_lay_23 : decode cX1_lay 23 = .ok (.aload_n 0, 1) := by decide +kernel
theorem dX1_lay_24 : decode cX1_lay 24 = .ok (.getfield 24, 3) := by decide +kernel
theorem dX1_lay_27 : decode cX1_lay 27 = .ok (.lload_n 3, 1) := by decide +kernel
theorem dX1_lay_28 : decode cX1_lay 28 = .ok (.lastore, 1) := by decide +kernel
theorem dX1_lay_29 : decode cX1_lay 29 = .ok (.aload_n 0, 1) := by decide +kernel
theorem dX1_lay_30 : decode cX1_lay 30 = .ok (.getfield 20, 3) := by decide +kernel
theorem dX1_lay_33 : decode cX1_lay 33 = .ok (.aload_n 0, 1) := by decide +kernel
theorem dX1_lay_34 : decode cX1_lay 34 = .ok (.getfield 24, 3) := by decide +kernel
theorem dX1_lay_37 : decode cX1_lay 37 = .ok (.iload 5, 2) := by decide +kernel
theorem dX1_lay_39 : decode cX1_lay 39 = .ok (.iastore, 1) := by decide +kernel
theorem dX1_lay_40 : decode cX1_lay 40 = .ok (.aload_n 0, 1) := by decide +kernel
theorem dX1_lay_41 : decode cX1_lay 41 = .ok (.dup, 1) := by decide +kernel
theorem dX1_lay_42 : decode cX1_lay 42 = .ok (.getfield 24, 3) := by decide +kernel
theorem dX1_lay_45 : decode cX1_lay 45 = .ok (.iconst 1, 1) := by decide +kernel
theorem dX1_lay_46 : decode cX1_lay 46 = .ok (.iadd, 1) := by decide +kernel
theorem dX1_lay_47 : decode cX1_lay 47 = .ok (.putfield 24, 3) := by decide +kernel
theorem dX1_lay_50 : decode cX1_lay 50 = .ok (.return_, 1) := by decide +kernel
theorem dX1_mean_0 : decode cX1_mean 0 = .ok (.aload_n 0, 1) := by decide +kernel
theorem dX1_mean_1 : decode cX1_mean 1 = .ok (.getfield 32, 3) := by decide +kernel
theorem dX1_mean_4 : decode cX1_mean 4 = .ok (.lconst 0, 1) := by decide +kernel
theorem dX1_mean_5 : decode cX1_mean 5 = .ok (.lcmp, 1) := by decide +kernel
theorem dX1_mean_6 : decode cX1_mean 6 = .ok (.ifCond .ne 7, 3) := by decide +kernel
theorem dX1_mean_9 : decode cX1_mean 9 = .ok (.iconst 0, 1) := by decide +kernel
theorem dX1_mean_10 : decode cX1_mean 10 = .ok (.goto 17, 3) := by decide +kernel
theorem dX1_mean_13 : decode cX1_mean 13 = .ok (.ldc2_w 82, 3) := by decide +kernel
theorem dX1_mean_16 : decode cX1_mean 16 = .ok (.aload_n 0, 1) := by decide +kernel
theorem dX1_mean_17 : decode cX1_mean 17 = .ok (.getfield 28, 3) := by decide +kernel
theorem dX1_mean_20 : decode cX1_mean 20 = .ok (.lmul, 1) := by decide +kernel
theorem dX1_mean_21 : decode cX1_mean 21 = .ok (.aload_n 0, 1) := by decide +kernel
theorem dX1_mean_22 : decode cX1_mean 22 = .ok (.getfield 32, 3) := by decide +kernel
theorem dX1_mean_25 : decode cX1_mean 25 = .ok (.ldiv, 1) := by decide +kernel
theorem dX1_mean_26 : decode cX1_mean 26 = .ok (.l2i, 1) := by decide +kernel
theorem dX1_mean_27 : decode cX1_mean 27 = .ok (.ireturn, 1) := by decide +kernel
theorem dX2_init_0 : decode cX2_init 0 = .ok (.aload_n 0, 1) := by decide +kernel
theorem dX2_init_1 : decode cX2_init 1 = .ok (.invokespecial 3, 3) := by decide +kernel
theorem dX2_init_4 : decode cX2_init 4 = .ok (.aload_n 0, 1) := by decide +kernel
theorem dX2_init_5 : decode cX2_init 5 = .ok (.new 9, 3) := by decide +kernel
theorem dX2_init_8 : decode cX2_init 8 = .ok (.dup, 1) := by decide +kernel
theorem dX2_init_9 : decode cX2_init 9 = .ok (.invokespecial 11, 3) := by decide +kernel
theorem dX2_init_12 : decode cX2_init 12 = .ok (.putfield 12, 3) := by decide +kernel
theorem dX2_init_15 : decode cX2_init 15 = .ok (.aload_n 0, 1) := by decide +kernel
theorem dX2_init_16 : decode cX2_init 16 = .ok (.new 18, 3) := by decide +kernel
theorem dX2_init_19 : decode cX2_init 19 = .ok (.dup, 1) := by decide +kernel
theorem dX2_init_20 : decode cX2_init 20 = .ok (.aload_n 0, 1) := by decide +kernel
theorem dX2_init_21 : decode cX2_init 21 = .ok (.getfield 12, 3) := by decide +kernel
theorem dX2_init_24 : decode cX2_init 24 = .ok (.invokespecial 20, 3) := by decide +kernel
theorem dX2_init_27 : decode cX2_init 27 = .ok (.putfield 23, 3) := by decide +kernel
theorem dX2_init_30 : decode cX2_init 30 = .ok (.aload_n 0, 1) := by decide +kernel
theorem dX2_init_31 : decode cX2_init 31 = .ok (.iconst 4, 1) := by decide +kernel
theorem dX2_init_32 : decode cX2_init 32 = .ok (.newarray .int, 2) := by decide +kernel
theorem dX2_init_34 : decode cX2_init 34 = .ok (.dup, 1) := by decide +kernel
theorem dX2_init_35 : decode cX2_init 35 = .ok (.iconst 0, 1) := by decide +kernel
theorem dX2_init_36 : decode cX2_init 36 = .ok (.iconst 1, 1) := by decide +kernel
theorem dX2_init_37 : decode cX2_init 37 = .ok (.iastore, 1) := by decide +kernel
theorem dX2_init_38 : decode cX2_init 38 = .ok (.dup, 1) := by decide +kernel
theorem dX2_init_39 : decode cX2_init 39 = .ok (.iconst 1, 1) := by decide +kernel
theorem dX2_init_40 : decode cX2_init 40 = .ok (.iconst 1, 1) := by decide +kernel
theorem dX2_init_41 : decode cX2_init 41 = .ok (.iastore, 1) := by decide +kernel
theorem dX2_init_42 : decode cX2_init 42 = .ok (.dup, 1) := by decide +kernel
theorem dX2_init_43 : decode cX2_init 43 = .ok (.iconst 2, 1) := by decide +kernel
theorem dX2_init_44 : decode cX2_init 44 = .ok (.iconst 0, 1) := by decide +kernel
theorem dX2_init_45 : decode cX2_init 45 = .ok (.iastore, 1) := by decide +kernel
theorem dX2_init_46 : decode cX2_init 46 = .ok (.dup, 1) := by decide +kernel
theorem dX2_init_47 : decode cX2_init 47 = .ok (.iconst 3, 1) := by decide +kernel
theorem dX2_init_48 : decode cX2_init 48 = .ok (.iconst 0, 1) := by decide +kernel
theorem dX2_init_49 : decode cX2_init 49 = .ok (.iastore, 1) := by decide +kernel
theorem dX2_init_50 : decode cX2_init 50 = .ok (.putfield 27, 3) := by decide +kernel
theorem dX2_init_53 : decode cX2_init 53 = .ok (.aload_n 0, 1) := by decide +kernel
theorem dX2_init_54 : decode cX2_init 54 = .ok (.bipush 16, 2) := by decide +kernel
theorem dX2_init_56 : decode cX2_init 56 = .ok (.newarray .int, 2) := by decide +kernel
theorem dX2_init_58 : decode cX2_init 58 = .ok (.putfield 31, 3) := by decide +kernel
theorem dX2_init_61 : decode cX2_init 61 = .ok (.aload_n 0, 1) := by decide +kernel
theorem dX2_init_62 : decode cX2_init 62 = .ok (.iconst 0, 1) := by decide +kernel
theorem dX2_init_63 : decode cX2_init 63 = .ok (.putfield 34, 3) := by decide +kernel
theorem dX2_init_66 : decode cX2_init 66 = .ok (.aload_n 0, 1) := by decide +kernel
theorem dX2_init_67 : decode cX2_init 67 = .ok (.iconst 1, 1) := by decide +kernel
theorem dX2_init_68 : decode cX2_init 68 = .ok (.putfield 38, 3) := by decide +kernel
theorem dX2_init_71 : decode cX2_init 71 = .ok (.aload_n 0, 1) := by decide +kernel
theorem dX2_init_72 : decode cX2_init 72 = .ok (.iconst 0, 1) := by decide +kernel
theorem dX2_init_73 : decode cX2_init 73 = .ok (.putfield 41, 3) := by decide +kernel
theorem dX2_init_76 : decode cX2_init 76 = .ok (.aload_n 0, 1) := by decide +kernel
theorem dX2_init_77 : decode cX2_init 77 = .ok (.lconst 0, 1) := by decide +kernel
theorem dX2_init_78 : decode cX2_init 78 = .ok (.putfield 44, 3) := by decide +kernel
theorem dX2_init_81 : decode cX2_init 81 = .ok (.aload_n 0, 1) := by decide +kernel
theorem dX2_init_82 : decode cX2_init 82 = .ok (.lconst 0, 1) := by decide +kernel
theorem dX2_init_83 : decode cX2_init 83 = .ok (.putfield 48, 3) := by decide +kernel
theorem dX2_init_86 : decode cX2_init 86 = .ok (.return_, 1) := by decide +kernel
theorem dX2_suits_0 : decode cX2_suits 0 = .ok (.iload_n 0, 1) := by decide +kernel
theorem dX2_suits_1 : decode cX2_suits 1 = .ok (.ifCond .lt 30, 3) := by decide +kernel
theorem dX2_suits_4 : decode cX2_suits 4 = .ok (.iload_n 0, 1) := by decide +kernel
theorem dX2_suits_5 : decode cX2_suits 5 = .ok (.iconst 4, 1) := by decide +kernel
theorem dX2_suits_6 : decode cX2_suits 6 = .ok (.if_icmp .ge 25, 3) := by decide +kernel
theorem dX2_suits_9 : decode cX2_suits 9 = .ok (.iload_n 1, 1) := by decide +kernel
theorem dX2_suits_10 : decode cX2_suits 10 = .ok (.getstatic 51, 3) := by decide +kernel
theorem dX2_suits_13 : decode cX2_suits 13 = .ok (.iload_n 0, 1) := by decide +kernel
theorem dX2_suits_14 : decode cX2_suits 14 = .ok (.iaload, 1) := by decide +kernel
theorem dX2_suits_15 : decode cX2_suits 15 = .ok (.if_icmp .lt 16, 3) := by decide +kernel
theorem dX2_suits_18 : decode cX2_suits 18 = .ok (.iload_n 1, 1) := by decide +kernel
theorem dX2_suits_19 : decode cX2_suits 19 = .ok (.getstatic 54, 3) := by decide +kernel
theorem dX2_suits_22 : decode cX2_suits 22 = .ok (.iload_n 0, 1) := by decide +kernel
theorem dX2_suits_23 : decode cX2_suits 23 = .ok (.iaload, 1) := by decide +kernel
theorem dX2_suits_24 : decode cX2_suits 24 = .ok (.if_icmp .gt 7, 3) := by decide +kernel
theorem dX2_suits_27 : decode cX2_suits 27 = .ok (.iconst 1, 1) := by decide +kernel
theorem dX2_suits_28 : decode cX2_suits 28 = .ok (.goto 4, 3) := by decide +kernel
theorem dX2_suits_31 : decode cX2_suits 31 = .ok (.iconst 0, 1) := by decide +kernel
theorem dX2_suits_32 : decode cX2_suits 32 = .ok (.ireturn, 1) := by decide +kernel
theorem dX2_rule_0 : decode cX2_rule 0 = .ok (.iload_n 1, 1) := by decide +kernel
theorem dX2_rule_1 : decode cX2_rule 1 = .ok (.ifCond .lt 17, 3) := by decide +kernel
theorem dX2_rule_4 : decode cX2_rule 4 = .ok (.iload_n 1, 1) := by decide +kernel
theorem dX2_rule_5 : decode cX2_rule 5 = .ok (.iconst 4, 1) := by decide +kernel
theorem dX2_rule_6 : decode cX2_rule 6 = .ok (.if_icmp .ge 12, 3) := by decide +kernel
theorem dX2_rule_9 : decode cX2_rule 9 = .ok (.aload_n 0, 1) := by decide +kernel
theorem dX2_rule_10 : decode cX2_rule 10 = .ok (.getfield 27, 3) := by decide +kernel
theorem dX2_rule_13 : decode cX2_rule 13 = .ok (.iload_n 1, 1) := by decide +kernel
theorem dX2_rule_14 : decode cX2_rule 14 = .ok (.iaload, 1) := by decide +kernel
theorem dX2_rule_15 : decode cX2_rule 15 = .ok (.goto 4, 3) := by decide +kernel
theorem dX2_rule_18 : decode cX2_rule 18 = .ok (.iconst (-1), 1) := by decide +kernel
theorem dX2_rule_19 : decode cX2_rule 19 = .ok (.ireturn, 1) := by decide +kernel
theorem dX2_put_0 : decode cX2_put 0 = .ok (.iload_n 1, 1) := by decide +kernel
theorem dX2_put_1 : decode cX2_put 1 = .ok (.iload_n 2, 1) := by decide +kernel
theorem dX2_put_2 : decode cX2_put 2 = .ok (.invokestatic 57, 3) := by decide +kernel
theorem dX2_put_5 : decode cX2_put 5 = .ok (.ifCond .ne 4, 3) := by decide +kernel
theorem dX2_put_8 : decode cX2_put 8 = .ok (.return_, 1) := by decide +kernel
theorem dX2_put_9 : decode cX2_put 9 = .ok (.aload_n 0, 1) := by decide +kernel
theorem dX2_put_10 : decode cX2_put 10 = .ok (.getfield 27, 3) := by decide +kernel
theorem dX2_put_13 : decode cX2_put 13 = .ok (.iload_n 1, 1) := by decide +kernel
theorem dX2_put_14 : decode cX2_put 14 = .ok (.iload_n 2, 1) := by decide +kernel
theorem dX2_put_15 : decode cX2_put 15 = .ok (.iastore, 1) := by decide +kernel
theorem dX2_put_16 : decode cX2_put 16 = .ok (.iload_n 1, 1) := by decide +kernel
theorem dX2_put_17 : decode cX2_put 17 = .ok (.ifCond .ne 7, 3) := by decide +kernel
theorem dX2_put_20 : decode cX2_put 20 = .ok (.aload_n 0, 1) := by decide +kernel
theorem dX2_put_21 : decode cX2_put 21 = .ok (.invokevirtual 61, 3) := by decide +kernel
theorem dX2_put_24 : decode cX2_put 24 = .ok (.return_, 1) := by decide +kernel
theorem dX2_copyOf_0 : decode cX2_copyOf 0 = .ok (.aload_n 0, 1) := by decide +kernel
theorem dX2_copyOf_1 : decode cX2_copyOf 1 = .ok (.getfield 12, 3) := by decide +kernel
theorem dX2_copyOf_4 : decode cX2_copyOf 4 = .ok (.aload_n 1, 1) := by decide +kernel
theorem dX2_copyOf_5 : decode cX2_copyOf 5 = .ok (.getfield 12, 3) := by decide +kernel
theorem dX2_copyOf_8 : decode cX2_copyOf 8 = .ok (.invokevirtual 64, 3) := by decide +kernel
theorem dX2_copyOf_11 : decode cX2_copyOf 11 = .ok (.aload_n 0, 1) := by decide +kernel
theorem dX2_copyOf_12 : decode cX2_copyOf 12 = .ok (.getfield 23, 3) := by decide +kernel
theorem dX2_copyOf_15 : decode cX2_copyOf 15 = .ok (.aload_n 1, 1) := by decide +kernel
theorem dX2_copyOf_16 : decode cX2_copyOf 16 = .ok (.getfield 23, 3) := by decide +kernel
theorem dX2_copyOf_19 : decode cX2_copyOf 19 = .ok (.invokevirtual 67, 3) := by decide +kernel
theorem dX2_copyOf_22 : decode cX2_copyOf 22 = .ok (.aload_n 1, 1) := by decide +kernel
theorem dX2_copyOf_23 : decode cX2_copyOf 23 = .ok (.getfield 27, 3) := by decide +kernel
theorem dX2_copyOf_26 : decode cX2_copyOf 26 = .ok (.iconst 0, 1) := by decide +kernel
theorem dX2_copyOf_27 : decode cX2_copyOf 27 = .ok (.aload_n 0, 1) := by decide +kernel
theorem dX2_copyOf_28 : decode cX2_copyOf 28 = .ok (.getfield 27, 3) := by decide +kernel
theorem dX2_copyOf_31 : decode cX2_copyOf 31 = .ok (.iconst 0, 1) := by decide +kernel
theorem dX2_copyOf_32 : decode cX2_copyOf 32 = .ok (.iconst 4, 1) := by decide +kernel
theorem dX2_copyOf_33 : decode cX2_copyOf 33 = .ok (.invokestatic 70, 3) := by decide +kernel
theorem dX2_copyOf_36 : decode cX2_copyOf 36 = .ok (.aload_n 1, 1) := by decide +kernel
theorem dX2_copyOf_37 : decode cX2_copyOf 37 = .ok (.getfield 31, 3) := by decide +kernel
theorem dX2_copyOf_40 : decode cX2_copyOf 40 = .ok (.iconst 0, 1) := by decide +kernel
theorem dX2_copyOf_41 : decode cX2_copyOf 41 = .ok (.aload_n 0, 1) := by decide +kernel
theorem dX2_copyOf_42 : decode cX2_copyOf 42 = .ok (.getfield 31, 3) := by decide +kernel
theorem dX2_copyOf_45 : decode cX2_copyOf 45 = .ok (.iconst 0, 1) := by decide +kernel
theorem dX2_copyOf_46 : decode cX2_copyOf 46 = .ok (.bipush 16, 2) := by decide +kernel
theorem dX2_copyOf_48 : decode cX2_copyOf 48 = .ok (.invokestatic 70, 3) := by decide +kernel
theorem dX2_copyOf_51 : decode cX2_copyOf 51 = .ok (.aload_n 0, 1) := by decide +kernel
theorem dX2_copyOf_52 : decode cX2_copyOf 52 = .ok (.aload_n 1, 1) := by decide +kernel
theorem dX2_copyOf_53 : decode cX2_copyOf 53 = .ok (.getfield 34, 3) := by decide +kernel
theorem dX2_copyOf_56 : decode cX2_copyOf 56 = .ok (.putfield 34, 3) := by decide +kernel
theorem dX2_copyOf_59 : decode cX2_copyOf 59 = .ok (.aload_n 0, 1) := by decide +kernel
theorem dX2_copyOf_60 : decode cX2_copyOf 60 = .ok (.aload_n 1, 1) := by decide +kernel
theorem dX2_copyOf_61 : decode cX2_copyOf 61 = .ok (.getfield 38, 3) := by decide +kernel
theorem dX2_copyOf_64 : decode cX2_copyOf 64 = .ok (.putfield 38, 3) := by decide +kernel
theorem dX2_copyOf_67 : decode cX2_copyOf 67 = .ok (.aload_n 0, 1) := by decide +kernel
theorem dX2_copyOf_68 : decode cX2_copyOf 68 = .ok (.aload_n 1, 1) := by decide +kernel
theorem dX2_copyOf_69 : decode cX2_copyOf 69 = .ok (.getfield 41, 3) := by decide +kernel
theorem dX2_copyOf_72 : decode cX2_copyOf 72 = .ok (.putfield 41, 3) := by decide +kernel
theorem dX2_copyOf_75 : decode cX2_copyOf 75 = .ok (.aload_n 0, 1) := by decide +kernel
theorem dX2_copyOf_76 : decode cX2_copyOf 76 = .ok (.aload_n 1, 1) := by decide +kernel
theorem dX2_copyOf_77 : decode cX2_copyOf 77 = .ok (.getfield 44, 3) := by decide +kernel
theorem dX2_copyOf_80 : decode cX2_copyOf 80 = .ok (.putfield 44, 3) := by decide +kernel
theorem dX2_copyOf_83 : decode cX2_copyOf 83 = .ok (.aload_n 0, 1) := by decide +kernel
theorem dX2_copyOf_84 : decode cX2_copyOf 84 = .ok (.aload_n 1, 1) := by decide +kernel
theorem dX2_copyOf_85 : decode cX2_copyOf 85 = .ok (.getfield 48, 3) := by decide +kernel
theorem dX2_copyOf_88 : decode cX2_copyOf 88 = .ok (.putfield 48, 3) := by decide +kernel
theorem dX2_copyOf_91 : decode cX2_copyOf 91 = .ok (.return_, 1) := by decide +kernel
theorem dX2_beginAnew_0 : decode cX2_beginAnew 0 = .ok (.aload_n 0, 1) := by decide +kernel
theorem dX2_beginAnew_1 : decode cX2_beginAnew 1 = .ok (.getfield 23, 3) := by decide +kernel
theorem dX2_beginAnew_4 : decode cX2_beginAnew 4 = .ok (.aload_n 0, 1) := by decide +kernel
theorem dX2_beginAnew_5 : decode cX2_beginAnew 5 = .ok (.getfield 27, 3) := by decide +kernel
theorem dX2_beginAnew_8 : decode cX2_beginAnew 8 = .ok (.iconst 0, 1) := by decide +kernel
theorem dX2_beginAnew_9 : decode cX2_beginAnew 9 = .ok (.iaload, 1) := by decide +kernel
theorem dX2_beginAnew_10 : decode cX2_beginAnew 10 = .ok (.invokevirtual 76, 3) := by decide +kernel
theorem dX2_beginAnew_13 : decode cX2_beginAnew 13 = .ok (.aload_n 0, 1) := by decide +kernel
theorem dX2_beginAnew_14 : decode cX2_beginAnew 14 = .ok (.iconst 0, 1) := by decide +kernel
theorem dX2_beginAnew_15 : decode cX2_beginAnew 15 = .ok (.putfield 41, 3) := by decide +kernel
theorem dX2_beginAnew_18 : decode cX2_beginAnew 18 = .ok (.aload_n 0, 1) := by decide +kernel
theorem dX2_beginAnew_19 : decode cX2_beginAnew 19 = .ok (.invokevirtual 80, 3) := by decide +kernel
theorem dX2_beginAnew_22 : decode cX2_beginAnew 22 = .ok (.return_, 1) := by decide +kernel
theorem dX2_join_0 : decode cX2_join 0 = .ok (.aload_n 0, 1) := by decide +kernel
theorem dX2_join_1 : decode cX2_join 1 = .ok (.getfield 12, 3) := by decide +kernel
theorem dX2_join_4 : decode cX2_join 4 = .ok (.iload_n 1, 1) := by decide +kernel
theorem dX2_join_5 : decode cX2_join 5 = .ok (.iload_n 2, 1) := by decide +kernel
theorem dX2_join_6 : decode cX2_join 6 = .ok (.iload_n 3, 1) := by decide +kernel
theorem dX2_join_7 : decode cX2_join 7 = .ok (.invokevirtual 83, 3) := by decide +kernel
theorem dX2_join_10 : decode cX2_join 10 = .ok (.aload_n 0, 1) := by decide +kernel
theorem dX2_join_11 : decode cX2_join 11 = .ok (.invokevirtual 61, 3) := by decide +kernel
theorem dX2_join_14 : decode cX2_join 14 = .ok (.return_, 1) := by decide +kernel
theorem dX2_changePlaces_0 : decode cX2_changePlaces 0 = .ok (.aload_n 0, 1) := by decide +kernel
theorem dX2_changePlaces_1 : decode cX2_changePlaces 1 = .ok (.getfield 12, 3) := by decide +kernel
theorem dX2_changePlaces_4 : decode cX2_changePlaces 4 = .ok (.iload_n 1, 1) := by decide +kernel
theorem dX2_changePlaces_5 : decode cX2_changePlaces 5 = .ok (.iload_n 2, 1) := by decide +kernel
theorem dX2_changePlaces_6 : decode cX2_changePlaces 6 = .ok (.invokevirtual 87, 3) := by decide +kernel
theorem dX2_changePlaces_9 : decode cX2_changePlaces 9 = .ok (.aload_n 0, 1) := by decide +kernel
theorem dX2_changePlaces_10 : decode cX2_changePlaces 10 = .ok (.invokevirtual 61, 3) := by decide +kernel
theorem dX2_changePlaces_13 : decode cX2_changePlaces 13 = .ok (.return_, 1) := by decide +kernel
theorem dX2_makeTrue_0 : decode cX2_makeTrue 0 = .ok (.aload_n 0, 1) := by decide +kernel
theorem dX2_makeTrue_1 : decode cX2_makeTrue 1 = .ok (.iload_n 1, 1) := by decide +kernel
theorem dX2_makeTrue_2 : decode cX2_makeTrue 2 = .ok (.putfield 41, 3) := by decide +kernel
theorem dX2_makeTrue_5 : decode cX2_makeTrue 5 = .ok (.aload_n 0, 1) := by decide +kernel
theorem dX2_makeTrue_6 : decode cX2_makeTrue 6 = .ok (.invokevirtual 80, 3) := by decide +kernel
theorem dX2_makeTrue_9 : decode cX2_makeTrue 9 = .ok (.return_, 1) := by decide +kernel
theorem dX2_trueWorld_0 : decode cX2_trueWorld 0 = .ok (.aload_n 0, 1) := by decide +kernel
theorem dX2_trueWorld_1 : decode cX2_trueWorld 1 = .ok (.getfield 41, 3) := by decide +kernel
theorem dX2_trueWorld_4 : decode cX2_trueWorld 4 = .ok (.ifCond .lt 32, 3) := by decide +kernel
theorem dX2_trueWorld_7 : decode cX2_trueWorld 7 = .ok (.aload_n 0, 1) := by decide +kernel
theorem dX2_trueWorld_8 : decode cX2_trueWorld 8 = .ok (.getfield 41, 3) := by decide +kernel
theorem dX2_trueWorld_11 : decode cX2_trueWorld 11 = .ok (.aload_n 0, 1) := by decide +kernel
theorem dX2_trueWorld_12 : decode cX2_trueWorld 12 = .ok (.getfield 23, 3) := by decide +kernel
theorem dX2_trueWorld_15 : decode cX2_trueWorld 15 = .ok (.getfield 91, 3) := by decide +kernel
theorem dX2_trueWorld_18 : decode cX2_trueWorld 18 = .ok (.if_icmp .ge 18, 3) := by decide +kernel
theorem dX2_trueWorld_21 : decode cX2_trueWorld 21 = .ok (.aload_n 0, 1) := by decide +kernel
theorem dX2_trueWorld_22 : decode cX2_trueWorld 22 = .ok (.getfield 23, 3) := by decide +kernel
theorem dX2_trueWorld_25 : decode cX2_trueWorld 25 = .ok (.getfield 94, 3) := by decide +kernel
theorem dX2_trueWorld_28 : decode cX2_trueWorld 28 = .ok (.aload_n 0, 1) := by decide +kernel
theorem dX2_trueWorld_29 : decode cX2_trueWorld 29 = .ok (.getfield 41, 3) := by decide +kernel
theorem dX2_trueWorld_32 : decode cX2_trueWorld 32 = .ok (.iaload, 1) := by decide +kernel
theorem dX2_trueWorld_33 : decode cX2_trueWorld 33 = .ok (.goto 4, 3) := by decide +kernel
theorem dX2_trueWorld_36 : decode cX2_trueWorld 36 = .ok (.iconst 0, 1) := by decide +kernel
theorem dX2_trueWorld_37 : decode cX2_trueWorld 37 = .ok (.ireturn, 1) := by decide +kernel
theorem dX2_soundInTruth_0 : decode cX2_soundInTruth 0 = .ok (.aload_n 0, 1) := by decide +kernel
theorem dX2_soundInTruth_1 : decode cX2_soundInTruth 1 = .ok (.getfield 23, 3) := by decide +kernel
theorem dX2_soundInTruth_4 : decode cX2_soundInTruth 4 = .ok (.iload_n 1, 1) := by decide +kernel
theorem dX2_soundInTruth_5 : decode cX2_soundInTruth 5 = .ok (.aload_n 0, 1) := by decide +kernel
theorem dX2_soundInTruth_6 : decode cX2_soundInTruth 6 = .ok (.getfield 41, 3) := by decide +kernel
theorem dX2_soundInTruth_9 : decode cX2_soundInTruth 9 = .ok (.invokevirtual 97, 3) := by decide +kernel
theorem dX2_soundInTruth_12 : decode cX2_soundInTruth 12 = .ok (.ireturn, 1) := by decide +kernel
theorem dX2_forgetAll_0 : decode cX2_forgetAll 0 = .ok (.aload_n 0, 1) := by decide +kernel
theorem dX2_forgetAll_1 : decode cX2_forgetAll 1 = .ok (.iconst 0, 1) := by decide +kernel
theorem dX2_forgetAll_2 : decode cX2_forgetAll 2 = .ok (.putfield 34, 3) := by decide +kernel
theorem dX2_forgetAll_5 : decode cX2_forgetAll 5 = .ok (.aload_n 0, 1) := by decide +kernel
theorem dX2_forgetAll_6 : decode cX2_forgetAll 6 = .ok (.aload_n 0, 1) := by decide +kernel
theorem dX2_forgetAll_7 : decode cX2_forgetAll 7 = .ok (.getfield 23, 3) := by decide +kernel
theorem dX2_forgetAll_10 : decode cX2_forgetAll 10 = .ok (.invokevirtual 101, 3) := by decide +kernel
theorem dX2_forgetAll_13 : decode cX2_forgetAll 13 = .ok (.putfield 44, 3) := by decide +kernel
theorem dX2_forgetAll_16 : decode cX2_forgetAll 16 = .ok (.aload_n 0, 1) := by decide +kernel
theorem dX2_forgetAll_17 : decode cX2_forgetAll 17 = .ok (.aload_n 0, 1) := by decide +kernel
theorem dX2_forgetAll_18 : decode cX2_forgetAll 18 = .ok (.getfield 23, 3) := by decide +kernel
theorem dX2_forgetAll_21 : decode cX2_forgetAll 21 = .ok (.invokevirtual 105, 3) := by decide +kernel
theorem dX2_forgetAll_24 : decode cX2_forgetAll 24 = .ok (.putfield 48, 3) := by decide +kernel
theorem dX2_forgetAll_27 : decode cX2_forgetAll 27 = .ok (.return_, 1) := by decide +kernel
theorem dX2_hasRoom_0 : decode cX2_hasRoom 0 = .ok (.aload_n 0, 1) := by decide +kernel
theorem dX2_hasRoom_1 : decode cX2_hasRoom 1 = .ok (.getfield 34, 3) := by decide +kernel
theorem dX2_hasRoom_4 : decode cX2_hasRoom 4 = .ok (.bipush 16, 2) := by decide +kernel
theorem dX2_hasRoom_6 : decode cX2_hasRoom 6 = .ok (.if_icmp .ge 7, 3) := by decide +kernel
theorem dX2_hasRoom_9 : decode cX2_hasRoom 9 = .ok (.iconst 1, 1) := by decide +kernel
theorem dX2_hasRoom_10 : decode cX2_hasRoom 10 = .ok (.goto 4, 3) := by decide +kernel
theorem dX2_hasRoom_13 : decode cX2_hasRoom 13 = .ok (.iconst 0, 1) := by decide +kernel
theorem dX2_hasRoom_14 : decode cX2_hasRoom 14 = .ok (.ireturn, 1) := by decide +kernel
theorem dX2_possible_0 : decode cX2_possible 0 = .ok (.aload_n 0, 1) := by decide +kernel
theorem dX2_possible_1 : decode cX2_possible 1 = .ok (.getfield 44, 3) := by decide +kernel
theorem dX2_possible_4 : decode cX2_possible 4 = .ok (.aload_n 0, 1) := by decide +kernel
theorem dX2_possible_5 : decode cX2_possible 5 = .ok (.getfield 48, 3) := by decide +kernel
theorem dX2_possible_8 : decode cX2_possible 8 = .ok (.invokestatic 108, 3) := by decide +kernel
theorem dX2_possible_11 : decode cX2_possible 11 = .ok (.ireturn, 1) := by decide +kernel
theorem dX2_possibleWorld_0 : decode cX2_possibleWorld 0 = .ok (.iload_n 1, 1) := by decide +kernel
theorem dX2_possibleWorld_1 : decode cX2_possibleWorld 1 = .ok (.istore_n 2, 1) := by decide +kernel
theorem dX2_possibleWorld_2 : decode cX2_possibleWorld 2 = .ok (.iconst 0, 1) := by decide +kernel
theorem dX2_possibleWorld_3 : decode cX2_possibleWorld 3 = .ok (.istore_n 3, 1) := by decide +kernel
theorem dX2_possibleWorld_4 : decode cX2_possibleWorld 4 = .ok (.iload_n 3, 1) := by decide +kernel
theorem dX2_possibleWorld_5 : decode cX2_possibleWorld 5 = .ok (.aload_n 0, 1) := by decide +kernel
theorem dX2_possibleWorld_6 : decode cX2_possibleWorld 6 = .ok (.getfield 23, 3) := by decide +kernel
theorem dX2_possibleWorld_9 : decode cX2_possibleWorld 9 = .ok (.getfield 91, 3) := by decide +kernel
theorem dX2_possibleWorld_12 : decode cX2_possibleWorld 12 = .ok (.if_icmp .ge 41, 3) := by decide +kernel
theorem dX2_possibleWorld_15 : decode cX2_possibleWorld 15 = .ok (.iload_n 3, 1) := by decide +kernel
theorem dX2_possibleWorld_16 : decode cX2_possibleWorld 16 = .ok (.aload_n 0, 1) := by decide +kernel
theorem dX2_possibleWorld_17 : decode cX2_possibleWorld 17 = .ok (.getfield 44, 3) := by decide +kernel
theorem dX2_possibleWorld_20 : decode cX2_possibleWorld 20 = .ok (.aload_n 0, 1) := by decide +kernel
theorem dX2_possibleWorld_21 : decode cX2_possibleWorld 21 = .ok (.getfield 48, 3) := by decide +kernel
theorem dX2_possibleWorld_24 : decode cX2_possibleWorld 24 = .ok (.invokestatic 112, 3) := by decide +kernel
theorem dX2_possibleWorld_27 : decode cX2_possibleWorld 27 = .ok (.ifCond .eq 20, 3) := by decide +kernel
theorem dX2_possibleWorld_30 : decode cX2_possibleWorld 30 = .ok (.iload_n 2, 1) := by decide +kernel
theorem dX2_possibleWorld_31 : decode cX2_possibleWorld 31 = .ok (.ifCond .ne 13, 3) := by decide +kernel
theorem dX2_possibleWorld_34 : decode cX2_possibleWorld 34 = .ok (.aload_n 0, 1) := by decide +kernel
theorem dX2_possibleWorld_35 : decode cX2_possibleWorld 35 = .ok (.getfield 23, 3) := by decide +kernel
theorem dX2_possibleWorld_38 : decode cX2_possibleWorld 38 = .ok (.getfield 94, 3) := by decide +kernel
theorem dX2_possibleWorld_41 : decode cX2_possibleWorld 41 = .ok (.iload_n 3, 1) := by decide +kernel
theorem dX2_possibleWorld_42 : decode cX2_possibleWorld 42 = .ok (.iaload, 1) := by decide +kernel
theorem dX2_possibleWorld_43 : decode cX2_possibleWorld 43 = .ok (.ireturn, 1) := by decide +kernel
theorem dX2_possibleWorld_44 : decode cX2_possibleWorld 44 = .ok (.iinc 2 (-1), 3) := by decide +kernel
theorem dX2_possibleWorld_47 : decode cX2_possibleWorld 47 = .ok (.iinc 3 1, 3) := by decide +kernel
theorem dX2_possibleWorld_50 : decode cX2_possibleWorld 50 = .ok (.goto (-46), 3) := by decide +kernel
theorem dX2_possibleWorld_53 : decode cX2_possibleWorld 53 = .ok (.iconst (-1), 1) := by decide +kernel
theorem dX2_possibleWorld_54 : decode cX2_possibleWorld 54 = .ok (.ireturn, 1) := by decide +kernel
theorem dX2_canSound_0 : decode cX2_canSound 0 = .ok (.iload_n 2, 1) := by decide +kernel
theorem dX2_canSound_1 : decode cX2_canSound 1 = .ok (.ifCond .lt 8, 3) := by decide +kernel
theorem dX2_canSound_4 : decode cX2_canSound 4 = .ok (.iload_n 2, 1) := by decide +kernel
theorem dX2_canSound_5 : decode cX2_canSound 5 = .ok (.iconst 1, 1) := by decide +kernel
theorem dX2_canSound_6 : decode cX2_canSound 6 = .ok (.if_icmp .le 5, 3) := by decide +kernel
theorem dX2_canSound_9 : decode cX2_canSound 9 = .ok (.iconst 0, 1) := by decide +kernel
theorem dX2_canSound_10 : decode cX2_canSound 10 = .ok (.ireturn, 1) := by decide +kernel
theorem dX2_canSound_11 : decode cX2_canSound 11 = .ok (.aload_n 0, 1) := by decide +kernel
theorem dX2_canSound_12 : decode cX2_canSound 12 = .ok (.getfield 23, 3) := by decide +kernel
theorem dX2_canSound_15 : decode cX2_canSound 15 = .ok (.iload_n 1, 1) := by decide +kernel
theorem dX2_canSound_16 : decode cX2_canSound 16 = .ok (.iload_n 2, 1) := by decide +kernel
theorem dX2_canSound_17 : decode cX2_canSound 17 = .ok (.aload_n 0, 1) := by decide +kernel
theorem dX2_canSound_18 : decode cX2_canSound 18 = .ok (.getfield 44, 3) := by decide +kernel
theorem dX2_canSound_21 : decode cX2_canSound 21 = .ok (.invokevirtual 116, 3) := by decide +kernel
theorem dX2_canSound_24 : decode cX2_canSound 24 = .ok (.lconst 0, 1) := by decide +kernel
theorem dX2_canSound_25 : decode cX2_canSound 25 = .ok (.lcmp, 1) := by decide +kernel
theorem dX2_canSound_26 : decode cX2_canSound 26 = .ok (.ifCond .ne 21, 3) := by decide +kernel
theorem dX2_canSound_29 : decode cX2_canSound 29 = .ok (.aload_n 0, 1) := by decide +kernel
theorem dX2_canSound_30 : decode cX2_canSound 30 = .ok (.getfield 23, 3) := by decide +kernel
theorem dX2_canSound_33 : decode cX2_canSound 33 = .ok (.iload_n 1, 1) := by decide +kernel
theorem dX2_canSound_34 : decode cX2_canSound 34 = .ok (.iload_n 2, 1) := by decide +kernel
theorem dX2_canSound_35 : decode cX2_canSound 35 = .ok (.aload_n 0, 1) := by decide +kernel
theorem dX2_canSound_36 : decode cX2_canSound 36 = .ok (.getfield 48, 3) := by decide +kernel
theorem dX2_canSound_39 : decode cX2_canSound 39 = .ok (.invokevirtual 120, 3) := by decide +kernel
theorem dX2_canSound_42 : decode cX2_canSound 42 = .ok (.lconst 0, 1) := by decide +kernel
theorem dX2_canSound_43 : decode cX2_canSound 43 = .ok (.lcmp, 1) := by decide +kernel
theorem dX2_canSound_44 : decode cX2_canSound 44 = .ok (.ifCond .eq 7, 3) := by decide +kernel
theorem dX2_canSound_47 : decode cX2_canSound 47 = .ok (.iconst 1, 1) := by decide +kernel
theorem dX2_canSound_48 : decode cX2_canSound 48 = .ok (.goto 4, 3) := by decide +kernel
theorem dX2_canSound_51 : decode cX2_canSound 51 = .ok (.iconst 0, 1) := by decide +kernel
theorem dX2_canSound_52 : decode cX2_canSound 52 = .ok (.ireturn, 1) := by decide +kernel
theorem dX2_isKnown_0 : decode cX2_isKnown 0 = .ok (.iconst 0, 1) := by decide +kernel
theorem dX2_isKnown_1 : decode cX2_isKnown 1 = .ok (.istore_n 3, 1) := by decide +kernel
theorem dX2_isKnown_2 : decode cX2_isKnown 2 = .ok (.iload_n 3, 1) := by decide +kernel
theorem dX2_isKnown_3 : decode cX2_isKnown 3 = .ok (.aload_n 0, 1) := by decide +kernel
theorem dX2_isKnown_4 : decode cX2_isKnown 4 = .ok (.getfield 34, 3) := by decide +kernel
theorem dX2_isKnown_7 : decode cX2_isKnown 7 = .ok (.if_icmp .ge 25, 3) := by decide +kernel
theorem dX2_isKnown_10 : decode cX2_isKnown 10 = .ok (.aload_n 0, 1) := by decide +kernel
theorem dX2_isKnown_11 : decode cX2_isKnown 11 = .ok (.getfield 31, 3) := by decide +kernel
theorem dX2_isKnown_14 : decode cX2_isKnown 14 = .ok (.iload_n 3, 1) := by decide +kernel
theorem dX2_isKnown_15 : decode cX2_isKnown 15 = .ok (.iaload, 1) := by decide +kernel
theorem dX2_isKnown_16 : decode cX2_isKnown 16 = .ok (.iconst 2, 1) := by decide +kernel
theorem dX2_isKnown_17 : decode cX2_isKnown 17 = .ok (.iload_n 1, 1) := by decide +kernel
theorem dX2_isKnown_18 : decode cX2_isKnown 18 = .ok (.imul, 1) := by decide +kernel
theorem dX2_isKnown_19 : decode cX2_isKnown 19 = .ok (.iload_n 2, 1) := by decide +kernel
theorem dX2_isKnown_20 : decode cX2_isKnown 20 = .ok (.iadd, 1) := by decide +kernel
theorem dX2_isKnown_21 : decode cX2_isKnown 21 = .ok (.if_icmp .ne 5, 3) := by decide +kernel
theorem dX2_isKnown_24 : decode cX2_isKnown 24 = .ok (.iconst 1, 1) := by decide +kernel
theorem dX2_isKnown_25 : decode cX2_isKnown 25 = .ok (.ireturn, 1) := by decide +kernel
theorem dX2_isKnown_26 : decode cX2_isKnown 26 = .ok (.iinc 3 1, 3) := by decide +kernel
theorem dX2_isKnown_29 : decode cX2_isKnown 29 = .ok (.goto (-27), 3) := by decide +kernel
theorem dX2_isKnown_32 : decode cX2_isKnown 32 = .ok (.iconst 0, 1) := by decide +kernel
theorem dX2_isKnown_33 : decode cX2_isKnown 33 = .ok (.ireturn, 1) := by decide +kernel
theorem dX2_learn_0 : decode cX2_learn 0 = .ok (.aload_n 0, 1) := by decide +kernel
theorem dX2_learn_1 : decode cX2_learn 1 = .ok (.iload_n 1, 1) := by decide +kernel
theorem dX2_learn_2 : decode cX2_learn 2 = .ok (.iload_n 2, 1) := by decide +kernel
theorem dX2_learn_3 : decode cX2_learn 3 = .ok (.invokevirtual 123, 3) := by decide +kernel
theorem dX2_learn_6 : decode cX2_learn 6 = .ok (.ifCond .ne 10, 3) := by decide +kernel
theorem dX2_learn_9 : decode cX2_learn 9 = .ok (.aload_n 0, 1) := by decide +kernel
theorem dX2_learn_10 : decode cX2_learn 10 = .ok (.invokevirtual 126, 3) := by decide +kernel
theorem dX2_learn_13 : decode cX2_learn 13 = .ok (.ifCond .ne 4, 3) := by decide +kernel
theorem dX2_learn_16 : decode cX2_learn 16 = .ok (.return_, 1) := by decide +kernel
theorem dX2_learn_17 : decode cX2_learn 17 = .ok (.aload_n 0, 1) := by decide +kernel
theorem dX2_learn_18 : decode cX2_learn 18 = .ok (.getfield 31, 3) := by decide +kernel
theorem dX2_learn_21 : decode cX2_learn 21 = .ok (.aload_n 0, 1) := by decide +kernel
theorem dX2_learn_22 : decode cX2_learn 22 = .ok (.getfield 34, 3) := by decide +kernel
theorem dX2_learn_25 : decode cX2_learn 25 = .ok (.iconst 2, 1) := by decide +kernel
theorem dX2_learn_26 : decode cX2_learn 26 = .ok (.iload_n 1, 1) := by decide +kernel
theorem dX2_learn_27 : decode cX2_learn 27 = .ok (.imul, 1) := by decide +kernel
theorem dX2_learn_28 : decode cX2_learn 28 = .ok (.iload_n 2, 1) := by decide +kernel
theorem dX2_learn_29 : decode cX2_learn 29 = .ok (.iadd, 1) := by decide +kernel
theorem dX2_learn_30 : decode cX2_learn 30 = .ok (.iastore, 1) := by decide +kernel
theorem dX2_learn_31 : decode cX2_learn 31 = .ok (.aload_n 0, 1) := by decide +kernel
theorem dX2_learn_32 : decode cX2_learn 32 = .ok (.dup, 1) := by decide +kernel
theorem dX2_learn_33 : decode cX2_learn 33 = .ok (.getfield 34, 3) := by decide +kernel
theorem dX2_learn_36 : decode cX2_learn 36 = .ok (.iconst 1, 1) := by decide +kernel
theorem dX2_learn_37 : decode cX2_learn 37 = .ok (.iadd, 1) := by decide +kernel
theorem dX2_learn_38 : decode cX2_learn 38 = .ok (.putfield 34, 3) := by decide +kernel
theorem dX2_learn_41 : decode cX2_learn 41 = .ok (.aload_n 0, 1) := by decide +kernel
theorem dX2_learn_42 : decode cX2_learn 42 = .ok (.aload_n 0, 1) := by decide +kernel
theorem dX2_learn_43 : decode cX2_learn 43 = .ok (.getfield 23, 3) := by decide +kernel
theorem dX2_learn_46 : decode cX2_learn 46 = .ok (.iload_n 1, 1) := by decide +kernel
theorem dX2_learn_47 : decode cX2_learn 47 = .ok (.iload_n 2, 1) := by decide +kernel
theorem dX2_learn_48 : decode cX2_learn 48 = .ok (.aload_n 0, 1) := by decide +kernel
theorem dX2_learn_49 : decode cX2_learn 49 = .ok (.getfield 44, 3) := by decide +kernel
theorem dX2_learn_52 : decode cX2_learn 52 = .ok (.invokevirtual 116, 3) := by decide +kernel
theorem dX2_learn_55 : decode cX2_learn 55 = .ok (.putfield 44, 3) := by decide +kernel
theorem dX2_learn_58 : decode cX2_learn 58 = .ok (.aload_n 0, 1) := by decide +kernel
theorem dX2_learn_59 : decode cX2_learn 59 = .ok (.aload_n 0, 1) := by decide +kernel
theorem dX2_learn_60 : decode cX2_learn 60 = .ok (.getfield 23, 3) := by decide +kernel
theorem dX2_learn_63 : decode cX2_learn 63 = .ok (.iload_n 1, 1) := by decide +kernel
theorem dX2_learn_64 : decode cX2_learn 64 = .ok (.iload_n 2, 1) := by decide +kernel
theorem dX2_learn_65 : decode cX2_learn 65 = .ok (.aload_n 0, 1) := by decide +kernel
theorem dX2_learn_66 : decode cX2_learn 66 = .ok (.getfield 48, 3) := by decide +kernel
theorem dX2_learn_69 : decode cX2_learn 69 = .ok (.invokevirtual 120, 3) := by decide +kernel
theorem dX2_learn_72 : decode cX2_learn 72 = .ok (.putfield 48, 3) := by decide +kernel
theorem dX2_learn_75 : decode cX2_learn 75 = .ok (.return_, 1) := by decide +kernel
theorem dX2_wrongInSome_0 : decode cX2_wrongInSome 0 = .ok (.iconst 0, 1) := by decide +kernel
theorem dX2_wrongInSome_1 : decode cX2_wrongInSome 1 = .ok (.istore_n 1, 1) := by decide +kernel
theorem dX2_wrongInSome_2 : decode cX2_wrongInSome 2 = .ok (.iconst 0, 1) := by decide +kernel
theorem dX2_wrongInSome_3 : decode cX2_wrongInSome 3 = .ok (.istore_n 2, 1) := by decide +kernel
theorem dX2_wrongInSome_4 : decode cX2_wrongInSome 4 = .ok (.iload_n 2, 1) := by decide +kernel
theorem dX2_wrongInSome_5 : decode cX2_wrongInSome 5 = .ok (.aload_n 0, 1) := by decide +kernel
theorem dX2_wrongInSome_6 : decode cX2_wrongInSome 6 = .ok (.getfield 23, 3) := by decide +kernel
theorem dX2_wrongInSome_9 : decode cX2_wrongInSome 9 = .ok (.getfield 91, 3) := by decide +kernel
theorem dX2_wrongInSome_12 : decode cX2_wrongInSome 12 = .ok (.if_icmp .ge 36, 3) := by decide +kernel
theorem dX2_wrongInSome_15 : decode cX2_wrongInSome 15 = .ok (.iload_n 2, 1) := by decide +kernel
theorem dX2_wrongInSome_16 : decode cX2_wrongInSome 16 = .ok (.aload_n 0, 1) := by decide +kernel
theorem dX2_wrongInSome_17 : decode cX2_wrongInSome 17 = .ok (.getfield 44, 3) := by decide +kernel
theorem dX2_wrongInSome_20 : decode cX2_wrongInSome 20 = .ok (.aload_n 0, 1) := by decide +kernel
theorem dX2_wrongInSome_21 : decode cX2_wrongInSome 21 = .ok (.getfield 48, 3) := by decide +kernel
theorem dX2_wrongInSome_24 : decode cX2_wrongInSome 24 = .ok (.invokestatic 112, 3) := by decide +kernel
theorem dX2_wrongInSome_27 : decode cX2_wrongInSome 27 = .ok (.ifCond .eq 15, 3) := by decide +kernel
theorem dX2_wrongInSome_30 : decode cX2_wrongInSome 30 = .ok (.iload_n 1, 1) := by decide +kernel
theorem dX2_wrongInSome_31 : decode cX2_wrongInSome 31 = .ok (.aload_n 0, 1) := by decide +kernel
theorem dX2_wrongInSome_32 : decode cX2_wrongInSome 32 = .ok (.getfield 23, 3) := by decide +kernel
theorem dX2_wrongInSome_35 : decode cX2_wrongInSome 35 = .ok (.getfield 94, 3) := by decide +kernel
theorem dX2_wrongInSome_38 : decode cX2_wrongInSome 38 = .ok (.iload_n 2, 1) := by decide +kernel
theorem dX2_wrongInSome_39 : decode cX2_wrongInSome 39 = .ok (.iaload, 1) := by decide +kernel
theorem dX2_wrongInSome_40 : decode cX2_wrongInSome 40 = .ok (.ior, 1) := by decide +kernel
theorem dX2_wrongInSome_41 : decode cX2_wrongInSome 41 = .ok (.istore_n 1, 1) := by decide +kernel
theorem dX2_wrongInSome_42 : decode cX2_wrongInSome 42 = .ok (.iinc 2 1, 3) := by decide +kernel
theorem dX2_wrongInSome_45 : decode cX2_wrongInSome 45 = .ok (.goto (-41), 3) := by decide +kernel
theorem dX2_wrongInSome_48 : decode cX2_wrongInSome 48 = .ok (.iload_n 1, 1) := by decide +kernel
theorem dX2_wrongInSome_49 : decode cX2_wrongInSome 49 = .ok (.ireturn, 1) := by decide +kernel
theorem dX2_wrongInAll_0 : decode cX2_wrongInAll 0 = .ok (.aload_n 0, 1) := by decide +kernel
theorem dX2_wrongInAll_1 : decode cX2_wrongInAll 1 = .ok (.invokevirtual 130, 3) := by decide +kernel
theorem dX2_wrongInAll_4 : decode cX2_wrongInAll 4 = .ok (.ifCond .ne 7, 3) := by decide +kernel
theorem dX2_wrongInAll_7 : decode cX2_wrongInAll 7 = .ok (.iconst 0, 1) := by decide +kernel
theorem dX2_wrongInAll_8 : decode cX2_wrongInAll 8 = .ok (.goto 10, 3) := by decide +kernel
theorem dX2_wrongInAll_11 : decode cX2_wrongInAll 11 = .ok (.aload_n 0, 1) := by decide +kernel
theorem dX2_wrongInAll_12 : decode cX2_wrongInAll 12 = .ok (.getfield 12, 3) := by decide +kernel
theorem dX2_wrongInAll_15 : decode cX2_wrongInAll 15 = .ok (.invokevirtual 134, 3) := by decide +kernel
theorem dX2_wrongInAll_18 : decode cX2_wrongInAll 18 = .ok (.istore_n 1, 1) := by decide +kernel
theorem dX2_wrongInAll_19 : decode cX2_wrongInAll 19 = .ok (.iconst 0, 1) := by decide +kernel
theorem dX2_wrongInAll_20 : decode cX2_wrongInAll 20 = .ok (.istore_n 2, 1) := by decide +kernel
theorem dX2_wrongInAll_21 : decode cX2_wrongInAll 21 = .ok (.iload_n 2, 1) := by decide +kernel
theorem dX2_wrongInAll_22 : decode cX2_wrongInAll 22 = .ok (.aload_n 0, 1) := by decide +kernel
theorem dX2_wrongInAll_23 : decode cX2_wrongInAll 23 = .ok (.getfield 23, 3) := by decide +kernel
theorem dX2_wrongInAll_26 : decode cX2_wrongInAll 26 = .ok (.getfield 91, 3) := by decide +kernel
theorem dX2_wrongInAll_29 : decode cX2_wrongInAll 29 = .ok (.if_icmp .ge 36, 3) := by decide +kernel
theorem dX2_wrongInAll_32 : decode cX2_wrongInAll 32 = .ok (.iload_n 2, 1) := by decide +kernel
theorem dX2_wrongInAll_33 : decode cX2_wrongInAll 33 = .ok (.aload_n 0, 1) := by decide +kernel
theorem dX2_wrongInAll_34 : decode cX2_wrongInAll 34 = .ok (.getfield 44, 3) := by decide +kernel
theorem dX2_wrongInAll_37 : decode cX2_wrongInAll 37 = .ok (.aload_n 0, 1) := by decide +kernel
theorem dX2_wrongInAll_38 : decode cX2_wrongInAll 38 = .ok (.getfield 48, 3) := by decide +kernel
theorem dX2_wrongInAll_41 : decode cX2_wrongInAll 41 = .ok (.invokestatic 112, 3) := by decide +kernel
theorem dX2_wrongInAll_44 : decode cX2_wrongInAll 44 = .ok (.ifCond .eq 15, 3) := by decide +kernel
theorem dX2_wrongInAll_47 : decode cX2_wrongInAll 47 = .ok (.iload_n 1, 1) := by decide +kernel
theorem dX2_wrongInAll_48 : decode cX2_wrongInAll 48 = .ok (.aload_n 0, 1) := by decide +kernel
theorem dX2_wrongInAll_49 : decode cX2_wrongInAll 49 = .ok (.getfield 23, 3) := by decide +kernel
theorem dX2_wrongInAll_52 : decode cX2_wrongInAll 52 = .ok (.getfield 94, 3) := by decide +kernel
theorem dX2_wrongInAll_55 : decode cX2_wrongInAll 55 = .ok (.iload_n 2, 1) := by decide +kernel
theorem dX2_wrongInAll_56 : decode cX2_wrongInAll 56 = .ok (.iaload, 1) := by decide +kernel
theorem dX2_wrongInAll_57 : decode cX2_wrongInAll 57 = .ok (.iand, 1) := by decide +kernel
theorem dX2_wrongInAll_58 : decode cX2_wrongInAll 58 = .ok (.istore_n 1, 1) := by decide +kernel
theorem dX2_wrongInAll_59 : decode cX2_wrongInAll 59 = .ok (.iinc 2 1, 3) := by decide +kernel
theorem dX2_wrongInAll_62 : decode cX2_wrongInAll 62 = .ok (.goto (-41), 3) := by decide +kernel
theorem dX2_wrongInAll_65 : decode cX2_wrongInAll 65 = .ok (.iload_n 1, 1) := by decide +kernel
theorem dX2_wrongInAll_66 : decode cX2_wrongInAll 66 = .ok (.ireturn, 1) := by decide +kernel
theorem dX2_likely_0 : decode cX2_likely 0 = .ok (.lconst 0, 1) := by decide +kernel
theorem dX2_likely_1 : decode cX2_likely 1 = .ok (.lstore_n 2, 1) := by decide +kernel
theorem dX2_likely_2 : decode cX2_likely 2 = .ok (.lconst 0, 1) := by decide +kernel
theorem dX2_likely_3 : decode cX2_likely 3 = .ok (.lstore 4, 2) := by decide +kernel
theorem dX2_likely_5 : decode cX2_likely 5 = .ok (.iconst 0, 1) := by decide +kernel
theorem dX2_likely_6 : decode cX2_likely 6 = .ok (.istore 6, 2) := by decide +kernel
theorem dX2_likely_8 : decode cX2_likely 8 = .ok (.iload 6, 2) := by decide +kernel
theorem dX2_likely_10 : decode cX2_likely 10 = .ok (.aload_n 0, 1) := by decide +kernel
theorem dX2_likely_11 : decode cX2_likely 11 = .ok (.getfield 23, 3) := by decide +kernel
theorem dX2_likely_14 : decode cX2_likely 14 = .ok (.getfield 91, 3) := by decide +kernel
theorem dX2_likely_17 : decode cX2_likely 17 = .ok (.if_icmp .ge 71, 3) := by decide +kernel
theorem dX2_likely_20 : decode cX2_likely 20 = .ok (.iload 6, 2) := by decide +kernel
theorem dX2_likely_22 : decode cX2_likely 22 = .ok (.aload_n 0, 1) := by decide +kernel
theorem dX2_likely_23 : decode cX2_likely 23 = .ok (.getfield 44, 3) := by decide +kernel
theorem dX2_likely_26 : decode cX2_likely 26 = .ok (.aload_n 0, 1) := by decide +kernel
theorem dX2_likely_27 : decode cX2_likely 27 = .ok (.getfield 48, 3) := by decide +kernel
theorem dX2_likely_30 : decode cX2_likely 30 = .ok (.invokestatic 112, 3) := by decide +kernel
theorem dX2_likely_33 : decode cX2_likely 33 = .ok (.ifCond .eq 49, 3) := by decide +kernel
theorem dX2_likely_36 : decode cX2_likely 36 = .ok (.lload 4, 2) := by decide +kernel
theorem dX2_likely_38 : decode cX2_likely 38 = .ok (.aload_n 0, 1) := by decide +kernel
theorem dX2_likely_39 : decode cX2_likely 39 = .ok (.getfield 23, 3) := by decide +kernel
theorem dX2_likely_42 : decode cX2_likely 42 = .ok (.getfield 137, 3) := by decide +kernel
theorem dX2_likely_45 : decode cX2_likely 45 = .ok (.iload 6, 2) := by decide +kernel
theorem dX2_likely_47 : decode cX2_likely 47 = .ok (.iaload, 1) := by decide +kernel
theorem dX2_likely_48 : decode cX2_likely 48 = .ok (.i2l, 1) := by decide +kernel
theorem dX2_likely_49 : decode cX2_likely 49 = .ok (.ladd, 1) := by decide +kernel
theorem dX2_likely_50 : decode cX2_likely 50 = .ok (.lstore 4, 2) := by decide +kernel
theorem dX2_likely_52 : decode cX2_likely 52 = .ok (.lload_n 2, 1) := by decide +kernel
theorem dX2_likely_53 : decode cX2_likely 53 = .ok (.aload_n 0, 1) := by decide +kernel
theorem dX2_likely_54 : decode cX2_likely 54 = .ok (.getfield 23, 3) := by decide +kernel
theorem dX2_likely_57 : decode cX2_likely 57 = .ok (.getfield 94, 3) := by decide +kernel
theorem dX2_likely_60 : decode cX2_likely 60 = .ok (.iload 6, 2) := by decide +kernel
theorem dX2_likely_62 : decode cX2_likely 62 = .ok (.iaload, 1) := by decide +kernel
theorem dX2_likely_63 : decode cX2_likely 63 = .ok (.iload_n 1, 1) := by decide +kernel
theorem dX2_likely_64 : decode cX2_likely 64 = .ok (.ishr, 1) := by decide +kernel
theorem dX2_likely_65 : decode cX2_likely 65 = .ok (.iconst 1, 1) := by decide +kernel
theorem dX2_likely_66 : decode cX2_likely 66 = .ok (.iand, 1) := by decide +kernel
theorem dX2_likely_67 : decode cX2_likely 67 = .ok (.i2l, 1) := by decide +kernel
theorem dX2_likely_68 : decode cX2_likely 68 = .ok (.aload_n 0, 1) := by decide +kernel
theorem dX2_likely_69 : decode cX2_likely 69 = .ok (.getfield 23, 3) := by decide +kernel
theorem dX2_likely_72 : decode cX2_likely 72 = .ok (.getfield 137, 3) := by decide +kernel
theorem dX2_likely_75 : decode cX2_likely 75 = .ok (.iload 6, 2) := by decide +kernel
theorem dX2_likely_77 : decode cX2_likely 77 = .ok (.iaload, 1) := by decide +kernel
theorem dX2_likely_78 : decode cX2_likely 78 = .ok (.i2l, 1) := by decide +kernel
theorem dX2_likely_79 : decode cX2_likely 79 = .ok (.lmul, 1) := by decide +kernel
theorem dX2_likely_80 : decode cX2_likely 80 = .ok (.ladd, 1) := by decide +kernel
theorem dX2_likely_81 : decode cX2_likely 81 = .ok (.lstore_n 2, 1) := by decide +kernel
theorem dX2_likely_82 : decode cX2_likely 82 = .ok (.iinc 6 1, 3) := by decide +kernel
theorem dX2_likely_85 : decode cX2_likely 85 = .ok (.goto (-77), 3) := by decide +kernel
theorem dX2_likely_88 : decode cX2_likely 88 = .ok (.lload 4, 2) := by decide +kernel
theorem dX2_likely_90 : decode cX2_likely 90 = .ok (.lconst 0, 1) := by decide +kernel
theorem dX2_likely_91 : decode cX2_likely 91 = .ok (.lcmp, 1) := by decide +kernel
theorem dX2_likely_92 : decode cX2_likely 92 = .ok (.ifCond .ne 7, 3) := by decide +kernel
theorem dX2_likely_95 : decode cX2_likely 95 = .ok (.iconst 0, 1) := by decide +kernel
theorem dX2_likely_96 : decode cX2_likely 96 = .ok (.goto 12, 3) := by decide +kernel
theorem dX2_likely_99 : decode cX2_likely 99 = .ok (.ldc2_w 140, 3) := by decide +kernel
theorem dX2_likely_102 : decode cX2_likely 102 = .ok (.lload_n 2, 1) := by decide +kernel
theorem dX2_likely_103 : decode cX2_likely 103 = .ok (.lmul, 1) := by decide +kernel
theorem dX2_likely_104 : decode cX2_likely 104 = .ok (.lload 4, 2) := by decide +kernel
theorem dX2_likely_106 : decode cX2_likely 106 = .ok (.ldiv, 1) := by decide +kernel
theorem dX2_likely_107 : decode cX2_likely 107 = .ok (.l2i, 1) := by decide +kernel
theorem dX2_likely_108 : decode cX2_likely 108 = .ok (.ireturn, 1) := by decide +kernel
theorem dX2_likeliestWorld_0 : decode cX2_likeliestWorld 0 = .ok (.iconst (-1), 1) := by decide +kernel
theorem dX2_likeliestWorld_1 : decode cX2_likeliestWorld 1 = .ok (.istore_n 1, 1) := by decide +kernel
theorem dX2_likeliestWorld_2 : decode cX2_likeliestWorld 2 = .ok (.iconst 0, 1) := by decide +kernel
theorem dX2_likeliestWorld_3 : decode cX2_likeliestWorld 3 = .ok (.istore_n 2, 1) := by decide +kernel
theorem dX2_likeliestWorld_4 : decode cX2_likeliestWorld 4 = .ok (.iconst 0, 1) := by decide +kernel
theorem dX2_likeliestWorld_5 : decode cX2_likeliestWorld 5 = .ok (.istore_n 3, 1) := by decide +kernel
theorem dX2_likeliestWorld_6 : decode cX2_likeliestWorld 6 = .ok (.iload_n 3, 1) := by decide +kernel
theorem dX2_likeliestWorld_7 : decode cX2_likeliestWorld 7 = .ok (.aload_n 0, 1) := by decide +kernel
theorem dX2_likeliestWorld_8 : decode cX2_likeliestWorld 8 = .ok (.getfield 23, 3) := by decide +kernel
theorem dX2_likeliestWorld_11 : decode cX2_likeliestWorld 11 = .ok (.getfield 91, 3) := by decide +kernel
theorem dX2_likeliestWorld_14 : decode cX2_likeliestWorld 14 = .ok (.if_icmp .ge 57, 3) := by decide +kernel
theorem dX2_likeliestWorld_17 : decode cX2_likeliestWorld 17 = .ok (.iload_n 3, 1) := by decide +kernel
theorem dX2_likeliestWorld_18 : decode cX2_likeliestWorld 18 = .ok (.aload_n 0, 1) := by decide +kernel
theorem dX2_likeliestWorld_19 : decode cX2_likeliestWorld 19 = .ok (.getfield 44, 3) := by decide +kernel
theorem dX2_likeliestWorld_22 : decode cX2_likeliestWorld 22 = .ok (.aload_n 0, 1) := by decide +kernel
theorem dX2_likeliestWorld_23 : decode cX2_likeliestWorld 23 = .ok (.getfield 48, 3) := by decide +kernel
theorem dX2_likeliestWorld_26 : decode cX2_likeliestWorld 26 = .ok (.invokestatic 112, 3) := by decide +kernel
theorem dX2_likeliestWorld_29 : decode cX2_likeliestWorld 29 = .ok (.ifCond .eq 36, 3) := by decide +kernel
theorem dX2_likeliestWorld_32 : decode cX2_likeliestWorld 32 = .ok (.aload_n 0, 1) := by decide +kernel
theorem dX2_likeliestWorld_33 : decode cX2_likeliestWorld 33 = .ok (.getfield 23, 3) := by decide +kernel
theorem dX2_likeliestWorld_36 : decode cX2_likeliestWorld 36 = .ok (.getfield 137, 3) := by decide +kernel
theorem dX2_likeliestWorld_39 : decode cX2_likeliestWorld 39 = .ok (.iload_n 3, 1) := by decide +kernel
theorem dX2_likeliestWorld_40 : decode cX2_likeliestWorld 40 = .ok (.iaload, 1) := by decide +kernel
theorem dX2_likeliestWorld_41 : decode cX2_likeliestWorld 41 = .ok (.iload_n 2, 1) := by decide +kernel
theorem dX2_likeliestWorld_42 : decode cX2_likeliestWorld 42 = .ok (.if_icmp .le 23, 3) := by decide +kernel
theorem dX2_likeliestWorld_45 : decode cX2_likeliestWorld 45 = .ok (.aload_n 0, 1) := by decide +kernel
theorem dX2_likeliestWorld_46 : decode cX2_likeliestWorld 46 = .ok (.getfield 23, 3) := by decide +kernel
theorem dX2_likeliestWorld_49 : decode cX2_likeliestWorld 49 = .ok (.getfield 137, 3) := by decide +kernel
theorem dX2_likeliestWorld_52 : decode cX2_likeliestWorld 52 = .ok (.iload_n 3, 1) := by decide +kernel
theorem dX2_likeliestWorld_53 : decode cX2_likeliestWorld 53 = .ok (.iaload, 1) := by decide +kernel
theorem dX2_likeliestWorld_54 : decode cX2_likeliestWorld 54 = .ok (.istore_n 2, 1) := by decide +kernel
theorem dX2_likeliestWorld_55 : decode cX2_likeliestWorld 55 = .ok (.aload_n 0, 1) := by decide +kernel
theorem dX2_likeliestWorld_56 : decode cX2_likeliestWorld 56 = .ok (.getfield 23, 3) := by decide +kernel
theorem dX2_likeliestWorld_59 : decode cX2_likeliestWorld 59 = .ok (.getfield 94, 3) := by decide +kernel
theorem dX2_likeliestWorld_62 : decode cX2_likeliestWorld 62 = .ok (.iload_n 3, 1) := by decide +kernel
theorem dX2_likeliestWorld_63 : decode cX2_likeliestWorld 63 = .ok (.iaload, 1) := by decide +kernel
theorem dX2_likeliestWorld_64 : decode cX2_likeliestWorld 64 = .ok (.istore_n 1, 1) := by decide +kernel
theorem dX2_likeliestWorld_65 : decode cX2_likeliestWorld 65 = .ok (.iinc 3 1, 3) := by decide +kernel
theorem dX2_likeliestWorld_68 : decode cX2_likeliestWorld 68 = .ok (.goto (-62), 3) := by decide +kernel
theorem dX2_likeliestWorld_71 : decode cX2_likeliestWorld 71 = .ok (.iload_n 1, 1) := by decide +kernel
theorem dX2_likeliestWorld_72 : decode cX2_likeliestWorld 72 = .ok (.ireturn, 1) := by decide +kernel
theorem dX2_allows_0 : decode cX2_allows 0 = .ok (.aload_n 0, 1) := by decide +kernel
theorem dX2_allows_1 : decode cX2_allows 1 = .ok (.getfield 12, 3) := by decide +kernel
theorem dX2_allows_4 : decode cX2_allows 4 = .ok (.iload_n 1, 1) := by decide +kernel
theorem dX2_allows_5 : decode cX2_allows 5 = .ok (.invokevirtual 142, 3) := by decide +kernel
theorem dX2_allows_8 : decode cX2_allows 8 = .ok (.ifCond .eq 16, 3) := by decide +kernel
theorem dX2_allows_11 : decode cX2_allows 11 = .ok (.iload_n 1, 1) := by decide +kernel
theorem dX2_allows_12 : decode cX2_allows 12 = .ok (.invokestatic 146, 3) := by decide +kernel
theorem dX2_allows_15 : decode cX2_allows 15 = .ok (.aload_n 0, 1) := by decide +kernel
theorem dX2_allows_16 : decode cX2_allows 16 = .ok (.getfield 27, 3) := by decide +kernel
theorem dX2_allows_19 : decode cX2_allows 19 = .ok (.iconst 1, 1) := by decide +kernel
theorem dX2_allows_20 : decode cX2_allows 20 = .ok (.iaload, 1) := by decide +kernel
theorem dX2_allows_21 : decode cX2_allows 21 = .ok (.if_icmp .ge 5, 3) := by decide +kernel
theorem dX2_allows_24 : decode cX2_allows 24 = .ok (.iconst 0, 1) := by decide +kernel
theorem dX2_allows_25 : decode cX2_allows 25 = .ok (.ireturn, 1) := by decide +kernel
theorem dX2_allows_26 : decode cX2_allows 26 = .ok (.aload_n 0, 1) := by decide +kernel
theorem dX2_allows_27 : decode cX2_allows 27 = .ok (.getfield 27, 3) := by decide +kernel
theorem dX2_allows_30 : decode cX2_allows 30 = .ok (.iconst 2, 1) := by decide +kernel
theorem dX2_allows_31 : decode cX2_allows 31 = .ok (.iaload, 1) := by decide +kernel
theorem dX2_allows_32 : decode cX2_allows 32 = .ok (.ifCond .eq 14, 3) := by decide +kernel
theorem dX2_allows_35 : decode cX2_allows 35 = .ok (.aload_n 0, 1) := by decide +kernel
theorem dX2_allows_36 : decode cX2_allows 36 = .ok (.getfield 12, 3) := by decide +kernel
theorem dX2_allows_39 : decode cX2_allows 39 = .ok (.iload_n 1, 1) := by decide +kernel
theorem dX2_allows_40 : decode cX2_allows 40 = .ok (.invokevirtual 152, 3) := by decide +kernel
theorem dX2_allows_43 : decode cX2_allows 43 = .ok (.ifCond .eq 7, 3) := by decide +kernel
theorem dX2_allows_46 : decode cX2_allows 46 = .ok (.iconst 1, 1) := by decide +kernel
theorem dX2_allows_47 : decode cX2_allows 47 = .ok (.goto 4, 3) := by decide +kernel
theorem dX2_allows_50 : decode cX2_allows 50 = .ok (.iconst 0, 1) := by decide +kernel
theorem dX2_allows_51 : decode cX2_allows 51 = .ok (.ireturn, 1) := by decide +kernel
theorem dX2_best_0 : decode cX2_best 0 = .ok (.lload_n 1, 1) := by decide +kernel
theorem dX2_best_1 : decode cX2_best 1 = .ok (.lload_n 3, 1) := by decide +kernel
theorem dX2_best_2 : decode cX2_best 2 = .ok (.invokestatic 108, 3) := by decide +kernel
theorem dX2_best_5 : decode cX2_best 5 = .ok (.istore 5, 2) := by decide +kernel
theorem dX2_best_7 : decode cX2_best 7 = .ok (.iload 5, 2) := by decide +kernel
theorem dX2_best_9 : decode cX2_best 9 = .ok (.istore 6, 2) := by decide +kernel
theorem dX2_best_11 : decode cX2_best 11 = .ok (.iconst (-1), 1) := by decide +kernel
theorem dX2_best_12 : decode cX2_best 12 = .ok (.istore 7, 2) := by decide +kernel
theorem dX2_best_14 : decode cX2_best 14 = .ok (.iload 5, 2) := by decide +kernel
theorem dX2_best_16 : decode cX2_best 16 = .ok (.iconst 2, 1) := by decide +kernel
theorem dX2_best_17 : decode cX2_best 17 = .ok (.if_icmp .ge 7, 3) := by decide +kernel
theorem dX2_best_20 : decode cX2_best 20 = .ok (.iconst 0, 1) := by decide +kernel
theorem dX2_best_21 : decode cX2_best 21 = .ok (.goto 10, 3) := by decide +kernel
theorem dX2_best_24 : decode cX2_best 24 = .ok (.aload_n 0, 1) := by decide +kernel
theorem dX2_best_25 : decode cX2_best 25 = .ok (.getfield 12, 3) := by decide +kernel
theorem dX2_best_28 : decode cX2_best 28 = .ok (.invokevirtual 134, 3) := by decide +kernel
theorem dX2_best_31 : decode cX2_best 31 = .ok (.istore 8, 2) := by decide +kernel
theorem dX2_best_33 : decode cX2_best 33 = .ok (.iconst 1, 1) := by decide +kernel
theorem dX2_best_34 : decode cX2_best 34 = .ok (.istore 9, 2) := by decide +kernel
theorem dX2_best_36 : decode cX2_best 36 = .ok (.iload 9, 2) := by decide +kernel
theorem dX2_best_38 : decode cX2_best 38 = .ok (.iload 8, 2) := by decide +kernel
theorem dX2_best_40 : decode cX2_best 40 = .ok (.if_icmp .gt 58, 3) := by decide +kernel
theorem dX2_best_43 : decode cX2_best 43 = .ok (.aload_n 0, 1) := by decide +kernel
theorem dX2_best_44 : decode cX2_best 44 = .ok (.iload 9, 2) := by decide +kernel
theorem dX2_best_46 : decode cX2_best 46 = .ok (.invokevirtual 155, 3) := by decide +kernel
theorem dX2_best_49 : decode cX2_best 49 = .ok (.ifCond .eq 43, 3) := by decide +kernel
theorem dX2_best_52 : decode cX2_best 52 = .ok (.aload_n 0, 1) := by decide +kernel
theorem dX2_best_53 : decode cX2_best 53 = .ok (.getfield 23, 3) := by decide +kernel
theorem dX2_best_56 : decode cX2_best 56 = .ok (.iload 9, 2) := by decide +kernel
theorem dX2_best_58 : decode cX2_best 58 = .ok (.lload_n 1, 1) := by decide +kernel
theorem dX2_best_59 : decode cX2_best 59 = .ok (.lload_n 3, 1) := by decide +kernel
theorem dX2_best_60 : decode cX2_best 60 = .ok (.invokevirtual 158, 3) := by decide +kernel
theorem dX2_best_63 : decode cX2_best 63 = .ok (.istore 10, 2) := by decide +kernel
theorem dX2_best_65 : decode cX2_best 65 = .ok (.iload 10, 2) := by decide +kernel
theorem dX2_best_67 : decode cX2_best 67 = .ok (.iload 5, 2) := by decide +kernel
theorem dX2_best_69 : decode cX2_best 69 = .ok (.iload 10, 2) := by decide +kernel
theorem dX2_best_71 : decode cX2_best 71 = .ok (.isub, 1) := by decide +kernel
theorem dX2_best_72 : decode cX2_best 72 = .ok (.invokestatic 162, 3) := by decide +kernel
theorem dX2_best_75 : decode cX2_best 75 = .ok (.istore 11, 2) := by decide +kernel
theorem dX2_best_77 : decode cX2_best 77 = .ok (.iload 11, 2) := by decide +kernel
theorem dX2_best_79 : decode cX2_best 79 = .ok (.iload 6, 2) := by decide +kernel
theorem dX2_best_81 : decode cX2_best 81 = .ok (.if_icmp .ge 11, 3) := by decide +kernel
theorem dX2_best_84 : decode cX2_best 84 = .ok (.iload 11, 2) := by decide +kernel
theorem dX2_best_86 : decode cX2_best 86 = .ok (.istore 6, 2) := by decide +kernel
theorem dX2_best_88 : decode cX2_best 88 = .ok (.iload 9, 2) := by decide +kernel
theorem dX2_best_90 : decode cX2_best 90 = .ok (.istore 7, 2) := by decide +kernel
theorem dX2_best_92 : decode cX2_best 92 = .ok (.iinc 9 1, 3) := by decide +kernel
theorem dX2_best_95 : decode cX2_best 95 = .ok (.goto (-59), 3) := by decide +kernel
theorem dX2_best_98 : decode cX2_best 98 = .ok (.iload 7, 2) := by decide +kernel
theorem dX2_best_100 : decode cX2_best 100 = .ok (.ireturn, 1) := by decide +kernel
theorem dX2_draw_0 : decode cX2_draw 0 = .ok (.aload_n 0, 1) := by decide +kernel
theorem dX2_draw_1 : decode cX2_draw 1 = .ok (.aload_n 0, 1) := by decide +kernel
theorem dX2_draw_2 : decode cX2_draw 2 = .ok (.getfield 38, 3) := by decide +kernel
theorem dX2_draw_5 : decode cX2_draw 5 = .ok (.ldc 167, 2) := by decide +kernel
theorem dX2_draw_7 : decode cX2_draw 7 = .ok (.imul, 1) := by decide +kernel
theorem dX2_draw_8 : decode cX2_draw 8 = .ok (.sipush 12345, 3) := by decide +kernel
theorem dX2_draw_11 : decode cX2_draw 11 = .ok (.iadd, 1) := by decide +kernel
theorem dX2_draw_12 : decode cX2_draw 12 = .ok (.putfield 38, 3) := by decide +kernel
theorem dX2_draw_15 : decode cX2_draw 15 = .ok (.iload_n 1, 1) := by decide +kernel
theorem dX2_draw_16 : decode cX2_draw 16 = .ok (.ifCond .le 15, 3) := by decide +kernel
theorem dX2_draw_19 : decode cX2_draw 19 = .ok (.aload_n 0, 1) := by decide +kernel
theorem dX2_draw_20 : decode cX2_draw 20 = .ok (.getfield 38, 3) := by decide +kernel
theorem dX2_draw_23 : decode cX2_draw 23 = .ok (.bipush 16, 2) := by decide +kernel
theorem dX2_draw_25 : decode cX2_draw 25 = .ok (.iushr, 1) := by decide +kernel
theorem dX2_draw_26 : decode cX2_draw 26 = .ok (.iload_n 1, 1) := by decide +kernel
theorem dX2_draw_27 : decode cX2_draw 27 = .ok (.irem, 1) := by decide +kernel
theorem dX2_draw_28 : decode cX2_draw 28 = .ok (.goto 4, 3) := by decide +kernel
theorem dX2_draw_31 : decode cX2_draw 31 = .ok (.iconst 0, 1) := by decide +kernel
theorem dX2_draw_32 : decode cX2_draw 32 = .ok (.ireturn, 1) := by decide +kernel
theorem dX2_evening_0 : decode cX2_evening 0 = .ok (.aload_n 0, 1) := by decide +kernel
theorem dX2_evening_1 : decode cX2_evening 1 = .ok (.aload_n 0, 1) := by decide +kernel
theorem dX2_evening_2 : decode cX2_evening 2 = .ok (.aload_n 0, 1) := by decide +kernel
theorem dX2_evening_3 : decode cX2_evening 3 = .ok (.getfield 23, 3) := by decide +kernel
theorem dX2_evening_6 : decode cX2_evening 6 = .ok (.getfield 91, 3) := by decide +kernel
theorem dX2_evening_9 : decode cX2_evening 9 = .ok (.invokevirtual 168, 3) := by decide +kernel
theorem dX2_evening_12 : decode cX2_evening 12 = .ok (.invokevirtual 171, 3) := by decide +kernel
theorem dX2_evening_15 : decode cX2_evening 15 = .ok (.iconst 0, 1) := by decide +kernel
theorem dX2_evening_16 : decode cX2_evening 16 = .ok (.istore_n 1, 1) := by decide +kernel
theorem dX2_evening_17 : decode cX2_evening 17 = .ok (.iload_n 1, 1) := by decide +kernel
theorem dX2_evening_18 : decode cX2_evening 18 = .ok (.bipush 16, 2) := by decide +kernel
theorem dX2_evening_20 : decode cX2_evening 20 = .ok (.if_icmp .ge 47, 3) := by decide +kernel
theorem dX2_evening_23 : decode cX2_evening 23 = .ok (.aload_n 0, 1) := by decide +kernel
theorem dX2_evening_24 : decode cX2_evening 24 = .ok (.invokevirtual 126, 3) := by decide +kernel
theorem dX2_evening_27 : decode cX2_evening 27 = .ok (.ifCond .eq 40, 3) := by decide +kernel
theorem dX2_evening_30 : decode cX2_evening 30 = .ok (.aload_n 0, 1) := by decide +kernel
theorem dX2_evening_31 : decode cX2_evening 31 = .ok (.aload_n 0, 1) := by decide +kernel
theorem dX2_evening_32 : decode cX2_evening 32 = .ok (.getfield 44, 3) := by decide +kernel
theorem dX2_evening_35 : decode cX2_evening 35 = .ok (.aload_n 0, 1) := by decide +kernel
theorem dX2_evening_36 : decode cX2_evening 36 = .ok (.getfield 48, 3) := by decide +kernel
theorem dX2_evening_39 : decode cX2_evening 39 = .ok (.invokevirtual 174, 3) := by decide +kernel
theorem dX2_evening_42 : decode cX2_evening 42 = .ok (.istore_n 2, 1) := by decide +kernel
theorem dX2_evening_43 : decode cX2_evening 43 = .ok (.iload_n 2, 1) := by decide +kernel
theorem dX2_evening_44 : decode cX2_evening 44 = .ok (.iconst (-1), 1) := by decide +kernel
theorem dX2_evening_45 : decode cX2_evening 45 = .ok (.if_icmp .ne 6, 3) := by decide +kernel
theorem dX2_evening_48 : decode cX2_evening 48 = .ok (.goto 19, 3) := by decide +kernel
theorem dX2_evening_51 : decode cX2_evening 51 = .ok (.aload_n 0, 1) := by decide +kernel
theorem dX2_evening_52 : decode cX2_evening 52 = .ok (.iload_n 2, 1) := by decide +kernel
theorem dX2_evening_53 : decode cX2_evening 53 = .ok (.aload_n 0, 1) := by decide +kernel
theorem dX2_evening_54 : decode cX2_evening 54 = .ok (.iload_n 2, 1) := by decide +kernel
theorem dX2_evening_55 : decode cX2_evening 55 = .ok (.invokevirtual 177, 3) := by decide +kernel
theorem dX2_evening_58 : decode cX2_evening 58 = .ok (.invokevirtual 180, 3) := by decide +kernel
theorem dX2_evening_61 : decode cX2_evening 61 = .ok (.iinc 1 1, 3) := by decide +kernel
theorem dX2_evening_64 : decode cX2_evening 64 = .ok (.goto (-47), 3) := by decide +kernel
theorem dX2_evening_67 : decode cX2_evening 67 = .ok (.aload_n 0, 1) := by decide +kernel
theorem dX2_evening_68 : decode cX2_evening 68 = .ok (.getfield 34, 3) := by decide +kernel
theorem dX2_evening_71 : decode cX2_evening 71 = .ok (.ireturn, 1) := by decide +kernel
theorem dX2_exchangeForTrial_0 : decode cX2_exchangeForTrial 0 = .ok (.aload_n 0, 1) := by decide +kernel
theorem dX2_exchangeForTrial_1 : decode cX2_exchangeForTrial 1 = .ok (.getfield 12, 3) := by decide +kernel
theorem dX2_exchangeForTrial_4 : decode cX2_exchangeForTrial 4 = .ok (.iload_n 1, 1) := by decide +kernel
theorem dX2_exchangeForTrial_5 : decode cX2_exchangeForTrial 5 = .ok (.iload_n 2, 1) := by decide +kernel
theorem dX2_exchangeForTrial_6 : decode cX2_exchangeForTrial 6 = .ok (.invokevirtual 87, 3) := by decide +kernel
theorem dX2_exchangeForTrial_9 : decode cX2_exchangeForTrial 9 = .ok (.aload_n 0, 1) := by decide +kernel
theorem dX2_exchangeForTrial_10 : decode cX2_exchangeForTrial 10 = .ok (.getfield 23, 3) := by decide +kernel
theorem dX2_exchangeForTrial_13 : decode cX2_exchangeForTrial 13 = .ok (.invokevirtual 183, 3) := by decide +kernel
theorem dX2_exchangeForTrial_16 : decode cX2_exchangeForTrial 16 = .ok (.return_, 1) := by decide +kernel
theorem dX2_firstToChange_0 : decode cX2_firstToChange 0 = .ok (.aload_n 0, 1) := by decide +kernel
theorem dX2_firstToChange_1 : decode cX2_firstToChange 1 = .ok (.getfield 23, 3) := by decide +kernel
theorem dX2_firstToChange_4 : decode cX2_firstToChange 4 = .ok (.aload_n 0, 1) := by decide +kernel
theorem dX2_firstToChange_5 : decode cX2_firstToChange 5 = .ok (.getfield 41, 3) := by decide +kernel
theorem dX2_firstToChange_8 : decode cX2_firstToChange 8 = .ok (.invokevirtual 186, 3) := by decide +kernel
theorem dX2_firstToChange_11 : decode cX2_firstToChange 11 = .ok (.istore_n 1, 1) := by decide +kernel
theorem dX2_firstToChange_12 : decode cX2_firstToChange 12 = .ok (.iconst (-1), 1) := by decide +kernel
theorem dX2_firstToChange_13 : decode cX2_firstToChange 13 = .ok (.istore_n 2, 1) := by decide +kernel
theorem dX2_firstToChange_14 : decode cX2_firstToChange 14 = .ok (.iconst 0, 1) := by decide +kernel
theorem dX2_firstToChange_15 : decode cX2_firstToChange 15 = .ok (.istore_n 3, 1) := by decide +kernel
theorem dX2_firstToChange_16 : decode cX2_firstToChange 16 = .ok (.iload_n 3, 1) := by decide +kernel
theorem dX2_firstToChange_17 : decode cX2_firstToChange 17 = .ok (.aload_n 0, 1) := by decide +kernel
theorem dX2_firstToChange_18 : decode cX2_firstToChange 18 = .ok (.getfield 12, 3) := by decide +kernel
theorem dX2_firstToChange_21 : decode cX2_firstToChange 21 = .ok (.getfield 189, 3) := by decide +kernel
theorem dX2_firstToChange_24 : decode cX2_firstToChange 24 = .ok (.if_icmp .ge 78, 3) := by decide +kernel
theorem dX2_firstToChange_27 : decode cX2_firstToChange 27 = .ok (.iload_n 1, 1) := by decide +kernel
theorem dX2_firstToChange_28 : decode cX2_firstToChange 28 = .ok (.ifCond .ne 74, 3) := by decide +kernel
theorem dX2_firstToChange_31 : decode cX2_firstToChange 31 = .ok (.iload_n 3, 1) := by decide +kernel
theorem dX2_firstToChange_32 : decode cX2_firstToChange 32 = .ok (.iconst 1, 1) := by decide +kernel
theorem dX2_firstToChange_33 : decode cX2_firstToChange 33 = .ok (.iadd, 1) := by decide +kernel
theorem dX2_firstToChange_34 : decode cX2_firstToChange 34 = .ok (.istore 4, 2) := by decide +kernel
theorem dX2_firstToChange_36 : decode cX2_firstToChange 36 = .ok (.iload 4, 2) := by decide +kernel
theorem dX2_firstToChange_38 : decode cX2_firstToChange 38 = .ok (.aload_n 0, 1) := by decide +kernel
theorem dX2_firstToChange_39 : decode cX2_firstToChange 39 = .ok (.getfield 12, 3) := by decide +kernel
theorem dX2_firstToChange_42 : decode cX2_firstToChange 42 = .ok (.getfield 189, 3) := by decide +kernel
theorem dX2_firstToChange_45 : decode cX2_firstToChange 45 = .ok (.if_icmp .ge 51, 3) := by decide +kernel
theorem dX2_firstToChange_48 : decode cX2_firstToChange 48 = .ok (.iload_n 1, 1) := by decide +kernel
theorem dX2_firstToChange_49 : decode cX2_firstToChange 49 = .ok (.ifCond .ne 47, 3) := by decide +kernel
theorem dX2_firstToChange_52 : decode cX2_firstToChange 52 = .ok (.aload_n 0, 1) := by decide +kernel
theorem dX2_firstToChange_53 : decode cX2_firstToChange 53 = .ok (.iload_n 3, 1) := by decide +kernel
theorem dX2_firstToChange_54 : decode cX2_firstToChange 54 = .ok (.iload 4, 2) := by decide +kernel
theorem dX2_firstToChange_56 : decode cX2_firstToChange 56 = .ok (.invokevirtual 190, 3) := by decide +kernel
theorem dX2_firstToChange_59 : decode cX2_firstToChange 59 = .ok (.aload_n 0, 1) := by decide +kernel
theorem dX2_firstToChange_60 : decode cX2_firstToChange 60 = .ok (.getfield 23, 3) := by decide +kernel
theorem dX2_firstToChange_63 : decode cX2_firstToChange 63 = .ok (.aload_n 0, 1) := by decide +kernel
theorem dX2_firstToChange_64 : decode cX2_firstToChange 64 = .ok (.getfield 41, 3) := by decide +kernel
theorem dX2_firstToChange_67 : decode cX2_firstToChange 67 = .ok (.invokevirtual 186, 3) := by decide +kernel
theorem dX2_firstToChange_70 : decode cX2_firstToChange 70 = .ok (.istore_n 1, 1) := by decide +kernel
theorem dX2_firstToChange_71 : decode cX2_firstToChange 71 = .ok (.aload_n 0, 1) := by decide +kernel
theorem dX2_firstToChange_72 : decode cX2_firstToChange 72 = .ok (.iload_n 3, 1) := by decide +kernel
theorem dX2_firstToChange_73 : decode cX2_firstToChange 73 = .ok (.iload 4, 2) := by decide +kernel
theorem dX2_firstToChange_75 : decode cX2_firstToChange 75 = .ok (.invokevirtual 190, 3) := by decide +kernel
theorem dX2_firstToChange_78 : decode cX2_firstToChange 78 = .ok (.iload_n 1, 1) := by decide +kernel
theorem dX2_firstToChange_79 : decode cX2_firstToChange 79 = .ok (.ifCond .eq 11, 3) := by decide +kernel
theorem dX2_firstToChange_82 : decode cX2_firstToChange 82 = .ok (.bipush 100, 2) := by decide +kernel
theorem dX2_firstToChange_84 : decode cX2_firstToChange 84 = .ok (.iload_n 3, 1) := by decide +kernel
theorem dX2_firstToChange_85 : decode cX2_firstToChange 85 = .ok (.imul, 1) := by decide +kernel
theorem dX2_firstToChange_86 : decode cX2_firstToChange 86 = .ok (.iload 4, 2) := by decide +kernel
theorem dX2_firstToChange_88 : decode cX2_firstToChange 88 = .ok (.iadd, 1) := by decide +kernel
theorem dX2_firstToChange_89 : decode cX2_firstToChange 89 = .ok (.istore_n 2, 1) := by decide +kernel
theorem dX2_firstToChange_90 : decode cX2_firstToChange 90 = .ok (.iinc 4 1, 3) := by decide +kernel
theorem dX2_firstToChange_93 : decode cX2_firstToChange 93 = .ok (.goto (-57), 3) := by decide +kernel
theorem dX2_firstToChange_96 : decode cX2_firstToChange 96 = .ok (.iinc 3 1, 3) := by decide +kernel
theorem dX2_firstToChange_99 : decode cX2_firstToChange 99 = .ok (.goto (-83), 3) := by decide +kernel
theorem dX2_firstToChange_102 : decode cX2_firstToChange 102 = .ok (.iload_n 2, 1) := by decide +kernel
theorem dX2_firstToChange_103 : decode cX2_firstToChange 103 = .ok (.ireturn, 1) := by decide +kernel
theorem dX2_mostQuiet_0 : decode cX2_mostQuiet 0 = .ok (.aload_n 0, 1) := by decide +kernel
theorem dX2_mostQuiet_1 : decode cX2_mostQuiet 1 = .ok (.getfield 23, 3) := by decide +kernel
theorem dX2_mostQuiet_4 : decode cX2_mostQuiet 4 = .ok (.invokevirtual 193, 3) := by decide +kernel
theorem dX2_mostQuiet_7 : decode cX2_mostQuiet 7 = .ok (.istore_n 1, 1) := by decide +kernel
theorem dX2_mostQuiet_8 : decode cX2_mostQuiet 8 = .ok (.iconst 0, 1) := by decide +kernel
theorem dX2_mostQuiet_9 : decode cX2_mostQuiet 9 = .ok (.istore_n 2, 1) := by decide +kernel
theorem dX2_mostQuiet_10 : decode cX2_mostQuiet 10 = .ok (.iload_n 2, 1) := by decide +kernel
theorem dX2_mostQuiet_11 : decode cX2_mostQuiet 11 = .ok (.aload_n 0, 1) := by decide +kernel
theorem dX2_mostQuiet_12 : decode cX2_mostQuiet 12 = .ok (.getfield 12, 3) := by decide +kernel
theorem dX2_mostQuiet_15 : decode cX2_mostQuiet 15 = .ok (.getfield 189, 3) := by decide +kernel
theorem dX2_mostQuiet_18 : decode cX2_mostQuiet 18 = .ok (.if_icmp .ge 54, 3) := by decide +kernel
theorem dX2_mostQuiet_21 : decode cX2_mostQuiet 21 = .ok (.iload_n 2, 1) := by decide +kernel
theorem dX2_mostQuiet_22 : decode cX2_mostQuiet 22 = .ok (.iconst 1, 1) := by decide +kernel
theorem dX2_mostQuiet_23 : decode cX2_mostQuiet 23 = .ok (.iadd, 1) := by decide +kernel
theorem dX2_mostQuiet_24 : decode cX2_mostQuiet 24 = .ok (.istore_n 3, 1) := by decide +kernel
theorem dX2_mostQuiet_25 : decode cX2_mostQuiet 25 = .ok (.iload_n 3, 1) := by decide +kernel
theorem dX2_mostQuiet_26 : decode cX2_mostQuiet 26 = .ok (.aload_n 0, 1) := by decide +kernel
theorem dX2_mostQuiet_27 : decode cX2_mostQuiet 27 = .ok (.getfield 12, 3) := by decide +kernel
theorem dX2_mostQuiet_30 : decode cX2_mostQuiet 30 = .ok (.getfield 189, 3) := by decide +kernel
theorem dX2_mostQuiet_33 : decode cX2_mostQuiet 33 = .ok (.if_icmp .ge 33, 3) := by decide +kernel
theorem dX2_mostQuiet_36 : decode cX2_mostQuiet 36 = .ok (.aload_n 0, 1) := by decide +kernel
theorem dX2_mostQuiet_37 : decode cX2_mostQuiet 37 = .ok (.iload_n 2, 1) := by decide +kernel
theorem dX2_mostQuiet_38 : decode cX2_mostQuiet 38 = .ok (.iload_n 3, 1) := by decide +kernel
theorem dX2_mostQuiet_39 : decode cX2_mostQuiet 39 = .ok (.invokevirtual 190, 3) := by decide +kernel
theorem dX2_mostQuiet_42 : decode cX2_mostQuiet 42 = .ok (.iload_n 1, 1) := by decide +kernel
theorem dX2_mostQuiet_43 : decode cX2_mostQuiet 43 = .ok (.aload_n 0, 1) := by decide +kernel
theorem dX2_mostQuiet_44 : decode cX2_mostQuiet 44 = .ok (.getfield 23, 3) := by decide +kernel
theorem dX2_mostQuiet_47 : decode cX2_mostQuiet 47 = .ok (.invokevirtual 193, 3) := by decide +kernel
theorem dX2_mostQuiet_50 : decode cX2_mostQuiet 50 = .ok (.invokestatic 162, 3) := by decide +kernel
theorem dX2_mostQuiet_53 : decode cX2_mostQuiet 53 = .ok (.istore_n 1, 1) := by decide +kernel
theorem dX2_mostQuiet_54 : decode cX2_mostQuiet 54 = .ok (.aload_n 0, 1) := by decide +kernel
theorem dX2_mostQuiet_55 : decode cX2_mostQuiet 55 = .ok (.iload_n 2, 1) := by decide +kernel
theorem dX2_mostQuiet_56 : decode cX2_mostQuiet 56 = .ok (.iload_n 3, 1) := by decide +kernel
theorem dX2_mostQuiet_57 : decode cX2_mostQuiet 57 = .ok (.invokevirtual 190, 3) := by decide +kernel
theorem dX2_mostQuiet_60 : decode cX2_mostQuiet 60 = .ok (.iinc 3 1, 3) := by decide +kernel
theorem dX2_mostQuiet_63 : decode cX2_mostQuiet 63 = .ok (.goto (-38), 3) := by decide +kernel
theorem dX2_mostQuiet_66 : decode cX2_mostQuiet 66 = .ok (.iinc 2 1, 3) := by decide +kernel
theorem dX2_mostQuiet_69 : decode cX2_mostQuiet 69 = .ok (.goto (-59), 3) := by decide +kernel
theorem dX2_mostQuiet_72 : decode cX2_mostQuiet 72 = .ok (.iload_n 1, 1) := by decide +kernel
theorem dX2_mostQuiet_73 : decode cX2_mostQuiet 73 = .ok (.ireturn, 1) := by decide +kernel
theorem dX3_init_0 : decode cX3_init 0 = .ok (.aload_n 0, 1) := by decide +kernel
theorem dX3_init_1 : decode cX3_init 1 = .ok (.invokespecial 3, 3) := by decide +kernel
theorem dX3_init_4 : decode cX3_init 4 = .ok (.aload_n 0, 1) := by decide +kernel
theorem dX3_init_5 : decode cX3_init 5 = .ok (.iconst 3, 1) := by decide +kernel
theorem dX3_init_6 : decode cX3_init 6 = .ok (.newarray .int, 2) := by decide +kernel
theorem dX3_init_8 : decode cX3_init 8 = .ok (.putfield 9, 3) := by decide +kernel
theorem dX3_init_11 : decode cX3_init 11 = .ok (.aload_n 0, 1) := by decide +kernel
theorem dX3_init_12 : decode cX3_init 12 = .ok (.aconst_null, 1) := by decide +kernel
theorem dX3_init_13 : decode cX3_init 13 = .ok (.putfield 15, 3) := by decide +kernel
theorem dX3_init_16 : decode cX3_init 16 = .ok (.aload_n 0, 1) := by decide +kernel
theorem dX3_init_17 : decode cX3_init 17 = .ok (.iconst 0, 1) := by decide +kernel
theorem dX3_init_18 : decode cX3_init 18 = .ok (.putfield 19, 3) := by decide +kernel
theorem dX3_init_21 : decode cX3_init 21 = .ok (.aload_n 0, 1) := by decide +kernel
theorem dX3_init_22 : decode cX3_init 22 = .ok (.iconst (-1), 1) := by decide +kernel
theorem dX3_init_23 : decode cX3_init 23 = .ok (.putfield 23, 3) := by decide +kernel
theorem dX3_init_26 : decode cX3_init 26 = .ok (.return_, 1) := by decide +kernel
theorem dX3_begin_0 : decode cX3_begin 0 = .ok (.aload_n 0, 1) := by decide +kernel
theorem dX3_begin_1 : decode cX3_begin 1 = .ok (.aload_n 1, 1) := by decide +kernel
theorem dX3_begin_2 : decode cX3_begin 2 = .ok (.putfield 15, 3) := by decide +kernel
theorem dX3_begin_5 : decode cX3_begin 5 = .ok (.aload_n 0, 1) := by decide +kernel
theorem dX3_begin_6 : decode cX3_begin 6 = .ok (.iconst 0, 1) := by decide +kernel
theorem dX3_begin_7 : decode cX3_begin 7 = .ok (.putfield 19, 3) := by decide +kernel
theorem dX3_begin_10 : decode cX3_begin 10 = .ok (.aload_n 0, 1) := by decide +kernel
theorem dX3_begin_11 : decode cX3_begin 11 = .ok (.iconst (-1), 1) := by decide +kernel
theorem dX3_begin_12 : decode cX3_begin 12 = .ok (.putfield 23, 3) := by decide +kernel
theorem dX3_begin_15 : decode cX3_begin 15 = .ok (.return_, 1) := by decide +kernel
theorem dX3_goesOn_0 : decode cX3_goesOn 0 = .ok (.aload_n 0, 1) := by decide +kernel
theorem dX3_goesOn_1 : decode cX3_goesOn 1 = .ok (.getfield 15, 3) := by decide +kernel
theorem dX3_goesOn_4 : decode cX3_goesOn 4 = .ok (.ifnull 30, 3) := by decide +kernel
theorem dX3_goesOn_7 : decode cX3_goesOn 7 = .ok (.aload_n 0, 1) := by decide +kernel
theorem dX3_goesOn_8 : decode cX3_goesOn 8 = .ok (.getfield 19, 3) := by decide +kernel
theorem dX3_goesOn_11 : decode cX3_goesOn 11 = .ok (.aload_n 0, 1) := by decide +kernel
theorem dX3_goesOn_12 : decode cX3_goesOn 12 = .ok (.getfield 15, 3) := by decide +kernel
theorem dX3_goesOn_15 : decode cX3_goesOn 15 = .ok (.getfield 26, 3) := by decide +kernel
theorem dX3_goesOn_18 : decode cX3_goesOn 18 = .ok (.if_icmp .ge 16, 3) := by decide +kernel
theorem dX3_goesOn_21 : decode cX3_goesOn 21 = .ok (.aload_n 0, 1) := by decide +kernel
theorem dX3_goesOn_22 : decode cX3_goesOn 22 = .ok (.bipush 59, 2) := by decide +kernel
theorem dX3_goesOn_24 : decode cX3_goesOn 24 = .ok (.invokevirtual 31, 3) := by decide +kernel
theorem dX3_goesOn_27 : decode cX3_goesOn 27 = .ok (.ifCond .eq 7, 3) := by decide +kernel
theorem dX3_goesOn_30 : decode cX3_goesOn 30 = .ok (.iconst 1, 1) := by decide +kernel
theorem dX3_goesOn_31 : decode cX3_goesOn 31 = .ok (.goto 4, 3) := by decide +kernel
theorem dX3_goesOn_34 : decode cX3_goesOn 34 = .ok (.iconst 0, 1) := by decide +kernel
theorem dX3_goesOn_35 : decode cX3_goesOn 35 = .ok (.ireturn, 1) := by decide +kernel
theorem dX3_fails_0 : decode cX3_fails 0 = .ok (.aload_n 0, 1) := by decide +kernel
theorem dX3_fails_1 : decode cX3_fails 1 = .ok (.iload_n 1, 1) := by decide +kernel
theorem dX3_fails_2 : decode cX3_fails 2 = .ok (.putfield 23, 3) := by decide +kernel
theorem dX3_fails_5 : decode cX3_fails 5 = .ok (.iconst 0, 1) := by decide +kernel
theorem dX3_fails_6 : decode cX3_fails 6 = .ok (.ireturn, 1) := by decide +kernel
theorem dX3_sign_0 : decode cX3_sign 0 = .ok (.aload_n 0, 1) := by decide +kernel
theorem dX3_sign_1 : decode cX3_sign 1 = .ok (.getfield 15, 3) := by decide +kernel
theorem dX3_sign_4 : decode cX3_sign 4 = .ok (.ifnonnull 7, 3) := by decide +kernel
theorem dX3_sign_7 : decode cX3_sign 7 = .ok (.iconst (-1), 1) := by decide +kernel
theorem dX3_sign_8 : decode cX3_sign 8 = .ok (.goto 11, 3) := by decide +kernel
theorem dX3_sign_11 : decode cX3_sign 11 = .ok (.aload_n 0, 1) := by decide +kernel
theorem dX3_sign_12 : decode cX3_sign 12 = .ok (.getfield 15, 3) := by decide +kernel
theorem dX3_sign_15 : decode cX3_sign 15 = .ok (.iload_n 1, 1) := by decide +kernel
theorem dX3_sign_16 : decode cX3_sign 16 = .ok (.invokevirtual 35, 3) := by decide +kernel
theorem dX3_sign_19 : decode cX3_sign 19 = .ok (.ireturn, 1) := by decide +kernel
theorem dX3_stands_0 : decode cX3_stands 0 = .ok (.aload_n 0, 1) := by decide +kernel
theorem dX3_stands_1 : decode cX3_stands 1 = .ok (.aload_n 0, 1) := by decide +kernel
theorem dX3_stands_2 : decode cX3_stands 2 = .ok (.getfield 19, 3) := by decide +kernel
theorem dX3_stands_5 : decode cX3_stands 5 = .ok (.invokevirtual 39, 3) := by decide +kernel
theorem dX3_stands_8 : decode cX3_stands 8 = .ok (.iload_n 1, 1) := by decide +kernel
theorem dX3_stands_9 : decode cX3_stands 9 = .ok (.if_icmp .eq 12, 3) := by decide +kernel
theorem dX3_stands_12 : decode cX3_stands 12 = .ok (.aload_n 0, 1) := by decide +kernel
theorem dX3_stands_13 : decode cX3_stands 13 = .ok (.aload_n 0, 1) := by decide +kernel
theorem dX3_stands_14 : decode cX3_stands 14 = .ok (.getfield 19, 3) := by decide +kernel
theorem dX3_stands_17 : decode cX3_stands 17 = .ok (.invokevirtual 42, 3) := by decide +kernel
theorem dX3_stands_20 : decode cX3_stands 20 = .ok (.ireturn, 1) := by decide +kernel
theorem dX3_stands_21 : decode cX3_stands 21 = .ok (.aload_n 0, 1) := by decide +kernel
theorem dX3_stands_22 : decode cX3_stands 22 = .ok (.dup, 1) := by decide +kernel
theorem dX3_stands_23 : decode cX3_stands 23 = .ok (.getfield 19, 3) := by decide +kernel
theorem dX3_stands_26 : decode cX3_stands 26 = .ok (.iconst 1, 1) := by decide +kernel
theorem dX3_stands_27 : decode cX3_stands 27 = .ok (.iadd, 1) := by decide +kernel
theorem dX3_stands_28 : decode cX3_stands 28 = .ok (.putfield 19, 3) := by decide +kernel
theorem dX3_stands_31 : decode cX3_stands 31 = .ok (.iconst 1, 1) := by decide +kernel
theorem dX3_stands_32 : decode cX3_stands 32 = .ok (.ireturn, 1) := by decide +kernel
theorem dX3_readItem_0 : decode cX3_readItem 0 = .ok (.aload_n 0, 1) := by decide +kernel
theorem dX3_readItem_1 : decode cX3_readItem 1 = .ok (.getfield 19, 3) := by decide +kernel
theorem dX3_readItem_4 : decode cX3_readItem 4 = .ok (.istore_n 2, 1) := by decide +kernel
theorem dX3_readItem_5 : decode cX3_readItem 5 = .ok (.aload_n 0, 1) := by decide +kernel
theorem dX3_readItem_6 : decode cX3_readItem 6 = .ok (.invokevirtual 46, 3) := by decide +kernel
theorem dX3_readItem_9 : decode cX3_readItem 9 = .ok (.istore_n 3, 1) := by decide +kernel
theorem dX3_readItem_10 : decode cX3_readItem 10 = .ok (.iload_n 3, 1) := by decide +kernel
theorem dX3_readItem_11 : decode cX3_readItem 11 = .ok (.iconst (-1), 1) := by decide +kernel
theorem dX3_readItem_12 : decode cX3_readItem 12 = .ok (.if_icmp .ne 5, 3) := by decide +kernel
theorem dX3_readItem_15 : decode cX3_readItem 15 = .ok (.iconst 0, 1) := by decide +kernel
theorem dX3_readItem_16 : decode cX3_readItem 16 = .ok (.ireturn, 1) := by decide +kernel
theorem dX3_readItem_17 : decode cX3_readItem 17 = .ok (.iload_n 3, 1) := by decide +kernel
theorem dX3_readItem_18 : decode cX3_readItem 18 = .ok (.ifCond .ne 13, 3) := by decide +kernel
theorem dX3_readItem_21 : decode cX3_readItem 21 = .ok (.aload_n 1, 1) := by decide +kernel
theorem dX3_readItem_22 : decode cX3_readItem 22 = .ok (.getfield 50, 3) := by decide +kernel
theorem dX3_readItem_25 : decode cX3_readItem 25 = .ok (.invokevirtual 56, 3) := by decide +kernel
theorem dX3_readItem_28 : decode cX3_readItem 28 = .ok (.ifCond .eq 15, 3) := by decide +kernel
theorem dX3_readItem_31 : decode cX3_readItem 31 = .ok (.iload_n 3, 1) := by decide +kernel
theorem dX3_readItem_32 : decode cX3_readItem 32 = .ok (.iconst 5, 1) := by decide +kernel
theorem dX3_readItem_33 : decode cX3_readItem 33 = .ok (.if_icmp .ne 16, 3) := by decide +kernel
theorem dX3_readItem_36 : decode cX3_readItem 36 = .ok (.aload_n 1, 1) := by decide +kernel
theorem dX3_readItem_37 : decode cX3_readItem 37 = .ok (.invokevirtual 62, 3) := by decide +kernel
theorem dX3_readItem_40 : decode cX3_readItem 40 = .ok (.ifCond .ne 9, 3) := by decide +kernel
theorem dX3_readItem_43 : decode cX3_readItem 43 = .ok (.aload_n 0, 1) := by decide +kernel
theorem dX3_readItem_44 : decode cX3_readItem 44 = .ok (.iload_n 2, 1) := by decide +kernel
theorem dX3_readItem_45 : decode cX3_readItem 45 = .ok (.invokevirtual 42, 3) := by decide +kernel
theorem dX3_readItem_48 : decode cX3_readItem 48 = .ok (.ireturn, 1) := by decide +kernel
theorem dX3_readItem_49 : decode cX3_readItem 49 = .ok (.iconst 0, 1) := by decide +kernel
theorem dX3_readItem_50 : decode cX3_readItem 50 = .ok (.istore 4, 2) := by decide +kernel
theorem dX3_readItem_52 : decode cX3_readItem 52 = .ok (.iload 4, 2) := by decide +kernel
theorem dX3_readItem_54 : decode cX3_readItem 54 = .ok (.getstatic 63, 3) := by decide +kernel
theorem dX3_readItem_57 : decode cX3_readItem 57 = .ok (.iload_n 3, 1) := by decide +kernel
theorem dX3_readItem_58 : decode cX3_readItem 58 = .ok (.iaload, 1) := by decide +kernel
theorem dX3_readItem_59 : decode cX3_readItem 59 = .ok (.if_icmp .ge 55, 3) := by decide +kernel
theorem dX3_readItem_62 : decode cX3_readItem 62 = .ok (.aload_n 0, 1) := by decide +kernel
theorem dX3_readItem_63 : decode cX3_readItem 63 = .ok (.bipush 32, 2) := by decide +kernel
theorem dX3_readItem_65 : decode cX3_readItem 65 = .ok (.invokevirtual 31, 3) := by decide +kernel
theorem dX3_readItem_68 : decode cX3_readItem 68 = .ok (.ifCond .ne 5, 3) := by decide +kernel
theorem dX3_readItem_71 : decode cX3_readItem 71 = .ok (.iconst 0, 1) := by decide +kernel
theorem dX3_readItem_72 : decode cX3_readItem 72 = .ok (.ireturn, 1) := by decide +kernel
theorem dX3_readItem_73 : decode cX3_readItem 73 = .ok (.aload_n 0, 1) := by decide +kernel
theorem dX3_readItem_74 : decode cX3_readItem 74 = .ok (.getfield 19, 3) := by decide +kernel
theorem dX3_readItem_77 : decode cX3_readItem 77 = .ok (.istore 5, 2) := by decide +kernel
theorem dX3_readItem_79 : decode cX3_readItem 79 = .ok (.aload_n 0, 1) := by decide +kernel
theorem dX3_readItem_80 : decode cX3_readItem 80 = .ok (.iload 4, 2) := by decide +kernel
theorem dX3_readItem_82 : decode cX3_readItem 82 = .ok (.invokevirtual 66, 3) := by decide +kernel
theorem dX3_readItem_85 : decode cX3_readItem 85 = .ok (.ifCond .ne 5, 3) := by decide +kernel
theorem dX3_readItem_88 : decode cX3_readItem 88 = .ok (.iconst 0, 1) := by decide +kernel
theorem dX3_readItem_89 : decode cX3_readItem 89 = .ok (.ireturn, 1) := by decide +kernel
theorem dX3_readItem_90 : decode cX3_readItem 90 = .ok (.aload_n 0, 1) := by decide +kernel
theorem dX3_readItem_91 : decode cX3_readItem 91 = .ok (.aload_n 1, 1) := by decide +kernel
theorem dX3_readItem_92 : decode cX3_readItem 92 = .ok (.iload_n 3, 1) := by decide +kernel
theorem dX3_readItem_93 : decode cX3_readItem 93 = .ok (.iload 4, 2) := by decide +kernel
theorem dX3_readItem_95 : decode cX3_readItem 95 = .ok (.invokevirtual 69, 3) := by decide +kernel
theorem dX3_readItem_98 : decode cX3_readItem 98 = .ok (.ifCond .ne 10, 3) := by decide +kernel
theorem dX3_readItem_101 : decode cX3_readItem 101 = .ok (.aload_n 0, 1) := by decide +kernel
theorem dX3_readItem_102 : decode cX3_readItem 102 = .ok (.iload 5, 2) := by decide +kernel
theorem dX3_readItem_104 : decode cX3_readItem 104 = .ok (.invokevirtual 42, 3) := by decide +kernel
theorem dX3_readItem_107 : decode cX3_readItem 107 = .ok (.ireturn, 1) := by decide +kernel
theorem dX3_readItem_108 : decode cX3_readItem 108 = .ok (.iinc 4 1, 3) := by decide +kernel
theorem dX3_readItem_111 : decode cX3_readItem 111 = .ok (.goto (-59), 3) := by decide +kernel
theorem dX3_readItem_114 : decode cX3_readItem 114 = .ok (.aload_n 0, 1) := by decide +kernel
theorem dX3_readItem_115 : decode cX3_readItem 115 = .ok (.aload_n 1, 1) := by decide +kernel
theorem dX3_readItem_116 : decode cX3_readItem 116 = .ok (.iload_n 3, 1) := by decide +kernel
theorem dX3_readItem_117 : decode cX3_readItem 117 = .ok (.invokevirtual 73, 3) := by decide +kernel
theorem dX3_readItem_120 : decode cX3_readItem 120 = .ok (.iconst 1, 1) := by decide +kernel
theorem dX3_readItem_121 : decode cX3_readItem 121 = .ok (.ireturn, 1) := by decide +kernel
theorem dX3_spelled_0 : decode cX3_spelled 0 = .ok (.iload_n 0, 1) := by decide +kernel
theorem dX3_spelled_1 : decode cX3_spelled 1 = .ok (.tableswitch 57 0 5 #[39, 42, 45, 48, 51, 54], 39) := by decide +kernel
theorem dX3_spelled_40 : decode cX3_spelled 40 = .ok (.ldc 77, 2) := by decide +kernel
theorem dX3_spelled_42 : decode cX3_spelled 42 = .ok (.areturn, 1) := by decide +kernel
theorem dX3_spelled_43 : decode cX3_spelled 43 = .ok (.ldc 79, 2) := by decide +kernel
theorem dX3_spelled_45 : decode cX3_spelled 45 = .ok (.areturn, 1) := by decide +kernel
theorem dX3_spelled_46 : decode cX3_spelled 46 = .ok (.ldc 81, 2) := by decide +kernel
theorem dX3_spelled_48 : decode cX3_spelled 48 = .ok (.areturn, 1) := by decide +kernel
theorem dX3_spelled_49 : decode cX3_spelled 49 = .ok (.ldc 83, 2) := by decide +kernel
theorem dX3_spelled_51 : decode cX3_spelled 51 = .ok (.areturn, 1) := by decide +kernel
theorem dX3_spelled_52 : decode cX3_spelled 52 = .ok (.ldc 85, 2) := by decide +kernel
theorem dX3_spelled_54 : decode cX3_spelled 54 = .ok (.areturn, 1) := by decide +kernel
theorem dX3_spelled_55 : decode cX3_spelled 55 = .ok (.ldc 87, 2) := by decide +kernel
theorem dX3_spelled_57 : decode cX3_spelled 57 = .ok (.areturn, 1) := by decide +kernel
theorem dX3_spelled_58 : decode cX3_spelled 58 = .ok (.ldc 89, 2) := by decide +kernel
theorem dX3_spelled_60 : decode cX3_spelled 60 = .ok (.areturn, 1) := by decide +kernel
theorem dX3_readWord_0 : decode cX3_readWord 0 = .ok (.iconst 0, 1) := by decide +kernel
theorem dX3_readWord_1 : decode cX3_readWord 1 = .ok (.istore_n 1, 1) := by decide +kernel
theorem dX3_readWord_2 : decode cX3_readWord 2 = .ok (.iconst 0, 1) := by decide +kernel
theorem dX3_readWord_3 : decode cX3_readWord 3 = .ok (.istore_n 2, 1) := by decide +kernel
theorem dX3_readWord_4 : decode cX3_readWord 4 = .ok (.iload_n 2, 1) := by decide +kernel
theorem dX3_readWord_5 : decode cX3_readWord 5 = .ok (.bipush 7, 2) := by decide +kernel
theorem dX3_readWord_7 : decode cX3_readWord 7 = .ok (.if_icmp .ge 81, 3) := by decide +kernel
theorem dX3_readWord_10 : decode cX3_readWord 10 = .ok (.iload_n 2, 1) := by decide +kernel
theorem dX3_readWord_11 : decode cX3_readWord 11 = .ok (.invokestatic 91, 3) := by decide +kernel
theorem dX3_readWord_14 : decode cX3_readWord 14 = .ok (.astore_n 3, 1) := by decide +kernel
theorem dX3_readWord_15 : decode cX3_readWord 15 = .ok (.iconst 0, 1) := by decide +kernel
theorem dX3_readWord_16 : decode cX3_readWord 16 = .ok (.istore 4, 2) := by decide +kernel
theorem dX3_readWord_18 : decode cX3_readWord 18 = .ok (.iload 4, 2) := by decide +kernel
theorem dX3_readWord_20 : decode cX3_readWord 20 = .ok (.aload_n 3, 1) := by decide +kernel
theorem dX3_readWord_21 : decode cX3_readWord 21 = .ok (.invokevirtual 95, 3) := by decide +kernel
theorem dX3_readWord_24 : decode cX3_readWord 24 = .ok (.if_icmp .ge 29, 3) := by decide +kernel
theorem dX3_readWord_27 : decode cX3_readWord 27 = .ok (.aload_n 0, 1) := by decide +kernel
theorem dX3_readWord_28 : decode cX3_readWord 28 = .ok (.aload_n 0, 1) := by decide +kernel
theorem dX3_readWord_29 : decode cX3_readWord 29 = .ok (.getfield 19, 3) := by decide +kernel
theorem dX3_readWord_32 : decode cX3_readWord 32 = .ok (.iload 4, 2) := by decide +kernel
theorem dX3_readWord_34 : decode cX3_readWord 34 = .ok (.iadd, 1) := by decide +kernel
theorem dX3_readWord_35 : decode cX3_readWord 35 = .ok (.invokevirtual 39, 3) := by decide +kernel
theorem dX3_readWord_38 : decode cX3_readWord 38 = .ok (.aload_n 3, 1) := by decide +kernel
theorem dX3_readWord_39 : decode cX3_readWord 39 = .ok (.iload 4, 2) := by decide +kernel
theorem dX3_readWord_41 : decode cX3_readWord 41 = .ok (.invokevirtual 99, 3) := by decide +kernel
theorem dX3_readWord_44 : decode cX3_readWord 44 = .ok (.if_icmp .ne 9, 3) := by decide +kernel
theorem dX3_readWord_47 : decode cX3_readWord 47 = .ok (.iinc 4 1, 3) := by decide +kernel
theorem dX3_readWord_50 : decode cX3_readWord 50 = .ok (.goto (-32), 3) := by decide +kernel
theorem dX3_readWord_53 : decode cX3_readWord 53 = .ok (.iload 4, 2) := by decide +kernel
theorem dX3_readWord_55 : decode cX3_readWord 55 = .ok (.aload_n 3, 1) := by decide +kernel
theorem dX3_readWord_56 : decode cX3_readWord 56 = .ok (.invokevirtual 95, 3) := by decide +kernel
theorem dX3_readWord_59 : decode cX3_readWord 59 = .ok (.if_icmp .ne 16, 3) := by decide +kernel
theorem dX3_readWord_62 : decode cX3_readWord 62 = .ok (.aload_n 0, 1) := by decide +kernel
theorem dX3_readWord_63 : decode cX3_readWord 63 = .ok (.dup, 1) := by decide +kernel
theorem dX3_readWord_64 : decode cX3_readWord 64 = .ok (.getfield 19, 3) := by decide +kernel
theorem dX3_readWord_67 : decode cX3_readWord 67 = .ok (.iload 4, 2) := by decide +kernel
theorem dX3_readWord_69 : decode cX3_readWord 69 = .ok (.iadd, 1) := by decide +kernel
theorem dX3_readWord_70 : decode cX3_readWord 70 = .ok (.putfield 19, 3) := by decide +kernel
theorem dX3_readWord_73 : decode cX3_readWord 73 = .ok (.iload_n 2, 1) := by decide +kernel
theorem dX3_readWord_74 : decode cX3_readWord 74 = .ok (.ireturn, 1) := by decide +kernel
theorem dX3_readWord_75 : decode cX3_readWord 75 = .ok (.iload_n 1, 1) := by decide +kernel
theorem dX3_readWord_76 : decode cX3_readWord 76 = .ok (.iload 4, 2) := by decide +kernel
theorem dX3_readWord_78 : decode cX3_readWord 78 = .ok (.invokestatic 103, 3) := by decide +kernel
theorem dX3_readWord_81 : decode cX3_readWord 81 = .ok (.istore_n 1, 1) := by decide +kernel
theorem dX3_readWord_82 : decode cX3_readWord 82 = .ok (.iinc 2 1, 3) := by decide +kernel
theorem dX3_readWord_85 : decode cX3_readWord 85 = .ok (.goto (-81), 3) := by decide +kernel
theorem dX3_readWord_88 : decode cX3_readWord 88 = .ok (.aload_n 0, 1) := by decide +kernel
theorem dX3_readWord_89 : decode cX3_readWord 89 = .ok (.aload_n 0, 1) := by decide +kernel
theorem dX3_readWord_90 : decode cX3_readWord 90 = .ok (.getfield 19, 3) := by decide +kernel
theorem dX3_readWord_93 : decode cX3_readWord 93 = .ok (.iload_n 1, 1) := by decide +kernel
theorem dX3_readWord_94 : decode cX3_readWord 94 = .ok (.iadd, 1) := by decide +kernel
theorem dX3_readWord_95 : decode cX3_readWord 95 = .ok (.putfield 23, 3) := by decide +kernel
theorem dX3_readWord_98 : decode cX3_readWord 98 = .ok (.iconst (-1), 1) := by decide +kernel
theorem dX3_readWord_99 : decode cX3_readWord 99 = .ok (.ireturn, 1) := by decide +kernel
theorem dX3_readNumber_0 : decode cX3_readNumber 0 = .ok (.aload_n 0, 1) := by decide +kernel
theorem dX3_readNumber_1 : decode cX3_readNumber 1 = .ok (.getfield 19, 3) := by decide +kernel
theorem dX3_readNumber_4 : decode cX3_readNumber 4 = .ok (.istore_n 2, 1) := by decide +kernel
theorem dX3_readNumber_5 : decode cX3_readNumber 5 = .ok (.iconst 0, 1) := by decide +kernel
theorem dX3_readNumber_6 : decode cX3_readNumber 6 = .ok (.istore_n 3, 1) := by decide +kernel
theorem dX3_readNumber_7 : decode cX3_readNumber 7 = .ok (.aload_n 0, 1) := by decide +kernel
theorem dX3_readNumber_8 : decode cX3_readNumber 8 = .ok (.getfield 19, 3) := by decide +kernel
theorem dX3_readNumber_11 : decode cX3_readNumber 11 = .ok (.iload_n 2, 1) := by decide +kernel
theorem dX3_readNumber_12 : decode cX3_readNumber 12 = .ok (.isub, 1) := by decide +kernel
theorem dX3_readNumber_13 : decode cX3_readNumber 13 = .ok (.iconst 3, 1) := by decide +kernel
theorem dX3_readNumber_14 : decode cX3_readNumber 14 = .ok (.if_icmp .ge 59, 3) := by decide +kernel
theorem dX3_readNumber_17 : decode cX3_readNumber 17 = .ok (.aload_n 0, 1) := by decide +kernel
theorem dX3_readNumber_18 : decode cX3_readNumber 18 = .ok (.aload_n 0, 1) := by decide +kernel
theorem dX3_readNumber_19 : decode cX3_readNumber 19 = .ok (.getfield 19, 3) := by decide +kernel
theorem dX3_readNumber_22 : decode cX3_readNumber 22 = .ok (.invokevirtual 39, 3) := by decide +kernel
theorem dX3_readNumber_25 : decode cX3_readNumber 25 = .ok (.bipush 48, 2) := by decide +kernel
theorem dX3_readNumber_27 : decode cX3_readNumber 27 = .ok (.if_icmp .lt 46, 3) := by decide +kernel
theorem dX3_readNumber_30 : decode cX3_readNumber 30 = .ok (.aload_n 0, 1) := by decide +kernel
theorem dX3_readNumber_31 : decode cX3_readNumber 31 = .ok (.aload_n 0, 1) := by decide +kernel
theorem dX3_readNumber_32 : decode cX3_readNumber 32 = .ok (.getfield 19, 3) := by decide +kernel
theorem dX3_readNumber_35 : decode cX3_readNumber 35 = .ok (.invokevirtual 39, 3) := by decide +kernel
theorem dX3_readNumber_38 : decode cX3_readNumber 38 = .ok (.bipush 57, 2) := by decide +kernel
theorem dX3_readNumber_40 : decode cX3_readNumber 40 = .ok (.if_icmp .gt 33, 3) := by decide +kernel
theorem dX3_readNumber_43 : decode cX3_readNumber 43 = .ok (.bipush 10, 2) := by decide +kernel
theorem dX3_readNumber_45 : decode cX3_readNumber 45 = .ok (.iload_n 3, 1) := by decide +kernel
theorem dX3_readNumber_46 : decode cX3_readNumber 46 = .ok (.imul, 1) := by decide +kernel
theorem dX3_readNumber_47 : decode cX3_readNumber 47 = .ok (.aload_n 0, 1) := by decide +kernel
theorem dX3_readNumber_48 : decode cX3_readNumber 48 = .ok (.aload_n 0, 1) := by decide +kernel
theorem dX3_readNumber_49 : decode cX3_readNumber 49 = .ok (.getfield 19, 3) := by decide +kernel
theorem dX3_readNumber_52 : decode cX3_readNumber 52 = .ok (.invokevirtual 39, 3) := by decide +kernel
theorem dX3_readNumber_55 : decode cX3_readNumber 55 = .ok (.bipush 48, 2) := by decide +kernel
theorem dX3_readNumber_57 : decode cX3_readNumber 57 = .ok (.isub, 1) := by decide +kernel
theorem dX3_readNumber_58 : decode cX3_readNumber 58 = .ok (.iadd, 1) := by decide +kernel
theorem dX3_readNumber_59 : decode cX3_readNumber 59 = .ok (.istore_n 3, 1) := by decide +kernel
theorem dX3_readNumber_60 : decode cX3_readNumber 60 = .ok (.aload_n 0, 1) := by decide +kernel
theorem dX3_readNumber_61 : decode cX3_readNumber 61 = .ok (.dup, 1) := by decide +kernel
theorem dX3_readNumber_62 : decode cX3_readNumber 62 = .ok (.getfield 19, 3) := by decide +kernel
theorem dX3_readNumber_65 : decode cX3_readNumber 65 = .ok (.iconst 1, 1) := by decide +kernel
theorem dX3_readNumber_66 : decode cX3_readNumber 66 = .ok (.iadd, 1) := by decide +kernel
theorem dX3_readNumber_67 : decode cX3_readNumber 67 = .ok (.putfield 19, 3) := by decide +kernel
theorem dX3_readNumber_70 : decode cX3_readNumber 70 = .ok (.goto (-63), 3) := by decide +kernel
theorem dX3_readNumber_73 : decode cX3_readNumber 73 = .ok (.aload_n 0, 1) := by decide +kernel
theorem dX3_readNumber_74 : decode cX3_readNumber 74 = .ok (.getfield 19, 3) := by decide +kernel
theorem dX3_readNumber_77 : decode cX3_readNumber 77 = .ok (.iload_n 2, 1) := by decide +kernel
theorem dX3_readNumber_78 : decode cX3_readNumber 78 = .ok (.if_icmp .eq 16, 3) := by decide +kernel
theorem dX3_readNumber_81 : decode cX3_readNumber 81 = .ok (.iload_n 1, 1) := by decide +kernel
theorem dX3_readNumber_82 : decode cX3_readNumber 82 = .ok (.ifCond .lt 12, 3) := by decide +kernel
theorem dX3_readNumber_85 : decode cX3_readNumber 85 = .ok (.iload_n 1, 1) := by decide +kernel
theorem dX3_readNumber_86 : decode cX3_readNumber 86 = .ok (.aload_n 0, 1) := by decide +kernel
theorem dX3_readNumber_87 : decode cX3_readNumber 87 = .ok (.getfield 9, 3) := by decide +kernel
theorem dX3_readNumber_90 : decode cX3_readNumber 90 = .ok (.arraylength, 1) := by decide +kernel
theorem dX3_readNumber_91 : decode cX3_readNumber 91 = .ok (.if_icmp .lt 12, 3) := by decide +kernel
theorem dX3_readNumber_94 : decode cX3_readNumber 94 = .ok (.aload_n 0, 1) := by decide +kernel
theorem dX3_readNumber_95 : decode cX3_readNumber 95 = .ok (.aload_n 0, 1) := by decide +kernel
theorem dX3_readNumber_96 : decode cX3_readNumber 96 = .ok (.getfield 19, 3) := by decide +kernel
theorem dX3_readNumber_99 : decode cX3_readNumber 99 = .ok (.invokevirtual 42, 3) := by decide +kernel
theorem dX3_readNumber_102 : decode cX3_readNumber 102 = .ok (.ireturn, 1) := by decide +kernel
theorem dX3_readNumber_103 : decode cX3_readNumber 103 = .ok (.aload_n 0, 1) := by decide +kernel
theorem dX3_readNumber_104 : decode cX3_readNumber 104 = .ok (.getfield 9, 3) := by decide +kernel
theorem dX3_readNumber_107 : decode cX3_readNumber 107 = .ok (.iload_n 1, 1) := by decide +kernel
theorem dX3_readNumber_108 : decode cX3_readNumber 108 = .ok (.iload_n 3, 1) := by decide +kernel
theorem dX3_readNumber_109 : decode cX3_readNumber 109 = .ok (.iastore, 1) := by decide +kernel
theorem dX3_readNumber_110 : decode cX3_readNumber 110 = .ok (.iconst 1, 1) := by decide +kernel
theorem dX3_readNumber_111 : decode cX3_readNumber 111 = .ok (.ireturn, 1) := by decide +kernel
theorem dX3_fits_0 : decode cX3_fits 0 = .ok (.iload_n 3, 1) := by decide +kernel
theorem dX3_fits_1 : decode cX3_fits 1 = .ok (.ifCond .lt 21, 3) := by decide +kernel
theorem dX3_fits_4 : decode cX3_fits 4 = .ok (.iload_n 3, 1) := by decide +kernel
theorem dX3_fits_5 : decode cX3_fits 5 = .ok (.aload_n 0, 1) := by decide +kernel
theorem dX3_fits_6 : decode cX3_fits 6 = .ok (.getfield 9, 3) := by decide +kernel
theorem dX3_fits_9 : decode cX3_fits 9 = .ok (.arraylength, 1) := by decide +kernel
theorem dX3_fits_10 : decode cX3_fits 10 = .ok (.if_icmp .ge 12, 3) := by decide +kernel
theorem dX3_fits_13 : decode cX3_fits 13 = .ok (.aload_n 0, 1) := by decide +kernel
theorem dX3_fits_14 : decode cX3_fits 14 = .ok (.getfield 9, 3) := by decide +kernel
theorem dX3_fits_17 : decode cX3_fits 17 = .ok (.iload_n 3, 1) := by decide +kernel
theorem dX3_fits_18 : decode cX3_fits 18 = .ok (.iaload, 1) := by decide +kernel
theorem dX3_fits_19 : decode cX3_fits 19 = .ok (.goto 4, 3) := by decide +kernel
theorem dX3_fits_22 : decode cX3_fits 22 = .ok (.iconst (-1), 1) := by decide +kernel
theorem dX3_fits_23 : decode cX3_fits 23 = .ok (.istore 4, 2) := by decide +kernel
theorem dX3_fits_25 : decode cX3_fits 25 = .ok (.iload_n 2, 1) := by decide +kernel
theorem dX3_fits_26 : decode cX3_fits 26 = .ok (.ifCond .ne 34, 3) := by decide +kernel
theorem dX3_fits_29 : decode cX3_fits 29 = .ok (.iload_n 3, 1) := by decide +kernel
theorem dX3_fits_30 : decode cX3_fits 30 = .ok (.ifCond .ne 11, 3) := by decide +kernel
theorem dX3_fits_33 : decode cX3_fits 33 = .ok (.iload 4, 2) := by decide +kernel
theorem dX3_fits_35 : decode cX3_fits 35 = .ok (.invokestatic 109, 3) := by decide +kernel
theorem dX3_fits_38 : decode cX3_fits 38 = .ok (.goto 21, 3) := by decide +kernel
theorem dX3_fits_41 : decode cX3_fits 41 = .ok (.iload_n 3, 1) := by decide +kernel
theorem dX3_fits_42 : decode cX3_fits 42 = .ok (.iconst 1, 1) := by decide +kernel
theorem dX3_fits_43 : decode cX3_fits 43 = .ok (.if_icmp .ne 11, 3) := by decide +kernel
theorem dX3_fits_46 : decode cX3_fits 46 = .ok (.iload 4, 2) := by decide +kernel
theorem dX3_fits_48 : decode cX3_fits 48 = .ok (.invokestatic 112, 3) := by decide +kernel
theorem dX3_fits_51 : decode cX3_fits 51 = .ok (.goto 8, 3) := by decide +kernel
theorem dX3_fits_54 : decode cX3_fits 54 = .ok (.iload 4, 2) := by decide +kernel
theorem dX3_fits_56 : decode cX3_fits 56 = .ok (.invokestatic 115, 3) := by decide +kernel
theorem dX3_fits_59 : decode cX3_fits 59 = .ok (.ireturn, 1) := by decide +kernel
theorem dX3_fits_60 : decode cX3_fits 60 = .ok (.iload_n 2, 1) := by decide +kernel
theorem dX3_fits_61 : decode cX3_fits 61 = .ok (.iconst 4, 1) := by decide +kernel
theorem dX3_fits_62 : decode cX3_fits 62 = .ok (.if_icmp .gt 12, 3) := by decide +kernel
theorem dX3_fits_65 : decode cX3_fits 65 = .ok (.iload_n 2, 1) := by decide +kernel
theorem dX3_fits_66 : decode cX3_fits 66 = .ok (.iconst 1, 1) := by decide +kernel
theorem dX3_fits_67 : decode cX3_fits 67 = .ok (.isub, 1) := by decide +kernel
theorem dX3_fits_68 : decode cX3_fits 68 = .ok (.iload 4, 2) := by decide +kernel
theorem dX3_fits_70 : decode cX3_fits 70 = .ok (.invokestatic 118, 3) := by decide +kernel
theorem dX3_fits_73 : decode cX3_fits 73 = .ok (.ireturn, 1) := by decide +kernel
theorem dX3_fits_74 : decode cX3_fits 74 = .ok (.iload_n 2, 1) := by decide +kernel
theorem dX3_fits_75 : decode cX3_fits 75 = .ok (.iconst 5, 1) := by decide +kernel
theorem dX3_fits_76 : decode cX3_fits 76 = .ok (.if_icmp .ne 32, 3) := by decide +kernel
theorem dX3_fits_79 : decode cX3_fits 79 = .ok (.iload_n 3, 1) := by decide +kernel
theorem dX3_fits_80 : decode cX3_fits 80 = .ok (.ifCond .ne 15, 3) := by decide +kernel
theorem dX3_fits_83 : decode cX3_fits 83 = .ok (.aload_n 1, 1) := by decide +kernel
theorem dX3_fits_84 : decode cX3_fits 84 = .ok (.getfield 50, 3) := by decide +kernel
theorem dX3_fits_87 : decode cX3_fits 87 = .ok (.iload 4, 2) := by decide +kernel
theorem dX3_fits_89 : decode cX3_fits 89 = .ok (.invokevirtual 122, 3) := by decide +kernel
theorem dX3_fits_92 : decode cX3_fits 92 = .ok (.goto 15, 3) := by decide +kernel
theorem dX3_fits_95 : decode cX3_fits 95 = .ok (.aload_n 1, 1) := by decide +kernel
theorem dX3_fits_96 : decode cX3_fits 96 = .ok (.aload_n 0, 1) := by decide +kernel
theorem dX3_fits_97 : decode cX3_fits 97 = .ok (.getfield 9, 3) := by decide +kernel
theorem dX3_fits_100 : decode cX3_fits 100 = .ok (.iconst 0, 1) := by decide +kernel
theorem dX3_fits_101 : decode cX3_fits 101 = .ok (.iaload, 1) := by decide +kernel
theorem dX3_fits_102 : decode cX3_fits 102 = .ok (.iload 4, 2) := by decide +kernel
theorem dX3_fits_104 : decode cX3_fits 104 = .ok (.invokevirtual 125, 3) := by decide +kernel
theorem dX3_fits_107 : decode cX3_fits 107 = .ok (.ireturn, 1) := by decide +kernel
theorem dX3_fits_108 : decode cX3_fits 108 = .ok (.aload_n 1, 1) := by decide +kernel
theorem dX3_fits_109 : decode cX3_fits 109 = .ok (.getfield 50, 3) := by decide +kernel
theorem dX3_fits_112 : decode cX3_fits 112 = .ok (.iload 4, 2) := by decide +kernel
theorem dX3_fits_114 : decode cX3_fits 114 = .ok (.invokevirtual 128, 3) := by decide +kernel
theorem dX3_fits_117 : decode cX3_fits 117 = .ok (.ifCond .eq 22, 3) := by decide +kernel
theorem dX3_fits_120 : decode cX3_fits 120 = .ok (.iload_n 3, 1) := by decide +kernel
theorem dX3_fits_121 : decode cX3_fits 121 = .ok (.ifCond .eq 14, 3) := by decide +kernel
theorem dX3_fits_124 : decode cX3_fits 124 = .ok (.iload 4, 2) := by decide +kernel
theorem dX3_fits_126 : decode cX3_fits 126 = .ok (.aload_n 0, 1) := by decide +kernel
theorem dX3_fits_127 : decode cX3_fits 127 = .ok (.getfield 9, 3) := by decide +kernel
theorem dX3_fits_130 : decode cX3_fits 130 = .ok (.iconst 0, 1) := by decide +kernel
theorem dX3_fits_131 : decode cX3_fits 131 = .ok (.iaload, 1) := by decide +kernel
theorem dX3_fits_132 : decode cX3_fits 132 = .ok (.if_icmp .eq 7, 3) := by decide +kernel
theorem dX3_fits_135 : decode cX3_fits 135 = .ok (.iconst 1, 1) := by decide +kernel
theorem dX3_fits_136 : decode cX3_fits 136 = .ok (.goto 4, 3) := by decide +kernel
theorem dX3_fits_139 : decode cX3_fits 139 = .ok (.iconst 0, 1) := by decide +kernel
theorem dX3_fits_140 : decode cX3_fits 140 = .ok (.ireturn, 1) := by decide +kernel
theorem dX3_tell_0 : decode cX3_tell 0 = .ok (.iload_n 2, 1) := by decide +kernel
theorem dX3_tell_1 : decode cX3_tell 1 = .ok (.ifCond .ne 28, 3) := by decide +kernel
theorem dX3_tell_4 : decode cX3_tell 4 = .ok (.aload_n 1, 1) := by decide +kernel
theorem dX3_tell_5 : decode cX3_tell 5 = .ok (.aload_n 0, 1) := by decide +kernel
theorem dX3_tell_6 : decode cX3_tell 6 = .ok (.getfield 9, 3) := by decide +kernel
theorem dX3_tell_9 : decode cX3_tell 9 = .ok (.iconst 0, 1) := by decide +kernel
theorem dX3_tell_10 : decode cX3_tell 10 = .ok (.iaload, 1) := by decide +kernel
theorem dX3_tell_11 : decode cX3_tell 11 = .ok (.aload_n 0, 1) := by decide +kernel
theorem dX3_tell_12 : decode cX3_tell 12 = .ok (.getfield 9, 3) := by decide +kernel
theorem dX3_tell_15 : decode cX3_tell 15 = .ok (.iconst 1, 1) := by decide +kernel
theorem dX3_tell_16 : decode cX3_tell 16 = .ok (.iaload, 1) := by decide +kernel
theorem dX3_tell_17 : decode cX3_tell 17 = .ok (.aload_n 0, 1) := by decide +kernel
theorem dX3_tell_18 : decode cX3_tell 18 = .ok (.getfield 9, 3) := by decide +kernel
theorem dX3_tell_21 : decode cX3_tell 21 = .ok (.iconst 2, 1) := by decide +kernel
theorem dX3_tell_22 : decode cX3_tell 22 = .ok (.iaload, 1) := by decide +kernel
theorem dX3_tell_23 : decode cX3_tell 23 = .ok (.invokevirtual 131, 3) := by decide +kernel
theorem dX3_tell_26 : decode cX3_tell 26 = .ok (.goto 64, 3) := by decide +kernel
theorem dX3_tell_29 : decode cX3_tell 29 = .ok (.iload_n 2, 1) := by decide +kernel
theorem dX3_tell_30 : decode cX3_tell 30 = .ok (.iconst 4, 1) := by decide +kernel
theorem dX3_tell_31 : decode cX3_tell 31 = .ok (.if_icmp .gt 19, 3) := by decide +kernel
theorem dX3_tell_34 : decode cX3_tell 34 = .ok (.aload_n 1, 1) := by decide +kernel
theorem dX3_tell_35 : decode cX3_tell 35 = .ok (.iload_n 2, 1) := by decide +kernel
theorem dX3_tell_36 : decode cX3_tell 36 = .ok (.iconst 1, 1) := by decide +kernel
theorem dX3_tell_37 : decode cX3_tell 37 = .ok (.isub, 1) := by decide +kernel
theorem dX3_tell_38 : decode cX3_tell 38 = .ok (.aload_n 0, 1) := by decide +kernel
theorem dX3_tell_39 : decode cX3_tell 39 = .ok (.getfield 9, 3) := by decide +kernel
theorem dX3_tell_42 : decode cX3_tell 42 = .ok (.iconst 0, 1) := by decide +kernel
theorem dX3_tell_43 : decode cX3_tell 43 = .ok (.iaload, 1) := by decide +kernel
theorem dX3_tell_44 : decode cX3_tell 44 = .ok (.invokevirtual 135, 3) := by decide +kernel
theorem dX3_tell_47 : decode cX3_tell 47 = .ok (.goto 43, 3) := by decide +kernel
theorem dX3_tell_50 : decode cX3_tell 50 = .ok (.iload_n 2, 1) := by decide +kernel
theorem dX3_tell_51 : decode cX3_tell 51 = .ok (.iconst 5, 1) := by decide +kernel
theorem dX3_tell_52 : decode cX3_tell 52 = .ok (.if_icmp .ne 22, 3) := by decide +kernel
theorem dX3_tell_55 : decode cX3_tell 55 = .ok (.aload_n 1, 1) := by decide +kernel
theorem dX3_tell_56 : decode cX3_tell 56 = .ok (.aload_n 0, 1) := by decide +kernel
theorem dX3_tell_57 : decode cX3_tell 57 = .ok (.getfield 9, 3) := by decide +kernel
theorem dX3_tell_60 : decode cX3_tell 60 = .ok (.iconst 0, 1) := by decide +kernel
theorem dX3_tell_61 : decode cX3_tell 61 = .ok (.iaload, 1) := by decide +kernel
theorem dX3_tell_62 : decode cX3_tell 62 = .ok (.aload_n 0, 1) := by decide +kernel
theorem dX3_tell_63 : decode cX3_tell 63 = .ok (.getfield 9, 3) := by decide +kernel
theorem dX3_tell_66 : decode cX3_tell 66 = .ok (.iconst 1, 1) := by decide +kernel
theorem dX3_tell_67 : decode cX3_tell 67 = .ok (.iaload, 1) := by decide +kernel
theorem dX3_tell_68 : decode cX3_tell 68 = .ok (.invokevirtual 139, 3) := by decide +kernel
theorem dX3_tell_71 : decode cX3_tell 71 = .ok (.goto 19, 3) := by decide +kernel
theorem dX3_tell_74 : decode cX3_tell 74 = .ok (.aload_n 1, 1) := by decide +kernel
theorem dX3_tell_75 : decode cX3_tell 75 = .ok (.aload_n 0, 1) := by decide +kernel
theorem dX3_tell_76 : decode cX3_tell 76 = .ok (.getfield 9, 3) := by decide +kernel
theorem dX3_tell_79 : decode cX3_tell 79 = .ok (.iconst 0, 1) := by decide +kernel
theorem dX3_tell_80 : decode cX3_tell 80 = .ok (.iaload, 1) := by decide +kernel
theorem dX3_tell_81 : decode cX3_tell 81 = .ok (.aload_n 0, 1) := by decide +kernel
theorem dX3_tell_82 : decode cX3_tell 82 = .ok (.getfield 9, 3) := by decide +kernel
theorem dX3_tell_85 : decode cX3_tell 85 = .ok (.iconst 1, 1) := by decide +kernel
theorem dX3_tell_86 : decode cX3_tell 86 = .ok (.iaload, 1) := by decide +kernel
theorem dX3_tell_87 : decode cX3_tell 87 = .ok (.invokevirtual 142, 3) := by decide +kernel
theorem dX3_tell_90 : decode cX3_tell 90 = .ok (.return_, 1) := by decide +kernel
theorem dX4_init_0 : decode cX4_init 0 = .ok (.aload_n 0, 1) := by decide +kernel
theorem dX4_init_1 : decode cX4_init 1 = .ok (.invokespecial 3, 3) := by decide +kernel
theorem dX4_init_4 : decode cX4_init 4 = .ok (.aload_n 0, 1) := by decide +kernel
theorem dX4_init_5 : decode cX4_init 5 = .ok (.iconst (-1), 1) := by decide +kernel
theorem dX4_init_6 : decode cX4_init 6 = .ok (.putfield 9, 3) := by decide +kernel
theorem dX4_init_9 : decode cX4_init 9 = .ok (.aload_n 0, 1) := by decide +kernel
theorem dX4_init_10 : decode cX4_init 10 = .ok (.iconst 0, 1) := by decide +kernel
theorem dX4_init_11 : decode cX4_init 11 = .ok (.putfield 15, 3) := by decide +kernel
theorem dX4_init_14 : decode cX4_init 14 = .ok (.aload_n 0, 1) := by decide +kernel
theorem dX4_init_15 : decode cX4_init 15 = .ok (.sipush 160, 3) := by decide +kernel
theorem dX4_init_18 : decode cX4_init 18 = .ok (.newarray .long, 2) := by decide +kernel
theorem dX4_init_20 : decode cX4_init 20 = .ok (.putfield 18, 3) := by decide +kernel
theorem dX4_init_23 : decode cX4_init 23 = .ok (.return_, 1) := by decide +kernel
theorem dX4_holdsRow_0 : decode cX4_holdsRow 0 = .ok (.aload_n 0, 1) := by decide +kernel
theorem dX4_holdsRow_1 : decode cX4_holdsRow 1 = .ok (.getfield 9, 3) := by decide +kernel
theorem dX4_holdsRow_4 : decode cX4_holdsRow 4 = .ok (.bipush 100, 2) := by decide +kernel
theorem dX4_holdsRow_6 : decode cX4_holdsRow 6 = .ok (.if_icmp .lt 7, 3) := by decide +kernel
theorem dX4_holdsRow_9 : decode cX4_holdsRow 9 = .ok (.iconst 1, 1) := by decide +kernel
theorem dX4_holdsRow_10 : decode cX4_holdsRow 10 = .ok (.goto 4, 3) := by decide +kernel
theorem dX4_holdsRow_13 : decode cX4_holdsRow 13 = .ok (.iconst 0, 1) := by decide +kernel
theorem dX4_holdsRow_14 : decode cX4_holdsRow 14 = .ok (.ireturn, 1) := by decide +kernel
theorem dX4_begin_0 : decode cX4_begin 0 = .ok (.aload_n 0, 1) := by decide +kernel
theorem dX4_begin_1 : decode cX4_begin 1 = .ok (.bipush 100, 2) := by decide +kernel
theorem dX4_begin_3 : decode cX4_begin 3 = .ok (.iload_n 1, 1) := by decide +kernel
theorem dX4_begin_4 : decode cX4_begin 4 = .ok (.iadd, 1) := by decide +kernel
theorem dX4_begin_5 : decode cX4_begin 5 = .ok (.putfield 9, 3) := by decide +kernel
theorem dX4_begin_8 : decode cX4_begin 8 = .ok (.aload_n 0, 1) := by decide +kernel
theorem dX4_begin_9 : decode cX4_begin 9 = .ok (.iconst 0, 1) := by decide +kernel
theorem dX4_begin_10 : decode cX4_begin 10 = .ok (.iload_n 2, 1) := by decide +kernel
theorem dX4_begin_11 : decode cX4_begin 11 = .ok (.sipush 160, 3) := by decide +kernel
theorem dX4_begin_14 : decode cX4_begin 14 = .ok (.invokestatic 22, 3) := by decide +kernel
theorem dX4_begin_17 : decode cX4_begin 17 = .ok (.invokestatic 28, 3) := by decide +kernel
theorem dX4_begin_20 : decode cX4_begin 20 = .ok (.putfield 15, 3) := by decide +kernel
theorem dX4_begin_23 : decode cX4_begin 23 = .ok (.iconst 0, 1) := by decide +kernel
theorem dX4_begin_24 : decode cX4_begin 24 = .ok (.istore_n 3, 1) := by decide +kernel
theorem dX4_begin_25 : decode cX4_begin 25 = .ok (.iload_n 3, 1) := by decide +kernel
theorem dX4_begin_26 : decode cX4_begin 26 = .ok (.aload_n 0, 1) := by decide +kernel
theorem dX4_begin_27 : decode cX4_begin 27 = .ok (.getfield 15, 3) := by decide +kernel
theorem dX4_begin_30 : decode cX4_begin 30 = .ok (.if_icmp .ge 16, 3) := by decide +kernel
theorem dX4_begin_33 : decode cX4_begin 33 = .ok (.aload_n 0, 1) := by decide +kernel
theorem dX4_begin_34 : decode cX4_begin 34 = .ok (.getfield 18, 3) := by decide +kernel
theorem dX4_begin_37 : decode cX4_begin 37 = .ok (.iload_n 3, 1) := by decide +kernel
theorem dX4_begin_38 : decode cX4_begin 38 = .ok (.lconst 0, 1) := by decide +kernel
theorem dX4_begin_39 : decode cX4_begin 39 = .ok (.lastore, 1) := by decide +kernel
theorem dX4_begin_40 : decode cX4_begin 40 = .ok (.iinc 3 1, 3) := by decide +kernel
theorem dX4_begin_43 : decode cX4_begin 43 = .ok (.goto (-18), 3) := by decide +kernel
theorem dX4_begin_46 : decode cX4_begin 46 = .ok (.return_, 1) := by decide +kernel
theorem dX4_hasElement_0 : decode cX4_hasElement 0 = .ok (.iload_n 1, 1) := by decide +kernel
theorem dX4_hasElement_1 : decode cX4_hasElement 1 = .ok (.ifCond .lt 15, 3) := by decide +kernel
theorem dX4_hasElement_4 : decode cX4_hasElement 4 = .ok (.iload_n 1, 1) := by decide +kernel
theorem dX4_hasElement_5 : decode cX4_hasElement 5 = .ok (.aload_n 0, 1) := by decide +kernel
theorem dX4_hasElement_6 : decode cX4_hasElement 6 = .ok (.getfield 15, 3) := by decide +kernel
theorem dX4_hasElement_9 : decode cX4_hasElement 9 = .ok (.if_icmp .ge 7, 3) := by decide +kernel
theorem dX4_hasElement_12 : decode cX4_hasElement 12 = .ok (.iconst 1, 1) := by decide +kernel
theorem dX4_hasElement_13 : decode cX4_hasElement 13 = .ok (.goto 4, 3) := by decide +kernel
theorem dX4_hasElement_16 : decode cX4_hasElement 16 = .ok (.iconst 0, 1) := by decide +kernel
theorem dX4_hasElement_17 : decode cX4_hasElement 17 = .ok (.ireturn, 1) := by decide +kernel
theorem dX4_hasElements_0 : decode cX4_hasElements 0 = .ok (.iload_n 1, 1) := by decide +kernel
theorem dX4_hasElements_1 : decode cX4_hasElements 1 = .ok (.ifCond .lt 29, 3) := by decide +kernel
theorem dX4_hasElements_4 : decode cX4_hasElements 4 = .ok (.iload_n 2, 1) := by decide +kernel
theorem dX4_hasElements_5 : decode cX4_hasElements 5 = .ok (.ifCond .lt 25, 3) := by decide +kernel
theorem dX4_hasElements_8 : decode cX4_hasElements 8 = .ok (.iload_n 2, 1) := by decide +kernel
theorem dX4_hasElements_9 : decode cX4_hasElements 9 = .ok (.aload_n 0, 1) := by decide +kernel
theorem dX4_hasElements_10 : decode cX4_hasElements 10 = .ok (.getfield 15, 3) := by decide +kernel
theorem dX4_hasElements_13 : decode cX4_hasElements 13 = .ok (.if_icmp .gt 17, 3) := by decide +kernel
theorem dX4_hasElements_16 : decode cX4_hasElements 16 = .ok (.iload_n 1, 1) := by decide +kernel
theorem dX4_hasElements_17 : decode cX4_hasElements 17 = .ok (.aload_n 0, 1) := by decide +kernel
theorem dX4_hasElements_18 : decode cX4_hasElements 18 = .ok (.getfield 15, 3) := by decide +kernel
theorem dX4_hasElements_21 : decode cX4_hasElements 21 = .ok (.iload_n 2, 1) := by decide +kernel
theorem dX4_hasElements_22 : decode cX4_hasElements 22 = .ok (.isub, 1) := by decide +kernel
theorem dX4_hasElements_23 : decode cX4_hasElements 23 = .ok (.if_icmp .gt 7, 3) := by decide +kernel
theorem dX4_hasElements_26 : decode cX4_hasElements 26 = .ok (.iconst 1, 1) := by decide +kernel
theorem dX4_hasElements_27 : decode cX4_hasElements 27 = .ok (.goto 4, 3) := by decide +kernel
theorem dX4_hasElements_30 : decode cX4_hasElements 30 = .ok (.iconst 0, 1) := by decide +kernel
theorem dX4_hasElements_31 : decode cX4_hasElements 31 = .ok (.ireturn, 1) := by decide +kernel
theorem dX4_put_0 : decode cX4_put 0 = .ok (.aload_n 0, 1) := by decide +kernel
theorem dX4_put_1 : decode cX4_put 1 = .ok (.iload_n 1, 1) := by decide +kernel
theorem dX4_put_2 : decode cX4_put 2 = .ok (.invokevirtual 31, 3) := by decide +kernel
theorem dX4_put_5 : decode cX4_put 5 = .ok (.ifCond .ne 4, 3) := by decide +kernel
theorem dX4_put_8 : decode cX4_put 8 = .ok (.return_, 1) := by decide +kernel
theorem dX4_put_9 : decode cX4_put 9 = .ok (.aload_n 0, 1) := by decide +kernel
theorem dX4_put_10 : decode cX4_put 10 = .ok (.getfield 9, 3) := by decide +kernel
theorem dX4_put_13 : decode cX4_put 13 = .ok (.bipush 100, 2) := by decide +kernel
theorem dX4_put_15 : decode cX4_put 15 = .ok (.isub, 1) := by decide +kernel
theorem dX4_put_16 : decode cX4_put 16 = .ok (.tableswitch 66 0 2 #[28, 41, 54], 28) := by decide +kernel
theorem dX4_put_44 : decode cX4_put 44 = .ok (.aload_n 0, 1) := by decide +kernel
theorem dX4_put_45 : decode cX4_put 45 = .ok (.getfield 18, 3) := by decide +kernel
theorem dX4_put_48 : decode cX4_put 48 = .ok (.iload_n 1, 1) := by decide +kernel
theorem dX4_put_49 : decode cX4_put 49 = .ok (.lload_n 2, 1) := by decide +kernel
theorem dX4_put_50 : decode cX4_put 50 = .ok (.l2i, 1) := by decide +kernel
theorem dX4_put_51 : decode cX4_put 51 = .ok (.i2b, 1) := by decide +kernel
theorem dX4_put_52 : decode cX4_put 52 = .ok (.i2l, 1) := by decide +kernel
theorem dX4_put_53 : decode cX4_put 53 = .ok (.lastore, 1) := by decide +kernel
theorem dX4_put_54 : decode cX4_put 54 = .ok (.goto 35, 3) := by decide +kernel
theorem dX4_put_57 : decode cX4_put 57 = .ok (.aload_n 0, 1) := by decide +kernel
theorem dX4_put_58 : decode cX4_put 58 = .ok (.getfield 18, 3) := by decide +kernel
theorem dX4_put_61 : decode cX4_put 61 = .ok (.iload_n 1, 1) := by decide +kernel
theorem dX4_put_62 : decode cX4_put 62 = .ok (.lload_n 2, 1) := by decide +kernel
theorem dX4_put_63 : decode cX4_put 63 = .ok (.l2i, 1) := by decide +kernel
theorem dX4_put_64 : decode cX4_put 64 = .ok (.i2s, 1) := by decide +kernel
theorem dX4_put_65 : decode cX4_put 65 = .ok (.i2l, 1) := by decide +kernel
theorem dX4_put_66 : decode cX4_put 66 = .ok (.lastore, 1) := by decide +kernel
theorem dX4_put_67 : decode cX4_put 67 = .ok (.goto 22, 3) := by decide +kernel
theorem dX4_put_70 : decode cX4_put 70 = .ok (.aload_n 0, 1) := by decide +kernel
theorem dX4_put_71 : decode cX4_put 71 = .ok (.getfield 18, 3) := by decide +kernel
theorem dX4_put_74 : decode cX4_put 74 = .ok (.iload_n 1, 1) := by decide +kernel
theorem dX4_put_75 : decode cX4_put 75 = .ok (.lload_n 2, 1) := by decide +kernel
theorem dX4_put_76 : decode cX4_put 76 = .ok (.l2i, 1) := by decide +kernel
theorem dX4_put_77 : decode cX4_put 77 = .ok (.i2l, 1) := by decide +kernel
theorem dX4_put_78 : decode cX4_put 78 = .ok (.lastore, 1) := by decide +kernel
theorem dX4_put_79 : decode cX4_put 79 = .ok (.goto 10, 3) := by decide +kernel
theorem dX4_put_82 : decode cX4_put 82 = .ok (.aload_n 0, 1) := by decide +kernel
theorem dX4_put_83 : decode cX4_put 83 = .ok (.getfield 18, 3) := by decide +kernel
theorem dX4_put_86 : decode cX4_put 86 = .ok (.iload_n 1, 1) := by decide +kernel
theorem dX4_put_87 : decode cX4_put 87 = .ok (.lload_n 2, 1) := by decide +kernel
theorem dX4_put_88 : decode cX4_put 88 = .ok (.lastore, 1) := by decide +kernel
theorem dX4_put_89 : decode cX4_put 89 = .ok (.return_, 1) := by decide +kernel
theorem dX4_asInt_0 : decode cX4_asInt 0 = .ok (.aload_n 0, 1) := by decide +kernel
theorem dX4_asInt_1 : decode cX4_asInt 1 = .ok (.iload_n 1, 1) := by decide +kernel
theorem dX4_asInt_2 : decode cX4_asInt 2 = .ok (.invokevirtual 31, 3) := by decide +kernel
theorem dX4_asInt_5 : decode cX4_asInt 5 = .ok (.ifCond .eq 13, 3) := by decide +kernel
theorem dX4_asInt_8 : decode cX4_asInt 8 = .ok (.aload_n 0, 1) := by decide +kernel
theorem dX4_asInt_9 : decode cX4_asInt 9 = .ok (.getfield 18, 3) := by decide +kernel
theorem dX4_asInt_12 : decode cX4_asInt 12 = .ok (.iload_n 1, 1) := by decide +kernel
theorem dX4_asInt_13 : decode cX4_asInt 13 = .ok (.laload, 1) := by decide +kernel
theorem dX4_asInt_14 : decode cX4_asInt 14 = .ok (.l2i, 1) := by decide +kernel
theorem dX4_asInt_15 : decode cX4_asInt 15 = .ok (.goto 4, 3) := by decide +kernel
theorem dX4_asInt_18 : decode cX4_asInt 18 = .ok (.iconst (-1), 1) := by decide +kernel
theorem dX4_asInt_19 : decode cX4_asInt 19 = .ok (.ireturn, 1) := by decide +kernel
theorem dX5_init_0 : decode cX5_init 0 = .ok (.aload_n 0, 1) := by decide +kernel
theorem dX5_init_1 : decode cX5_init 1 = .ok (.invokespecial 3, 3) := by decide +kernel
theorem dX5_init_4 : decode cX5_init 4 = .ok (.aload_n 0, 1) := by decide +kernel
theorem dX5_init_5 : decode cX5_init 5 = .ok (.bipush 92, 2) := by decide +kernel
theorem dX5_init_7 : decode cX5_init 7 = .ok (.newarray .int, 2) := by decide +kernel
theorem dX5_init_9 : decode cX5_init 9 = .ok (.putfield 11, 3) := by decide +kernel
theorem dX5_init_12 : decode cX5_init 12 = .ok (.aload_n 0, 1) := by decide +kernel
theorem dX5_init_13 : decode cX5_init 13 = .ok (.bipush 92, 2) := by decide +kernel
theorem dX5_init_15 : decode cX5_init 15 = .ok (.newarray .int, 2) := by decide +kernel
theorem dX5_init_17 : decode cX5_init 17 = .ok (.putfield 17, 3) := by decide +kernel
theorem dX5_init_20 : decode cX5_init 20 = .ok (.aload_n 0, 1) := by decide +kernel
theorem dX5_init_21 : decode cX5_init 21 = .ok (.iconst 0, 1) := by decide +kernel
theorem dX5_init_22 : decode cX5_init 22 = .ok (.putfield 20, 3) := by decide +kernel
theorem dX5_init_25 : decode cX5_init 25 = .ok (.aload_n 0, 1) := by decide +kernel
theorem dX5_init_26 : decode cX5_init 26 = .ok (.iconst 0, 1) := by decide +kernel
theorem dX5_init_27 : decode cX5_init 27 = .ok (.putfield 24, 3) := by decide +kernel
theorem dX5_init_30 : decode cX5_init 30 = .ok (.aload_n 0, 1) := by decide +kernel
theorem dX5_init_31 : decode cX5_init 31 = .ok (.lconst 0, 1) := by decide +kernel
theorem dX5_init_32 : decode cX5_init 32 = .ok (.putfield 27, 3) := by decide +kernel
theorem dX5_init_35 : decode cX5_init 35 = .ok (.aload_n 0, 1) := by decide +kernel
theorem dX5_init_36 : decode cX5_init 36 = .ok (.lconst 0, 1) := by decide +kernel
theorem dX5_init_37 : decode cX5_init 37 = .ok (.putfield 31, 3) := by decide +kernel
theorem dX5_init_40 : decode cX5_init 40 = .ok (.return_, 1) := by decide +kernel
theorem dX5_areSets_0 : decode cX5_areSets 0 = .ok (.iconst 0, 1) := by decide +kernel
theorem dX5_areSets_1 : decode cX5_areSets 1 = .ok (.istore 4, 2) := by decide +kernel
theorem dX5_areSets_3 : decode cX5_areSets 3 = .ok (.iload 4, 2) := by decide +kernel
theorem dX5_areSets_5 : decode cX5_areSets 5 = .ok (.iload_n 3, 1) := by decide +kernel
theorem dX5_areSets_6 : decode cX5_areSets 6 = .ok (.if_icmp .ge 27, 3) := by decide +kernel
theorem dX5_areSets_9 : decode cX5_areSets 9 = .ok (.aload_n 1, 1) := by decide +kernel
theorem dX5_areSets_10 : decode cX5_areSets 10 = .ok (.getfield 34, 3) := by decide +kernel
theorem dX5_areSets_13 : decode cX5_areSets 13 = .ok (.aload_n 2, 1) := by decide +kernel
theorem dX5_areSets_14 : decode cX5_areSets 14 = .ok (.iload 4, 2) := by decide +kernel
theorem dX5_areSets_16 : decode cX5_areSets 16 = .ok (.invokevirtual 40, 3) := by decide +kernel
theorem dX5_areSets_19 : decode cX5_areSets 19 = .ok (.invokevirtual 46, 3) := by decide +kernel
theorem dX5_areSets_22 : decode cX5_areSets 22 = .ok (.ifCond .ne 5, 3) := by decide +kernel
theorem dX5_areSets_25 : decode cX5_areSets 25 = .ok (.iconst 0, 1) := by decide +kernel
theorem dX5_areSets_26 : decode cX5_areSets 26 = .ok (.ireturn, 1) := by decide +kernel
theorem dX5_areSets_27 : decode cX5_areSets 27 = .ok (.iinc 4 1, 3) := by decide +kernel
theorem dX5_areSets_30 : decode cX5_areSets 30 = .ok (.goto (-27), 3) := by decide +kernel
theorem dX5_areSets_33 : decode cX5_areSets 33 = .ok (.iconst 1, 1) := by decide +kernel
theorem dX5_areSets_34 : decode cX5_areSets 34 = .ok (.ireturn, 1) := by decide +kernel
theorem dX5_arePairs_0 : decode cX5_arePairs 0 = .ok (.iconst 0, 1) := by decide +kernel
theorem dX5_arePairs_1 : decode cX5_arePairs 1 = .ok (.istore 4, 2) := by decide +kernel
theorem dX5_arePairs_3 : decode cX5_arePairs 3 = .ok (.iload 4, 2) := by decide +kernel
theorem dX5_arePairs_5 : decode cX5_arePairs 5 = .ok (.iload_n 3, 1) := by decide +kernel
theorem dX5_arePairs_6 : decode cX5_arePairs 6 = .ok (.if_icmp .ge 61, 3) := by decide +kernel
theorem dX5_arePairs_9 : decode cX5_arePairs 9 = .ok (.aload_n 2, 1) := by decide +kernel
theorem dX5_arePairs_10 : decode cX5_arePairs 10 = .ok (.iload 4, 2) := by decide +kernel
theorem dX5_arePairs_12 : decode cX5_arePairs 12 = .ok (.invokevirtual 40, 3) := by decide +kernel
theorem dX5_arePairs_15 : decode cX5_arePairs 15 = .ok (.istore 5, 2) := by decide +kernel
theorem dX5_arePairs_17 : decode cX5_arePairs 17 = .ok (.iload 4, 2) := by decide +kernel
theorem dX5_arePairs_19 : decode cX5_arePairs 19 = .ok (.iconst 1, 1) := by decide +kernel
theorem dX5_arePairs_20 : decode cX5_arePairs 20 = .ok (.iand, 1) := by decide +kernel
theorem dX5_arePairs_21 : decode cX5_arePairs 21 = .ok (.ifCond .ne 15, 3) := by decide +kernel
theorem dX5_arePairs_24 : decode cX5_arePairs 24 = .ok (.aload_n 1, 1) := by decide +kernel
theorem dX5_arePairs_25 : decode cX5_arePairs 25 = .ok (.getfield 34, 3) := by decide +kernel
theorem dX5_arePairs_28 : decode cX5_arePairs 28 = .ok (.iload 5, 2) := by decide +kernel
theorem dX5_arePairs_30 : decode cX5_arePairs 30 = .ok (.invokevirtual 46, 3) := by decide +kernel
theorem dX5_arePairs_33 : decode cX5_arePairs 33 = .ok (.goto 19, 3) := by decide +kernel
theorem dX5_arePairs_36 : decode cX5_arePairs 36 = .ok (.iload 5, 2) := by decide +kernel
theorem dX5_arePairs_38 : decode cX5_arePairs 38 = .ok (.ifCond .eq 9, 3) := by decide +kernel
theorem dX5_arePairs_41 : decode cX5_arePairs 41 = .ok (.iload 5, 2) := by decide +kernel
theorem dX5_arePairs_43 : decode cX5_arePairs 43 = .ok (.iconst 1, 1) := by decide +kernel
theorem dX5_arePairs_44 : decode cX5_arePairs 44 = .ok (.if_icmp .ne 7, 3) := by decide +kernel
theorem dX5_arePairs_47 : decode cX5_arePairs 47 = .ok (.iconst 1, 1) := by decide +kernel
theorem dX5_arePairs_48 : decode cX5_arePairs 48 = .ok (.goto 4, 3) := by decide +kernel
theorem dX5_arePairs_51 : decode cX5_arePairs 51 = .ok (.iconst 0, 1) := by decide +kernel
theorem dX5_arePairs_52 : decode cX5_arePairs 52 = .ok (.istore 6, 2) := by decide +kernel
theorem dX5_arePairs_54 : decode cX5_arePairs 54 = .ok (.iload 6, 2) := by decide +kernel
theorem dX5_arePairs_56 : decode cX5_arePairs 56 = .ok (.ifCond .ne 5, 3) := by decide +kernel
theorem dX5_arePairs_59 : decode cX5_arePairs 59 = .ok (.iconst 0, 1) := by decide +kernel
theorem dX5_arePairs_60 : decode cX5_arePairs 60 = .ok (.ireturn, 1) := by decide +kernel
theorem dX5_arePairs_61 : decode cX5_arePairs 61 = .ok (.iinc 4 1, 3) := by decide +kernel
theorem dX5_arePairs_64 : decode cX5_arePairs 64 = .ok (.goto (-61), 3) := by decide +kernel
theorem dX5_arePairs_67 : decode cX5_arePairs 67 = .ok (.iconst 1, 1) := by decide +kernel
theorem dX5_arePairs_68 : decode cX5_arePairs 68 = .ok (.ireturn, 1) := by decide +kernel
theorem dX5_sortOut_0 : decode cX5_sortOut 0 = .ok (.aload_n 0, 1) := by decide +kernel
theorem dX5_sortOut_1 : decode cX5_sortOut 1 = .ok (.iconst 0, 1) := by decide +kernel
theorem dX5_sortOut_2 : decode cX5_sortOut 2 = .ok (.putfield 20, 3) := by decide +kernel
theorem dX5_sortOut_5 : decode cX5_sortOut 5 = .ok (.aload_n 0, 1) := by decide +kernel
theorem dX5_sortOut_6 : decode cX5_sortOut 6 = .ok (.iconst 0, 1) := by decide +kernel
theorem dX5_sortOut_7 : decode cX5_sortOut 7 = .ok (.putfield 24, 3) := by decide +kernel
theorem dX5_sortOut_10 : decode cX5_sortOut 10 = .ok (.iconst 0, 1) := by decide +kernel
theorem dX5_sortOut_11 : decode cX5_sortOut 11 = .ok (.istore 4, 2) := by decide +kernel
theorem dX5_sortOut_13 : decode cX5_sortOut 13 = .ok (.iload 4, 2) := by decide +kernel
theorem dX5_sortOut_15 : decode cX5_sortOut 15 = .ok (.aload_n 1, 1) := by decide +kernel
theorem dX5_sortOut_16 : decode cX5_sortOut 16 = .ok (.getfield 52, 3) := by decide +kernel
theorem dX5_sortOut_19 : decode cX5_sortOut 19 = .ok (.getfield 56, 3) := by decide +kernel
theorem dX5_sortOut_22 : decode cX5_sortOut 22 = .ok (.if_icmp .ge 71, 3) := by decide +kernel
theorem dX5_sortOut_25 : decode cX5_sortOut 25 = .ok (.iload 4, 2) := by decide +kernel
theorem dX5_sortOut_27 : decode cX5_sortOut 27 = .ok (.aload_n 1, 1) := by decide +kernel
theorem dX5_sortOut_28 : decode cX5_sortOut 28 = .ok (.getfield 59, 3) := by decide +kernel
theorem dX5_sortOut_31 : decode cX5_sortOut 31 = .ok (.aload_n 1, 1) := by decide +kernel
theorem dX5_sortOut_32 : decode cX5_sortOut 32 = .ok (.getfield 60, 3) := by decide +kernel
theorem dX5_sortOut_35 : decode cX5_sortOut 35 = .ok (.invokestatic 61, 3) := by decide +kernel
theorem dX5_sortOut_38 : decode cX5_sortOut 38 = .ok (.ifCond .eq 49, 3) := by decide +kernel
theorem dX5_sortOut_41 : decode cX5_sortOut 41 = .ok (.iconst 0, 1) := by decide +kernel
theorem dX5_sortOut_42 : decode cX5_sortOut 42 = .ok (.istore 5, 2) := by decide +kernel
theorem dX5_sortOut_44 : decode cX5_sortOut 44 = .ok (.iconst 0, 1) := by decide +kernel
theorem dX5_sortOut_45 : decode cX5_sortOut 45 = .ok (.istore 6, 2) := by decide +kernel
theorem dX5_sortOut_47 : decode cX5_sortOut 47 = .ok (.iload 6, 2) := by decide +kernel
theorem dX5_sortOut_49 : decode cX5_sortOut 49 = .ok (.iload_n 3, 1) := by decide +kernel
theorem dX5_sortOut_50 : decode cX5_sortOut 50 = .ok (.if_icmp .ge 31, 3) := by decide +kernel
theorem dX5_sortOut_53 : decode cX5_sortOut 53 = .ok (.iconst 2, 1) := by decide +kernel
theorem dX5_sortOut_54 : decode cX5_sortOut 54 = .ok (.iload 5, 2) := by decide +kernel
theorem dX5_sortOut_56 : decode cX5_sortOut 56 = .ok (.imul, 1) := by decide +kernel
theorem dX5_sortOut_57 : decode cX5_sortOut 57 = .ok (.aload_n 1, 1) := by decide +kernel
theorem dX5_sortOut_58 : decode cX5_sortOut 58 = .ok (.getfield 52, 3) := by decide +kernel
theorem dX5_sortOut_61 : decode cX5_sortOut 61 = .ok (.aload_n 2, 1) := by decide +kernel
theorem dX5_sortOut_62 : decode cX5_sortOut 62 = .ok (.iload 6, 2) := by decide +kernel
theorem dX5_sortOut_64 : decode cX5_sortOut 64 = .ok (.invokevirtual 40, 3) := by decide +kernel
theorem dX5_sortOut_67 : decode cX5_sortOut 67 = .ok (.iload 4, 2) := by decide +kernel
theorem dX5_sortOut_69 : decode cX5_sortOut 69 = .ok (.invokevirtual 65, 3) := by decide +kernel
theorem dX5_sortOut_72 : decode cX5_sortOut 72 = .ok (.iadd, 1) := by decide +kernel
theorem dX5_sortOut_73 : decode cX5_sortOut 73 = .ok (.istore 5, 2) := by decide +kernel
theorem dX5_sortOut_75 : decode cX5_sortOut 75 = .ok (.iinc 6 1, 3) := by decide +kernel
theorem dX5_sortOut_78 : decode cX5_sortOut 78 = .ok (.goto (-31), 3) := by decide +kernel
theorem dX5_sortOut_81 : decode cX5_sortOut 81 = .ok (.aload_n 0, 1) := by decide +kernel
theorem dX5_sortOut_82 : decode cX5_sortOut 82 = .ok (.iload 5, 2) := by decide +kernel
theorem dX5_sortOut_84 : decode cX5_sortOut 84 = .ok (.invokevirtual 69, 3) := by decide +kernel
theorem dX5_sortOut_87 : decode cX5_sortOut 87 = .ok (.iinc 4 1, 3) := by decide +kernel
theorem dX5_sortOut_90 : decode cX5_sortOut 90 = .ok (.goto (-77), 3) := by decide +kernel
theorem dX5_sortOut_93 : decode cX5_sortOut 93 = .ok (.return_, 1) := by decide +kernel
theorem dX5_sortIn_0 : decode cX5_sortIn 0 = .ok (.iconst 0, 1) := by decide +kernel
theorem dX5_sortIn_1 : decode cX5_sortIn 1 = .ok (.istore_n 2, 1) := by decide +kernel
theorem dX5_sortIn_2 : decode cX5_sortIn 2 = .ok (.iload_n 2, 1) := by decide +kernel
theorem dX5_sortIn_3 : decode cX5_sortIn 3 = .ok (.aload_n 0, 1) := by decide +kernel
theorem dX5_sortIn_4 : decode cX5_sortIn 4 = .ok (.getfield 20, 3) := by decide +kernel
theorem dX5_sortIn_7 : decode cX5_sortIn 7 = .ok (.if_icmp .ge 19, 3) := by decide +kernel
theorem dX5_sortIn_10 : decode cX5_sortIn 10 = .ok (.aload_n 0, 1) := by decide +kernel
theorem dX5_sortIn_11 : decode cX5_sortIn 11 = .ok (.getfield 11, 3) := by decide +kernel
theorem dX5_sortIn_14 : decode cX5_sortIn 14 = .ok (.iload_n 2, 1) := by decide +kernel
theorem dX5_sortIn_15 : decode cX5_sortIn 15 = .ok (.iaload, 1) := by decide +kernel
theorem dX5_sortIn_16 : decode cX5_sortIn 16 = .ok (.iload_n 1, 1) := by decide +kernel
theorem dX5_sortIn_17 : decode cX5_sortIn 17 = .ok (.if_icmp .eq 9, 3) := by decide +kernel
theorem dX5_sortIn_20 : decode cX5_sortIn 20 = .ok (.iinc 2 1, 3) := by decide +kernel
theorem dX5_sortIn_23 : decode cX5_sortIn 23 = .ok (.goto (-21), 3) := by decide +kernel
theorem dX5_sortIn_26 : decode cX5_sortIn 26 = .ok (.iload_n 2, 1) := by decide +kernel
theorem dX5_sortIn_27 : decode cX5_sortIn 27 = .ok (.aload_n 0, 1) := by decide +kernel
theorem dX5_sortIn_28 : decode cX5_sortIn 28 = .ok (.getfield 20, 3) := by decide +kernel
theorem dX5_sortIn_31 : decode cX5_sortIn 31 = .ok (.if_icmp .ne 39, 3) := by decide +kernel
theorem dX5_sortIn_34 : decode cX5_sortIn 34 = .ok (.aload_n 0, 1) := by decide +kernel
theorem dX5_sortIn_35 : decode cX5_sortIn 35 = .ok (.getfield 20, 3) := by decide +kernel
theorem dX5_sortIn_38 : decode cX5_sortIn 38 = .ok (.aload_n 0, 1) := by decide +kernel
theorem dX5_sortIn_39 : decode cX5_sortIn 39 = .ok (.getfield 11, 3) := by decide +kernel
theorem dX5_sortIn_42 : decode cX5_sortIn 42 = .ok (.arraylength, 1) := by decide +kernel
theorem dX5_sortIn_43 : decode cX5_sortIn 43 = .ok (.if_icmp .ge 27, 3) := by decide +kernel
theorem dX5_sortIn_46 : decode cX5_sortIn 46 = .ok (.aload_n 0, 1) := by decide +kernel
theorem dX5_sortIn_47 : decode cX5_sortIn 47 = .ok (.getfield 11, 3) := by decide +kernel
theorem dX5_sortIn_50 : decode cX5_sortIn 50 = .ok (.iload_n 2, 1) := by decide +kernel
theorem dX5_sortIn_51 : decode cX5_sortIn 51 = .ok (.iload_n 1, 1) := by decide +kernel
theorem dX5_sortIn_52 : decode cX5_sortIn 52 = .ok (.iastore, 1) := by decide +kernel
theorem dX5_sortIn_53 : decode cX5_sortIn 53 = .ok (.aload_n 0, 1) := by decide +kernel
theorem dX5_sortIn_54 : decode cX5_sortIn 54 = .ok (.getfield 17, 3) := by decide +kernel
theorem dX5_sortIn_57 : decode cX5_sortIn 57 = .ok (.iload_n 2, 1) := by decide +kernel
theorem dX5_sortIn_58 : decode cX5_sortIn 58 = .ok (.iconst 0, 1) := by decide +kernel
theorem dX5_sortIn_59 : decode cX5_sortIn 59 = .ok (.iastore, 1) := by decide +kernel
theorem dX5_sortIn_60 : decode cX5_sortIn 60 = .ok (.aload_n 0, 1) := by decide +kernel
theorem dX5_sortIn_61 : decode cX5_sortIn 61 = .ok (.dup, 1) := by decide +kernel
theorem dX5_sortIn_62 : decode cX5_sortIn 62 = .ok (.getfield 20, 3) := by decide +kernel
theorem dX5_sortIn_65 : decode cX5_sortIn 65 = .ok (.iconst 1, 1) := by decide +kernel
theorem dX5_sortIn_66 : decode cX5_sortIn 66 = .ok (.iadd, 1) := by decide +kernel
theorem dX5_sortIn_67 : decode cX5_sortIn 67 = .ok (.putfield 20, 3) := by decide +kernel
theorem dX5_sortIn_70 : decode cX5_sortIn 70 = .ok (.iload_n 2, 1) := by decide +kernel
theorem dX5_sortIn_71 : decode cX5_sortIn 71 = .ok (.aload_n 0, 1) := by decide +kernel
theorem dX5_sortIn_72 : decode cX5_sortIn 72 = .ok (.getfield 20, 3) := by decide +kernel
theorem dX5_sortIn_75 : decode cX5_sortIn 75 = .ok (.if_icmp .ge 30, 3) := by decide +kernel
theorem dX5_sortIn_78 : decode cX5_sortIn 78 = .ok (.aload_n 0, 1) := by decide +kernel
theorem dX5_sortIn_79 : decode cX5_sortIn 79 = .ok (.getfield 17, 3) := by decide +kernel
theorem dX5_sortIn_82 : decode cX5_sortIn 82 = .ok (.iload_n 2, 1) := by decide +kernel
theorem dX5_sortIn_83 : decode cX5_sortIn 83 = .ok (.dup2, 1) := by decide +kernel
theorem dX5_sortIn_84 : decode cX5_sortIn 84 = .ok (.iaload, 1) := by decide +kernel
theorem dX5_sortIn_85 : decode cX5_sortIn 85 = .ok (.iconst 1, 1) := by decide +kernel
theorem dX5_sortIn_86 : decode cX5_sortIn 86 = .ok (.iadd, 1) := by decide +kernel
theorem dX5_sortIn_87 : decode cX5_sortIn 87 = .ok (.iastore, 1) := by decide +kernel
theorem dX5_sortIn_88 : decode cX5_sortIn 88 = .ok (.aload_n 0, 1) := by decide +kernel
theorem dX5_sortIn_89 : decode cX5_sortIn 89 = .ok (.aload_n 0, 1) := by decide +kernel
theorem dX5_sortIn_90 : decode cX5_sortIn 90 = .ok (.getfield 24, 3) := by decide +kernel
theorem dX5_sortIn_93 : decode cX5_sortIn 93 = .ok (.aload_n 0, 1) := by decide +kernel
theorem dX5_sortIn_94 : decode cX5_sortIn 94 = .ok (.getfield 17, 3) := by decide +kernel
theorem dX5_sortIn_97 : decode cX5_sortIn 97 = .ok (.iload_n 2, 1) := by decide +kernel
theorem dX5_sortIn_98 : decode cX5_sortIn 98 = .ok (.iaload, 1) := by decide +kernel
theorem dX5_sortIn_99 : decode cX5_sortIn 99 = .ok (.invokestatic 73, 3) := by decide +kernel
theorem dX5_sortIn_102 : decode cX5_sortIn 102 = .ok (.putfield 24, 3) := by decide +kernel
theorem dX5_sortIn_105 : decode cX5_sortIn 105 = .ok (.return_, 1) := by decide +kernel
theorem dX5_firstWrong_0 : decode cX5_firstWrong 0 = .ok (.aload_n 0, 1) := by decide +kernel
theorem dX5_firstWrong_1 : decode cX5_firstWrong 1 = .ok (.aload_n 1, 1) := by decide +kernel
theorem dX5_firstWrong_2 : decode cX5_firstWrong 2 = .ok (.getfield 59, 3) := by decide +kernel
theorem dX5_firstWrong_5 : decode cX5_firstWrong 5 = .ok (.putfield 27, 3) := by decide +kernel
theorem dX5_firstWrong_8 : decode cX5_firstWrong 8 = .ok (.aload_n 0, 1) := by decide +kernel
theorem dX5_firstWrong_9 : decode cX5_firstWrong 9 = .ok (.aload_n 1, 1) := by decide +kernel
theorem dX5_firstWrong_10 : decode cX5_firstWrong 10 = .ok (.getfield 60, 3) := by decide +kernel
theorem dX5_firstWrong_13 : decode cX5_firstWrong 13 = .ok (.putfield 31, 3) := by decide +kernel
theorem dX5_firstWrong_16 : decode cX5_firstWrong 16 = .ok (.iconst 0, 1) := by decide +kernel
theorem dX5_firstWrong_17 : decode cX5_firstWrong 17 = .ok (.istore 4, 2) := by decide +kernel
theorem dX5_firstWrong_19 : decode cX5_firstWrong 19 = .ok (.iconst 0, 1) := by decide +kernel
theorem dX5_firstWrong_20 : decode cX5_firstWrong 20 = .ok (.istore 5, 2) := by decide +kernel
theorem dX5_firstWrong_22 : decode cX5_firstWrong 22 = .ok (.iload 5, 2) := by decide +kernel
theorem dX5_firstWrong_24 : decode cX5_firstWrong 24 = .ok (.iload_n 3, 1) := by decide +kernel
theorem dX5_firstWrong_25 : decode cX5_firstWrong 25 = .ok (.if_icmp .ge 113, 3) := by decide +kernel
theorem dX5_firstWrong_28 : decode cX5_firstWrong 28 = .ok (.aload_n 2, 1) := by decide +kernel
theorem dX5_firstWrong_29 : decode cX5_firstWrong 29 = .ok (.iload 5, 2) := by decide +kernel
theorem dX5_firstWrong_31 : decode cX5_firstWrong 31 = .ok (.invokevirtual 40, 3) := by decide +kernel
theorem dX5_firstWrong_34 : decode cX5_firstWrong 34 = .ok (.istore 6, 2) := by decide +kernel
theorem dX5_firstWrong_36 : decode cX5_firstWrong 36 = .ok (.iload 5, 2) := by decide +kernel
theorem dX5_firstWrong_38 : decode cX5_firstWrong 38 = .ok (.iconst 1, 1) := by decide +kernel
theorem dX5_firstWrong_39 : decode cX5_firstWrong 39 = .ok (.iand, 1) := by decide +kernel
theorem dX5_firstWrong_40 : decode cX5_firstWrong 40 = .ok (.ifCond .ne 19, 3) := by decide +kernel
theorem dX5_firstWrong_43 : decode cX5_firstWrong 43 = .ok (.iload 6, 2) := by decide +kernel
theorem dX5_firstWrong_45 : decode cX5_firstWrong 45 = .ok (.istore 4, 2) := by decide +kernel
theorem dX5_firstWrong_47 : decode cX5_firstWrong 47 = .ok (.aload_n 1, 1) := by decide +kernel
theorem dX5_firstWrong_48 : decode cX5_firstWrong 48 = .ok (.iload 4, 2) := by decide +kernel
theorem dX5_firstWrong_50 : decode cX5_firstWrong 50 = .ok (.invokevirtual 78, 3) := by decide +kernel
theorem dX5_firstWrong_53 : decode cX5_firstWrong 53 = .ok (.ifCond .ne 79, 3) := by decide +kernel
theorem dX5_firstWrong_56 : decode cX5_firstWrong 56 = .ok (.iload 5, 2) := by decide +kernel
theorem dX5_firstWrong_58 : decode cX5_firstWrong 58 = .ok (.ireturn, 1) := by decide +kernel
theorem dX5_firstWrong_59 : decode cX5_firstWrong 59 = .ok (.iload 6, 2) := by decide +kernel
theorem dX5_firstWrong_61 : decode cX5_firstWrong 61 = .ok (.ifCond .lt 9, 3) := by decide +kernel
theorem dX5_firstWrong_64 : decode cX5_firstWrong 64 = .ok (.iload 6, 2) := by decide +kernel
theorem dX5_firstWrong_66 : decode cX5_firstWrong 66 = .ok (.iconst 1, 1) := by decide +kernel
theorem dX5_firstWrong_67 : decode cX5_firstWrong 67 = .ok (.if_icmp .le 6, 3) := by decide +kernel
theorem dX5_firstWrong_70 : decode cX5_firstWrong 70 = .ok (.iload 5, 2) := by decide +kernel
theorem dX5_firstWrong_72 : decode cX5_firstWrong 72 = .ok (.ireturn, 1) := by decide +kernel
theorem dX5_firstWrong_73 : decode cX5_firstWrong 73 = .ok (.aload_n 0, 1) := by decide +kernel
theorem dX5_firstWrong_74 : decode cX5_firstWrong 74 = .ok (.aload_n 1, 1) := by decide +kernel
theorem dX5_firstWrong_75 : decode cX5_firstWrong 75 = .ok (.getfield 52, 3) := by decide +kernel
theorem dX5_firstWrong_78 : decode cX5_firstWrong 78 = .ok (.iload 4, 2) := by decide +kernel
theorem dX5_firstWrong_80 : decode cX5_firstWrong 80 = .ok (.iload 6, 2) := by decide +kernel
theorem dX5_firstWrong_82 : decode cX5_firstWrong 82 = .ok (.aload_n 0, 1) := by decide +kernel
theorem dX5_firstWrong_83 : decode cX5_firstWrong 83 = .ok (.getfield 27, 3) := by decide +kernel
theorem dX5_firstWrong_86 : decode cX5_firstWrong 86 = .ok (.invokevirtual 81, 3) := by decide +kernel
theorem dX5_firstWrong_89 : decode cX5_firstWrong 89 = .ok (.putfield 27, 3) := by decide +kernel
theorem dX5_firstWrong_92 : decode cX5_firstWrong 92 = .ok (.aload_n 0, 1) := by decide +kernel
theorem dX5_firstWrong_93 : decode cX5_firstWrong 93 = .ok (.aload_n 1, 1) := by decide +kernel
theorem dX5_firstWrong_94 : decode cX5_firstWrong 94 = .ok (.getfield 52, 3) := by decide +kernel
theorem dX5_firstWrong_97 : decode cX5_firstWrong 97 = .ok (.iload 4, 2) := by decide +kernel
theorem dX5_firstWrong_99 : decode cX5_firstWrong 99 = .ok (.iload 6, 2) := by decide +kernel
theorem dX5_firstWrong_101 : decode cX5_firstWrong 101 = .ok (.aload_n 0, 1) := by decide +kernel
theorem dX5_firstWrong_102 : decode cX5_firstWrong 102 = .ok (.getfield 31, 3) := by decide +kernel
theorem dX5_firstWrong_105 : decode cX5_firstWrong 105 = .ok (.invokevirtual 85, 3) := by decide +kernel
theorem dX5_firstWrong_108 : decode cX5_firstWrong 108 = .ok (.putfield 31, 3) := by decide +kernel
theorem dX5_firstWrong_111 : decode cX5_firstWrong 111 = .ok (.aload_n 0, 1) := by decide +kernel
theorem dX5_firstWrong_112 : decode cX5_firstWrong 112 = .ok (.getfield 27, 3) := by decide +kernel
theorem dX5_firstWrong_115 : decode cX5_firstWrong 115 = .ok (.lconst 0, 1) := by decide +kernel
theorem dX5_firstWrong_116 : decode cX5_firstWrong 116 = .ok (.lcmp, 1) := by decide +kernel
theorem dX5_firstWrong_117 : decode cX5_firstWrong 117 = .ok (.ifCond .ne 15, 3) := by decide +kernel
theorem dX5_firstWrong_120 : decode cX5_firstWrong 120 = .ok (.aload_n 0, 1) := by decide +kernel
theorem dX5_firstWrong_121 : decode cX5_firstWrong 121 = .ok (.getfield 31, 3) := by decide +kernel
theorem dX5_firstWrong_124 : decode cX5_firstWrong 124 = .ok (.lconst 0, 1) := by decide +kernel
theorem dX5_firstWrong_125 : decode cX5_firstWrong 125 = .ok (.lcmp, 1) := by decide +kernel
theorem dX5_firstWrong_126 : decode cX5_firstWrong 126 = .ok (.ifCond .ne 6, 3) := by decide +kernel
theorem dX5_firstWrong_129 : decode cX5_firstWrong 129 = .ok (.iload 5, 2) := by decide +kernel
theorem dX5_firstWrong_131 : decode cX5_firstWrong 131 = .ok (.ireturn, 1) := by decide +kernel
theorem dX5_firstWrong_132 : decode cX5_firstWrong 132 = .ok (.iinc 5 1, 3) := by decide +kernel
theorem dX5_firstWrong_135 : decode cX5_firstWrong 135 = .ok (.goto (-113), 3) := by decide +kernel
theorem dX5_firstWrong_138 : decode cX5_firstWrong 138 = .ok (.iconst (-1), 1) := by decide +kernel
theorem dX5_firstWrong_139 : decode cX5_firstWrong 139 = .ok (.ireturn, 1) := by decide +kernel
theorem dX5_likeliestByEar_0 : decode cX5_likeliestByEar 0 = .ok (.aload_n 1, 1) := by decide +kernel
theorem dX5_likeliestByEar_1 : decode cX5_likeliestByEar 1 = .ok (.iconst 3, 1) := by decide +kernel
theorem dX5_likeliestByEar_2 : decode cX5_likeliestByEar 2 = .ok (.invokevirtual 88, 3) := by decide +kernel
theorem dX5_likeliestByEar_5 : decode cX5_likeliestByEar 5 = .ok (.istore 4, 2) := by decide +kernel
theorem dX5_likeliestByEar_7 : decode cX5_likeliestByEar 7 = .ok (.ldc2_w 91, 3) := by decide +kernel
theorem dX5_likeliestByEar_10 : decode cX5_likeliestByEar 10 = .ok (.lstore 5, 2) := by decide +kernel
theorem dX5_likeliestByEar_12 : decode cX5_likeliestByEar 12 = .ok (.iconst (-1), 1) := by decide +kernel
theorem dX5_likeliestByEar_13 : decode cX5_likeliestByEar 13 = .ok (.istore 7, 2) := by decide +kernel
theorem dX5_likeliestByEar_15 : decode cX5_likeliestByEar 15 = .ok (.iconst 0, 1) := by decide +kernel
theorem dX5_likeliestByEar_16 : decode cX5_likeliestByEar 16 = .ok (.istore 8, 2) := by decide +kernel
theorem dX5_likeliestByEar_18 : decode cX5_likeliestByEar 18 = .ok (.iload 8, 2) := by decide +kernel
theorem dX5_likeliestByEar_20 : decode cX5_likeliestByEar 20 = .ok (.aload_n 1, 1) := by decide +kernel
theorem dX5_likeliestByEar_21 : decode cX5_likeliestByEar 21 = .ok (.getfield 52, 3) := by decide +kernel
theorem dX5_likeliestByEar_24 : decode cX5_likeliestByEar 24 = .ok (.getfield 56, 3) := by decide +kernel
theorem dX5_likeliestByEar_27 : decode cX5_likeliestByEar 27 = .ok (.if_icmp .ge 125, 3) := by decide +kernel
theorem dX5_likeliestByEar_30 : decode cX5_likeliestByEar 30 = .ok (.ldc2_w 93, 3) := by decide +kernel
theorem dX5_likeliestByEar_33 : decode cX5_likeliestByEar 33 = .ok (.aload_n 1, 1) := by decide +kernel
theorem dX5_likeliestByEar_34 : decode cX5_likeliestByEar 34 = .ok (.getfield 52, 3) := by decide +kernel
theorem dX5_likeliestByEar_37 : decode cX5_likeliestByEar 37 = .ok (.getfield 95, 3) := by decide +kernel
theorem dX5_likeliestByEar_40 : decode cX5_likeliestByEar 40 = .ok (.iload 8, 2) := by decide +kernel
theorem dX5_likeliestByEar_42 : decode cX5_likeliestByEar 42 = .ok (.iaload, 1) := by decide +kernel
theorem dX5_likeliestByEar_43 : decode cX5_likeliestByEar 43 = .ok (.i2l, 1) := by decide +kernel
theorem dX5_likeliestByEar_44 : decode cX5_likeliestByEar 44 = .ok (.lmul, 1) := by decide +kernel
theorem dX5_likeliestByEar_45 : decode cX5_likeliestByEar 45 = .ok (.lstore 9, 2) := by decide +kernel
theorem dX5_likeliestByEar_47 : decode cX5_likeliestByEar 47 = .ok (.iconst 0, 1) := by decide +kernel
theorem dX5_likeliestByEar_48 : decode cX5_likeliestByEar 48 = .ok (.istore 11, 2) := by decide +kernel
theorem dX5_likeliestByEar_50 : decode cX5_likeliestByEar 50 = .ok (.iload 11, 2) := by decide +kernel
theorem dX5_likeliestByEar_52 : decode cX5_likeliestByEar 52 = .ok (.iconst 1, 1) := by decide +kernel
theorem dX5_likeliestByEar_53 : decode cX5_likeliestByEar 53 = .ok (.iadd, 1) := by decide +kernel
theorem dX5_likeliestByEar_54 : decode cX5_likeliestByEar 54 = .ok (.iload_n 3, 1) := by decide +kernel
theorem dX5_likeliestByEar_55 : decode cX5_likeliestByEar 55 = .ok (.if_icmp .ge 67, 3) := by decide +kernel
theorem dX5_likeliestByEar_58 : decode cX5_likeliestByEar 58 = .ok (.aload_n 1, 1) := by decide +kernel
theorem dX5_likeliestByEar_59 : decode cX5_likeliestByEar 59 = .ok (.getfield 52, 3) := by decide +kernel
theorem dX5_likeliestByEar_62 : decode cX5_likeliestByEar 62 = .ok (.aload_n 2, 1) := by decide +kernel
theorem dX5_likeliestByEar_63 : decode cX5_likeliestByEar 63 = .ok (.iload 11, 2) := by decide +kernel
theorem dX5_likeliestByEar_65 : decode cX5_likeliestByEar 65 = .ok (.invokevirtual 40, 3) := by decide +kernel
theorem dX5_likeliestByEar_68 : decode cX5_likeliestByEar 68 = .ok (.iload 8, 2) := by decide +kernel
theorem dX5_likeliestByEar_70 : decode cX5_likeliestByEar 70 = .ok (.invokevirtual 65, 3) := by decide +kernel
theorem dX5_likeliestByEar_73 : decode cX5_likeliestByEar 73 = .ok (.aload_n 2, 1) := by decide +kernel
theorem dX5_likeliestByEar_74 : decode cX5_likeliestByEar 74 = .ok (.iload 11, 2) := by decide +kernel
theorem dX5_likeliestByEar_76 : decode cX5_likeliestByEar 76 = .ok (.iconst 1, 1) := by decide +kernel
theorem dX5_likeliestByEar_77 : decode cX5_likeliestByEar 77 = .ok (.iadd, 1) := by decide +kernel
theorem dX5_likeliestByEar_78 : decode cX5_likeliestByEar 78 = .ok (.invokevirtual 40, 3) := by decide +kernel
theorem dX5_likeliestByEar_81 : decode cX5_likeliestByEar 81 = .ok (.if_icmp .ne 7, 3) := by decide +kernel
theorem dX5_likeliestByEar_84 : decode cX5_likeliestByEar 84 = .ok (.iconst 1, 1) := by decide +kernel
theorem dX5_likeliestByEar_85 : decode cX5_likeliestByEar 85 = .ok (.goto 4, 3) := by decide +kernel
theorem dX5_likeliestByEar_88 : decode cX5_likeliestByEar 88 = .ok (.iconst 0, 1) := by decide +kernel
theorem dX5_likeliestByEar_89 : decode cX5_likeliestByEar 89 = .ok (.istore 12, 2) := by decide +kernel
theorem dX5_likeliestByEar_91 : decode cX5_likeliestByEar 91 = .ok (.lload 9, 2) := by decide +kernel
theorem dX5_likeliestByEar_93 : decode cX5_likeliestByEar 93 = .ok (.iload 12, 2) := by decide +kernel
theorem dX5_likeliestByEar_95 : decode cX5_likeliestByEar 95 = .ok (.ifCond .eq 11, 3) := by decide +kernel
theorem dX5_likeliestByEar_98 : decode cX5_likeliestByEar 98 = .ok (.bipush 100, 2) := by decide +kernel
theorem dX5_likeliestByEar_100 : decode cX5_likeliestByEar 100 = .ok (.iload 4, 2) := by decide +kernel
theorem dX5_likeliestByEar_102 : decode cX5_likeliestByEar 102 = .ok (.isub, 1) := by decide +kernel
theorem dX5_likeliestByEar_103 : decode cX5_likeliestByEar 103 = .ok (.goto 5, 3) := by decide +kernel
theorem dX5_likeliestByEar_106 : decode cX5_likeliestByEar 106 = .ok (.iload 4, 2) := by decide +kernel
theorem dX5_likeliestByEar_108 : decode cX5_likeliestByEar 108 = .ok (.i2l, 1) := by decide +kernel
theorem dX5_likeliestByEar_109 : decode cX5_likeliestByEar 109 = .ok (.lmul, 1) := by decide +kernel
theorem dX5_likeliestByEar_110 : decode cX5_likeliestByEar 110 = .ok (.ldc2_w 98, 3) := by decide +kernel
theorem dX5_likeliestByEar_113 : decode cX5_likeliestByEar 113 = .ok (.ldiv, 1) := by decide +kernel
theorem dX5_likeliestByEar_114 : decode cX5_likeliestByEar 114 = .ok (.lstore 9, 2) := by decide +kernel
theorem dX5_likeliestByEar_116 : decode cX5_likeliestByEar 116 = .ok (.iinc 11 2, 3) := by decide +kernel
theorem dX5_likeliestByEar_119 : decode cX5_likeliestByEar 119 = .ok (.goto (-69), 3) := by decide +kernel
theorem dX5_likeliestByEar_122 : decode cX5_likeliestByEar 122 = .ok (.lload 9, 2) := by decide +kernel
theorem dX5_likeliestByEar_124 : decode cX5_likeliestByEar 124 = .ok (.lload 5, 2) := by decide +kernel
theorem dX5_likeliestByEar_126 : decode cX5_likeliestByEar 126 = .ok (.lcmp, 1) := by decide +kernel
theorem dX5_likeliestByEar_127 : decode cX5_likeliestByEar 127 = .ok (.ifCond .le 19, 3) := by decide +kernel
theorem dX5_likeliestByEar_130 : decode cX5_likeliestByEar 130 = .ok (.lload 9, 2) := by decide +kernel
theorem dX5_likeliestByEar_132 : decode cX5_likeliestByEar 132 = .ok (.lstore 5, 2) := by decide +kernel
theorem dX5_likeliestByEar_134 : decode cX5_likeliestByEar 134 = .ok (.aload_n 1, 1) := by decide +kernel
theorem dX5_likeliestByEar_135 : decode cX5_likeliestByEar 135 = .ok (.getfield 52, 3) := by decide +kernel
theorem dX5_likeliestByEar_138 : decode cX5_likeliestByEar 138 = .ok (.getfield 100, 3) := by decide +kernel
theorem dX5_likeliestByEar_141 : decode cX5_likeliestByEar 141 = .ok (.iload 8, 2) := by decide +kernel
theorem dX5_likeliestByEar_143 : decode cX5_likeliestByEar 143 = .ok (.iaload, 1) := by decide +kernel
theorem dX5_likeliestByEar_144 : decode cX5_likeliestByEar 144 = .ok (.istore 7, 2) := by decide +kernel
theorem dX5_likeliestByEar_146 : decode cX5_likeliestByEar 146 = .ok (.iinc 8 1, 3) := by decide +kernel
theorem dX5_likeliestByEar_149 : decode cX5_likeliestByEar 149 = .ok (.goto (-131), 3) := by decide +kernel
theorem dX5_likeliestByEar_152 : decode cX5_likeliestByEar 152 = .ok (.iload 7, 2) := by decide +kernel
theorem dX5_likeliestByEar_154 : decode cX5_likeliestByEar 154 = .ok (.ireturn, 1) := by decide +kernel
theorem dX6_init_0 : decode cX6_init 0 = .ok (.aload_n 0, 1) := by decide +kernel
theorem dX6_init_1 : decode cX6_init 1 = .ok (.invokespecial 3, 3) := by decide +kernel
theorem dX6_init_4 : decode cX6_init 4 = .ok (.aload_n 0, 1) := by decide +kernel
theorem dX6_init_5 : decode cX6_init 5 = .ok (.bipush 20, 2) := by decide +kernel
theorem dX6_init_7 : decode cX6_init 7 = .ok (.newarray .int, 2) := by decide +kernel
theorem dX6_init_9 : decode cX6_init 9 = .ok (.putfield 11, 3) := by decide +kernel
theorem dX6_init_12 : decode cX6_init 12 = .ok (.aload_n 0, 1) := by decide +kernel
theorem dX6_init_13 : decode cX6_init 13 = .ok (.iconst 0, 1) := by decide +kernel
theorem dX6_init_14 : decode cX6_init 14 = .ok (.putfield 15, 3) := by decide +kernel
theorem dX6_init_17 : decode cX6_init 17 = .ok (.aload_n 0, 1) := by decide +kernel
theorem dX6_init_18 : decode cX6_init 18 = .ok (.iconst 0, 1) := by decide +kernel
theorem dX6_init_19 : decode cX6_init 19 = .ok (.putfield 19, 3) := by decide +kernel
theorem dX6_init_22 : decode cX6_init 22 = .ok (.aload_n 0, 1) := by decide +kernel
theorem dX6_init_23 : decode cX6_init 23 = .ok (.iconst 0, 1) := by decide +kernel
theorem dX6_init_24 : decode cX6_init 24 = .ok (.putfield 22, 3) := by decide +kernel
theorem dX6_init_27 : decode cX6_init 27 = .ok (.aload_n 0, 1) := by decide +kernel
theorem dX6_init_28 : decode cX6_init 28 = .ok (.iconst 0, 1) := by decide +kernel
theorem dX6_init_29 : decode cX6_init 29 = .ok (.putfield 25, 3) := by decide +kernel
theorem dX6_init_32 : decode cX6_init 32 = .ok (.return_, 1) := by decide +kernel
theorem dX6_silence_0 : decode cX6_silence 0 = .ok (.aload_n 0, 1) := by decide +kernel
theorem dX6_silence_1 : decode cX6_silence 1 = .ok (.iconst 0, 1) := by decide +kernel
theorem dX6_silence_2 : decode cX6_silence 2 = .ok (.putfield 15, 3) := by decide +kernel
theorem dX6_silence_5 : decode cX6_silence 5 = .ok (.return_, 1) := by decide +kernel
theorem dX6_traced_0 : decode cX6_traced 0 = .ok (.iload_n 1, 1) := by decide +kernel
theorem dX6_traced_1 : decode cX6_traced 1 = .ok (.ifCond .lt 26, 3) := by decide +kernel
theorem dX6_traced_4 : decode cX6_traced 4 = .ok (.iload_n 1, 1) := by decide +kernel
theorem dX6_traced_5 : decode cX6_traced 5 = .ok (.bipush 20, 2) := by decide +kernel
theorem dX6_traced_7 : decode cX6_traced 7 = .ok (.if_icmp .ge 20, 3) := by decide +kernel
theorem dX6_traced_10 : decode cX6_traced 10 = .ok (.iload_n 1, 1) := by decide +kernel
theorem dX6_traced_11 : decode cX6_traced 11 = .ok (.aload_n 0, 1) := by decide +kernel
theorem dX6_traced_12 : decode cX6_traced 12 = .ok (.getfield 15, 3) := by decide +kernel
theorem dX6_traced_15 : decode cX6_traced 15 = .ok (.if_icmp .ge 12, 3) := by decide +kernel
theorem dX6_traced_18 : decode cX6_traced 18 = .ok (.aload_n 0, 1) := by decide +kernel
theorem dX6_traced_19 : decode cX6_traced 19 = .ok (.getfield 11, 3) := by decide +kernel
theorem dX6_traced_22 : decode cX6_traced 22 = .ok (.iload_n 1, 1) := by decide +kernel
theorem dX6_traced_23 : decode cX6_traced 23 = .ok (.iaload, 1) := by decide +kernel
theorem dX6_traced_24 : decode cX6_traced 24 = .ok (.goto 4, 3) := by decide +kernel
theorem dX6_traced_27 : decode cX6_traced 27 = .ok (.iconst (-1), 1) := by decide +kernel
theorem dX6_traced_28 : decode cX6_traced 28 = .ok (.ireturn, 1) := by decide +kernel
theorem dX6_perform_0 : decode cX6_perform 0 = .ok (.aload_n 1, 1) := by decide +kernel
theorem dX6_perform_1 : decode cX6_perform 1 = .ok (.iload_n 2, 1) := by decide +kernel
theorem dX6_perform_2 : decode cX6_perform 2 = .ok (.invokevirtual 28, 3) := by decide +kernel
theorem dX6_perform_5 : decode cX6_perform 5 = .ok (.ifCond .ne 5, 3) := by decide +kernel
theorem dX6_perform_8 : decode cX6_perform 8 = .ok (.iconst 0, 1) := by decide +kernel
theorem dX6_perform_9 : decode cX6_perform 9 = .ok (.ireturn, 1) := by decide +kernel
theorem dX6_perform_10 : decode cX6_perform 10 = .ok (.aload_n 0, 1) := by decide +kernel
theorem dX6_perform_11 : decode cX6_perform 11 = .ok (.aload_n 1, 1) := by decide +kernel
theorem dX6_perform_12 : decode cX6_perform 12 = .ok (.getfield 34, 3) := by decide +kernel
theorem dX6_perform_15 : decode cX6_perform 15 = .ok (.iload_n 2, 1) := by decide +kernel
theorem dX6_perform_16 : decode cX6_perform 16 = .ok (.iaload, 1) := by decide +kernel
theorem dX6_perform_17 : decode cX6_perform 17 = .ok (.putfield 19, 3) := by decide +kernel
theorem dX6_perform_20 : decode cX6_perform 20 = .ok (.aload_n 0, 1) := by decide +kernel
theorem dX6_perform_21 : decode cX6_perform 21 = .ok (.iload_n 2, 1) := by decide +kernel
theorem dX6_perform_22 : decode cX6_perform 22 = .ok (.putfield 22, 3) := by decide +kernel
theorem dX6_perform_25 : decode cX6_perform 25 = .ok (.aload_n 0, 1) := by decide +kernel
theorem dX6_perform_26 : decode cX6_perform 26 = .ok (.aload_n 1, 1) := by decide +kernel
theorem dX6_perform_27 : decode cX6_perform 27 = .ok (.getfield 37, 3) := by decide +kernel
theorem dX6_perform_30 : decode cX6_perform 30 = .ok (.iload_n 2, 1) := by decide +kernel
theorem dX6_perform_31 : decode cX6_perform 31 = .ok (.iaload, 1) := by decide +kernel
theorem dX6_perform_32 : decode cX6_perform 32 = .ok (.putfield 25, 3) := by decide +kernel
theorem dX6_perform_35 : decode cX6_perform 35 = .ok (.aload_n 0, 1) := by decide +kernel
theorem dX6_perform_36 : decode cX6_perform 36 = .ok (.aload_n 0, 1) := by decide +kernel
theorem dX6_perform_37 : decode cX6_perform 37 = .ok (.getfield 19, 3) := by decide +kernel
theorem dX6_perform_40 : decode cX6_perform 40 = .ok (.iload_n 3, 1) := by decide +kernel
theorem dX6_perform_41 : decode cX6_perform 41 = .ok (.iload 4, 2) := by decide +kernel
theorem dX6_perform_43 : decode cX6_perform 43 = .ok (.iconst 0, 1) := by decide +kernel
theorem dX6_perform_44 : decode cX6_perform 44 = .ok (.invokestatic 40, 3) := by decide +kernel
theorem dX6_perform_47 : decode cX6_perform 47 = .ok (.ireturn, 1) := by decide +kernel
theorem dX6_note_0 : decode cX6_note 0 = .ok (.aload_n 0, 1) := by decide +kernel
theorem dX6_note_1 : decode cX6_note 1 = .ok (.getfield 15, 3) := by decide +kernel
theorem dX6_note_4 : decode cX6_note 4 = .ok (.bipush 20, 2) := by decide +kernel
theorem dX6_note_6 : decode cX6_note 6 = .ok (.if_icmp .ge 13, 3) := by decide +kernel
theorem dX6_note_9 : decode cX6_note 9 = .ok (.aload_n 0, 1) := by decide +kernel
theorem dX6_note_10 : decode cX6_note 10 = .ok (.getfield 11, 3) := by decide +kernel
theorem dX6_note_13 : decode cX6_note 13 = .ok (.aload_n 0, 1) := by decide +kernel
theorem dX6_note_14 : decode cX6_note 14 = .ok (.getfield 15, 3) := by decide +kernel
theorem dX6_note_17 : decode cX6_note 17 = .ok (.iload_n 1, 1) := by decide +kernel
theorem dX6_note_18 : decode cX6_note 18 = .ok (.iastore, 1) := by decide +kernel
theorem dX6_note_19 : decode cX6_note 19 = .ok (.aload_n 0, 1) := by decide +kernel
theorem dX6_note_20 : decode cX6_note 20 = .ok (.dup, 1) := by decide +kernel
theorem dX6_note_21 : decode cX6_note 21 = .ok (.getfield 15, 3) := by decide +kernel
theorem dX6_note_24 : decode cX6_note 24 = .ok (.iconst 1, 1) := by decide +kernel
theorem dX6_note_25 : decode cX6_note 25 = .ok (.iadd, 1) := by decide +kernel
theorem dX6_note_26 : decode cX6_note 26 = .ok (.putfield 15, 3) := by decide +kernel
theorem dX6_note_29 : decode cX6_note 29 = .ok (.return_, 1) := by decide +kernel
theorem dX6_owner_0 : decode cX6_owner 0 = .ok (.iload_n 0, 1) := by decide +kernel
theorem dX6_owner_1 : decode cX6_owner 1 = .ok (.istore_n 2, 1) := by decide +kernel
theorem dX6_owner_2 : decode cX6_owner 2 = .ok (.iconst 0, 1) := by decide +kernel
theorem dX6_owner_3 : decode cX6_owner 3 = .ok (.istore_n 3, 1) := by decide +kernel
theorem dX6_owner_4 : decode cX6_owner 4 = .ok (.iload_n 3, 1) := by decide +kernel
theorem dX6_owner_5 : decode cX6_owner 5 = .ok (.getstatic 44, 3) := by decide +kernel
theorem dX6_owner_8 : decode cX6_owner 8 = .ok (.arraylength, 1) := by decide +kernel
theorem dX6_owner_9 : decode cX6_owner 9 = .ok (.if_icmp .ge 36, 3) := by decide +kernel
theorem dX6_owner_12 : decode cX6_owner 12 = .ok (.iload_n 2, 1) := by decide +kernel
theorem dX6_owner_13 : decode cX6_owner 13 = .ok (.invokestatic 47, 3) := by decide +kernel
theorem dX6_owner_16 : decode cX6_owner 16 = .ok (.ifCond .eq 29, 3) := by decide +kernel
theorem dX6_owner_19 : decode cX6_owner 19 = .ok (.getstatic 50, 3) := by decide +kernel
theorem dX6_owner_22 : decode cX6_owner 22 = .ok (.iconst 3, 1) := by decide +kernel
theorem dX6_owner_23 : decode cX6_owner 23 = .ok (.iload_n 2, 1) := by decide +kernel
theorem dX6_owner_24 : decode cX6_owner 24 = .ok (.imul, 1) := by decide +kernel
theorem dX6_owner_25 : decode cX6_owner 25 = .ok (.iload_n 1, 1) := by decide +kernel
theorem dX6_owner_26 : decode cX6_owner 26 = .ok (.iadd, 1) := by decide +kernel
theorem dX6_owner_27 : decode cX6_owner 27 = .ok (.iaload, 1) := by decide +kernel
theorem dX6_owner_28 : decode cX6_owner 28 = .ok (.ifCond .eq 5, 3) := by decide +kernel
theorem dX6_owner_31 : decode cX6_owner 31 = .ok (.iload_n 2, 1) := by decide +kernel
theorem dX6_owner_32 : decode cX6_owner 32 = .ok (.ireturn, 1) := by decide +kernel
theorem dX6_owner_33 : decode cX6_owner 33 = .ok (.getstatic 44, 3) := by decide +kernel
theorem dX6_owner_36 : decode cX6_owner 36 = .ok (.iload_n 2, 1) := by decide +kernel
theorem dX6_owner_37 : decode cX6_owner 37 = .ok (.iaload, 1) := by decide +kernel
theorem dX6_owner_38 : decode cX6_owner 38 = .ok (.istore_n 2, 1) := by decide +kernel
theorem dX6_owner_39 : decode cX6_owner 39 = .ok (.iinc 3 1, 3) := by decide +kernel
theorem dX6_owner_42 : decode cX6_owner 42 = .ok (.goto (-38), 3) := by decide +kernel
theorem dX6_owner_45 : decode cX6_owner 45 = .ok (.iconst (-1), 1) := by decide +kernel
theorem dX6_owner_46 : decode cX6_owner 46 = .ok (.ireturn, 1) := by decide +kernel
theorem dX6_run_0 : decode cX6_run 0 = .ok (.iload_n 1, 1) := by decide +kernel
theorem dX6_run_1 : decode cX6_run 1 = .ok (.iload_n 2, 1) := by decide +kernel
theorem dX6_run_2 : decode cX6_run 2 = .ok (.invokestatic 53, 3) := by decide +kernel
theorem dX6_run_5 : decode cX6_run 5 = .ok (.istore 5, 2) := by decide +kernel
theorem dX6_run_7 : decode cX6_run 7 = .ok (.iload 5, 2) := by decide +kernel
theorem dX6_run_9 : decode cX6_run 9 = .ok (.iconst (-1), 1) := by decide +kernel
theorem dX6_run_10 : decode cX6_run 10 = .ok (.if_icmp .eq 10, 3) := by decide +kernel
theorem dX6_run_13 : decode cX6_run 13 = .ok (.iload 4, 2) := by decide +kernel
theorem dX6_run_15 : decode cX6_run 15 = .ok (.bipush 20, 2) := by decide +kernel
theorem dX6_run_17 : decode cX6_run 17 = .ok (.if_icmp .lt 5, 3) := by decide +kernel
theorem dX6_run_20 : decode cX6_run 20 = .ok (.iconst 0, 1) := by decide +kernel
theorem dX6_run_21 : decode cX6_run 21 = .ok (.ireturn, 1) := by decide +kernel
theorem dX6_run_22 : decode cX6_run 22 = .ok (.getstatic 50, 3) := by decide +kernel
theorem dX6_run_25 : decode cX6_run 25 = .ok (.iconst 3, 1) := by decide +kernel
theorem dX6_run_26 : decode cX6_run 26 = .ok (.iload 5, 2) := by decide +kernel
theorem dX6_run_28 : decode cX6_run 28 = .ok (.imul, 1) := by decide +kernel
theorem dX6_run_29 : decode cX6_run 29 = .ok (.iload_n 2, 1) := by decide +kernel
theorem dX6_run_30 : decode cX6_run 30 = .ok (.iadd, 1) := by decide +kernel
theorem dX6_run_31 : decode cX6_run 31 = .ok (.iaload, 1) := by decide +kernel
theorem dX6_run_32 : decode cX6_run 32 = .ok (.istore 6, 2) := by decide +kernel
theorem dX6_run_34 : decode cX6_run 34 = .ok (.getstatic 44, 3) := by decide +kernel
theorem dX6_run_37 : decode cX6_run 37 = .ok (.iload 5, 2) := by decide +kernel
theorem dX6_run_39 : decode cX6_run 39 = .ok (.iaload, 1) := by decide +kernel
theorem dX6_run_40 : decode cX6_run 40 = .ok (.istore 7, 2) := by decide +kernel
theorem dX6_run_42 : decode cX6_run 42 = .ok (.iload 4, 2) := by decide +kernel
theorem dX6_run_44 : decode cX6_run 44 = .ok (.iconst 1, 1) := by decide +kernel
theorem dX6_run_45 : decode cX6_run 45 = .ok (.iadd, 1) := by decide +kernel
theorem dX6_run_46 : decode cX6_run 46 = .ok (.istore 8, 2) := by decide +kernel
theorem dX6_run_48 : decode cX6_run 48 = .ok (.aload_n 0, 1) := by decide +kernel
theorem dX6_run_49 : decode cX6_run 49 = .ok (.iload 6, 2) := by decide +kernel
theorem dX6_run_51 : decode cX6_run 51 = .ok (.invokevirtual 57, 3) := by decide +kernel
theorem dX6_run_54 : decode cX6_run 54 = .ok (.iload 6, 2) := by decide +kernel
theorem dX6_run_56 : decode cX6_run 56 = .ok (.lookupswitch 241 #[(10, 92), (11, 99), (12, 114), (20, 145), (30, 161), (40, 174), (50, 187), (51, 199), (60, 215), (70, 228)], 92) := by decide +kernel
theorem dX6_run_148 : decode cX6_run 148 = .ok (.iload_n 3, 1) := by decide +kernel
theorem dX6_run_149 : decode cX6_run 149 = .ok (.aload_n 0, 1) := by decide +kernel
theorem dX6_run_150 : decode cX6_run 150 = .ok (.getfield 22, 3) := by decide +kernel
theorem dX6_run_153 : decode cX6_run 153 = .ok (.iadd, 1) := by decide +kernel
theorem dX6_run_154 : decode cX6_run 154 = .ok (.ireturn, 1) := by decide +kernel
theorem dX6_run_155 : decode cX6_run 155 = .ok (.aload_n 0, 1) := by decide +kernel
theorem dX6_run_156 : decode cX6_run 156 = .ok (.aload_n 0, 1) := by decide +kernel
theorem dX6_run_157 : decode cX6_run 157 = .ok (.getfield 19, 3) := by decide +kernel
theorem dX6_run_160 : decode cX6_run 160 = .ok (.iconst 0, 1) := by decide +kernel
theorem dX6_run_161 : decode cX6_run 161 = .ok (.iload_n 3, 1) := by decide +kernel
theorem dX6_run_162 : decode cX6_run 162 = .ok (.iload 8, 2) := by decide +kernel
theorem dX6_run_164 : decode cX6_run 164 = .ok (.invokestatic 40, 3) := by decide +kernel
theorem dX6_run_167 : decode cX6_run 167 = .ok (.iconst 2, 1) := by decide +kernel
theorem dX6_run_168 : decode cX6_run 168 = .ok (.imul, 1) := by decide +kernel
theorem dX6_run_169 : decode cX6_run 169 = .ok (.ireturn, 1) := by decide +kernel
theorem dX6_run_170 : decode cX6_run 170 = .ok (.aload_n 0, 1) := by decide +kernel
theorem dX6_run_171 : decode cX6_run 171 = .ok (.aload_n 0, 1) := by decide +kernel
theorem dX6_run_172 : decode cX6_run 172 = .ok (.getfield 19, 3) := by decide +kernel
theorem dX6_run_175 : decode cX6_run 175 = .ok (.iconst 1, 1) := by decide +kernel
theorem dX6_run_176 : decode cX6_run 176 = .ok (.iload_n 3, 1) := by decide +kernel
theorem dX6_run_177 : decode cX6_run 177 = .ok (.iload 8, 2) := by decide +kernel
theorem dX6_run_179 : decode cX6_run 179 = .ok (.invokestatic 40, 3) := by decide +kernel
theorem dX6_run_182 : decode cX6_run 182 = .ok (.aload_n 0, 1) := by decide +kernel
theorem dX6_run_183 : decode cX6_run 183 = .ok (.aload_n 0, 1) := by decide +kernel
theorem dX6_run_184 : decode cX6_run 184 = .ok (.getfield 19, 3) := by decide +kernel
theorem dX6_run_187 : decode cX6_run 187 = .ok (.iconst 0, 1) := by decide +kernel
theorem dX6_run_188 : decode cX6_run 188 = .ok (.iload_n 3, 1) := by decide +kernel
theorem dX6_run_189 : decode cX6_run 189 = .ok (.aload_n 0, 1) := by decide +kernel
theorem dX6_run_190 : decode cX6_run 190 = .ok (.getfield 25, 3) := by decide +kernel
theorem dX6_run_193 : decode cX6_run 193 = .ok (.isub, 1) := by decide +kernel
theorem dX6_run_194 : decode cX6_run 194 = .ok (.iload 8, 2) := by decide +kernel
theorem dX6_run_196 : decode cX6_run 196 = .ok (.invokestatic 40, 3) := by decide +kernel
theorem dX6_run_199 : decode cX6_run 199 = .ok (.ixor, 1) := by decide +kernel
theorem dX6_run_200 : decode cX6_run 200 = .ok (.ireturn, 1) := by decide +kernel
theorem dX6_run_201 : decode cX6_run 201 = .ok (.aload_n 0, 1) := by decide +kernel
theorem dX6_run_202 : decode cX6_run 202 = .ok (.iload 7, 2) := by decide +kernel
theorem dX6_run_204 : decode cX6_run 204 = .ok (.iconst 0, 1) := by decide +kernel
theorem dX6_run_205 : decode cX6_run 205 = .ok (.iload_n 3, 1) := by decide +kernel
theorem dX6_run_206 : decode cX6_run 206 = .ok (.iload 8, 2) := by decide +kernel
theorem dX6_run_208 : decode cX6_run 208 = .ok (.invokestatic 40, 3) := by decide +kernel
theorem dX6_run_211 : decode cX6_run 211 = .ok (.aload_n 0, 1) := by decide +kernel
theorem dX6_run_212 : decode cX6_run 212 = .ok (.getfield 25, 3) := by decide +kernel
theorem dX6_run_215 : decode cX6_run 215 = .ok (.iadd, 1) := by decide +kernel
theorem dX6_run_216 : decode cX6_run 216 = .ok (.ireturn, 1) := by decide +kernel
theorem dX6_run_217 : decode cX6_run 217 = .ok (.aload_n 0, 1) := by decide +kernel
theorem dX6_run_218 : decode cX6_run 218 = .ok (.iload 7, 2) := by decide +kernel
theorem dX6_run_220 : decode cX6_run 220 = .ok (.iconst 1, 1) := by decide +kernel
theorem dX6_run_221 : decode cX6_run 221 = .ok (.iload_n 3, 1) := by decide +kernel
theorem dX6_run_222 : decode cX6_run 222 = .ok (.iload 8, 2) := by decide +kernel
theorem dX6_run_224 : decode cX6_run 224 = .ok (.invokestatic 40, 3) := by decide +kernel
theorem dX6_run_227 : decode cX6_run 227 = .ok (.iconst 3, 1) := by decide +kernel
theorem dX6_run_228 : decode cX6_run 228 = .ok (.imul, 1) := by decide +kernel
theorem dX6_run_229 : decode cX6_run 229 = .ok (.ireturn, 1) := by decide +kernel
theorem dX6_run_230 : decode cX6_run 230 = .ok (.aload_n 0, 1) := by decide +kernel
theorem dX6_run_231 : decode cX6_run 231 = .ok (.iload 7, 2) := by decide +kernel
theorem dX6_run_233 : decode cX6_run 233 = .ok (.iconst 1, 1) := by decide +kernel
theorem dX6_run_234 : decode cX6_run 234 = .ok (.iload_n 3, 1) := by decide +kernel
theorem dX6_run_235 : decode cX6_run 235 = .ok (.iconst 1, 1) := by decide +kernel
theorem dX6_run_236 : decode cX6_run 236 = .ok (.iadd, 1) := by decide +kernel
theorem dX6_run_237 : decode cX6_run 237 = .ok (.iload 8, 2) := by decide +kernel
theorem dX6_run_239 : decode cX6_run 239 = .ok (.invokestatic 40, 3) := by decide +kernel
theorem dX6_run_242 : decode cX6_run 242 = .ok (.ireturn, 1) := by decide +kernel
theorem dX6_run_243 : decode cX6_run 243 = .ok (.aload_n 0, 1) := by decide +kernel
theorem dX6_run_244 : decode cX6_run 244 = .ok (.iload 7, 2) := by decide +kernel
theorem dX6_run_246 : decode cX6_run 246 = .ok (.iconst 2, 1) := by decide +kernel
theorem dX6_run_247 : decode cX6_run 247 = .ok (.iload_n 3, 1) := by decide +kernel
theorem dX6_run_248 : decode cX6_run 248 = .ok (.iload 8, 2) := by decide +kernel
theorem dX6_run_250 : decode cX6_run 250 = .ok (.invokestatic 40, 3) := by decide +kernel
theorem dX6_run_253 : decode cX6_run 253 = .ok (.ineg, 1) := by decide +kernel
theorem dX6_run_254 : decode cX6_run 254 = .ok (.ireturn, 1) := by decide +kernel
theorem dX6_run_255 : decode cX6_run 255 = .ok (.aload_n 0, 1) := by decide +kernel
theorem dX6_run_256 : decode cX6_run 256 = .ok (.iload 7, 2) := by decide +kernel
theorem dX6_run_258 : decode cX6_run 258 = .ok (.iconst 0, 1) := by decide +kernel
theorem dX6_run_259 : decode cX6_run 259 = .ok (.iload_n 3, 1) := by decide +kernel
theorem dX6_run_260 : decode cX6_run 260 = .ok (.iload 8, 2) := by decide +kernel
theorem dX6_run_262 : decode cX6_run 262 = .ok (.invokestatic 40, 3) := by decide +kernel
theorem dX6_run_265 : decode cX6_run 265 = .ok (.aload_n 0, 1) := by decide +kernel
theorem dX6_run_266 : decode cX6_run 266 = .ok (.getfield 22, 3) := by decide +kernel
theorem dX6_run_269 : decode cX6_run 269 = .ok (.isub, 1) := by decide +kernel
theorem dX6_run_270 : decode cX6_run 270 = .ok (.ireturn, 1) := by decide +kernel
theorem dX6_run_271 : decode cX6_run 271 = .ok (.aload_n 0, 1) := by decide +kernel
theorem dX6_run_272 : decode cX6_run 272 = .ok (.iload 7, 2) := by decide +kernel
theorem dX6_run_274 : decode cX6_run 274 = .ok (.iconst 2, 1) := by decide +kernel
theorem dX6_run_275 : decode cX6_run 275 = .ok (.iload_n 3, 1) := by decide +kernel
theorem dX6_run_276 : decode cX6_run 276 = .ok (.iload 8, 2) := by decide +kernel
theorem dX6_run_278 : decode cX6_run 278 = .ok (.invokestatic 40, 3) := by decide +kernel
theorem dX6_run_281 : decode cX6_run 281 = .ok (.iconst 5, 1) := by decide +kernel
theorem dX6_run_282 : decode cX6_run 282 = .ok (.ixor, 1) := by decide +kernel
theorem dX6_run_283 : decode cX6_run 283 = .ok (.ireturn, 1) := by decide +kernel
theorem dX6_run_284 : decode cX6_run 284 = .ok (.aload_n 0, 1) := by decide +kernel
theorem dX6_run_285 : decode cX6_run 285 = .ok (.iload 7, 2) := by decide +kernel
theorem dX6_run_287 : decode cX6_run 287 = .ok (.iconst 0, 1) := by decide +kernel
theorem dX6_run_288 : decode cX6_run 288 = .ok (.iload_n 3, 1) := by decide +kernel
theorem dX6_run_289 : decode cX6_run 289 = .ok (.iload 8, 2) := by decide +kernel
theorem dX6_run_291 : decode cX6_run 291 = .ok (.invokestatic 40, 3) := by decide +kernel
theorem dX6_run_294 : decode cX6_run 294 = .ok (.iconst 2, 1) := by decide +kernel
theorem dX6_run_295 : decode cX6_run 295 = .ok (.imul, 1) := by decide +kernel
theorem dX6_run_296 : decode cX6_run 296 = .ok (.ireturn, 1) := by decide +kernel
theorem dX6_run_297 : decode cX6_run 297 = .ok (.aload_n 0, 1) := by decide +kernel
theorem dX6_run_298 : decode cX6_run 298 = .ok (.iload 7, 2) := by decide +kernel
theorem dX6_run_300 : decode cX6_run 300 = .ok (.iconst 1, 1) := by decide +kernel
theorem dX6_run_301 : decode cX6_run 301 = .ok (.iload_n 3, 1) := by decide +kernel
theorem dX6_run_302 : decode cX6_run 302 = .ok (.aload_n 0, 1) := by decide +kernel
theorem dX6_run_303 : decode cX6_run 303 = .ok (.getfield 25, 3) := by decide +kernel
theorem dX6_run_306 : decode cX6_run 306 = .ok (.isub, 1) := by decide +kernel
theorem dX6_run_307 : decode cX6_run 307 = .ok (.iload 8, 2) := by decide +kernel
theorem dX6_run_309 : decode cX6_run 309 = .ok (.invokestatic 40, 3) := by decide +kernel
theorem dX6_run_312 : decode cX6_run 312 = .ok (.ireturn, 1) := by decide +kernel
theorem dX7_init_0 : decode cX7_init 0 = .ok (.aload_n 0, 1) := by decide +kernel
theorem dX7_init_1 : decode cX7_init 1 = .ok (.invokespecial 5, 3) := by decide +kernel
theorem dX7_init_4 : decode cX7_init 4 = .ok (.aload_n 0, 1) := by decide +kernel
theorem dX7_init_5 : decode cX7_init 5 = .ok (.bipush 92, 2) := by decide +kernel
theorem dX7_init_7 : decode cX7_init 7 = .ok (.newarray .int, 2) := by decide +kernel
theorem dX7_init_9 : decode cX7_init 9 = .ok (.putfield 13, 3) := by decide +kernel
theorem dX7_init_12 : decode cX7_init 12 = .ok (.aload_n 0, 1) := by decide +kernel
theorem dX7_init_13 : decode cX7_init 13 = .ok (.bipush 92, 2) := by decide +kernel
theorem dX7_init_15 : decode cX7_init 15 = .ok (.newarray .int, 2) := by decide +kernel
theorem dX7_init_17 : decode cX7_init 17 = .ok (.putfield 17, 3) := by decide +kernel
theorem dX7_init_20 : decode cX7_init 20 = .ok (.aload_n 0, 1) := by decide +kernel
theorem dX7_init_21 : decode cX7_init 21 = .ok (.iconst 0, 1) := by decide +kernel
theorem dX7_init_22 : decode cX7_init 22 = .ok (.putfield 20, 3) := by decide +kernel
theorem dX7_init_25 : decode cX7_init 25 = .ok (.aload_n 0, 1) := by decide +kernel
theorem dX7_init_26 : decode cX7_init 26 = .ok (.bipush 8, 2) := by decide +kernel
theorem dX7_init_28 : decode cX7_init 28 = .ok (.newarray .long, 2) := by decide +kernel
theorem dX7_init_30 : decode cX7_init 30 = .ok (.putfield 24, 3) := by decide +kernel
theorem dX7_init_33 : decode cX7_init 33 = .ok (.aload_n 0, 1) := by decide +kernel
theorem dX7_init_34 : decode cX7_init 34 = .ok (.bipush 8, 2) := by decide +kernel
theorem dX7_init_36 : decode cX7_init 36 = .ok (.newarray .long, 2) := by decide +kernel
theorem dX7_init_38 : decode cX7_init 38 = .ok (.putfield 28, 3) := by decide +kernel
theorem dX7_init_41 : decode cX7_init 41 = .ok (.aload_n 0, 1) := by decide +kernel
theorem dX7_init_42 : decode cX7_init 42 = .ok (.sipush 256, 3) := by decide +kernel
theorem dX7_init_45 : decode cX7_init 45 = .ok (.newarray .long, 2) := by decide +kernel
theorem dX7_init_47 : decode cX7_init 47 = .ok (.putfield 31, 3) := by decide +kernel
theorem dX7_init_50 : decode cX7_init 50 = .ok (.aload_n 0, 1) := by decide +kernel
theorem dX7_init_51 : decode cX7_init 51 = .ok (.sipush 256, 3) := by decide +kernel
theorem dX7_init_54 : decode cX7_init 54 = .ok (.newarray .long, 2) := by decide +kernel
theorem dX7_init_56 : decode cX7_init 56 = .ok (.putfield 34, 3) := by decide +kernel
theorem dX7_init_59 : decode cX7_init 59 = .ok (.aload_n 0, 1) := by decide +kernel
theorem dX7_init_60 : decode cX7_init 60 = .ok (.sipush 256, 3) := by decide +kernel
theorem dX7_init_63 : decode cX7_init 63 = .ok (.newarray .boolean, 2) := by decide +kernel
theorem dX7_init_65 : decode cX7_init 65 = .ok (.putfield 37, 3) := by decide +kernel
theorem dX7_init_68 : decode cX7_init 68 = .ok (.aload_n 0, 1) := by decide +kernel
theorem dX7_init_69 : decode cX7_init 69 = .ok (.aload_n 1, 1) := by decide +kernel
theorem dX7_init_70 : decode cX7_init 70 = .ok (.putfield 41, 3) := by decide +kernel
theorem dX7_init_73 : decode cX7_init 73 = .ok (.return_, 1) := by decide +kernel
theorem dX7_copyOf_0 : decode cX7_copyOf 0 = .ok (.aload_n 1, 1) := by decide +kernel
theorem dX7_copyOf_1 : decode cX7_copyOf 1 = .ok (.getfield 13, 3) := by decide +kernel
theorem dX7_copyOf_4 : decode cX7_copyOf 4 = .ok (.iconst 0, 1) := by decide +kernel
theorem dX7_copyOf_5 : decode cX7_copyOf 5 = .ok (.aload_n 0, 1) := by decide +kernel
theorem dX7_copyOf_6 : decode cX7_copyOf 6 = .ok (.getfield 13, 3) := by decide +kernel
theorem dX7_copyOf_9 : decode cX7_copyOf 9 = .ok (.iconst 0, 1) := by decide +kernel
theorem dX7_copyOf_10 : decode cX7_copyOf 10 = .ok (.bipush 92, 2) := by decide +kernel
theorem dX7_copyOf_12 : decode cX7_copyOf 12 = .ok (.invokestatic 45, 3) := by decide +kernel
theorem dX7_copyOf_15 : decode cX7_copyOf 15 = .ok (.aload_n 1, 1) := by decide +kernel
theorem dX7_copyOf_16 : decode cX7_copyOf 16 = .ok (.getfield 17, 3) := by decide +kernel
theorem dX7_copyOf_19 : decode cX7_copyOf 19 = .ok (.iconst 0, 1) := by decide +kernel
theorem dX7_copyOf_20 : decode cX7_copyOf 20 = .ok (.aload_n 0, 1) := by decide +kernel
theorem dX7_copyOf_21 : decode cX7_copyOf 21 = .ok (.getfield 17, 3) := by decide +kernel
theorem dX7_copyOf_24 : decode cX7_copyOf 24 = .ok (.iconst 0, 1) := by decide +kernel
theorem dX7_copyOf_25 : decode cX7_copyOf 25 = .ok (.bipush 92, 2) := by decide +kernel
theorem dX7_copyOf_27 : decode cX7_copyOf 27 = .ok (.invokestatic 45, 3) := by decide +kernel
theorem dX7_copyOf_30 : decode cX7_copyOf 30 = .ok (.aload_n 0, 1) := by decide +kernel
theorem dX7_copyOf_31 : decode cX7_copyOf 31 = .ok (.aload_n 1, 1) := by decide +kernel
theorem dX7_copyOf_32 : decode cX7_copyOf 32 = .ok (.getfield 20, 3) := by decide +kernel
theorem dX7_copyOf_35 : decode cX7_copyOf 35 = .ok (.putfield 20, 3) := by decide +kernel
theorem dX7_copyOf_38 : decode cX7_copyOf 38 = .ok (.aload_n 1, 1) := by decide +kernel
theorem dX7_copyOf_39 : decode cX7_copyOf 39 = .ok (.getfield 24, 3) := by decide +kernel
theorem dX7_copyOf_42 : decode cX7_copyOf 42 = .ok (.iconst 0, 1) := by decide +kernel
theorem dX7_copyOf_43 : decode cX7_copyOf 43 = .ok (.aload_n 0, 1) := by decide +kernel
theorem dX7_copyOf_44 : decode cX7_copyOf 44 = .ok (.getfield 24, 3) := by decide +kernel
theorem dX7_copyOf_47 : decode cX7_copyOf 47 = .ok (.iconst 0, 1) := by decide +kernel
theorem dX7_copyOf_48 : decode cX7_copyOf 48 = .ok (.bipush 8, 2) := by decide +kernel
theorem dX7_copyOf_50 : decode cX7_copyOf 50 = .ok (.invokestatic 45, 3) := by decide +kernel
theorem dX7_copyOf_53 : decode cX7_copyOf 53 = .ok (.aload_n 1, 1) := by decide +kernel
theorem dX7_copyOf_54 : decode cX7_copyOf 54 = .ok (.getfield 28, 3) := by decide +kernel
theorem dX7_copyOf_57 : decode cX7_copyOf 57 = .ok (.iconst 0, 1) := by decide +kernel
theorem dX7_copyOf_58 : decode cX7_copyOf 58 = .ok (.aload_n 0, 1) := by decide +kernel
theorem dX7_copyOf_59 : decode cX7_copyOf 59 = .ok (.getfield 28, 3) := by decide +kernel
theorem dX7_copyOf_62 : decode cX7_copyOf 62 = .ok (.iconst 0, 1) := by decide +kernel
theorem dX7_copyOf_63 : decode cX7_copyOf 63 = .ok (.bipush 8, 2) := by decide +kernel
theorem dX7_copyOf_65 : decode cX7_copyOf 65 = .ok (.invokestatic 45, 3) := by decide +kernel
theorem dX7_copyOf_68 : decode cX7_copyOf 68 = .ok (.aload_n 1, 1) := by decide +kernel
theorem dX7_copyOf_69 : decode cX7_copyOf 69 = .ok (.getfield 31, 3) := by decide +kernel
theorem dX7_copyOf_72 : decode cX7_copyOf 72 = .ok (.iconst 0, 1) := by decide +kernel
theorem dX7_copyOf_73 : decode cX7_copyOf 73 = .ok (.aload_n 0, 1) := by decide +kernel
theorem dX7_copyOf_74 : decode cX7_copyOf 74 = .ok (.getfield 31, 3) := by decide +kernel
theorem dX7_copyOf_77 : decode cX7_copyOf 77 = .ok (.iconst 0, 1) := by decide +kernel
theorem dX7_copyOf_78 : decode cX7_copyOf 78 = .ok (.sipush 256, 3) := by decide +kernel
theorem dX7_copyOf_81 : decode cX7_copyOf 81 = .ok (.invokestatic 45, 3) := by decide +kernel
theorem dX7_copyOf_84 : decode cX7_copyOf 84 = .ok (.aload_n 1, 1) := by decide +kernel
theorem dX7_copyOf_85 : decode cX7_copyOf 85 = .ok (.getfield 34, 3) := by decide +kernel
theorem dX7_copyOf_88 : decode cX7_copyOf 88 = .ok (.iconst 0, 1) := by decide +kernel
theorem dX7_copyOf_89 : decode cX7_copyOf 89 = .ok (.aload_n 0, 1) := by decide +kernel
theorem dX7_copyOf_90 : decode cX7_copyOf 90 = .ok (.getfield 34, 3) := by decide +kernel
theorem dX7_copyOf_93 : decode cX7_copyOf 93 = .ok (.iconst 0, 1) := by decide +kernel
theorem dX7_copyOf_94 : decode cX7_copyOf 94 = .ok (.sipush 256, 3) := by decide +kernel
theorem dX7_copyOf_97 : decode cX7_copyOf 97 = .ok (.invokestatic 45, 3) := by decide +kernel
theorem dX7_copyOf_100 : decode cX7_copyOf 100 = .ok (.aload_n 1, 1) := by decide +kernel
theorem dX7_copyOf_101 : decode cX7_copyOf 101 = .ok (.getfield 37, 3) := by decide +kernel
theorem dX7_copyOf_104 : decode cX7_copyOf 104 = .ok (.iconst 0, 1) := by decide +kernel
theorem dX7_copyOf_105 : decode cX7_copyOf 105 = .ok (.aload_n 0, 1) := by decide +kernel
theorem dX7_copyOf_106 : decode cX7_copyOf 106 = .ok (.getfield 37, 3) := by decide +kernel
theorem dX7_copyOf_109 : decode cX7_copyOf 109 = .ok (.iconst 0, 1) := by decide +kernel
theorem dX7_copyOf_110 : decode cX7_copyOf 110 = .ok (.sipush 256, 3) := by decide +kernel
theorem dX7_copyOf_113 : decode cX7_copyOf 113 = .ok (.invokestatic 45, 3) := by decide +kernel
theorem dX7_copyOf_116 : decode cX7_copyOf 116 = .ok (.return_, 1) := by decide +kernel
theorem dX7_build_0 : decode cX7_build 0 = .ok (.aload_n 0, 1) := by decide +kernel
theorem dX7_build_1 : decode cX7_build 1 = .ok (.iconst 0, 1) := by decide +kernel
theorem dX7_build_2 : decode cX7_build 2 = .ok (.putfield 20, 3) := by decide +kernel
theorem dX7_build_5 : decode cX7_build 5 = .ok (.iconst 0, 1) := by decide +kernel
theorem dX7_build_6 : decode cX7_build 6 = .ok (.istore_n 2, 1) := by decide +kernel
theorem dX7_build_7 : decode cX7_build 7 = .ok (.iload_n 2, 1) := by decide +kernel
theorem dX7_build_8 : decode cX7_build 8 = .ok (.bipush 8, 2) := by decide +kernel
theorem dX7_build_10 : decode cX7_build 10 = .ok (.if_icmp .ge 23, 3) := by decide +kernel
theorem dX7_build_13 : decode cX7_build 13 = .ok (.aload_n 0, 1) := by decide +kernel
theorem dX7_build_14 : decode cX7_build 14 = .ok (.getfield 24, 3) := by decide +kernel
theorem dX7_build_17 : decode cX7_build 17 = .ok (.iload_n 2, 1) := by decide +kernel
theorem dX7_build_18 : decode cX7_build 18 = .ok (.lconst 0, 1) := by decide +kernel
theorem dX7_build_19 : decode cX7_build 19 = .ok (.lastore, 1) := by decide +kernel
theorem dX7_build_20 : decode cX7_build 20 = .ok (.aload_n 0, 1) := by decide +kernel
theorem dX7_build_21 : decode cX7_build 21 = .ok (.getfield 28, 3) := by decide +kernel
theorem dX7_build_24 : decode cX7_build 24 = .ok (.iload_n 2, 1) := by decide +kernel
theorem dX7_build_25 : decode cX7_build 25 = .ok (.lconst 0, 1) := by decide +kernel
theorem dX7_build_26 : decode cX7_build 26 = .ok (.lastore, 1) := by decide +kernel
theorem dX7_build_27 : decode cX7_build 27 = .ok (.iinc 2 1, 3) := by decide +kernel
theorem dX7_build_30 : decode cX7_build 30 = .ok (.goto (-23), 3) := by decide +kernel
theorem dX7_build_33 : decode cX7_build 33 = .ok (.aload_n 0, 1) := by decide +kernel
theorem dX7_build_34 : decode cX7_build 34 = .ok (.getfield 41, 3) := by decide +kernel
theorem dX7_build_37 : decode cX7_build 37 = .ok (.invokevirtual 51, 3) := by decide +kernel
theorem dX7_build_40 : decode cX7_build 40 = .ok (.istore_n 2, 1) := by decide +kernel
theorem dX7_build_41 : decode cX7_build 41 = .ok (.iconst 1, 1) := by decide +kernel
theorem dX7_build_42 : decode cX7_build 42 = .ok (.istore_n 3, 1) := by decide +kernel
theorem dX7_build_43 : decode cX7_build 43 = .ok (.iload_n 3, 1) := by decide +kernel
theorem dX7_build_44 : decode cX7_build 44 = .ok (.iload_n 1, 1) := by decide +kernel
theorem dX7_build_45 : decode cX7_build 45 = .ok (.if_icmp .gt 48, 3) := by decide +kernel
theorem dX7_build_48 : decode cX7_build 48 = .ok (.iconst 1, 1) := by decide +kernel
theorem dX7_build_49 : decode cX7_build 49 = .ok (.istore 4, 2) := by decide +kernel
theorem dX7_build_51 : decode cX7_build 51 = .ok (.iload 4, 2) := by decide +kernel
theorem dX7_build_53 : decode cX7_build 53 = .ok (.iload_n 2, 1) := by decide +kernel
theorem dX7_build_54 : decode cX7_build 54 = .ok (.if_icmp .gt 33, 3) := by decide +kernel
theorem dX7_build_57 : decode cX7_build 57 = .ok (.iload 4, 2) := by decide +kernel
theorem dX7_build_59 : decode cX7_build 59 = .ok (.invokestatic 55, 3) := by decide +kernel
theorem dX7_build_62 : decode cX7_build 62 = .ok (.iload_n 3, 1) := by decide +kernel
theorem dX7_build_63 : decode cX7_build 63 = .ok (.if_icmp .ne 18, 3) := by decide +kernel
theorem dX7_build_66 : decode cX7_build 66 = .ok (.aload_n 0, 1) := by decide +kernel
theorem dX7_build_67 : decode cX7_build 67 = .ok (.getfield 20, 3) := by decide +kernel
theorem dX7_build_70 : decode cX7_build 70 = .ok (.bipush 92, 2) := by decide +kernel
theorem dX7_build_72 : decode cX7_build 72 = .ok (.if_icmp .ge 9, 3) := by decide +kernel
theorem dX7_build_75 : decode cX7_build 75 = .ok (.aload_n 0, 1) := by decide +kernel
theorem dX7_build_76 : decode cX7_build 76 = .ok (.iload 4, 2) := by decide +kernel
theorem dX7_build_78 : decode cX7_build 78 = .ok (.invokevirtual 61, 3) := by decide +kernel
theorem dX7_build_81 : decode cX7_build 81 = .ok (.iinc 4 1, 3) := by decide +kernel
theorem dX7_build_84 : decode cX7_build 84 = .ok (.goto (-33), 3) := by decide +kernel
theorem dX7_build_87 : decode cX7_build 87 = .ok (.iinc 3 1, 3) := by decide +kernel
theorem dX7_build_90 : decode cX7_build 90 = .ok (.goto (-47), 3) := by decide +kernel
theorem dX7_build_93 : decode cX7_build 93 = .ok (.iconst 0, 1) := by decide +kernel
theorem dX7_build_94 : decode cX7_build 94 = .ok (.istore_n 3, 1) := by decide +kernel
theorem dX7_build_95 : decode cX7_build 95 = .ok (.iload_n 3, 1) := by decide +kernel
theorem dX7_build_96 : decode cX7_build 96 = .ok (.sipush 256, 3) := by decide +kernel
theorem dX7_build_99 : decode cX7_build 99 = .ok (.if_icmp .ge 16, 3) := by decide +kernel
theorem dX7_build_102 : decode cX7_build 102 = .ok (.aload_n 0, 1) := by decide +kernel
theorem dX7_build_103 : decode cX7_build 103 = .ok (.getfield 37, 3) := by decide +kernel
theorem dX7_build_106 : decode cX7_build 106 = .ok (.iload_n 3, 1) := by decide +kernel
theorem dX7_build_107 : decode cX7_build 107 = .ok (.iconst 0, 1) := by decide +kernel
theorem dX7_build_108 : decode cX7_build 108 = .ok (.bastore, 1) := by decide +kernel
theorem dX7_build_109 : decode cX7_build 109 = .ok (.iinc 3 1, 3) := by decide +kernel
theorem dX7_build_112 : decode cX7_build 112 = .ok (.goto (-17), 3) := by decide +kernel
theorem dX7_build_115 : decode cX7_build 115 = .ok (.return_, 1) := by decide +kernel
theorem dX7_add_0 : decode cX7_add 0 = .ok (.iconst 1, 1) := by decide +kernel
theorem dX7_add_1 : decode cX7_add 1 = .ok (.istore_n 2, 1) := by decide +kernel
theorem dX7_add_2 : decode cX7_add 2 = .ok (.aload_n 0, 1) := by decide +kernel
theorem dX7_add_3 : decode cX7_add 3 = .ok (.getfield 20, 3) := by decide +kernel
theorem dX7_add_6 : decode cX7_add 6 = .ok (.invokestatic 65, 3) := by decide +kernel
theorem dX7_add_9 : decode cX7_add 9 = .ok (.lstore_n 3, 1) := by decide +kernel
theorem dX7_add_10 : decode cX7_add 10 = .ok (.aload_n 0, 1) := by decide +kernel
theorem dX7_add_11 : decode cX7_add 11 = .ok (.getfield 20, 3) := by decide +kernel
theorem dX7_add_14 : decode cX7_add 14 = .ok (.invokestatic 69, 3) := by decide +kernel
theorem dX7_add_17 : decode cX7_add 17 = .ok (.lstore 5, 2) := by decide +kernel
theorem dX7_add_19 : decode cX7_add 19 = .ok (.iconst 0, 1) := by decide +kernel
theorem dX7_add_20 : decode cX7_add 20 = .ok (.istore 7, 2) := by decide +kernel
theorem dX7_add_22 : decode cX7_add 22 = .ok (.iload 7, 2) := by decide +kernel
theorem dX7_add_24 : decode cX7_add 24 = .ok (.aload_n 0, 1) := by decide +kernel
theorem dX7_add_25 : decode cX7_add 25 = .ok (.getfield 41, 3) := by decide +kernel
theorem dX7_add_28 : decode cX7_add 28 = .ok (.getfield 72, 3) := by decide +kernel
theorem dX7_add_31 : decode cX7_add 31 = .ok (.if_icmp .ge 54, 3) := by decide +kernel
theorem dX7_add_34 : decode cX7_add 34 = .ok (.iload_n 1, 1) := by decide +kernel
theorem dX7_add_35 : decode cX7_add 35 = .ok (.iload 7, 2) := by decide +kernel
theorem dX7_add_37 : decode cX7_add 37 = .ok (.ishr, 1) := by decide +kernel
theorem dX7_add_38 : decode cX7_add 38 = .ok (.iconst 1, 1) := by decide +kernel
theorem dX7_add_39 : decode cX7_add 39 = .ok (.iand, 1) := by decide +kernel
theorem dX7_add_40 : decode cX7_add 40 = .ok (.ifCond .eq 39, 3) := by decide +kernel
theorem dX7_add_43 : decode cX7_add 43 = .ok (.iload_n 2, 1) := by decide +kernel
theorem dX7_add_44 : decode cX7_add 44 = .ok (.aload_n 0, 1) := by decide +kernel
theorem dX7_add_45 : decode cX7_add 45 = .ok (.getfield 41, 3) := by decide +kernel
theorem dX7_add_48 : decode cX7_add 48 = .ok (.getfield 73, 3) := by decide +kernel
theorem dX7_add_51 : decode cX7_add 51 = .ok (.iload 7, 2) := by decide +kernel
theorem dX7_add_53 : decode cX7_add 53 = .ok (.iaload, 1) := by decide +kernel
theorem dX7_add_54 : decode cX7_add 54 = .ok (.imul, 1) := by decide +kernel
theorem dX7_add_55 : decode cX7_add 55 = .ok (.istore_n 2, 1) := by decide +kernel
theorem dX7_add_56 : decode cX7_add 56 = .ok (.aload_n 0, 1) := by decide +kernel
theorem dX7_add_57 : decode cX7_add 57 = .ok (.getfield 24, 3) := by decide +kernel
theorem dX7_add_60 : decode cX7_add 60 = .ok (.iload 7, 2) := by decide +kernel
theorem dX7_add_62 : decode cX7_add 62 = .ok (.dup2, 1) := by decide +kernel
theorem dX7_add_63 : decode cX7_add 63 = .ok (.laload, 1) := by decide +kernel
theorem dX7_add_64 : decode cX7_add 64 = .ok (.lload_n 3, 1) := by decide +kernel
theorem dX7_add_65 : decode cX7_add 65 = .ok (.lor, 1) := by decide +kernel
theorem dX7_add_66 : decode cX7_add 66 = .ok (.lastore, 1) := by decide +kernel
theorem dX7_add_67 : decode cX7_add 67 = .ok (.aload_n 0, 1) := by decide +kernel
theorem dX7_add_68 : decode cX7_add 68 = .ok (.getfield 28, 3) := by decide +kernel
theorem dX7_add_71 : decode cX7_add 71 = .ok (.iload 7, 2) := by decide +kernel
theorem dX7_add_73 : decode cX7_add 73 = .ok (.dup2, 1) := by decide +kernel
theorem dX7_add_74 : decode cX7_add 74 = .ok (.laload, 1) := by decide +kernel
theorem dX7_add_75 : decode cX7_add 75 = .ok (.lload 5, 2) := by decide +kernel
theorem dX7_add_77 : decode cX7_add 77 = .ok (.lor, 1) := by decide +kernel
theorem dX7_add_78 : decode cX7_add 78 = .ok (.lastore, 1) := by decide +kernel
theorem dX7_add_79 : decode cX7_add 79 = .ok (.iinc 7 1, 3) := by decide +kernel
theorem dX7_add_82 : decode cX7_add 82 = .ok (.goto (-60), 3) := by decide +kernel
theorem dX7_add_85 : decode cX7_add 85 = .ok (.aload_n 0, 1) := by decide +kernel
theorem dX7_add_86 : decode cX7_add 86 = .ok (.getfield 13, 3) := by decide +kernel
theorem dX7_add_89 : decode cX7_add 89 = .ok (.aload_n 0, 1) := by decide +kernel
theorem dX7_add_90 : decode cX7_add 90 = .ok (.getfield 20, 3) := by decide +kernel
theorem dX7_add_93 : decode cX7_add 93 = .ok (.iload_n 1, 1) := by decide +kernel
theorem dX7_add_94 : decode cX7_add 94 = .ok (.iastore, 1) := by decide +kernel
theorem dX7_add_95 : decode cX7_add 95 = .ok (.aload_n 0, 1) := by decide +kernel
theorem dX7_add_96 : decode cX7_add 96 = .ok (.getfield 17, 3) := by decide +kernel
theorem dX7_add_99 : decode cX7_add 99 = .ok (.aload_n 0, 1) := by decide +kernel
theorem dX7_add_100 : decode cX7_add 100 = .ok (.getfield 20, 3) := by decide +kernel
theorem dX7_add_103 : decode cX7_add 103 = .ok (.iload_n 2, 1) := by decide +kernel
theorem dX7_add_104 : decode cX7_add 104 = .ok (.iastore, 1) := by decide +kernel
theorem dX7_add_105 : decode cX7_add 105 = .ok (.aload_n 0, 1) := by decide +kernel
theorem dX7_add_106 : decode cX7_add 106 = .ok (.dup, 1) := by decide +kernel
theorem dX7_add_107 : decode cX7_add 107 = .ok (.getfield 20, 3) := by decide +kernel
theorem dX7_add_110 : decode cX7_add 110 = .ok (.iconst 1, 1) := by decide +kernel
theorem dX7_add_111 : decode cX7_add 111 = .ok (.iadd, 1) := by decide +kernel
theorem dX7_add_112 : decode cX7_add 112 = .ok (.putfield 20, 3) := by decide +kernel
theorem dX7_add_115 : decode cX7_add 115 = .ok (.return_, 1) := by decide +kernel
theorem dX7_lowBit_0 : decode cX7_lowBit 0 = .ok (.iload_n 0, 1) := by decide +kernel
theorem dX7_lowBit_1 : decode cX7_lowBit 1 = .ok (.ifCond .lt 15, 3) := by decide +kernel
theorem dX7_lowBit_4 : decode cX7_lowBit 4 = .ok (.iload_n 0, 1) := by decide +kernel
theorem dX7_lowBit_5 : decode cX7_lowBit 5 = .ok (.bipush 64, 2) := by decide +kernel
theorem dX7_lowBit_7 : decode cX7_lowBit 7 = .ok (.if_icmp .ge 9, 3) := by decide +kernel
theorem dX7_lowBit_10 : decode cX7_lowBit 10 = .ok (.lconst 1, 1) := by decide +kernel
theorem dX7_lowBit_11 : decode cX7_lowBit 11 = .ok (.iload_n 0, 1) := by decide +kernel
theorem dX7_lowBit_12 : decode cX7_lowBit 12 = .ok (.lshl, 1) := by decide +kernel
theorem dX7_lowBit_13 : decode cX7_lowBit 13 = .ok (.goto 4, 3) := by decide +kernel
theorem dX7_lowBit_16 : decode cX7_lowBit 16 = .ok (.lconst 0, 1) := by decide +kernel
theorem dX7_lowBit_17 : decode cX7_lowBit 17 = .ok (.lreturn, 1) := by decide +kernel
theorem dX7_highBit_0 : decode cX7_highBit 0 = .ok (.iload_n 0, 1) := by decide +kernel
theorem dX7_highBit_1 : decode cX7_highBit 1 = .ok (.bipush 64, 2) := by decide +kernel
theorem dX7_highBit_3 : decode cX7_highBit 3 = .ok (.if_icmp .lt 19, 3) := by decide +kernel
theorem dX7_highBit_6 : decode cX7_highBit 6 = .ok (.iload_n 0, 1) := by decide +kernel
theorem dX7_highBit_7 : decode cX7_highBit 7 = .ok (.sipush 128, 3) := by decide +kernel
theorem dX7_highBit_10 : decode cX7_highBit 10 = .ok (.if_icmp .ge 12, 3) := by decide +kernel
theorem dX7_highBit_13 : decode cX7_highBit 13 = .ok (.lconst 1, 1) := by decide +kernel
theorem dX7_highBit_14 : decode cX7_highBit 14 = .ok (.iload_n 0, 1) := by decide +kernel
theorem dX7_highBit_15 : decode cX7_highBit 15 = .ok (.bipush 64, 2) := by decide +kernel
theorem dX7_highBit_17 : decode cX7_highBit 17 = .ok (.isub, 1) := by decide +kernel
theorem dX7_highBit_18 : decode cX7_highBit 18 = .ok (.lshl, 1) := by decide +kernel
theorem dX7_highBit_19 : decode cX7_highBit 19 = .ok (.goto 4, 3) := by decide +kernel
theorem dX7_highBit_22 : decode cX7_highBit 22 = .ok (.lconst 0, 1) := by decide +kernel
theorem dX7_highBit_23 : decode cX7_highBit 23 = .ok (.lreturn, 1) := by decide +kernel
theorem dX7_countIn_0 : decode cX7_countIn 0 = .ok (.lload_n 0, 1) := by decide +kernel
theorem dX7_countIn_1 : decode cX7_countIn 1 = .ok (.invokestatic 76, 3) := by decide +kernel
theorem dX7_countIn_4 : decode cX7_countIn 4 = .ok (.lload_n 2, 1) := by decide +kernel
theorem dX7_countIn_5 : decode cX7_countIn 5 = .ok (.invokestatic 76, 3) := by decide +kernel
theorem dX7_countIn_8 : decode cX7_countIn 8 = .ok (.iadd, 1) := by decide +kernel
theorem dX7_countIn_9 : decode cX7_countIn 9 = .ok (.ireturn, 1) := by decide +kernel
theorem dX7_isIn_0 : decode cX7_isIn 0 = .ok (.lload_n 1, 1) := by decide +kernel
theorem dX7_isIn_1 : decode cX7_isIn 1 = .ok (.iload_n 0, 1) := by decide +kernel
theorem dX7_isIn_2 : decode cX7_isIn 2 = .ok (.invokestatic 65, 3) := by decide +kernel
theorem dX7_isIn_5 : decode cX7_isIn 5 = .ok (.land, 1) := by decide +kernel
theorem dX7_isIn_6 : decode cX7_isIn 6 = .ok (.lconst 0, 1) := by decide +kernel
theorem dX7_isIn_7 : decode cX7_isIn 7 = .ok (.lcmp, 1) := by decide +kernel
theorem dX7_isIn_8 : decode cX7_isIn 8 = .ok (.ifCond .ne 14, 3) := by decide +kernel
theorem dX7_isIn_11 : decode cX7_isIn 11 = .ok (.lload_n 3, 1) := by decide +kernel
theorem dX7_isIn_12 : decode cX7_isIn 12 = .ok (.iload_n 0, 1) := by decide +kernel
theorem dX7_isIn_13 : decode cX7_isIn 13 = .ok (.invokestatic 69, 3) := by decide +kernel
theorem dX7_isIn_16 : decode cX7_isIn 16 = .ok (.land, 1) := by decide +kernel
theorem dX7_isIn_17 : decode cX7_isIn 17 = .ok (.lconst 0, 1) := by decide +kernel
theorem dX7_isIn_18 : decode cX7_isIn 18 = .ok (.lcmp, 1) := by decide +kernel
theorem dX7_isIn_19 : decode cX7_isIn 19 = .ok (.ifCond .eq 7, 3) := by decide +kernel
theorem dX7_isIn_22 : decode cX7_isIn 22 = .ok (.iconst 1, 1) := by decide +kernel
theorem dX7_isIn_23 : decode cX7_isIn 23 = .ok (.goto 4, 3) := by decide +kernel
theorem dX7_isIn_26 : decode cX7_isIn 26 = .ok (.iconst 0, 1) := by decide +kernel
theorem dX7_isIn_27 : decode cX7_isIn 27 = .ok (.ireturn, 1) := by decide +kernel
theorem dX7_allLow_0 : decode cX7_allLow 0 = .ok (.aload_n 0, 1) := by decide +kernel
theorem dX7_allLow_1 : decode cX7_allLow 1 = .ok (.getfield 20, 3) := by decide +kernel
theorem dX7_allLow_4 : decode cX7_allLow 4 = .ok (.bipush 64, 2) := by decide +kernel
theorem dX7_allLow_6 : decode cX7_allLow 6 = .ok (.if_icmp .lt 9, 3) := by decide +kernel
theorem dX7_allLow_9 : decode cX7_allLow 9 = .ok (.ldc2_w 81, 3) := by decide +kernel
theorem dX7_allLow_12 : decode cX7_allLow 12 = .ok (.goto 11, 3) := by decide +kernel
theorem dX7_allLow_15 : decode cX7_allLow 15 = .ok (.lconst 1, 1) := by decide +kernel
theorem dX7_allLow_16 : decode cX7_allLow 16 = .ok (.aload_n 0, 1) := by decide +kernel
theorem dX7_allLow_17 : decode cX7_allLow 17 = .ok (.getfield 20, 3) := by decide +kernel
theorem dX7_allLow_20 : decode cX7_allLow 20 = .ok (.lshl, 1) := by decide +kernel
theorem dX7_allLow_21 : decode cX7_allLow 21 = .ok (.lconst 1, 1) := by decide +kernel
theorem dX7_allLow_22 : decode cX7_allLow 22 = .ok (.lsub, 1) := by decide +kernel
theorem dX7_allLow_23 : decode cX7_allLow 23 = .ok (.lreturn, 1) := by decide +kernel
theorem dX7_allHigh_0 : decode cX7_allHigh 0 = .ok (.aload_n 0, 1) := by decide +kernel
theorem dX7_allHigh_1 : decode cX7_allHigh 1 = .ok (.getfield 20, 3) := by decide +kernel
theorem dX7_allHigh_4 : decode cX7_allHigh 4 = .ok (.bipush 64, 2) := by decide +kernel
theorem dX7_allHigh_6 : decode cX7_allHigh 6 = .ok (.if_icmp .le 17, 3) := by decide +kernel
theorem dX7_allHigh_9 : decode cX7_allHigh 9 = .ok (.lconst 1, 1) := by decide +kernel
theorem dX7_allHigh_10 : decode cX7_allHigh 10 = .ok (.aload_n 0, 1) := by decide +kernel
theorem dX7_allHigh_11 : decode cX7_allHigh 11 = .ok (.getfield 20, 3) := by decide +kernel
theorem dX7_allHigh_14 : decode cX7_allHigh 14 = .ok (.bipush 64, 2) := by decide +kernel
theorem dX7_allHigh_16 : decode cX7_allHigh 16 = .ok (.isub, 1) := by decide +kernel
theorem dX7_allHigh_17 : decode cX7_allHigh 17 = .ok (.lshl, 1) := by decide +kernel
theorem dX7_allHigh_18 : decode cX7_allHigh 18 = .ok (.lconst 1, 1) := by decide +kernel
theorem dX7_allHigh_19 : decode cX7_allHigh 19 = .ok (.lsub, 1) := by decide +kernel
theorem dX7_allHigh_20 : decode cX7_allHigh 20 = .ok (.goto 4, 3) := by decide +kernel
theorem dX7_allHigh_23 : decode cX7_allHigh 23 = .ok (.lconst 0, 1) := by decide +kernel
theorem dX7_allHigh_24 : decode cX7_allHigh 24 = .ok (.lreturn, 1) := by decide +kernel
theorem dX7_indexOf_0 : decode cX7_indexOf 0 = .ok (.iconst 0, 1) := by decide +kernel
theorem dX7_indexOf_1 : decode cX7_indexOf 1 = .ok (.istore_n 2, 1) := by decide +kernel
theorem dX7_indexOf_2 : decode cX7_indexOf 2 = .ok (.iload_n 2, 1) := by decide +kernel
theorem dX7_indexOf_3 : decode cX7_indexOf 3 = .ok (.aload_n 0, 1) := by decide +kernel
theorem dX7_indexOf_4 : decode cX7_indexOf 4 = .ok (.getfield 20, 3) := by decide +kernel
theorem dX7_indexOf_7 : decode cX7_indexOf 7 = .ok (.if_icmp .ge 21, 3) := by decide +kernel
theorem dX7_indexOf_10 : decode cX7_indexOf 10 = .ok (.aload_n 0, 1) := by decide +kernel
theorem dX7_indexOf_11 : decode cX7_indexOf 11 = .ok (.getfield 13, 3) := by decide +kernel
theorem dX7_indexOf_14 : decode cX7_indexOf 14 = .ok (.iload_n 2, 1) := by decide +kernel
theorem dX7_indexOf_15 : decode cX7_indexOf 15 = .ok (.iaload, 1) := by decide +kernel
theorem dX7_indexOf_16 : decode cX7_indexOf 16 = .ok (.iload_n 1, 1) := by decide +kernel
theorem dX7_indexOf_17 : decode cX7_indexOf 17 = .ok (.if_icmp .ne 5, 3) := by decide +kernel
theorem dX7_indexOf_20 : decode cX7_indexOf 20 = .ok (.iload_n 2, 1) := by decide +kernel
theorem dX7_indexOf_21 : decode cX7_indexOf 21 = .ok (.ireturn, 1) := by decide +kernel
theorem dX7_indexOf_22 : decode cX7_indexOf 22 = .ok (.iinc 2 1, 3) := by decide +kernel
theorem dX7_indexOf_25 : decode cX7_indexOf 25 = .ok (.goto (-23), 3) := by decide +kernel
theorem dX7_indexOf_28 : decode cX7_indexOf 28 = .ok (.iconst (-1), 1) := by decide +kernel
theorem dX7_indexOf_29 : decode cX7_indexOf 29 = .ok (.ireturn, 1) := by decide +kernel
theorem dX7_weightIn_0 : decode cX7_weightIn 0 = .ok (.lconst 0, 1) := by decide +kernel
theorem dX7_weightIn_1 : decode cX7_weightIn 1 = .ok (.lstore 5, 2) := by decide +kernel
theorem dX7_weightIn_3 : decode cX7_weightIn 3 = .ok (.iconst 0, 1) := by decide +kernel
theorem dX7_weightIn_4 : decode cX7_weightIn 4 = .ok (.istore 7, 2) := by decide +kernel
theorem dX7_weightIn_6 : decode cX7_weightIn 6 = .ok (.iload 7, 2) := by decide +kernel
theorem dX7_weightIn_8 : decode cX7_weightIn 8 = .ok (.aload_n 0, 1) := by decide +kernel
theorem dX7_weightIn_9 : decode cX7_weightIn 9 = .ok (.getfield 20, 3) := by decide +kernel
theorem dX7_weightIn_12 : decode cX7_weightIn 12 = .ok (.if_icmp .ge 32, 3) := by decide +kernel
theorem dX7_weightIn_15 : decode cX7_weightIn 15 = .ok (.iload 7, 2) := by decide +kernel
theorem dX7_weightIn_17 : decode cX7_weightIn 17 = .ok (.lload_n 1, 1) := by decide +kernel
theorem dX7_weightIn_18 : decode cX7_weightIn 18 = .ok (.lload_n 3, 1) := by decide +kernel
theorem dX7_weightIn_19 : decode cX7_weightIn 19 = .ok (.invokestatic 83, 3) := by decide +kernel
theorem dX7_weightIn_22 : decode cX7_weightIn 22 = .ok (.ifCond .eq 16, 3) := by decide +kernel
theorem dX7_weightIn_25 : decode cX7_weightIn 25 = .ok (.lload 5, 2) := by decide +kernel
theorem dX7_weightIn_27 : decode cX7_weightIn 27 = .ok (.aload_n 0, 1) := by decide +kernel
theorem dX7_weightIn_28 : decode cX7_weightIn 28 = .ok (.getfield 17, 3) := by decide +kernel
theorem dX7_weightIn_31 : decode cX7_weightIn 31 = .ok (.iload 7, 2) := by decide +kernel
theorem dX7_weightIn_33 : decode cX7_weightIn 33 = .ok (.iaload, 1) := by decide +kernel
theorem dX7_weightIn_34 : decode cX7_weightIn 34 = .ok (.i2l, 1) := by decide +kernel
theorem dX7_weightIn_35 : decode cX7_weightIn 35 = .ok (.ladd, 1) := by decide +kernel
theorem dX7_weightIn_36 : decode cX7_weightIn 36 = .ok (.lstore 5, 2) := by decide +kernel
theorem dX7_weightIn_38 : decode cX7_weightIn 38 = .ok (.iinc 7 1, 3) := by decide +kernel
theorem dX7_weightIn_41 : decode cX7_weightIn 41 = .ok (.goto (-35), 3) := by decide +kernel
theorem dX7_weightIn_44 : decode cX7_weightIn 44 = .ok (.lload 5, 2) := by decide +kernel
theorem dX7_weightIn_46 : decode cX7_weightIn 46 = .ok (.lreturn, 1) := by decide +kernel
theorem dX7_slot_0 : decode cX7_slot 0 = .ok (.iload_n 1, 1) := by decide +kernel
theorem dX7_slot_1 : decode cX7_slot 1 = .ok (.ifCond .le 21, 3) := by decide +kernel
theorem dX7_slot_4 : decode cX7_slot 4 = .ok (.iload_n 1, 1) := by decide +kernel
theorem dX7_slot_5 : decode cX7_slot 5 = .ok (.sipush 256, 3) := by decide +kernel
theorem dX7_slot_8 : decode cX7_slot 8 = .ok (.if_icmp .ge 14, 3) := by decide +kernel
theorem dX7_slot_11 : decode cX7_slot 11 = .ok (.iload_n 1, 1) := by decide +kernel
theorem dX7_slot_12 : decode cX7_slot 12 = .ok (.aload_n 0, 1) := by decide +kernel
theorem dX7_slot_13 : decode cX7_slot 13 = .ok (.getfield 41, 3) := by decide +kernel
theorem dX7_slot_16 : decode cX7_slot 16 = .ok (.invokevirtual 51, 3) := by decide +kernel
theorem dX7_slot_19 : decode cX7_slot 19 = .ok (.if_icmp .le 5, 3) := by decide +kernel
theorem dX7_slot_22 : decode cX7_slot 22 = .ok (.iconst 0, 1) := by decide +kernel
theorem dX7_slot_23 : decode cX7_slot 23 = .ok (.ireturn, 1) := by decide +kernel
theorem dX7_slot_24 : decode cX7_slot 24 = .ok (.aload_n 0, 1) := by decide +kernel
theorem dX7_slot_25 : decode cX7_slot 25 = .ok (.getfield 37, 3) := by decide +kernel
theorem dX7_slot_28 : decode cX7_slot 28 = .ok (.iload_n 1, 1) := by decide +kernel
theorem dX7_slot_29 : decode cX7_slot 29 = .ok (.baload, 1) := by decide +kernel
theorem dX7_slot_30 : decode cX7_slot 30 = .ok (.ifCond .eq 5, 3) := by decide +kernel
theorem dX7_slot_33 : decode cX7_slot 33 = .ok (.iload_n 1, 1) := by decide +kernel
theorem dX7_slot_34 : decode cX7_slot 34 = .ok (.ireturn, 1) := by decide +kernel
theorem dX7_slot_35 : decode cX7_slot 35 = .ok (.lconst 0, 1) := by decide +kernel
theorem dX7_slot_36 : decode cX7_slot 36 = .ok (.lstore_n 2, 1) := by decide +kernel
theorem dX7_slot_37 : decode cX7_slot 37 = .ok (.lconst 0, 1) := by decide +kernel
theorem dX7_slot_38 : decode cX7_slot 38 = .ok (.lstore 4, 2) := by decide +kernel
theorem dX7_slot_40 : decode cX7_slot 40 = .ok (.iconst 0, 1) := by decide +kernel
theorem dX7_slot_41 : decode cX7_slot 41 = .ok (.istore 6, 2) := by decide +kernel
theorem dX7_slot_43 : decode cX7_slot 43 = .ok (.iload 6, 2) := by decide +kernel
theorem dX7_slot_45 : decode cX7_slot 45 = .ok (.aload_n 0, 1) := by decide +kernel
theorem dX7_slot_46 : decode cX7_slot 46 = .ok (.getfield 41, 3) := by decide +kernel
theorem dX7_slot_49 : decode cX7_slot 49 = .ok (.getfield 72, 3) := by decide +kernel
theorem dX7_slot_52 : decode cX7_slot 52 = .ok (.if_icmp .ge 125, 3) := by decide +kernel
theorem dX7_slot_55 : decode cX7_slot 55 = .ok (.iload_n 1, 1) := by decide +kernel
theorem dX7_slot_56 : decode cX7_slot 56 = .ok (.iload 6, 2) := by decide +kernel
theorem dX7_slot_58 : decode cX7_slot 58 = .ok (.ishr, 1) := by decide +kernel
theorem dX7_slot_59 : decode cX7_slot 59 = .ok (.iconst 1, 1) := by decide +kernel
theorem dX7_slot_60 : decode cX7_slot 60 = .ok (.iand, 1) := by decide +kernel
theorem dX7_slot_61 : decode cX7_slot 61 = .ok (.ifCond .ne 7, 3) := by decide +kernel
theorem dX7_slot_64 : decode cX7_slot 64 = .ok (.iconst (-1), 1) := by decide +kernel
theorem dX7_slot_65 : decode cX7_slot 65 = .ok (.goto 13, 3) := by decide +kernel
theorem dX7_slot_68 : decode cX7_slot 68 = .ok (.aload_n 0, 1) := by decide +kernel
theorem dX7_slot_69 : decode cX7_slot 69 = .ok (.getfield 41, 3) := by decide +kernel
theorem dX7_slot_72 : decode cX7_slot 72 = .ok (.iload 6, 2) := by decide +kernel
theorem dX7_slot_74 : decode cX7_slot 74 = .ok (.iload_n 1, 1) := by decide +kernel
theorem dX7_slot_75 : decode cX7_slot 75 = .ok (.invokevirtual 87, 3) := by decide +kernel
theorem dX7_slot_78 : decode cX7_slot 78 = .ok (.istore 7, 2) := by decide +kernel
theorem dX7_slot_80 : decode cX7_slot 80 = .ok (.iload 7, 2) := by decide +kernel
theorem dX7_slot_82 : decode cX7_slot 82 = .ok (.iconst (-1), 1) := by decide +kernel
theorem dX7_slot_83 : decode cX7_slot 83 = .ok (.if_icmp .eq 88, 3) := by decide +kernel
theorem dX7_slot_86 : decode cX7_slot 86 = .ok (.aload_n 0, 1) := by decide +kernel
theorem dX7_slot_87 : decode cX7_slot 87 = .ok (.getfield 24, 3) := by decide +kernel
theorem dX7_slot_90 : decode cX7_slot 90 = .ok (.iload 6, 2) := by decide +kernel
theorem dX7_slot_92 : decode cX7_slot 92 = .ok (.laload, 1) := by decide +kernel
theorem dX7_slot_93 : decode cX7_slot 93 = .ok (.lstore 8, 2) := by decide +kernel
theorem dX7_slot_95 : decode cX7_slot 95 = .ok (.aload_n 0, 1) := by decide +kernel
theorem dX7_slot_96 : decode cX7_slot 96 = .ok (.getfield 28, 3) := by decide +kernel
theorem dX7_slot_99 : decode cX7_slot 99 = .ok (.iload 6, 2) := by decide +kernel
theorem dX7_slot_101 : decode cX7_slot 101 = .ok (.laload, 1) := by decide +kernel
theorem dX7_slot_102 : decode cX7_slot 102 = .ok (.lstore 10, 2) := by decide +kernel
theorem dX7_slot_104 : decode cX7_slot 104 = .ok (.iconst 0, 1) := by decide +kernel
theorem dX7_slot_105 : decode cX7_slot 105 = .ok (.istore 12, 2) := by decide +kernel
theorem dX7_slot_107 : decode cX7_slot 107 = .ok (.iload 12, 2) := by decide +kernel
theorem dX7_slot_109 : decode cX7_slot 109 = .ok (.aload_n 0, 1) := by decide +kernel
theorem dX7_slot_110 : decode cX7_slot 110 = .ok (.getfield 41, 3) := by decide +kernel
theorem dX7_slot_113 : decode cX7_slot 113 = .ok (.getfield 72, 3) := by decide +kernel
theorem dX7_slot_116 : decode cX7_slot 116 = .ok (.if_icmp .ge 43, 3) := by decide +kernel
theorem dX7_slot_119 : decode cX7_slot 119 = .ok (.iload 7, 2) := by decide +kernel
theorem dX7_slot_121 : decode cX7_slot 121 = .ok (.iload 12, 2) := by decide +kernel
theorem dX7_slot_123 : decode cX7_slot 123 = .ok (.ishr, 1) := by decide +kernel
theorem dX7_slot_124 : decode cX7_slot 124 = .ok (.iconst 1, 1) := by decide +kernel
theorem dX7_slot_125 : decode cX7_slot 125 = .ok (.iand, 1) := by decide +kernel
theorem dX7_slot_126 : decode cX7_slot 126 = .ok (.ifCond .eq 27, 3) := by decide +kernel
theorem dX7_slot_129 : decode cX7_slot 129 = .ok (.lload 8, 2) := by decide +kernel
theorem dX7_slot_131 : decode cX7_slot 131 = .ok (.aload_n 0, 1) := by decide +kernel
theorem dX7_slot_132 : decode cX7_slot 132 = .ok (.getfield 24, 3) := by decide +kernel
theorem dX7_slot_135 : decode cX7_slot 135 = .ok (.iload 12, 2) := by decide +kernel
theorem dX7_slot_137 : decode cX7_slot 137 = .ok (.laload, 1) := by decide +kernel
theorem dX7_slot_138 : decode cX7_slot 138 = .ok (.land, 1) := by decide +kernel
theorem dX7_slot_139 : decode cX7_slot 139 = .ok (.lstore 8, 2) := by decide +kernel
theorem dX7_slot_141 : decode cX7_slot 141 = .ok (.lload 10, 2) := by decide +kernel
theorem dX7_slot_143 : decode cX7_slot 143 = .ok (.aload_n 0, 1) := by decide +kernel
theorem dX7_slot_144 : decode cX7_slot 144 = .ok (.getfield 28, 3) := by decide +kernel
theorem dX7_slot_147 : decode cX7_slot 147 = .ok (.iload 12, 2) := by decide +kernel
theorem dX7_slot_149 : decode cX7_slot 149 = .ok (.laload, 1) := by decide +kernel
theorem dX7_slot_150 : decode cX7_slot 150 = .ok (.land, 1) := by decide +kernel
theorem dX7_slot_151 : decode cX7_slot 151 = .ok (.lstore 10, 2) := by decide +kernel
theorem dX7_slot_153 : decode cX7_slot 153 = .ok (.iinc 12 1, 3) := by decide +kernel
theorem dX7_slot_156 : decode cX7_slot 156 = .ok (.goto (-49), 3) := by decide +kernel
theorem dX7_slot_159 : decode cX7_slot 159 = .ok (.lload_n 2, 1) := by decide +kernel
theorem dX7_slot_160 : decode cX7_slot 160 = .ok (.lload 8, 2) := by decide +kernel
theorem dX7_slot_162 : decode cX7_slot 162 = .ok (.lor, 1) := by decide +kernel
theorem dX7_slot_163 : decode cX7_slot 163 = .ok (.lstore_n 2, 1) := by decide +kernel
theorem dX7_slot_164 : decode cX7_slot 164 = .ok (.lload 4, 2) := by decide +kernel
theorem dX7_slot_166 : decode cX7_slot 166 = .ok (.lload 10, 2) := by decide +kernel
theorem dX7_slot_168 : decode cX7_slot 168 = .ok (.lor, 1) := by decide +kernel
theorem dX7_slot_169 : decode cX7_slot 169 = .ok (.lstore 4, 2) := by decide +kernel
theorem dX7_slot_171 : decode cX7_slot 171 = .ok (.iinc 6 1, 3) := by decide +kernel
theorem dX7_slot_174 : decode cX7_slot 174 = .ok (.goto (-131), 3) := by decide +kernel
theorem dX7_slot_177 : decode cX7_slot 177 = .ok (.aload_n 0, 1) := by decide +kernel
theorem dX7_slot_178 : decode cX7_slot 178 = .ok (.getfield 31, 3) := by decide +kernel
theorem dX7_slot_181 : decode cX7_slot 181 = .ok (.iload_n 1, 1) := by decide +kernel
theorem dX7_slot_182 : decode cX7_slot 182 = .ok (.lload_n 2, 1) := by decide +kernel
theorem dX7_slot_183 : decode cX7_slot 183 = .ok (.lastore, 1) := by decide +kernel
theorem dX7_slot_184 : decode cX7_slot 184 = .ok (.aload_n 0, 1) := by decide +kernel
theorem dX7_slot_185 : decode cX7_slot 185 = .ok (.getfield 34, 3) := by decide +kernel
theorem dX7_slot_188 : decode cX7_slot 188 = .ok (.iload_n 1, 1) := by decide +kernel
theorem dX7_slot_189 : decode cX7_slot 189 = .ok (.lload 4, 2) := by decide +kernel
theorem dX7_slot_191 : decode cX7_slot 191 = .ok (.lastore, 1) := by decide +kernel
theorem dX7_slot_192 : decode cX7_slot 192 = .ok (.aload_n 0, 1) := by decide +kernel
theorem dX7_slot_193 : decode cX7_slot 193 = .ok (.getfield 37, 3) := by decide +kernel
theorem dX7_slot_196 : decode cX7_slot 196 = .ok (.iload_n 1, 1) := by decide +kernel
theorem dX7_slot_197 : decode cX7_slot 197 = .ok (.iconst 1, 1) := by decide +kernel
theorem dX7_slot_198 : decode cX7_slot 198 = .ok (.bastore, 1) := by decide +kernel
theorem dX7_slot_199 : decode cX7_slot 199 = .ok (.iload_n 1, 1) := by decide +kernel
theorem dX7_slot_200 : decode cX7_slot 200 = .ok (.ireturn, 1) := by decide +kernel
theorem dX7_lowBy_0 : decode cX7_lowBy 0 = .ok (.aload_n 0, 1) := by decide +kernel
theorem dX7_lowBy_1 : decode cX7_lowBy 1 = .ok (.getfield 31, 3) := by decide +kernel
theorem dX7_lowBy_4 : decode cX7_lowBy 4 = .ok (.aload_n 0, 1) := by decide +kernel
theorem dX7_lowBy_5 : decode cX7_lowBy 5 = .ok (.iload_n 1, 1) := by decide +kernel
theorem dX7_lowBy_6 : decode cX7_lowBy 6 = .ok (.invokevirtual 91, 3) := by decide +kernel
theorem dX7_lowBy_9 : decode cX7_lowBy 9 = .ok (.laload, 1) := by decide +kernel
theorem dX7_lowBy_10 : decode cX7_lowBy 10 = .ok (.lstore 5, 2) := by decide +kernel
theorem dX7_lowBy_12 : decode cX7_lowBy 12 = .ok (.iload_n 2, 1) := by decide +kernel
theorem dX7_lowBy_13 : decode cX7_lowBy 13 = .ok (.iconst 1, 1) := by decide +kernel
theorem dX7_lowBy_14 : decode cX7_lowBy 14 = .ok (.if_icmp .ne 10, 3) := by decide +kernel
theorem dX7_lowBy_17 : decode cX7_lowBy 17 = .ok (.lload_n 3, 1) := by decide +kernel
theorem dX7_lowBy_18 : decode cX7_lowBy 18 = .ok (.lload 5, 2) := by decide +kernel
theorem dX7_lowBy_20 : decode cX7_lowBy 20 = .ok (.land, 1) := by decide +kernel
theorem dX7_lowBy_21 : decode cX7_lowBy 21 = .ok (.goto 11, 3) := by decide +kernel
theorem dX7_lowBy_24 : decode cX7_lowBy 24 = .ok (.lload_n 3, 1) := by decide +kernel
theorem dX7_lowBy_25 : decode cX7_lowBy 25 = .ok (.lload 5, 2) := by decide +kernel
theorem dX7_lowBy_27 : decode cX7_lowBy 27 = .ok (.ldc2_w 81, 3) := by decide +kernel
theorem dX7_lowBy_30 : decode cX7_lowBy 30 = .ok (.lxor, 1) := by decide +kernel
theorem dX7_lowBy_31 : decode cX7_lowBy 31 = .ok (.land, 1) := by decide +kernel
theorem dX7_lowBy_32 : decode cX7_lowBy 32 = .ok (.lreturn, 1) := by decide +kernel
theorem dX7_highBy_0 : decode cX7_highBy 0 = .ok (.aload_n 0, 1) := by decide +kernel
theorem dX7_highBy_1 : decode cX7_highBy 1 = .ok (.getfield 34, 3) := by decide +kernel
theorem dX7_highBy_4 : decode cX7_highBy 4 = .ok (.aload_n 0, 1) := by decide +kernel
theorem dX7_highBy_5 : decode cX7_highBy 5 = .ok (.iload_n 1, 1) := by decide +kernel
theorem dX7_highBy_6 : decode cX7_highBy 6 = .ok (.invokevirtual 91, 3) := by decide +kernel
theorem dX7_highBy_9 : decode cX7_highBy 9 = .ok (.laload, 1) := by decide +kernel
theorem dX7_highBy_10 : decode cX7_highBy 10 = .ok (.lstore 5, 2) := by decide +kernel
theorem dX7_highBy_12 : decode cX7_highBy 12 = .ok (.iload_n 2, 1) := by decide +kernel
theorem dX7_highBy_13 : decode cX7_highBy 13 = .ok (.iconst 1, 1) := by decide +kernel
theorem dX7_highBy_14 : decode cX7_highBy 14 = .ok (.if_icmp .ne 10, 3) := by decide +kernel
theorem dX7_highBy_17 : decode cX7_highBy 17 = .ok (.lload_n 3, 1) := by decide +kernel
theorem dX7_highBy_18 : decode cX7_highBy 18 = .ok (.lload 5, 2) := by decide +kernel
theorem dX7_highBy_20 : decode cX7_highBy 20 = .ok (.land, 1) := by decide +kernel
theorem dX7_highBy_21 : decode cX7_highBy 21 = .ok (.goto 11, 3) := by decide +kernel
theorem dX7_highBy_24 : decode cX7_highBy 24 = .ok (.lload_n 3, 1) := by decide +kernel
theorem dX7_highBy_25 : decode cX7_highBy 25 = .ok (.lload 5, 2) := by decide +kernel
theorem dX7_highBy_27 : decode cX7_highBy 27 = .ok (.ldc2_w 81, 3) := by decide +kernel
theorem dX7_highBy_30 : decode cX7_highBy 30 = .ok (.lxor, 1) := by decide +kernel
theorem dX7_highBy_31 : decode cX7_highBy 31 = .ok (.land, 1) := by decide +kernel
theorem dX7_highBy_32 : decode cX7_highBy 32 = .ok (.lreturn, 1) := by decide +kernel
theorem dX7_wrongAmong_0 : decode cX7_wrongAmong 0 = .ok (.aload_n 0, 1) := by decide +kernel
theorem dX7_wrongAmong_1 : decode cX7_wrongAmong 1 = .ok (.iload_n 1, 1) := by decide +kernel
theorem dX7_wrongAmong_2 : decode cX7_wrongAmong 2 = .ok (.invokevirtual 91, 3) := by decide +kernel
theorem dX7_wrongAmong_5 : decode cX7_wrongAmong 5 = .ok (.istore 6, 2) := by decide +kernel
theorem dX7_wrongAmong_7 : decode cX7_wrongAmong 7 = .ok (.lload_n 2, 1) := by decide +kernel
theorem dX7_wrongAmong_8 : decode cX7_wrongAmong 8 = .ok (.aload_n 0, 1) := by decide +kernel
theorem dX7_wrongAmong_9 : decode cX7_wrongAmong 9 = .ok (.getfield 31, 3) := by decide +kernel
theorem dX7_wrongAmong_12 : decode cX7_wrongAmong 12 = .ok (.iload 6, 2) := by decide +kernel
theorem dX7_wrongAmong_14 : decode cX7_wrongAmong 14 = .ok (.laload, 1) := by decide +kernel
theorem dX7_wrongAmong_15 : decode cX7_wrongAmong 15 = .ok (.land, 1) := by decide +kernel
theorem dX7_wrongAmong_16 : decode cX7_wrongAmong 16 = .ok (.invokestatic 76, 3) := by decide +kernel
theorem dX7_wrongAmong_19 : decode cX7_wrongAmong 19 = .ok (.lload 4, 2) := by decide +kernel
theorem dX7_wrongAmong_21 : decode cX7_wrongAmong 21 = .ok (.aload_n 0, 1) := by decide +kernel
theorem dX7_wrongAmong_22 : decode cX7_wrongAmong 22 = .ok (.getfield 34, 3) := by decide +kernel
theorem dX7_wrongAmong_25 : decode cX7_wrongAmong 25 = .ok (.iload 6, 2) := by decide +kernel
theorem dX7_wrongAmong_27 : decode cX7_wrongAmong 27 = .ok (.laload, 1) := by decide +kernel
theorem dX7_wrongAmong_28 : decode cX7_wrongAmong 28 = .ok (.land, 1) := by decide +kernel
theorem dX7_wrongAmong_29 : decode cX7_wrongAmong 29 = .ok (.invokestatic 76, 3) := by decide +kernel
theorem dX7_wrongAmong_32 : decode cX7_wrongAmong 32 = .ok (.iadd, 1) := by decide +kernel
theorem dX7_wrongAmong_33 : decode cX7_wrongAmong 33 = .ok (.ireturn, 1) := by decide +kernel
theorem dX7_soundOf_0 : decode cX7_soundOf 0 = .ok (.aload_n 0, 1) := by decide +kernel
theorem dX7_soundOf_1 : decode cX7_soundOf 1 = .ok (.iload_n 1, 1) := by decide +kernel
theorem dX7_soundOf_2 : decode cX7_soundOf 2 = .ok (.invokevirtual 91, 3) := by decide +kernel
theorem dX7_soundOf_5 : decode cX7_soundOf 5 = .ok (.istore_n 3, 1) := by decide +kernel
theorem dX7_soundOf_6 : decode cX7_soundOf 6 = .ok (.iload_n 2, 1) := by decide +kernel
theorem dX7_soundOf_7 : decode cX7_soundOf 7 = .ok (.aload_n 0, 1) := by decide +kernel
theorem dX7_soundOf_8 : decode cX7_soundOf 8 = .ok (.getfield 31, 3) := by decide +kernel
theorem dX7_soundOf_11 : decode cX7_soundOf 11 = .ok (.iload_n 3, 1) := by decide +kernel
theorem dX7_soundOf_12 : decode cX7_soundOf 12 = .ok (.laload, 1) := by decide +kernel
theorem dX7_soundOf_13 : decode cX7_soundOf 13 = .ok (.aload_n 0, 1) := by decide +kernel
theorem dX7_soundOf_14 : decode cX7_soundOf 14 = .ok (.getfield 34, 3) := by decide +kernel
theorem dX7_soundOf_17 : decode cX7_soundOf 17 = .ok (.iload_n 3, 1) := by decide +kernel
theorem dX7_soundOf_18 : decode cX7_soundOf 18 = .ok (.laload, 1) := by decide +kernel
theorem dX7_soundOf_19 : decode cX7_soundOf 19 = .ok (.invokestatic 83, 3) := by decide +kernel
theorem dX7_soundOf_22 : decode cX7_soundOf 22 = .ok (.ifCond .eq 7, 3) := by decide +kernel
theorem dX7_soundOf_25 : decode cX7_soundOf 25 = .ok (.iconst 1, 1) := by decide +kernel
theorem dX7_soundOf_26 : decode cX7_soundOf 26 = .ok (.goto 4, 3) := by decide +kernel
theorem dX7_soundOf_29 : decode cX7_soundOf 29 = .ok (.iconst 0, 1) := by decide +kernel
theorem dX7_soundOf_30 : decode cX7_soundOf 30 = .ok (.ireturn, 1) := by decide +kernel
theorem dX7_doubtAll_0 : decode cX7_doubtAll 0 = .ok (.aload_n 0, 1) := by decide +kernel
theorem dX7_doubtAll_1 : decode cX7_doubtAll 1 = .ok (.getfield 41, 3) := by decide +kernel
theorem dX7_doubtAll_4 : decode cX7_doubtAll 4 = .ok (.invokevirtual 51, 3) := by decide +kernel
theorem dX7_doubtAll_7 : decode cX7_doubtAll 7 = .ok (.sipush 256, 3) := by decide +kernel
theorem dX7_doubtAll_10 : decode cX7_doubtAll 10 = .ok (.if_icmp .ge 16, 3) := by decide +kernel
theorem dX7_doubtAll_13 : decode cX7_doubtAll 13 = .ok (.aload_n 0, 1) := by decide +kernel
theorem dX7_doubtAll_14 : decode cX7_doubtAll 14 = .ok (.getfield 37, 3) := by decide +kernel
theorem dX7_doubtAll_17 : decode cX7_doubtAll 17 = .ok (.aload_n 0, 1) := by decide +kernel
theorem dX7_doubtAll_18 : decode cX7_doubtAll 18 = .ok (.getfield 41, 3) := by decide +kernel
theorem dX7_doubtAll_21 : decode cX7_doubtAll 21 = .ok (.invokevirtual 51, 3) := by decide +kernel
theorem dX7_doubtAll_24 : decode cX7_doubtAll 24 = .ok (.iconst 0, 1) := by decide +kernel
theorem dX7_doubtAll_25 : decode cX7_doubtAll 25 = .ok (.bastore, 1) := by decide +kernel
theorem dX7_doubtAll_26 : decode cX7_doubtAll 26 = .ok (.return_, 1) := by decide +kernel
theorem dX7_rightWhenAllSing_0 : decode cX7_rightWhenAllSing 0 = .ok (.aload_n 0, 1) := by decide +kernel
theorem dX7_rightWhenAllSing_1 : decode cX7_rightWhenAllSing 1 = .ok (.getfield 20, 3) := by decide +kernel
theorem dX7_rightWhenAllSing_4 : decode cX7_rightWhenAllSing 4 = .ok (.aload_n 0, 1) := by decide +kernel
theorem dX7_rightWhenAllSing_5 : decode cX7_rightWhenAllSing 5 = .ok (.aload_n 0, 1) := by decide +kernel
theorem dX7_rightWhenAllSing_6 : decode cX7_rightWhenAllSing 6 = .ok (.getfield 41, 3) := by decide +kernel
theorem dX7_rightWhenAllSing_9 : decode cX7_rightWhenAllSing 9 = .ok (.invokevirtual 51, 3) := by decide +kernel
theorem dX7_rightWhenAllSing_12 : decode cX7_rightWhenAllSing 12 = .ok (.aload_n 0, 1) := by decide +kernel
theorem dX7_rightWhenAllSing_13 : decode cX7_rightWhenAllSing 13 = .ok (.invokevirtual 94, 3) := by decide +kernel
theorem dX7_rightWhenAllSing_16 : decode cX7_rightWhenAllSing 16 = .ok (.aload_n 0, 1) := by decide +kernel
theorem dX7_rightWhenAllSing_17 : decode cX7_rightWhenAllSing 17 = .ok (.invokevirtual 98, 3) := by decide +kernel
theorem dX7_rightWhenAllSing_20 : decode cX7_rightWhenAllSing 20 = .ok (.invokevirtual 101, 3) := by decide +kernel
theorem dX7_rightWhenAllSing_23 : decode cX7_rightWhenAllSing 23 = .ok (.isub, 1) := by decide +kernel
theorem dX7_rightWhenAllSing_24 : decode cX7_rightWhenAllSing 24 = .ok (.ireturn, 1) := by decide +kernel
theorem dX7_isRightWhenAllSing_0 : decode cX7_isRightWhenAllSing 0 = .ok (.aload_n 0, 1) := by decide +kernel
theorem dX7_isRightWhenAllSing_1 : decode cX7_isRightWhenAllSing 1 = .ok (.aload_n 0, 1) := by decide +kernel
theorem dX7_isRightWhenAllSing_2 : decode cX7_isRightWhenAllSing 2 = .ok (.getfield 41, 3) := by decide +kernel
theorem dX7_isRightWhenAllSing_5 : decode cX7_isRightWhenAllSing 5 = .ok (.invokevirtual 51, 3) := by decide +kernel
theorem dX7_isRightWhenAllSing_8 : decode cX7_isRightWhenAllSing 8 = .ok (.iload_n 1, 1) := by decide +kernel
theorem dX7_isRightWhenAllSing_9 : decode cX7_isRightWhenAllSing 9 = .ok (.invokevirtual 105, 3) := by decide +kernel
theorem dX7_isRightWhenAllSing_12 : decode cX7_isRightWhenAllSing 12 = .ok (.ifCond .ne 7, 3) := by decide +kernel
theorem dX7_isRightWhenAllSing_15 : decode cX7_isRightWhenAllSing 15 = .ok (.iconst 1, 1) := by decide +kernel
theorem dX7_isRightWhenAllSing_16 : decode cX7_isRightWhenAllSing 16 = .ok (.goto 4, 3) := by decide +kernel
theorem dX7_isRightWhenAllSing_19 : decode cX7_isRightWhenAllSing 19 = .ok (.iconst 0, 1) := by decide +kernel
theorem dX7_isRightWhenAllSing_20 : decode cX7_isRightWhenAllSing 20 = .ok (.ireturn, 1) := by decide +kernel
theorem dJ6_numberOfTrailingZeros_0f7a4_0 : decode cJ6_numberOfTrailingZeros_0f7a4 0 = .ok (.iload_n 0, 1) := by decide +kernel
theorem dJ6_numberOfTrailingZeros_0f7a4_1 : decode cJ6_numberOfTrailingZeros_0f7a4 1 = .ok (.iconst (-1), 1) := by decide +kernel
theorem dJ6_numberOfTrailingZeros_0f7a4_2 : decode cJ6_numberOfTrailingZeros_0f7a4 2 = .ok (.ixor, 1) := by decide +kernel
theorem dJ6_numberOfTrailingZeros_0f7a4_3 : decode cJ6_numberOfTrailingZeros_0f7a4 3 = .ok (.iload_n 0, 1) := by decide +kernel
theorem dJ6_numberOfTrailingZeros_0f7a4_4 : decode cJ6_numberOfTrailingZeros_0f7a4 4 = .ok (.iconst 1, 1) := by decide +kernel
theorem dJ6_numberOfTrailingZeros_0f7a4_5 : decode cJ6_numberOfTrailingZeros_0f7a4 5 = .ok (.isub, 1) := by decide +kernel
theorem dJ6_numberOfTrailingZeros_0f7a4_6 : decode cJ6_numberOfTrailingZeros_0f7a4 6 = .ok (.iand, 1) := by decide +kernel
theorem dJ6_numberOfTrailingZeros_0f7a4_7 : decode cJ6_numberOfTrailingZeros_0f7a4 7 = .ok (.istore_n 0, 1) := by decide +kernel
theorem dJ6_numberOfTrailingZeros_0f7a4_8 : decode cJ6_numberOfTrailingZeros_0f7a4 8 = .ok (.iload_n 0, 1) := by decide +kernel
theorem dJ6_numberOfTrailingZeros_0f7a4_9 : decode cJ6_numberOfTrailingZeros_0f7a4 9 = .ok (.ifCond .gt 8, 3) := by decide +kernel
theorem dJ6_numberOfTrailingZeros_0f7a4_12 : decode cJ6_numberOfTrailingZeros_0f7a4 12 = .ok (.iload_n 0, 1) := by decide +kernel
theorem dJ6_numberOfTrailingZeros_0f7a4_13 : decode cJ6_numberOfTrailingZeros_0f7a4 13 = .ok (.bipush 32, 2) := by decide +kernel
theorem dJ6_numberOfTrailingZeros_0f7a4_15 : decode cJ6_numberOfTrailingZeros_0f7a4 15 = .ok (.iand, 1) := by decide +kernel
theorem dJ6_numberOfTrailingZeros_0f7a4_16 : decode cJ6_numberOfTrailingZeros_0f7a4 16 = .ok (.ireturn, 1) := by decide +kernel
theorem dJ6_numberOfTrailingZeros_0f7a4_17 : decode cJ6_numberOfTrailingZeros_0f7a4 17 = .ok (.iconst 1, 1) := by decide +kernel
theorem dJ6_numberOfTrailingZeros_0f7a4_18 : decode cJ6_numberOfTrailingZeros_0f7a4 18 = .ok (.istore_n 1, 1) := by decide +kernel
theorem dJ6_numberOfTrailingZeros_0f7a4_19 : decode cJ6_numberOfTrailingZeros_0f7a4 19 = .ok (.iload_n 0, 1) := by decide +kernel
theorem dJ6_numberOfTrailingZeros_0f7a4_20 : decode cJ6_numberOfTrailingZeros_0f7a4 20 = .ok (.ldc_w 264, 3) := by decide +kernel
theorem dJ6_numberOfTrailingZeros_0f7a4_23 : decode cJ6_numberOfTrailingZeros_0f7a4 23 = .ok (.if_icmp .le 11, 3) := by decide +kernel
theorem dJ6_numberOfTrailingZeros_0f7a4_26 : decode cJ6_numberOfTrailingZeros_0f7a4 26 = .ok (.iinc 1 16, 3) := by decide +kernel
theorem dJ6_numberOfTrailingZeros_0f7a4_29 : decode cJ6_numberOfTrailingZeros_0f7a4 29 = .ok (.iload_n 0, 1) := by decide +kernel
theorem dJ6_numberOfTrailingZeros_0f7a4_30 : decode cJ6_numberOfTrailingZeros_0f7a4 30 = .ok (.bipush 16, 2) := by decide +kernel
theorem dJ6_numberOfTrailingZeros_0f7a4_32 : decode cJ6_numberOfTrailingZeros_0f7a4 32 = .ok (.iushr, 1) := by decide +kernel
theorem dJ6_numberOfTrailingZeros_0f7a4_33 : decode cJ6_numberOfTrailingZeros_0f7a4 33 = .ok (.istore_n 0, 1) := by decide +kernel
theorem dJ6_numberOfTrailingZeros_0f7a4_34 : decode cJ6_numberOfTrailingZeros_0f7a4 34 = .ok (.iload_n 0, 1) := by decide +kernel
theorem dJ6_numberOfTrailingZeros_0f7a4_35 : decode cJ6_numberOfTrailingZeros_0f7a4 35 = .ok (.sipush 256, 3) := by decide +kernel
theorem dJ6_numberOfTrailingZeros_0f7a4_38 : decode cJ6_numberOfTrailingZeros_0f7a4 38 = .ok (.if_icmp .le 11, 3) := by decide +kernel
theorem dJ6_numberOfTrailingZeros_0f7a4_41 : decode cJ6_numberOfTrailingZeros_0f7a4 41 = .ok (.iinc 1 8, 3) := by decide +kernel
theorem dJ6_numberOfTrailingZeros_0f7a4_44 : decode cJ6_numberOfTrailingZeros_0f7a4 44 = .ok (.iload_n 0, 1) := by decide +kernel
theorem dJ6_numberOfTrailingZeros_0f7a4_45 : decode cJ6_numberOfTrailingZeros_0f7a4 45 = .ok (.bipush 8, 2) := by decide +kernel
theorem dJ6_numberOfTrailingZeros_0f7a4_47 : decode cJ6_numberOfTrailingZeros_0f7a4 47 = .ok (.iushr, 1) := by decide +kernel
theorem dJ6_numberOfTrailingZeros_0f7a4_48 : decode cJ6_numberOfTrailingZeros_0f7a4 48 = .ok (.istore_n 0, 1) := by decide +kernel
theorem dJ6_numberOfTrailingZeros_0f7a4_49 : decode cJ6_numberOfTrailingZeros_0f7a4 49 = .ok (.iload_n 0, 1) := by decide +kernel
theorem dJ6_numberOfTrailingZeros_0f7a4_50 : decode cJ6_numberOfTrailingZeros_0f7a4 50 = .ok (.bipush 16, 2) := by decide +kernel
theorem dJ6_numberOfTrailingZeros_0f7a4_52 : decode cJ6_numberOfTrailingZeros_0f7a4 52 = .ok (.if_icmp .le 10, 3) := by decide +kernel
theorem dJ6_numberOfTrailingZeros_0f7a4_55 : decode cJ6_numberOfTrailingZeros_0f7a4 55 = .ok (.iinc 1 4, 3) := by decide +kernel
theorem dJ6_numberOfTrailingZeros_0f7a4_58 : decode cJ6_numberOfTrailingZeros_0f7a4 58 = .ok (.iload_n 0, 1) := by decide +kernel
theorem dJ6_numberOfTrailingZeros_0f7a4_59 : decode cJ6_numberOfTrailingZeros_0f7a4 59 = .ok (.iconst 4, 1) := by decide +kernel
theorem dJ6_numberOfTrailingZeros_0f7a4_60 : decode cJ6_numberOfTrailingZeros_0f7a4 60 = .ok (.iushr, 1) := by decide +kernel
theorem dJ6_numberOfTrailingZeros_0f7a4_61 : decode cJ6_numberOfTrailingZeros_0f7a4 61 = .ok (.istore_n 0, 1) := by decide +kernel
theorem dJ6_numberOfTrailingZeros_0f7a4_62 : decode cJ6_numberOfTrailingZeros_0f7a4 62 = .ok (.iload_n 0, 1) := by decide +kernel
theorem dJ6_numberOfTrailingZeros_0f7a4_63 : decode cJ6_numberOfTrailingZeros_0f7a4 63 = .ok (.iconst 4, 1) := by decide +kernel
theorem dJ6_numberOfTrailingZeros_0f7a4_64 : decode cJ6_numberOfTrailingZeros_0f7a4 64 = .ok (.if_icmp .le 10, 3) := by decide +kernel
theorem dJ6_numberOfTrailingZeros_0f7a4_67 : decode cJ6_numberOfTrailingZeros_0f7a4 67 = .ok (.iinc 1 2, 3) := by decide +kernel
theorem dJ6_numberOfTrailingZeros_0f7a4_70 : decode cJ6_numberOfTrailingZeros_0f7a4 70 = .ok (.iload_n 0, 1) := by decide +kernel
theorem dJ6_numberOfTrailingZeros_0f7a4_71 : decode cJ6_numberOfTrailingZeros_0f7a4 71 = .ok (.iconst 2, 1) := by decide +kernel
theorem dJ6_numberOfTrailingZeros_0f7a4_72 : decode cJ6_numberOfTrailingZeros_0f7a4 72 = .ok (.iushr, 1) := by decide +kernel
theorem dJ6_numberOfTrailingZeros_0f7a4_73 : decode cJ6_numberOfTrailingZeros_0f7a4 73 = .ok (.istore_n 0, 1) := by decide +kernel
theorem dJ6_numberOfTrailingZeros_0f7a4_74 : decode cJ6_numberOfTrailingZeros_0f7a4 74 = .ok (.iload_n 1, 1) := by decide +kernel
theorem dJ6_numberOfTrailingZeros_0f7a4_75 : decode cJ6_numberOfTrailingZeros_0f7a4 75 = .ok (.iload_n 0, 1) := by decide +kernel
theorem dJ6_numberOfTrailingZeros_0f7a4_76 : decode cJ6_numberOfTrailingZeros_0f7a4 76 = .ok (.iconst 1, 1) := by decide +kernel
theorem dJ6_numberOfTrailingZeros_0f7a4_77 : decode cJ6_numberOfTrailingZeros_0f7a4 77 = .ok (.iushr, 1) := by decide +kernel
theorem dJ6_numberOfTrailingZeros_0f7a4_78 : decode cJ6_numberOfTrailingZeros_0f7a4 78 = .ok (.iadd, 1) := by decide +kernel
theorem dJ6_numberOfTrailingZeros_0f7a4_79 : decode cJ6_numberOfTrailingZeros_0f7a4 79 = .ok (.ireturn, 1) := by decide +kernel
theorem dJ6_bitCount_0f7a4_0 : decode cJ6_bitCount_0f7a4 0 = .ok (.iload_n 0, 1) := by decide +kernel
theorem dJ6_bitCount_0f7a4_1 : decode cJ6_bitCount_0f7a4 1 = .ok (.iload_n 0, 1) := by decide +kernel
theorem dJ6_bitCount_0f7a4_2 : decode cJ6_bitCount_0f7a4 2 = .ok (.iconst 1, 1) := by decide +kernel
theorem dJ6_bitCount_0f7a4_3 : decode cJ6_bitCount_0f7a4 3 = .ok (.iushr, 1) := by decide +kernel
theorem dJ6_bitCount_0f7a4_4 : decode cJ6_bitCount_0f7a4 4 = .ok (.ldc_w 265, 3) := by decide +kernel
theorem dJ6_bitCount_0f7a4_7 : decode cJ6_bitCount_0f7a4 7 = .ok (.iand, 1) := by decide +kernel
theorem dJ6_bitCount_0f7a4_8 : decode cJ6_bitCount_0f7a4 8 = .ok (.isub, 1) := by decide +kernel
theorem dJ6_bitCount_0f7a4_9 : decode cJ6_bitCount_0f7a4 9 = .ok (.istore_n 0, 1) := by decide +kernel
theorem dJ6_bitCount_0f7a4_10 : decode cJ6_bitCount_0f7a4 10 = .ok (.iload_n 0, 1) := by decide +kernel
theorem dJ6_bitCount_0f7a4_11 : decode cJ6_bitCount_0f7a4 11 = .ok (.ldc_w 266, 3) := by decide +kernel
theorem dJ6_bitCount_0f7a4_14 : decode cJ6_bitCount_0f7a4 14 = .ok (.iand, 1) := by decide +kernel
theorem dJ6_bitCount_0f7a4_15 : decode cJ6_bitCount_0f7a4 15 = .ok (.iload_n 0, 1) := by decide +kernel
theorem dJ6_bitCount_0f7a4_16 : decode cJ6_bitCount_0f7a4 16 = .ok (.iconst 2, 1) := by decide +kernel
theorem dJ6_bitCount_0f7a4_17 : decode cJ6_bitCount_0f7a4 17 = .ok (.iushr, 1) := by decide +kernel
theorem dJ6_bitCount_0f7a4_18 : decode cJ6_bitCount_0f7a4 18 = .ok (.ldc_w 266, 3) := by decide +kernel
theorem dJ6_bitCount_0f7a4_21 : decode cJ6_bitCount_0f7a4 21 = .ok (.iand, 1) := by decide +kernel
theorem dJ6_bitCount_0f7a4_22 : decode cJ6_bitCount_0f7a4 22 = .ok (.iadd, 1) := by decide +kernel
theorem dJ6_bitCount_0f7a4_23 : decode cJ6_bitCount_0f7a4 23 = .ok (.istore_n 0, 1) := by decide +kernel
theorem dJ6_bitCount_0f7a4_24 : decode cJ6_bitCount_0f7a4 24 = .ok (.iload_n 0, 1) := by decide +kernel
theorem dJ6_bitCount_0f7a4_25 : decode cJ6_bitCount_0f7a4 25 = .ok (.iload_n 0, 1) := by decide +kernel
theorem dJ6_bitCount_0f7a4_26 : decode cJ6_bitCount_0f7a4 26 = .ok (.iconst 4, 1) := by decide +kernel
theorem dJ6_bitCount_0f7a4_27 : decode cJ6_bitCount_0f7a4 27 = .ok (.iushr, 1) := by decide +kernel
theorem dJ6_bitCount_0f7a4_28 : decode cJ6_bitCount_0f7a4 28 = .ok (.iadd, 1) := by decide +kernel
theorem dJ6_bitCount_0f7a4_29 : decode cJ6_bitCount_0f7a4 29 = .ok (.ldc_w 267, 3) := by decide +kernel
theorem dJ6_bitCount_0f7a4_32 : decode cJ6_bitCount_0f7a4 32 = .ok (.iand, 1) := by decide +kernel
theorem dJ6_bitCount_0f7a4_33 : decode cJ6_bitCount_0f7a4 33 = .ok (.istore_n 0, 1) := by decide +kernel
theorem dJ6_bitCount_0f7a4_34 : decode cJ6_bitCount_0f7a4 34 = .ok (.iload_n 0, 1) := by decide +kernel
theorem dJ6_bitCount_0f7a4_35 : decode cJ6_bitCount_0f7a4 35 = .ok (.iload_n 0, 1) := by decide +kernel
theorem dJ6_bitCount_0f7a4_36 : decode cJ6_bitCount_0f7a4 36 = .ok (.bipush 8, 2) := by decide +kernel
theorem dJ6_bitCount_0f7a4_38 : decode cJ6_bitCount_0f7a4 38 = .ok (.iushr, 1) := by decide +kernel
theorem dJ6_bitCount_0f7a4_39 : decode cJ6_bitCount_0f7a4 39 = .ok (.iadd, 1) := by decide +kernel
theorem dJ6_bitCount_0f7a4_40 : decode cJ6_bitCount_0f7a4 40 = .ok (.istore_n 0, 1) := by decide +kernel
theorem dJ6_bitCount_0f7a4_41 : decode cJ6_bitCount_0f7a4 41 = .ok (.iload_n 0, 1) := by decide +kernel
theorem dJ6_bitCount_0f7a4_42 : decode cJ6_bitCount_0f7a4 42 = .ok (.iload_n 0, 1) := by decide +kernel
theorem dJ6_bitCount_0f7a4_43 : decode cJ6_bitCount_0f7a4 43 = .ok (.bipush 16, 2) := by decide +kernel
theorem dJ6_bitCount_0f7a4_45 : decode cJ6_bitCount_0f7a4 45 = .ok (.iushr, 1) := by decide +kernel
theorem dJ6_bitCount_0f7a4_46 : decode cJ6_bitCount_0f7a4 46 = .ok (.iadd, 1) := by decide +kernel
theorem dJ6_bitCount_0f7a4_47 : decode cJ6_bitCount_0f7a4 47 = .ok (.istore_n 0, 1) := by decide +kernel
theorem dJ6_bitCount_0f7a4_48 : decode cJ6_bitCount_0f7a4 48 = .ok (.iload_n 0, 1) := by decide +kernel
theorem dJ6_bitCount_0f7a4_49 : decode cJ6_bitCount_0f7a4 49 = .ok (.bipush 63, 2) := by decide +kernel
theorem dJ6_bitCount_0f7a4_51 : decode cJ6_bitCount_0f7a4 51 = .ok (.iand, 1) := by decide +kernel
theorem dJ6_bitCount_0f7a4_52 : decode cJ6_bitCount_0f7a4 52 = .ok (.ireturn, 1) := by decide +kernel
theorem dJ13_bitCount_95d88_0 : decode cJ13_bitCount_95d88 0 = .ok (.lload_n 0, 1) := by decide +kernel
theorem dJ13_bitCount_95d88_1 : decode cJ13_bitCount_95d88 1 = .ok (.lload_n 0, 1) := by decide +kernel
theorem dJ13_bitCount_95d88_2 : decode cJ13_bitCount_95d88 2 = .ok (.iconst 1, 1) := by decide +kernel
theorem dJ13_bitCount_95d88_3 : decode cJ13_bitCount_95d88 3 = .ok (.lushr, 1) := by decide +kernel
theorem dJ13_bitCount_95d88_4 : decode cJ13_bitCount_95d88 4 = .ok (.ldc2_w 314, 3) := by decide +kernel
theorem dJ13_bitCount_95d88_7 : decode cJ13_bitCount_95d88 7 = .ok (.land, 1) := by decide +kernel
theorem dJ13_bitCount_95d88_8 : decode cJ13_bitCount_95d88 8 = .ok (.lsub, 1) := by decide +kernel
theorem dJ13_bitCount_95d88_9 : decode cJ13_bitCount_95d88 9 = .ok (.lstore_n 0, 1) := by decide +kernel
theorem dJ13_bitCount_95d88_10 : decode cJ13_bitCount_95d88 10 = .ok (.lload_n 0, 1) := by decide +kernel
theorem dJ13_bitCount_95d88_11 : decode cJ13_bitCount_95d88 11 = .ok (.ldc2_w 316, 3) := by decide +kernel
theorem dJ13_bitCount_95d88_14 : decode cJ13_bitCount_95d88 14 = .ok (.land, 1) := by decide +kernel
theorem dJ13_bitCount_95d88_15 : decode cJ13_bitCount_95d88 15 = .ok (.lload_n 0, 1) := by decide +kernel
theorem dJ13_bitCount_95d88_16 : decode cJ13_bitCount_95d88 16 = .ok (.iconst 2, 1) := by decide +kernel
theorem dJ13_bitCount_95d88_17 : decode cJ13_bitCount_95d88 17 = .ok (.lushr, 1) := by decide +kernel
theorem dJ13_bitCount_95d88_18 : decode cJ13_bitCount_95d88 18 = .ok (.ldc2_w 316, 3) := by decide +kernel
theorem dJ13_bitCount_95d88_21 : decode cJ13_bitCount_95d88 21 = .ok (.land, 1) := by decide +kernel
theorem dJ13_bitCount_95d88_22 : decode cJ13_bitCount_95d88 22 = .ok (.ladd, 1) := by decide +kernel
theorem dJ13_bitCount_95d88_23 : decode cJ13_bitCount_95d88 23 = .ok (.lstore_n 0, 1) := by decide +kernel
theorem dJ13_bitCount_95d88_24 : decode cJ13_bitCount_95d88 24 = .ok (.lload_n 0, 1) := by decide +kernel
theorem dJ13_bitCount_95d88_25 : decode cJ13_bitCount_95d88 25 = .ok (.lload_n 0, 1) := by decide +kernel
theorem dJ13_bitCount_95d88_26 : decode cJ13_bitCount_95d88 26 = .ok (.iconst 4, 1) := by decide +kernel
theorem dJ13_bitCount_95d88_27 : decode cJ13_bitCount_95d88 27 = .ok (.lushr, 1) := by decide +kernel
theorem dJ13_bitCount_95d88_28 : decode cJ13_bitCount_95d88 28 = .ok (.ladd, 1) := by decide +kernel
theorem dJ13_bitCount_95d88_29 : decode cJ13_bitCount_95d88 29 = .ok (.ldc2_w 318, 3) := by decide +kernel
theorem dJ13_bitCount_95d88_32 : decode cJ13_bitCount_95d88 32 = .ok (.land, 1) := by decide +kernel
theorem dJ13_bitCount_95d88_33 : decode cJ13_bitCount_95d88 33 = .ok (.lstore_n 0, 1) := by decide +kernel
theorem dJ13_bitCount_95d88_34 : decode cJ13_bitCount_95d88 34 = .ok (.lload_n 0, 1) := by decide +kernel
theorem dJ13_bitCount_95d88_35 : decode cJ13_bitCount_95d88 35 = .ok (.lload_n 0, 1) := by decide +kernel
theorem dJ13_bitCount_95d88_36 : decode cJ13_bitCount_95d88 36 = .ok (.bipush 8, 2) := by decide +kernel
theorem dJ13_bitCount_95d88_38 : decode cJ13_bitCount_95d88 38 = .ok (.lushr, 1) := by decide +kernel
theorem dJ13_bitCount_95d88_39 : decode cJ13_bitCount_95d88 39 = .ok (.ladd, 1) := by decide +kernel
theorem dJ13_bitCount_95d88_40 : decode cJ13_bitCount_95d88 40 = .ok (.lstore_n 0, 1) := by decide +kernel
theorem dJ13_bitCount_95d88_41 : decode cJ13_bitCount_95d88 41 = .ok (.lload_n 0, 1) := by decide +kernel
theorem dJ13_bitCount_95d88_42 : decode cJ13_bitCount_95d88 42 = .ok (.lload_n 0, 1) := by decide +kernel
theorem dJ13_bitCount_95d88_43 : decode cJ13_bitCount_95d88 43 = .ok (.bipush 16, 2) := by decide +kernel
theorem dJ13_bitCount_95d88_45 : decode cJ13_bitCount_95d88 45 = .ok (.lushr, 1) := by decide +kernel
theorem dJ13_bitCount_95d88_46 : decode cJ13_bitCount_95d88 46 = .ok (.ladd, 1) := by decide +kernel
theorem dJ13_bitCount_95d88_47 : decode cJ13_bitCount_95d88 47 = .ok (.lstore_n 0, 1) := by decide +kernel
theorem dJ13_bitCount_95d88_48 : decode cJ13_bitCount_95d88 48 = .ok (.lload_n 0, 1) := by decide +kernel
theorem dJ13_bitCount_95d88_49 : decode cJ13_bitCount_95d88 49 = .ok (.lload_n 0, 1) := by decide +kernel
theorem dJ13_bitCount_95d88_50 : decode cJ13_bitCount_95d88 50 = .ok (.bipush 32, 2) := by decide +kernel
theorem dJ13_bitCount_95d88_52 : decode cJ13_bitCount_95d88 52 = .ok (.lushr, 1) := by decide +kernel
theorem dJ13_bitCount_95d88_53 : decode cJ13_bitCount_95d88 53 = .ok (.ladd, 1) := by decide +kernel
theorem dJ13_bitCount_95d88_54 : decode cJ13_bitCount_95d88 54 = .ok (.lstore_n 0, 1) := by decide +kernel
theorem dJ13_bitCount_95d88_55 : decode cJ13_bitCount_95d88 55 = .ok (.lload_n 0, 1) := by decide +kernel
theorem dJ13_bitCount_95d88_56 : decode cJ13_bitCount_95d88 56 = .ok (.l2i, 1) := by decide +kernel
theorem dJ13_bitCount_95d88_57 : decode cJ13_bitCount_95d88 57 = .ok (.bipush 127, 2) := by decide +kernel
theorem dJ13_bitCount_95d88_59 : decode cJ13_bitCount_95d88 59 = .ok (.iand, 1) := by decide +kernel
theorem dJ13_bitCount_95d88_60 : decode cJ13_bitCount_95d88 60 = .ok (.ireturn, 1) := by decide +kernel
theorem dJ9_max_7cf53_0 : decode cJ9_max_7cf53 0 = .ok (.iload_n 0, 1) := by decide +kernel
theorem dJ9_max_7cf53_1 : decode cJ9_max_7cf53 1 = .ok (.iload_n 1, 1) := by decide +kernel
theorem dJ9_max_7cf53_2 : decode cJ9_max_7cf53 2 = .ok (.if_icmp .lt 7, 3) := by decide +kernel
theorem dJ9_max_7cf53_5 : decode cJ9_max_7cf53 5 = .ok (.iload_n 0, 1) := by decide +kernel
theorem dJ9_max_7cf53_6 : decode cJ9_max_7cf53 6 = .ok (.goto 4, 3) := by decide +kernel
theorem dJ9_max_7cf53_9 : decode cJ9_max_7cf53 9 = .ok (.iload_n 1, 1) := by decide +kernel
theorem dJ9_max_7cf53_10 : decode cJ9_max_7cf53 10 = .ok (.ireturn, 1) := by decide +kernel
theorem dJ9_min_7cf53_0 : decode cJ9_min_7cf53 0 = .ok (.iload_n 0, 1) := by decide +kernel
theorem dJ9_min_7cf53_1 : decode cJ9_min_7cf53 1 = .ok (.iload_n 1, 1) := by decide +kernel
theorem dJ9_min_7cf53_2 : decode cJ9_min_7cf53 2 = .ok (.if_icmp .gt 7, 3) := by decide +kernel
theorem dJ9_min_7cf53_5 : decode cJ9_min_7cf53 5 = .ok (.iload_n 0, 1) := by decide +kernel
theorem dJ9_min_7cf53_6 : decode cJ9_min_7cf53 6 = .ok (.goto 4, 3) := by decide +kernel
theorem dJ9_min_7cf53_9 : decode cJ9_min_7cf53 9 = .ok (.iload_n 1, 1) := by decide +kernel
theorem dJ9_min_7cf53_10 : decode cJ9_min_7cf53 10 = .ok (.ireturn, 1) := by decide +kernel
theorem dJ0_length_8abf5_0 : decode cJ0_length_8abf5 0 = .ok (.aload_n 0, 1) := by decide +kernel
theorem dJ0_length_8abf5_1 : decode cJ0_length_8abf5 1 = .ok (.getfield 9, 3) := by decide +kernel
theorem dJ0_length_8abf5_4 : decode cJ0_length_8abf5 4 = .ok (.arraylength, 1) := by decide +kernel
theorem dJ0_length_8abf5_5 : decode cJ0_length_8abf5 5 = .ok (.aload_n 0, 1) := by decide +kernel
theorem dJ0_length_8abf5_6 : decode cJ0_length_8abf5 6 = .ok (.invokevirtual 335, 3) := by decide +kernel
theorem dJ0_length_8abf5_9 : decode cJ0_length_8abf5 9 = .ok (.ishr, 1) := by decide +kernel
theorem dJ0_length_8abf5_10 : decode cJ0_length_8abf5 10 = .ok (.ireturn, 1) := by decide +kernel
theorem dJ0_charAt_5068e_0 : decode cJ0_charAt_5068e 0 = .ok (.aload_n 0, 1) := by decide +kernel
theorem dJ0_charAt_5068e_1 : decode cJ0_charAt_5068e 1 = .ok (.invokevirtual 492, 3) := by decide +kernel
theorem dJ0_charAt_5068e_4 : decode cJ0_charAt_5068e 4 = .ok (.ifCond .eq 12, 3) := by decide +kernel
theorem dJ0_charAt_5068e_7 : decode cJ0_charAt_5068e 7 = .ok (.aload_n 0, 1) := by decide +kernel
theorem dJ0_charAt_5068e_8 : decode cJ0_charAt_5068e 8 = .ok (.getfield 9, 3) := by decide +kernel
theorem dJ0_charAt_5068e_11 : decode cJ0_charAt_5068e 11 = .ok (.iload_n 1, 1) := by decide +kernel
theorem dJ0_charAt_5068e_12 : decode cJ0_charAt_5068e 12 = .ok (.invokestatic 495, 3) := by decide +kernel
theorem dJ0_charAt_5068e_15 : decode cJ0_charAt_5068e 15 = .ok (.ireturn, 1) := by decide +kernel
theorem dJ0_charAt_5068e_16 : decode cJ0_charAt_5068e 16 = .ok (.aload_n 0, 1) := by decide +kernel
theorem dJ0_charAt_5068e_17 : decode cJ0_charAt_5068e 17 = .ok (.getfield 9, 3) := by decide +kernel
theorem dJ0_charAt_5068e_20 : decode cJ0_charAt_5068e 20 = .ok (.iload_n 1, 1) := by decide +kernel
theorem dJ0_charAt_5068e_21 : decode cJ0_charAt_5068e 21 = .ok (.invokestatic 498, 3) := by decide +kernel
theorem dJ0_charAt_5068e_24 : decode cJ0_charAt_5068e 24 = .ok (.ireturn, 1) := by decide +kernel
theorem dJ0_coder_7d493_0 : decode cJ0_coder_7d493 0 = .ok (.getstatic 38, 3) := by decide +kernel
theorem dJ0_coder_7d493_3 : decode cJ0_coder_7d493 3 = .ok (.ifCond .eq 10, 3) := by decide +kernel
theorem dJ0_coder_7d493_6 : decode cJ0_coder_7d493 6 = .ok (.aload_n 0, 1) := by decide +kernel
theorem dJ0_coder_7d493_7 : decode cJ0_coder_7d493 7 = .ok (.getfield 15, 3) := by decide +kernel
theorem dJ0_coder_7d493_10 : decode cJ0_coder_7d493 10 = .ok (.goto 4, 3) := by decide +kernel
theorem dJ0_coder_7d493_13 : decode cJ0_coder_7d493 13 = .ok (.iconst 1, 1) := by decide +kernel
theorem dJ0_coder_7d493_14 : decode cJ0_coder_7d493 14 = .ok (.ireturn, 1) := by decide +kernel
theorem dJ0_isLatin1_aae02_0 : decode cJ0_isLatin1_aae02 0 = .ok (.getstatic 38, 3) := by decide +kernel
theorem dJ0_isLatin1_aae02_3 : decode cJ0_isLatin1_aae02 3 = .ok (.ifCond .eq 14, 3) := by decide +kernel
theorem dJ0_isLatin1_aae02_6 : decode cJ0_isLatin1_aae02 6 = .ok (.aload_n 0, 1) := by decide +kernel
theorem dJ0_isLatin1_aae02_7 : decode cJ0_isLatin1_aae02 7 = .ok (.getfield 15, 3) := by decide +kernel
theorem dJ0_isLatin1_aae02_10 : decode cJ0_isLatin1_aae02 10 = .ok (.ifCond .ne 7, 3) := by decide +kernel
theorem dJ0_isLatin1_aae02_13 : decode cJ0_isLatin1_aae02 13 = .ok (.iconst 1, 1) := by decide +kernel
theorem dJ0_isLatin1_aae02_14 : decode cJ0_isLatin1_aae02 14 = .ok (.goto 4, 3) := by decide +kernel
theorem dJ0_isLatin1_aae02_17 : decode cJ0_isLatin1_aae02 17 = .ok (.iconst 0, 1) := by decide +kernel
theorem dJ0_isLatin1_aae02_18 : decode cJ0_isLatin1_aae02 18 = .ok (.ireturn, 1) := by decide +kernel
theorem dJ0_checkIndex_df160_0 : decode cJ0_checkIndex_df160 0 = .ok (.iload_n 0, 1) := by decide +kernel
theorem dJ0_checkIndex_df160_1 : decode cJ0_checkIndex_df160 1 = .ok (.iload_n 1, 1) := by decide +kernel
theorem dJ0_checkIndex_df160_2 : decode cJ0_checkIndex_df160 2 = .ok (.getstatic 1053, 3) := by decide +kernel
theorem dJ0_checkIndex_df160_5 : decode cJ0_checkIndex_df160 5 = .ok (.invokestatic 1059, 3) := by decide +kernel
theorem dJ0_checkIndex_df160_8 : decode cJ0_checkIndex_df160 8 = .ok (.pop, 1) := by decide +kernel
theorem dJ0_checkIndex_df160_9 : decode cJ0_checkIndex_df160 9 = .ok (.return_, 1) := by decide +kernel
theorem dJ1_charAt_3b067_0 : decode cJ1_charAt_3b067 0 = .ok (.iload_n 1, 1) := by decide +kernel
theorem dJ1_charAt_3b067_1 : decode cJ1_charAt_3b067 1 = .ok (.aload_n 0, 1) := by decide +kernel
theorem dJ1_charAt_3b067_2 : decode cJ1_charAt_3b067 2 = .ok (.arraylength, 1) := by decide +kernel
theorem dJ1_charAt_3b067_3 : decode cJ1_charAt_3b067 3 = .ok (.invokestatic 9, 3) := by decide +kernel
theorem dJ1_charAt_3b067_6 : decode cJ1_charAt_3b067 6 = .ok (.aload_n 0, 1) := by decide +kernel
theorem dJ1_charAt_3b067_7 : decode cJ1_charAt_3b067 7 = .ok (.iload_n 1, 1) := by decide +kernel
theorem dJ1_charAt_3b067_8 : decode cJ1_charAt_3b067 8 = .ok (.baload, 1) := by decide +kernel
theorem dJ1_charAt_3b067_9 : decode cJ1_charAt_3b067 9 = .ok (.sipush 255, 3) := by decide +kernel
theorem dJ1_charAt_3b067_12 : decode cJ1_charAt_3b067 12 = .ok (.iand, 1) := by decide +kernel
theorem dJ1_charAt_3b067_13 : decode cJ1_charAt_3b067 13 = .ok (.i2c, 1) := by decide +kernel
theorem dJ1_charAt_3b067_14 : decode cJ1_charAt_3b067 14 = .ok (.ireturn, 1) := by decide +kernel
theorem dJ2_getChar_3b067_0 : decode cJ2_getChar_3b067 0 = .ok (.getstatic 44, 3) := by decide +kernel
theorem dJ2_getChar_3b067_3 : decode cJ2_getChar_3b067 3 = .ok (.ifCond .ne 25, 3) := by decide +kernel
theorem dJ2_getChar_3b067_6 : decode cJ2_getChar_3b067 6 = .ok (.iload_n 1, 1) := by decide +kernel
theorem dJ2_getChar_3b067_7 : decode cJ2_getChar_3b067 7 = .ok (.ifCond .lt 11, 3) := by decide +kernel
theorem dJ2_getChar_3b067_10 : decode cJ2_getChar_3b067 10 = .ok (.iload_n 1, 1) := by decide +kernel
theorem dJ2_getChar_3b067_11 : decode cJ2_getChar_3b067 11 = .ok (.aload_n 0, 1) := by decide +kernel
theorem dJ2_getChar_3b067_12 : decode cJ2_getChar_3b067 12 = .ok (.invokestatic 48, 3) := by decide +kernel
theorem dJ2_getChar_3b067_15 : decode cJ2_getChar_3b067 15 = .ok (.if_icmp .lt 13, 3) := by decide +kernel
theorem dJ2_getChar_3b067_18 : decode cJ2_getChar_3b067 18 = .ok (.new 52, 3) := by decide +kernel
theorem dJ2_getChar_3b067_21 : decode cJ2_getChar_3b067 21 = .ok (.dup, 1) := by decide +kernel
theorem dJ2_getChar_3b067_22 : decode cJ2_getChar_3b067 22 = .ok (.ldc 54, 2) := by decide +kernel
theorem dJ2_getChar_3b067_24 : decode cJ2_getChar_3b067 24 = .ok (.invokespecial 56, 3) := by decide +kernel
theorem dJ2_getChar_3b067_27 : decode cJ2_getChar_3b067 27 = .ok (.athrow, 1) := by decide +kernel
theorem dJ2_getChar_3b067_28 : decode cJ2_getChar_3b067 28 = .ok (.iload_n 1, 1) := by decide +kernel
theorem dJ2_getChar_3b067_29 : decode cJ2_getChar_3b067 29 = .ok (.iconst 1, 1) := by decide +kernel
theorem dJ2_getChar_3b067_30 : decode cJ2_getChar_3b067 30 = .ok (.ishl, 1) := by decide +kernel
theorem dJ2_getChar_3b067_31 : decode cJ2_getChar_3b067 31 = .ok (.istore_n 1, 1) := by decide +kernel
theorem dJ2_getChar_3b067_32 : decode cJ2_getChar_3b067 32 = .ok (.aload_n 0, 1) := by decide +kernel
theorem dJ2_getChar_3b067_33 : decode cJ2_getChar_3b067 33 = .ok (.iload_n 1, 1) := by decide +kernel
theorem dJ2_getChar_3b067_34 : decode cJ2_getChar_3b067 34 = .ok (.iinc 1 1, 3) := by decide +kernel
theorem dJ2_getChar_3b067_37 : decode cJ2_getChar_3b067 37 = .ok (.baload, 1) := by decide +kernel
theorem dJ2_getChar_3b067_38 : decode cJ2_getChar_3b067 38 = .ok (.sipush 255, 3) := by decide +kernel
theorem dJ2_getChar_3b067_41 : decode cJ2_getChar_3b067 41 = .ok (.iand, 1) := by decide +kernel
theorem dJ2_getChar_3b067_42 : decode cJ2_getChar_3b067 42 = .ok (.getstatic 59, 3) := by decide +kernel
theorem dJ2_getChar_3b067_45 : decode cJ2_getChar_3b067 45 = .ok (.ishl, 1) := by decide +kernel
theorem dJ2_getChar_3b067_46 : decode cJ2_getChar_3b067 46 = .ok (.aload_n 0, 1) := by decide +kernel
theorem dJ2_getChar_3b067_47 : decode cJ2_getChar_3b067 47 = .ok (.iload_n 1, 1) := by decide +kernel
theorem dJ2_getChar_3b067_48 : decode cJ2_getChar_3b067 48 = .ok (.baload, 1) := by decide +kernel
theorem dJ2_getChar_3b067_49 : decode cJ2_getChar_3b067 49 = .ok (.sipush 255, 3) := by decide +kernel
theorem dJ2_getChar_3b067_52 : decode cJ2_getChar_3b067 52 = .ok (.iand, 1) := by decide +kernel
theorem dJ2_getChar_3b067_53 : decode cJ2_getChar_3b067 53 = .ok (.getstatic 63, 3) := by decide +kernel
theorem dJ2_getChar_3b067_56 : decode cJ2_getChar_3b067 56 = .ok (.ishl, 1) := by decide +kernel
theorem dJ2_getChar_3b067_57 : decode cJ2_getChar_3b067 57 = .ok (.ior, 1) := by decide +kernel
theorem dJ2_getChar_3b067_58 : decode cJ2_getChar_3b067 58 = .ok (.i2c, 1) := by decide +kernel
theorem dJ2_getChar_3b067_59 : decode cJ2_getChar_3b067 59 = .ok (.ireturn, 1) := by decide +kernel
theorem dJ2_length_9d52b_0 : decode cJ2_length_9d52b 0 = .ok (.aload_n 0, 1) := by decide +kernel
theorem dJ2_length_9d52b_1 : decode cJ2_length_9d52b 1 = .ok (.arraylength, 1) := by decide +kernel
theorem dJ2_length_9d52b_2 : decode cJ2_length_9d52b 2 = .ok (.iconst 1, 1) := by decide +kernel
theorem dJ2_length_9d52b_3 : decode cJ2_length_9d52b 3 = .ok (.ishr, 1) := by decide +kernel
theorem dJ2_length_9d52b_4 : decode cJ2_length_9d52b 4 = .ok (.ireturn, 1) := by decide +kernel
theorem dJ2_charAt_3b067_0 : decode cJ2_charAt_3b067 0 = .ok (.iload_n 1, 1) := by decide +kernel
theorem dJ2_charAt_3b067_1 : decode cJ2_charAt_3b067 1 = .ok (.aload_n 0, 1) := by decide +kernel
theorem dJ2_charAt_3b067_2 : decode cJ2_charAt_3b067 2 = .ok (.invokestatic 67, 3) := by decide +kernel
theorem dJ2_charAt_3b067_5 : decode cJ2_charAt_3b067 5 = .ok (.aload_n 0, 1) := by decide +kernel
theorem dJ2_charAt_3b067_6 : decode cJ2_charAt_3b067 6 = .ok (.iload_n 1, 1) := by decide +kernel
theorem dJ2_charAt_3b067_7 : decode cJ2_charAt_3b067 7 = .ok (.invokestatic 71, 3) := by decide +kernel
theorem dJ2_charAt_3b067_10 : decode cJ2_charAt_3b067 10 = .ok (.ireturn, 1) := by decide +kernel
theorem dJ2_checkIndex_2214a_0 : decode cJ2_checkIndex_2214a 0 = .ok (.iload_n 0, 1) := by decide +kernel
theorem dJ2_checkIndex_2214a_1 : decode cJ2_checkIndex_2214a 1 = .ok (.aload_n 1, 1) := by decide +kernel
theorem dJ2_checkIndex_2214a_2 : decode cJ2_checkIndex_2214a 2 = .ok (.invokestatic 48, 3) := by decide +kernel
theorem dJ2_checkIndex_2214a_5 : decode cJ2_checkIndex_2214a 5 = .ok (.invokestatic 414, 3) := by decide +kernel
theorem dJ2_checkIndex_2214a_8 : decode cJ2_checkIndex_2214a 8 = .ok (.return_, 1) := by decide +kernel
theorem dJ3_checkIndex_8e157_0 : decode cJ3_checkIndex_8e157 0 = .ok (.iload_n 0, 1) := by decide +kernel
theorem dJ3_checkIndex_8e157_1 : decode cJ3_checkIndex_8e157 1 = .ok (.ifCond .lt 8, 3) := by decide +kernel
theorem dJ3_checkIndex_8e157_4 : decode cJ3_checkIndex_8e157 4 = .ok (.iload_n 0, 1) := by decide +kernel
theorem dJ3_checkIndex_8e157_5 : decode cJ3_checkIndex_8e157 5 = .ok (.iload_n 1, 1) := by decide +kernel
theorem dJ3_checkIndex_8e157_6 : decode cJ3_checkIndex_8e157 6 = .ok (.if_icmp .lt 10, 3) := by decide +kernel
theorem dJ3_checkIndex_8e157_9 : decode cJ3_checkIndex_8e157 9 = .ok (.aload_n 2, 1) := by decide +kernel
theorem dJ3_checkIndex_8e157_10 : decode cJ3_checkIndex_8e157 10 = .ok (.iload_n 0, 1) := by decide +kernel
theorem dJ3_checkIndex_8e157_11 : decode cJ3_checkIndex_8e157 11 = .ok (.iload_n 1, 1) := by decide +kernel
theorem dJ3_checkIndex_8e157_12 : decode cJ3_checkIndex_8e157 12 = .ok (.invokestatic 95, 3) := by decide +kernel
theorem dJ3_checkIndex_8e157_15 : decode cJ3_checkIndex_8e157 15 = .ok (.athrow, 1) := by decide +kernel
theorem dJ3_checkIndex_8e157_16 : decode cJ3_checkIndex_8e157 16 = .ok (.iload_n 0, 1) := by decide +kernel
theorem dJ3_checkIndex_8e157_17 : decode cJ3_checkIndex_8e157 17 = .ok (.ireturn, 1) := by decide +kernel

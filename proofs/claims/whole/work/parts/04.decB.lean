theorem dX8_init_0 : decode cX8_init 0 = .ok (.aload_n 0, 1) := by decide +kernel
theorem dX8_init_1 : decode cX8_init 1 = .ok (.invokespecial 1, 3) := by decide +kernel
theorem dX8_init_4 : decode cX8_init 4 = .ok (.aload_n 0, 1) := by decide +kernel
theorem dX8_init_5 : decode cX8_init 5 = .ok (.bipush 8, 2) := by decide +kernel
theorem dX8_init_7 : decode cX8_init 7 = .ok (.anewarray 9, 3) := by decide +kernel
theorem dX8_init_10 : decode cX8_init 10 = .ok (.putfield 11, 3) := by decide +kernel
theorem dX8_init_13 : decode cX8_init 13 = .ok (.aload_n 0, 1) := by decide +kernel
theorem dX8_init_14 : decode cX8_init 14 = .ok (.bipush 8, 2) := by decide +kernel
theorem dX8_init_16 : decode cX8_init 16 = .ok (.newarray .int, 2) := by decide +kernel
theorem dX8_init_18 : decode cX8_init 18 = .ok (.putfield 15, 3) := by decide +kernel
theorem dX8_init_21 : decode cX8_init 21 = .ok (.aload_n 0, 1) := by decide +kernel
theorem dX8_init_22 : decode cX8_init 22 = .ok (.new 19, 3) := by decide +kernel
theorem dX8_init_25 : decode cX8_init 25 = .ok (.dup, 1) := by decide +kernel
theorem dX8_init_26 : decode cX8_init 26 = .ok (.invokespecial 21, 3) := by decide +kernel
theorem dX8_init_29 : decode cX8_init 29 = .ok (.putfield 22, 3) := by decide +kernel
theorem dX8_init_32 : decode cX8_init 32 = .ok (.aload_n 0, 1) := by decide +kernel
theorem dX8_init_33 : decode cX8_init 33 = .ok (.new 26, 3) := by decide +kernel
theorem dX8_init_36 : decode cX8_init 36 = .ok (.dup, 1) := by decide +kernel
theorem dX8_init_37 : decode cX8_init 37 = .ok (.invokespecial 28, 3) := by decide +kernel
theorem dX8_init_40 : decode cX8_init 40 = .ok (.putfield 29, 3) := by decide +kernel
theorem dX8_init_43 : decode cX8_init 43 = .ok (.aload_n 0, 1) := by decide +kernel
theorem dX8_init_44 : decode cX8_init 44 = .ok (.new 33, 3) := by decide +kernel
theorem dX8_init_47 : decode cX8_init 47 = .ok (.dup, 1) := by decide +kernel
theorem dX8_init_48 : decode cX8_init 48 = .ok (.invokespecial 35, 3) := by decide +kernel
theorem dX8_init_51 : decode cX8_init 51 = .ok (.putfield 36, 3) := by decide +kernel
theorem dX8_init_54 : decode cX8_init 54 = .ok (.aload_n 0, 1) := by decide +kernel
theorem dX8_init_55 : decode cX8_init 55 = .ok (.new 40, 3) := by decide +kernel
theorem dX8_init_58 : decode cX8_init 58 = .ok (.dup, 1) := by decide +kernel
theorem dX8_init_59 : decode cX8_init 59 = .ok (.invokespecial 42, 3) := by decide +kernel
theorem dX8_init_62 : decode cX8_init 62 = .ok (.putfield 43, 3) := by decide +kernel
theorem dX8_init_65 : decode cX8_init 65 = .ok (.aload_n 0, 1) := by decide +kernel
theorem dX8_init_66 : decode cX8_init 66 = .ok (.new 47, 3) := by decide +kernel
theorem dX8_init_69 : decode cX8_init 69 = .ok (.dup, 1) := by decide +kernel
theorem dX8_init_70 : decode cX8_init 70 = .ok (.invokespecial 49, 3) := by decide +kernel
theorem dX8_init_73 : decode cX8_init 73 = .ok (.putfield 50, 3) := by decide +kernel
theorem dX8_init_76 : decode cX8_init 76 = .ok (.aload_n 0, 1) := by decide +kernel
theorem dX8_init_77 : decode cX8_init 77 = .ok (.new 47, 3) := by decide +kernel
theorem dX8_init_80 : decode cX8_init 80 = .ok (.dup, 1) := by decide +kernel
theorem dX8_init_81 : decode cX8_init 81 = .ok (.invokespecial 49, 3) := by decide +kernel
theorem dX8_init_84 : decode cX8_init 84 = .ok (.putfield 54, 3) := by decide +kernel
theorem dX8_init_87 : decode cX8_init 87 = .ok (.aload_n 0, 1) := by decide +kernel
theorem dX8_init_88 : decode cX8_init 88 = .ok (.new 47, 3) := by decide +kernel
theorem dX8_init_91 : decode cX8_init 91 = .ok (.dup, 1) := by decide +kernel
theorem dX8_init_92 : decode cX8_init 92 = .ok (.invokespecial 49, 3) := by decide +kernel
theorem dX8_init_95 : decode cX8_init 95 = .ok (.putfield 57, 3) := by decide +kernel
theorem dX8_init_98 : decode cX8_init 98 = .ok (.aload_n 0, 1) := by decide +kernel
theorem dX8_init_99 : decode cX8_init 99 = .ok (.iconst 0, 1) := by decide +kernel
theorem dX8_init_100 : decode cX8_init 100 = .ok (.putfield 60, 3) := by decide +kernel
theorem dX8_init_103 : decode cX8_init 103 = .ok (.aload_n 0, 1) := by decide +kernel
theorem dX8_init_104 : decode cX8_init 104 = .ok (.iconst (-1), 1) := by decide +kernel
theorem dX8_init_105 : decode cX8_init 105 = .ok (.putfield 64, 3) := by decide +kernel
theorem dX8_init_108 : decode cX8_init 108 = .ok (.iconst 0, 1) := by decide +kernel
theorem dX8_init_109 : decode cX8_init 109 = .ok (.istore_n 1, 1) := by decide +kernel
theorem dX8_init_110 : decode cX8_init 110 = .ok (.iload_n 1, 1) := by decide +kernel
theorem dX8_init_111 : decode cX8_init 111 = .ok (.bipush 8, 2) := by decide +kernel
theorem dX8_init_113 : decode cX8_init 113 = .ok (.if_icmp .ge 22, 3) := by decide +kernel
theorem dX8_init_116 : decode cX8_init 116 = .ok (.aload_n 0, 1) := by decide +kernel
theorem dX8_init_117 : decode cX8_init 117 = .ok (.getfield 11, 3) := by decide +kernel
theorem dX8_init_120 : decode cX8_init 120 = .ok (.iload_n 1, 1) := by decide +kernel
theorem dX8_init_121 : decode cX8_init 121 = .ok (.new 9, 3) := by decide +kernel
theorem dX8_init_124 : decode cX8_init 124 = .ok (.dup, 1) := by decide +kernel
theorem dX8_init_125 : decode cX8_init 125 = .ok (.invokespecial 68, 3) := by decide +kernel
theorem dX8_init_128 : decode cX8_init 128 = .ok (.aastore, 1) := by decide +kernel
theorem dX8_init_129 : decode cX8_init 129 = .ok (.iinc 1 1, 3) := by decide +kernel
theorem dX8_init_132 : decode cX8_init 132 = .ok (.goto (-22), 3) := by decide +kernel
theorem dX8_init_135 : decode cX8_init 135 = .ok (.return_, 1) := by decide +kernel
theorem dX8_row_0 : decode cX8_row 0 = .ok (.iload_n 1, 1) := by decide +kernel
theorem dX8_row_1 : decode cX8_row 1 = .ok (.invokestatic 69, 3) := by decide +kernel
theorem dX8_row_4 : decode cX8_row 4 = .ok (.ifCond .ne 9, 3) := by decide +kernel
theorem dX8_row_7 : decode cX8_row 7 = .ok (.aload_n 0, 1) := by decide +kernel
theorem dX8_row_8 : decode cX8_row 8 = .ok (.iconst (-1), 1) := by decide +kernel
theorem dX8_row_9 : decode cX8_row 9 = .ok (.invokevirtual 73, 3) := by decide +kernel
theorem dX8_row_12 : decode cX8_row 12 = .ok (.ireturn, 1) := by decide +kernel
theorem dX8_row_13 : decode cX8_row 13 = .ok (.iload_n 3, 1) := by decide +kernel
theorem dX8_row_14 : decode cX8_row 14 = .ok (.ifCond .ge 10, 3) := by decide +kernel
theorem dX8_row_17 : decode cX8_row 17 = .ok (.aload_n 0, 1) := by decide +kernel
theorem dX8_row_18 : decode cX8_row 18 = .ok (.bipush (-4), 2) := by decide +kernel
theorem dX8_row_20 : decode cX8_row 20 = .ok (.invokevirtual 73, 3) := by decide +kernel
theorem dX8_row_23 : decode cX8_row 23 = .ok (.ireturn, 1) := by decide +kernel
theorem dX8_row_24 : decode cX8_row 24 = .ok (.iload_n 2, 1) := by decide +kernel
theorem dX8_row_25 : decode cX8_row 25 = .ok (.ifCond .lt 8, 3) := by decide +kernel
theorem dX8_row_28 : decode cX8_row 28 = .ok (.iload_n 2, 1) := by decide +kernel
theorem dX8_row_29 : decode cX8_row 29 = .ok (.iconst 4, 1) := by decide +kernel
theorem dX8_row_30 : decode cX8_row 30 = .ok (.if_icmp .lt 10, 3) := by decide +kernel
theorem dX8_row_33 : decode cX8_row 33 = .ok (.aload_n 0, 1) := by decide +kernel
theorem dX8_row_34 : decode cX8_row 34 = .ok (.bipush (-6), 2) := by decide +kernel
theorem dX8_row_36 : decode cX8_row 36 = .ok (.invokevirtual 73, 3) := by decide +kernel
theorem dX8_row_39 : decode cX8_row 39 = .ok (.ireturn, 1) := by decide +kernel
theorem dX8_row_40 : decode cX8_row 40 = .ok (.iload_n 3, 1) := by decide +kernel
theorem dX8_row_41 : decode cX8_row 41 = .ok (.sipush 160, 3) := by decide +kernel
theorem dX8_row_44 : decode cX8_row 44 = .ok (.if_icmp .le 10, 3) := by decide +kernel
theorem dX8_row_47 : decode cX8_row 47 = .ok (.aload_n 0, 1) := by decide +kernel
theorem dX8_row_48 : decode cX8_row 48 = .ok (.bipush (-7), 2) := by decide +kernel
theorem dX8_row_50 : decode cX8_row 50 = .ok (.invokevirtual 73, 3) := by decide +kernel
theorem dX8_row_53 : decode cX8_row 53 = .ok (.ireturn, 1) := by decide +kernel
theorem dX8_row_54 : decode cX8_row 54 = .ok (.aload_n 0, 1) := by decide +kernel
theorem dX8_row_55 : decode cX8_row 55 = .ok (.getfield 11, 3) := by decide +kernel
theorem dX8_row_58 : decode cX8_row 58 = .ok (.iload_n 1, 1) := by decide +kernel
theorem dX8_row_59 : decode cX8_row 59 = .ok (.aaload, 1) := by decide +kernel
theorem dX8_row_60 : decode cX8_row 60 = .ok (.iload_n 2, 1) := by decide +kernel
theorem dX8_row_61 : decode cX8_row 61 = .ok (.iload_n 3, 1) := by decide +kernel
theorem dX8_row_62 : decode cX8_row 62 = .ok (.invokevirtual 77, 3) := by decide +kernel
theorem dX8_row_65 : decode cX8_row 65 = .ok (.iconst 1, 1) := by decide +kernel
theorem dX8_row_66 : decode cX8_row 66 = .ok (.ireturn, 1) := by decide +kernel
theorem dX8_set_0 : decode cX8_set 0 = .ok (.aload_n 0, 1) := by decide +kernel
theorem dX8_set_1 : decode cX8_set 1 = .ok (.iload_n 1, 1) := by decide +kernel
theorem dX8_set_2 : decode cX8_set 2 = .ok (.invokevirtual 81, 3) := by decide +kernel
theorem dX8_set_5 : decode cX8_set 5 = .ok (.istore 5, 2) := by decide +kernel
theorem dX8_set_7 : decode cX8_set 7 = .ok (.iload 5, 2) := by decide +kernel
theorem dX8_set_9 : decode cX8_set 9 = .ok (.ifCond .eq 10, 3) := by decide +kernel
theorem dX8_set_12 : decode cX8_set 12 = .ok (.aload_n 0, 1) := by decide +kernel
theorem dX8_set_13 : decode cX8_set 13 = .ok (.iload 5, 2) := by decide +kernel
theorem dX8_set_15 : decode cX8_set 15 = .ok (.invokevirtual 73, 3) := by decide +kernel
theorem dX8_set_18 : decode cX8_set 18 = .ok (.ireturn, 1) := by decide +kernel
theorem dX8_set_19 : decode cX8_set 19 = .ok (.aload_n 0, 1) := by decide +kernel
theorem dX8_set_20 : decode cX8_set 20 = .ok (.getfield 11, 3) := by decide +kernel
theorem dX8_set_23 : decode cX8_set 23 = .ok (.iload_n 1, 1) := by decide +kernel
theorem dX8_set_24 : decode cX8_set 24 = .ok (.aaload, 1) := by decide +kernel
theorem dX8_set_25 : decode cX8_set 25 = .ok (.iload_n 2, 1) := by decide +kernel
theorem dX8_set_26 : decode cX8_set 26 = .ok (.invokevirtual 84, 3) := by decide +kernel
theorem dX8_set_29 : decode cX8_set 29 = .ok (.ifCond .ne 10, 3) := by decide +kernel
theorem dX8_set_32 : decode cX8_set 32 = .ok (.aload_n 0, 1) := by decide +kernel
theorem dX8_set_33 : decode cX8_set 33 = .ok (.bipush (-5), 2) := by decide +kernel
theorem dX8_set_35 : decode cX8_set 35 = .ok (.invokevirtual 73, 3) := by decide +kernel
theorem dX8_set_38 : decode cX8_set 38 = .ok (.ireturn, 1) := by decide +kernel
theorem dX8_set_39 : decode cX8_set 39 = .ok (.aload_n 0, 1) := by decide +kernel
theorem dX8_set_40 : decode cX8_set 40 = .ok (.getfield 11, 3) := by decide +kernel
theorem dX8_set_43 : decode cX8_set 43 = .ok (.iload_n 1, 1) := by decide +kernel
theorem dX8_set_44 : decode cX8_set 44 = .ok (.aaload, 1) := by decide +kernel
theorem dX8_set_45 : decode cX8_set 45 = .ok (.iload_n 2, 1) := by decide +kernel
theorem dX8_set_46 : decode cX8_set 46 = .ok (.lload_n 3, 1) := by decide +kernel
theorem dX8_set_47 : decode cX8_set 47 = .ok (.invokevirtual 87, 3) := by decide +kernel
theorem dX8_set_50 : decode cX8_set 50 = .ok (.iconst 1, 1) := by decide +kernel
theorem dX8_set_51 : decode cX8_set 51 = .ok (.ireturn, 1) := by decide +kernel
theorem dX8_copy_0 : decode cX8_copy 0 = .ok (.aload_n 0, 1) := by decide +kernel
theorem dX8_copy_1 : decode cX8_copy 1 = .ok (.iload_n 1, 1) := by decide +kernel
theorem dX8_copy_2 : decode cX8_copy 2 = .ok (.iload_n 2, 1) := by decide +kernel
theorem dX8_copy_3 : decode cX8_copy 3 = .ok (.invokevirtual 91, 3) := by decide +kernel
theorem dX8_copy_6 : decode cX8_copy 6 = .ok (.istore 6, 2) := by decide +kernel
theorem dX8_copy_8 : decode cX8_copy 8 = .ok (.iload 6, 2) := by decide +kernel
theorem dX8_copy_10 : decode cX8_copy 10 = .ok (.ifCond .eq 10, 3) := by decide +kernel
theorem dX8_copy_13 : decode cX8_copy 13 = .ok (.aload_n 0, 1) := by decide +kernel
theorem dX8_copy_14 : decode cX8_copy 14 = .ok (.iload 6, 2) := by decide +kernel
theorem dX8_copy_16 : decode cX8_copy 16 = .ok (.invokevirtual 73, 3) := by decide +kernel
theorem dX8_copy_19 : decode cX8_copy 19 = .ok (.ireturn, 1) := by decide +kernel
theorem dX8_copy_20 : decode cX8_copy 20 = .ok (.iload 5, 2) := by decide +kernel
theorem dX8_copy_22 : decode cX8_copy 22 = .ok (.ifCond .ge 10, 3) := by decide +kernel
theorem dX8_copy_25 : decode cX8_copy 25 = .ok (.aload_n 0, 1) := by decide +kernel
theorem dX8_copy_26 : decode cX8_copy 26 = .ok (.bipush (-4), 2) := by decide +kernel
theorem dX8_copy_28 : decode cX8_copy 28 = .ok (.invokevirtual 73, 3) := by decide +kernel
theorem dX8_copy_31 : decode cX8_copy 31 = .ok (.ireturn, 1) := by decide +kernel
theorem dX8_copy_32 : decode cX8_copy 32 = .ok (.aload_n 0, 1) := by decide +kernel
theorem dX8_copy_33 : decode cX8_copy 33 = .ok (.getfield 11, 3) := by decide +kernel
theorem dX8_copy_36 : decode cX8_copy 36 = .ok (.iload_n 1, 1) := by decide +kernel
theorem dX8_copy_37 : decode cX8_copy 37 = .ok (.aaload, 1) := by decide +kernel
theorem dX8_copy_38 : decode cX8_copy 38 = .ok (.iload_n 3, 1) := by decide +kernel
theorem dX8_copy_39 : decode cX8_copy 39 = .ok (.iload 5, 2) := by decide +kernel
theorem dX8_copy_41 : decode cX8_copy 41 = .ok (.invokevirtual 95, 3) := by decide +kernel
theorem dX8_copy_44 : decode cX8_copy 44 = .ok (.ifCond .eq 19, 3) := by decide +kernel
theorem dX8_copy_47 : decode cX8_copy 47 = .ok (.aload_n 0, 1) := by decide +kernel
theorem dX8_copy_48 : decode cX8_copy 48 = .ok (.getfield 11, 3) := by decide +kernel
theorem dX8_copy_51 : decode cX8_copy 51 = .ok (.iload_n 2, 1) := by decide +kernel
theorem dX8_copy_52 : decode cX8_copy 52 = .ok (.aaload, 1) := by decide +kernel
theorem dX8_copy_53 : decode cX8_copy 53 = .ok (.iload 4, 2) := by decide +kernel
theorem dX8_copy_55 : decode cX8_copy 55 = .ok (.iload 5, 2) := by decide +kernel
theorem dX8_copy_57 : decode cX8_copy 57 = .ok (.invokevirtual 95, 3) := by decide +kernel
theorem dX8_copy_60 : decode cX8_copy 60 = .ok (.ifCond .ne 10, 3) := by decide +kernel
theorem dX8_copy_63 : decode cX8_copy 63 = .ok (.aload_n 0, 1) := by decide +kernel
theorem dX8_copy_64 : decode cX8_copy 64 = .ok (.bipush (-5), 2) := by decide +kernel
theorem dX8_copy_66 : decode cX8_copy 66 = .ok (.invokevirtual 73, 3) := by decide +kernel
theorem dX8_copy_69 : decode cX8_copy 69 = .ok (.ireturn, 1) := by decide +kernel
theorem dX8_copy_70 : decode cX8_copy 70 = .ok (.aload_n 0, 1) := by decide +kernel
theorem dX8_copy_71 : decode cX8_copy 71 = .ok (.getfield 11, 3) := by decide +kernel
theorem dX8_copy_74 : decode cX8_copy 74 = .ok (.iload_n 1, 1) := by decide +kernel
theorem dX8_copy_75 : decode cX8_copy 75 = .ok (.aaload, 1) := by decide +kernel
theorem dX8_copy_76 : decode cX8_copy 76 = .ok (.getfield 99, 3) := by decide +kernel
theorem dX8_copy_79 : decode cX8_copy 79 = .ok (.iload_n 3, 1) := by decide +kernel
theorem dX8_copy_80 : decode cX8_copy 80 = .ok (.aload_n 0, 1) := by decide +kernel
theorem dX8_copy_81 : decode cX8_copy 81 = .ok (.getfield 11, 3) := by decide +kernel
theorem dX8_copy_84 : decode cX8_copy 84 = .ok (.iload_n 2, 1) := by decide +kernel
theorem dX8_copy_85 : decode cX8_copy 85 = .ok (.aaload, 1) := by decide +kernel
theorem dX8_copy_86 : decode cX8_copy 86 = .ok (.getfield 99, 3) := by decide +kernel
theorem dX8_copy_89 : decode cX8_copy 89 = .ok (.iload 4, 2) := by decide +kernel
theorem dX8_copy_91 : decode cX8_copy 91 = .ok (.iload 5, 2) := by decide +kernel
theorem dX8_copy_93 : decode cX8_copy 93 = .ok (.invokestatic 103, 3) := by decide +kernel
theorem dX8_copy_96 : decode cX8_copy 96 = .ok (.iconst 1, 1) := by decide +kernel
theorem dX8_copy_97 : decode cX8_copy 97 = .ok (.ireturn, 1) := by decide +kernel
theorem dX8_element_0 : decode cX8_element 0 = .ok (.aload_n 0, 1) := by decide +kernel
theorem dX8_element_1 : decode cX8_element 1 = .ok (.iload_n 1, 1) := by decide +kernel
theorem dX8_element_2 : decode cX8_element 2 = .ok (.invokevirtual 81, 3) := by decide +kernel
theorem dX8_element_5 : decode cX8_element 5 = .ok (.ifCond .ne 16, 3) := by decide +kernel
theorem dX8_element_8 : decode cX8_element 8 = .ok (.aload_n 0, 1) := by decide +kernel
theorem dX8_element_9 : decode cX8_element 9 = .ok (.getfield 11, 3) := by decide +kernel
theorem dX8_element_12 : decode cX8_element 12 = .ok (.iload_n 1, 1) := by decide +kernel
theorem dX8_element_13 : decode cX8_element 13 = .ok (.aaload, 1) := by decide +kernel
theorem dX8_element_14 : decode cX8_element 14 = .ok (.iload_n 2, 1) := by decide +kernel
theorem dX8_element_15 : decode cX8_element 15 = .ok (.invokevirtual 84, 3) := by decide +kernel
theorem dX8_element_18 : decode cX8_element 18 = .ok (.ifCond .ne 5, 3) := by decide +kernel
theorem dX8_element_21 : decode cX8_element 21 = .ok (.lconst 0, 1) := by decide +kernel
theorem dX8_element_22 : decode cX8_element 22 = .ok (.lreturn, 1) := by decide +kernel
theorem dX8_element_23 : decode cX8_element 23 = .ok (.aload_n 0, 1) := by decide +kernel
theorem dX8_element_24 : decode cX8_element 24 = .ok (.getfield 11, 3) := by decide +kernel
theorem dX8_element_27 : decode cX8_element 27 = .ok (.iload_n 1, 1) := by decide +kernel
theorem dX8_element_28 : decode cX8_element 28 = .ok (.aaload, 1) := by decide +kernel
theorem dX8_element_29 : decode cX8_element 29 = .ok (.getfield 99, 3) := by decide +kernel
theorem dX8_element_32 : decode cX8_element 32 = .ok (.iload_n 2, 1) := by decide +kernel
theorem dX8_element_33 : decode cX8_element 33 = .ok (.laload, 1) := by decide +kernel
theorem dX8_element_34 : decode cX8_element 34 = .ok (.lreturn, 1) := by decide +kernel
theorem dX8_show_0 : decode cX8_show 0 = .ok (.iload_n 1, 1) := by decide +kernel
theorem dX8_show_1 : decode cX8_show 1 = .ok (.invokestatic 69, 3) := by decide +kernel
theorem dX8_show_4 : decode cX8_show 4 = .ok (.ifCond .eq 22, 3) := by decide +kernel
theorem dX8_show_7 : decode cX8_show 7 = .ok (.iload_n 2, 1) := by decide +kernel
theorem dX8_show_8 : decode cX8_show 8 = .ok (.iconst (-1), 1) := by decide +kernel
theorem dX8_show_9 : decode cX8_show 9 = .ok (.if_icmp .eq 23, 3) := by decide +kernel
theorem dX8_show_12 : decode cX8_show 12 = .ok (.aload_n 0, 1) := by decide +kernel
theorem dX8_show_13 : decode cX8_show 13 = .ok (.getfield 50, 3) := by decide +kernel
theorem dX8_show_16 : decode cX8_show 16 = .ok (.getfield 109, 3) := by decide +kernel
theorem dX8_show_19 : decode cX8_show 19 = .ok (.iload_n 2, 1) := by decide +kernel
theorem dX8_show_20 : decode cX8_show 20 = .ok (.invokevirtual 113, 3) := by decide +kernel
theorem dX8_show_23 : decode cX8_show 23 = .ok (.ifCond .ne 9, 3) := by decide +kernel
theorem dX8_show_26 : decode cX8_show 26 = .ok (.aload_n 0, 1) := by decide +kernel
theorem dX8_show_27 : decode cX8_show 27 = .ok (.iconst (-1), 1) := by decide +kernel
theorem dX8_show_28 : decode cX8_show 28 = .ok (.invokevirtual 73, 3) := by decide +kernel
theorem dX8_show_31 : decode cX8_show 31 = .ok (.ireturn, 1) := by decide +kernel
theorem dX8_show_32 : decode cX8_show 32 = .ok (.aload_n 0, 1) := by decide +kernel
theorem dX8_show_33 : decode cX8_show 33 = .ok (.getfield 11, 3) := by decide +kernel
theorem dX8_show_36 : decode cX8_show 36 = .ok (.iload_n 1, 1) := by decide +kernel
theorem dX8_show_37 : decode cX8_show 37 = .ok (.aaload, 1) := by decide +kernel
theorem dX8_show_38 : decode cX8_show 38 = .ok (.iload_n 2, 1) := by decide +kernel
theorem dX8_show_39 : decode cX8_show 39 = .ok (.putfield 118, 3) := by decide +kernel
theorem dX8_show_42 : decode cX8_show 42 = .ok (.iload_n 2, 1) := by decide +kernel
theorem dX8_show_43 : decode cX8_show 43 = .ok (.iconst (-1), 1) := by decide +kernel
theorem dX8_show_44 : decode cX8_show 44 = .ok (.if_icmp .ne 7, 3) := by decide +kernel
theorem dX8_show_47 : decode cX8_show 47 = .ok (.iconst 0, 1) := by decide +kernel
theorem dX8_show_48 : decode cX8_show 48 = .ok (.goto 4, 3) := by decide +kernel
theorem dX8_show_51 : decode cX8_show 51 = .ok (.iconst 1, 1) := by decide +kernel
theorem dX8_show_52 : decode cX8_show 52 = .ok (.ireturn, 1) := by decide +kernel
theorem dX8_holds_0 : decode cX8_holds 0 = .ok (.iload_n 1, 1) := by decide +kernel
theorem dX8_holds_1 : decode cX8_holds 1 = .ok (.invokestatic 69, 3) := by decide +kernel
theorem dX8_holds_4 : decode cX8_holds 4 = .ok (.ifCond .eq 15, 3) := by decide +kernel
theorem dX8_holds_7 : decode cX8_holds 7 = .ok (.aload_n 0, 1) := by decide +kernel
theorem dX8_holds_8 : decode cX8_holds 8 = .ok (.getfield 11, 3) := by decide +kernel
theorem dX8_holds_11 : decode cX8_holds 11 = .ok (.iload_n 1, 1) := by decide +kernel
theorem dX8_holds_12 : decode cX8_holds 12 = .ok (.aaload, 1) := by decide +kernel
theorem dX8_holds_13 : decode cX8_holds 13 = .ok (.getfield 118, 3) := by decide +kernel
theorem dX8_holds_16 : decode cX8_holds 16 = .ok (.goto 4, 3) := by decide +kernel
theorem dX8_holds_19 : decode cX8_holds 19 = .ok (.iconst (-1), 1) := by decide +kernel
theorem dX8_holds_20 : decode cX8_holds 20 = .ok (.ireturn, 1) := by decide +kernel
theorem dX8_says_0 : decode cX8_says 0 = .ok (.iload_n 1, 1) := by decide +kernel
theorem dX8_says_1 : decode cX8_says 1 = .ok (.invokestatic 69, 3) := by decide +kernel
theorem dX8_says_4 : decode cX8_says 4 = .ok (.ifCond .eq 10, 3) := by decide +kernel
theorem dX8_says_7 : decode cX8_says 7 = .ok (.iload_n 2, 1) := by decide +kernel
theorem dX8_says_8 : decode cX8_says 8 = .ok (.invokestatic 121, 3) := by decide +kernel
theorem dX8_says_11 : decode cX8_says 11 = .ok (.ifCond .ne 9, 3) := by decide +kernel
theorem dX8_says_14 : decode cX8_says 14 = .ok (.aload_n 0, 1) := by decide +kernel
theorem dX8_says_15 : decode cX8_says 15 = .ok (.iconst (-1), 1) := by decide +kernel
theorem dX8_says_16 : decode cX8_says 16 = .ok (.invokevirtual 73, 3) := by decide +kernel
theorem dX8_says_19 : decode cX8_says 19 = .ok (.ireturn, 1) := by decide +kernel
theorem dX8_says_20 : decode cX8_says 20 = .ok (.aload_n 0, 1) := by decide +kernel
theorem dX8_says_21 : decode cX8_says 21 = .ok (.getfield 11, 3) := by decide +kernel
theorem dX8_says_24 : decode cX8_says 24 = .ok (.iload_n 1, 1) := by decide +kernel
theorem dX8_says_25 : decode cX8_says 25 = .ok (.aaload, 1) := by decide +kernel
theorem dX8_says_26 : decode cX8_says 26 = .ok (.astore_n 3, 1) := by decide +kernel
theorem dX8_says_27 : decode cX8_says 27 = .ok (.aload_n 3, 1) := by decide +kernel
theorem dX8_says_28 : decode cX8_says 28 = .ok (.invokevirtual 124, 3) := by decide +kernel
theorem dX8_says_31 : decode cX8_says 31 = .ok (.ifCond .eq 10, 3) := by decide +kernel
theorem dX8_says_34 : decode cX8_says 34 = .ok (.aload_n 0, 1) := by decide +kernel
theorem dX8_says_35 : decode cX8_says 35 = .ok (.bipush (-2), 2) := by decide +kernel
theorem dX8_says_37 : decode cX8_says 37 = .ok (.invokevirtual 73, 3) := by decide +kernel
theorem dX8_says_40 : decode cX8_says 40 = .ok (.ireturn, 1) := by decide +kernel
theorem dX8_says_41 : decode cX8_says 41 = .ok (.aload_n 0, 1) := by decide +kernel
theorem dX8_says_42 : decode cX8_says 42 = .ok (.getfield 50, 3) := by decide +kernel
theorem dX8_says_45 : decode cX8_says 45 = .ok (.getfield 109, 3) := by decide +kernel
theorem dX8_says_48 : decode cX8_says 48 = .ok (.aload_n 3, 1) := by decide +kernel
theorem dX8_says_49 : decode cX8_says 49 = .ok (.getfield 118, 3) := by decide +kernel
theorem dX8_says_52 : decode cX8_says 52 = .ok (.invokevirtual 113, 3) := by decide +kernel
theorem dX8_says_55 : decode cX8_says 55 = .ok (.ifCond .ne 10, 3) := by decide +kernel
theorem dX8_says_58 : decode cX8_says 58 = .ok (.aload_n 0, 1) := by decide +kernel
theorem dX8_says_59 : decode cX8_says 59 = .ok (.bipush (-3), 2) := by decide +kernel
theorem dX8_says_61 : decode cX8_says 61 = .ok (.invokevirtual 73, 3) := by decide +kernel
theorem dX8_says_64 : decode cX8_says 64 = .ok (.ireturn, 1) := by decide +kernel
theorem dX8_says_65 : decode cX8_says 65 = .ok (.aload_n 0, 1) := by decide +kernel
theorem dX8_says_66 : decode cX8_says 66 = .ok (.getfield 50, 3) := by decide +kernel
theorem dX8_says_69 : decode cX8_says 69 = .ok (.getfield 109, 3) := by decide +kernel
theorem dX8_says_72 : decode cX8_says 72 = .ok (.getfield 128, 3) := by decide +kernel
theorem dX8_says_75 : decode cX8_says 75 = .ok (.aload_n 3, 1) := by decide +kernel
theorem dX8_says_76 : decode cX8_says 76 = .ok (.getfield 118, 3) := by decide +kernel
theorem dX8_says_79 : decode cX8_says 79 = .ok (.iaload, 1) := by decide +kernel
theorem dX8_says_80 : decode cX8_says 80 = .ok (.iload_n 2, 1) := by decide +kernel
theorem dX8_says_81 : decode cX8_says 81 = .ok (.invokestatic 131, 3) := by decide +kernel
theorem dX8_says_84 : decode cX8_says 84 = .ok (.ifCond .ne 10, 3) := by decide +kernel
theorem dX8_says_87 : decode cX8_says 87 = .ok (.aload_n 0, 1) := by decide +kernel
theorem dX8_says_88 : decode cX8_says 88 = .ok (.bipush (-2), 2) := by decide +kernel
theorem dX8_says_90 : decode cX8_says 90 = .ok (.invokevirtual 73, 3) := by decide +kernel
theorem dX8_says_93 : decode cX8_says 93 = .ok (.ireturn, 1) := by decide +kernel
theorem dX8_says_94 : decode cX8_says 94 = .ok (.aload_n 0, 1) := by decide +kernel
theorem dX8_says_95 : decode cX8_says 95 = .ok (.getfield 50, 3) := by decide +kernel
theorem dX8_says_98 : decode cX8_says 98 = .ok (.getfield 109, 3) := by decide +kernel
theorem dX8_says_101 : decode cX8_says 101 = .ok (.aload_n 3, 1) := by decide +kernel
theorem dX8_says_102 : decode cX8_says 102 = .ok (.getfield 118, 3) := by decide +kernel
theorem dX8_says_105 : decode cX8_says 105 = .ok (.iload_n 2, 1) := by decide +kernel
theorem dX8_says_106 : decode cX8_says 106 = .ok (.invokevirtual 134, 3) := by decide +kernel
theorem dX8_says_109 : decode cX8_says 109 = .ok (.ireturn, 1) := by decide +kernel
theorem dX8_singer_0 : decode cX8_singer 0 = .ok (.iload_n 1, 1) := by decide +kernel
theorem dX8_singer_1 : decode cX8_singer 1 = .ok (.invokestatic 121, 3) := by decide +kernel
theorem dX8_singer_4 : decode cX8_singer 4 = .ok (.ifCond .ne 9, 3) := by decide +kernel
theorem dX8_singer_7 : decode cX8_singer 7 = .ok (.aload_n 0, 1) := by decide +kernel
theorem dX8_singer_8 : decode cX8_singer 8 = .ok (.iconst (-1), 1) := by decide +kernel
theorem dX8_singer_9 : decode cX8_singer 9 = .ok (.invokevirtual 73, 3) := by decide +kernel
theorem dX8_singer_12 : decode cX8_singer 12 = .ok (.ireturn, 1) := by decide +kernel
theorem dX8_singer_13 : decode cX8_singer 13 = .ok (.iload_n 2, 1) := by decide +kernel
theorem dX8_singer_14 : decode cX8_singer 14 = .ok (.invokestatic 137, 3) := by decide +kernel
theorem dX8_singer_17 : decode cX8_singer 17 = .ok (.ifCond .eq 10, 3) := by decide +kernel
theorem dX8_singer_20 : decode cX8_singer 20 = .ok (.iload_n 3, 1) := by decide +kernel
theorem dX8_singer_21 : decode cX8_singer 21 = .ok (.invokestatic 140, 3) := by decide +kernel
theorem dX8_singer_24 : decode cX8_singer 24 = .ok (.ifCond .ne 10, 3) := by decide +kernel
theorem dX8_singer_27 : decode cX8_singer 27 = .ok (.aload_n 0, 1) := by decide +kernel
theorem dX8_singer_28 : decode cX8_singer 28 = .ok (.bipush (-6), 2) := by decide +kernel
theorem dX8_singer_30 : decode cX8_singer 30 = .ok (.invokevirtual 73, 3) := by decide +kernel
theorem dX8_singer_33 : decode cX8_singer 33 = .ok (.ireturn, 1) := by decide +kernel
theorem dX8_singer_34 : decode cX8_singer 34 = .ok (.aload_n 0, 1) := by decide +kernel
theorem dX8_singer_35 : decode cX8_singer 35 = .ok (.getfield 50, 3) := by decide +kernel
theorem dX8_singer_38 : decode cX8_singer 38 = .ok (.getfield 109, 3) := by decide +kernel
theorem dX8_singer_41 : decode cX8_singer 41 = .ok (.invokevirtual 143, 3) := by decide +kernel
theorem dX8_singer_44 : decode cX8_singer 44 = .ok (.ifCond .ne 10, 3) := by decide +kernel
theorem dX8_singer_47 : decode cX8_singer 47 = .ok (.aload_n 0, 1) := by decide +kernel
theorem dX8_singer_48 : decode cX8_singer 48 = .ok (.bipush (-7), 2) := by decide +kernel
theorem dX8_singer_50 : decode cX8_singer 50 = .ok (.invokevirtual 73, 3) := by decide +kernel
theorem dX8_singer_53 : decode cX8_singer 53 = .ok (.ireturn, 1) := by decide +kernel
theorem dX8_singer_54 : decode cX8_singer 54 = .ok (.aload_n 0, 1) := by decide +kernel
theorem dX8_singer_55 : decode cX8_singer 55 = .ok (.getfield 50, 3) := by decide +kernel
theorem dX8_singer_58 : decode cX8_singer 58 = .ok (.iload_n 1, 1) := by decide +kernel
theorem dX8_singer_59 : decode cX8_singer 59 = .ok (.iload_n 2, 1) := by decide +kernel
theorem dX8_singer_60 : decode cX8_singer 60 = .ok (.iload_n 3, 1) := by decide +kernel
theorem dX8_singer_61 : decode cX8_singer 61 = .ok (.invokevirtual 146, 3) := by decide +kernel
theorem dX8_singer_64 : decode cX8_singer 64 = .ok (.aload_n 0, 1) := by decide +kernel
theorem dX8_singer_65 : decode cX8_singer 65 = .ok (.getfield 50, 3) := by decide +kernel
theorem dX8_singer_68 : decode cX8_singer 68 = .ok (.getfield 109, 3) := by decide +kernel
theorem dX8_singer_71 : decode cX8_singer 71 = .ok (.getfield 150, 3) := by decide +kernel
theorem dX8_singer_74 : decode cX8_singer 74 = .ok (.iconst 1, 1) := by decide +kernel
theorem dX8_singer_75 : decode cX8_singer 75 = .ok (.isub, 1) := by decide +kernel
theorem dX8_singer_76 : decode cX8_singer 76 = .ok (.ireturn, 1) := by decide +kernel
theorem dX8_singerOf_0 : decode cX8_singerOf 0 = .ok (.aload_n 0, 1) := by decide +kernel
theorem dX8_singerOf_1 : decode cX8_singerOf 1 = .ok (.getfield 50, 3) := by decide +kernel
theorem dX8_singerOf_4 : decode cX8_singerOf 4 = .ok (.getfield 109, 3) := by decide +kernel
theorem dX8_singerOf_7 : decode cX8_singerOf 7 = .ok (.astore_n 3, 1) := by decide +kernel
theorem dX8_singerOf_8 : decode cX8_singerOf 8 = .ok (.aload_n 3, 1) := by decide +kernel
theorem dX8_singerOf_9 : decode cX8_singerOf 9 = .ok (.iload_n 1, 1) := by decide +kernel
theorem dX8_singerOf_10 : decode cX8_singerOf 10 = .ok (.invokevirtual 113, 3) := by decide +kernel
theorem dX8_singerOf_13 : decode cX8_singerOf 13 = .ok (.ifCond .ne 10, 3) := by decide +kernel
theorem dX8_singerOf_16 : decode cX8_singerOf 16 = .ok (.aload_n 0, 1) := by decide +kernel
theorem dX8_singerOf_17 : decode cX8_singerOf 17 = .ok (.bipush (-5), 2) := by decide +kernel
theorem dX8_singerOf_19 : decode cX8_singerOf 19 = .ok (.invokevirtual 73, 3) := by decide +kernel
theorem dX8_singerOf_22 : decode cX8_singerOf 22 = .ok (.ireturn, 1) := by decide +kernel
theorem dX8_singerOf_23 : decode cX8_singerOf 23 = .ok (.iload_n 2, 1) := by decide +kernel
theorem dX8_singerOf_24 : decode cX8_singerOf 24 = .ok (.tableswitch 73 0 4 #[36, 43, 50, 57, 64], 36) := by decide +kernel
theorem dX8_singerOf_60 : decode cX8_singerOf 60 = .ok (.aload_n 3, 1) := by decide +kernel
theorem dX8_singerOf_61 : decode cX8_singerOf 61 = .ok (.getfield 128, 3) := by decide +kernel
theorem dX8_singerOf_64 : decode cX8_singerOf 64 = .ok (.iload_n 1, 1) := by decide +kernel
theorem dX8_singerOf_65 : decode cX8_singerOf 65 = .ok (.iaload, 1) := by decide +kernel
theorem dX8_singerOf_66 : decode cX8_singerOf 66 = .ok (.ireturn, 1) := by decide +kernel
theorem dX8_singerOf_67 : decode cX8_singerOf 67 = .ok (.aload_n 3, 1) := by decide +kernel
theorem dX8_singerOf_68 : decode cX8_singerOf 68 = .ok (.getfield 153, 3) := by decide +kernel
theorem dX8_singerOf_71 : decode cX8_singerOf 71 = .ok (.iload_n 1, 1) := by decide +kernel
theorem dX8_singerOf_72 : decode cX8_singerOf 72 = .ok (.iaload, 1) := by decide +kernel
theorem dX8_singerOf_73 : decode cX8_singerOf 73 = .ok (.ireturn, 1) := by decide +kernel
theorem dX8_singerOf_74 : decode cX8_singerOf 74 = .ok (.aload_n 3, 1) := by decide +kernel
theorem dX8_singerOf_75 : decode cX8_singerOf 75 = .ok (.getfield 156, 3) := by decide +kernel
theorem dX8_singerOf_78 : decode cX8_singerOf 78 = .ok (.iload_n 1, 1) := by decide +kernel
theorem dX8_singerOf_79 : decode cX8_singerOf 79 = .ok (.iaload, 1) := by decide +kernel
theorem dX8_singerOf_80 : decode cX8_singerOf 80 = .ok (.ireturn, 1) := by decide +kernel
theorem dX8_singerOf_81 : decode cX8_singerOf 81 = .ok (.aload_n 3, 1) := by decide +kernel
theorem dX8_singerOf_82 : decode cX8_singerOf 82 = .ok (.getfield 159, 3) := by decide +kernel
theorem dX8_singerOf_85 : decode cX8_singerOf 85 = .ok (.iload_n 1, 1) := by decide +kernel
theorem dX8_singerOf_86 : decode cX8_singerOf 86 = .ok (.iaload, 1) := by decide +kernel
theorem dX8_singerOf_87 : decode cX8_singerOf 87 = .ok (.ireturn, 1) := by decide +kernel
theorem dX8_singerOf_88 : decode cX8_singerOf 88 = .ok (.aload_n 0, 1) := by decide +kernel
theorem dX8_singerOf_89 : decode cX8_singerOf 89 = .ok (.getfield 50, 3) := by decide +kernel
theorem dX8_singerOf_92 : decode cX8_singerOf 92 = .ok (.iload_n 1, 1) := by decide +kernel
theorem dX8_singerOf_93 : decode cX8_singerOf 93 = .ok (.invokevirtual 162, 3) := by decide +kernel
theorem dX8_singerOf_96 : decode cX8_singerOf 96 = .ok (.ireturn, 1) := by decide +kernel
theorem dX8_singerOf_97 : decode cX8_singerOf 97 = .ok (.aload_n 0, 1) := by decide +kernel
theorem dX8_singerOf_98 : decode cX8_singerOf 98 = .ok (.bipush (-5), 2) := by decide +kernel
theorem dX8_singerOf_100 : decode cX8_singerOf 100 = .ok (.invokevirtual 73, 3) := by decide +kernel
theorem dX8_singerOf_103 : decode cX8_singerOf 103 = .ok (.ireturn, 1) := by decide +kernel
theorem dX8_ask_0 : decode cX8_ask 0 = .ok (.iload_n 1, 1) := by decide +kernel
theorem dX8_ask_1 : decode cX8_ask 1 = .ok (.iload_n 2, 1) := by decide +kernel
theorem dX8_ask_2 : decode cX8_ask 2 = .ok (.invokestatic 165, 3) := by decide +kernel
theorem dX8_ask_5 : decode cX8_ask 5 = .ok (.ifCond .ne 10, 3) := by decide +kernel
theorem dX8_ask_8 : decode cX8_ask 8 = .ok (.aload_n 0, 1) := by decide +kernel
theorem dX8_ask_9 : decode cX8_ask 9 = .ok (.bipush (-6), 2) := by decide +kernel
theorem dX8_ask_11 : decode cX8_ask 11 = .ok (.invokevirtual 73, 3) := by decide +kernel
theorem dX8_ask_14 : decode cX8_ask 14 = .ok (.ireturn, 1) := by decide +kernel
theorem dX8_ask_15 : decode cX8_ask 15 = .ok (.aload_n 0, 1) := by decide +kernel
theorem dX8_ask_16 : decode cX8_ask 16 = .ok (.getfield 50, 3) := by decide +kernel
theorem dX8_ask_19 : decode cX8_ask 19 = .ok (.iload_n 1, 1) := by decide +kernel
theorem dX8_ask_20 : decode cX8_ask 20 = .ok (.invokevirtual 168, 3) := by decide +kernel
theorem dX8_ask_23 : decode cX8_ask 23 = .ok (.istore_n 3, 1) := by decide +kernel
theorem dX8_ask_24 : decode cX8_ask 24 = .ok (.aload_n 0, 1) := by decide +kernel
theorem dX8_ask_25 : decode cX8_ask 25 = .ok (.getfield 50, 3) := by decide +kernel
theorem dX8_ask_28 : decode cX8_ask 28 = .ok (.iload_n 1, 1) := by decide +kernel
theorem dX8_ask_29 : decode cX8_ask 29 = .ok (.iload_n 2, 1) := by decide +kernel
theorem dX8_ask_30 : decode cX8_ask 30 = .ok (.invokevirtual 171, 3) := by decide +kernel
theorem dX8_ask_33 : decode cX8_ask 33 = .ok (.iload_n 3, 1) := by decide +kernel
theorem dX8_ask_34 : decode cX8_ask 34 = .ok (.ireturn, 1) := by decide +kernel
theorem dX8_loft_0 : decode cX8_loft 0 = .ok (.aload_n 0, 1) := by decide +kernel
theorem dX8_loft_1 : decode cX8_loft 1 = .ok (.iload_n 1, 1) := by decide +kernel
theorem dX8_loft_2 : decode cX8_loft 2 = .ok (.invokevirtual 81, 3) := by decide +kernel
theorem dX8_loft_5 : decode cX8_loft 5 = .ok (.istore_n 2, 1) := by decide +kernel
theorem dX8_loft_6 : decode cX8_loft 6 = .ok (.iload_n 2, 1) := by decide +kernel
theorem dX8_loft_7 : decode cX8_loft 7 = .ok (.ifCond .eq 9, 3) := by decide +kernel
theorem dX8_loft_10 : decode cX8_loft 10 = .ok (.aload_n 0, 1) := by decide +kernel
theorem dX8_loft_11 : decode cX8_loft 11 = .ok (.iload_n 2, 1) := by decide +kernel
theorem dX8_loft_12 : decode cX8_loft 12 = .ok (.invokevirtual 73, 3) := by decide +kernel
theorem dX8_loft_15 : decode cX8_loft 15 = .ok (.ireturn, 1) := by decide +kernel
theorem dX8_loft_16 : decode cX8_loft 16 = .ok (.aload_n 0, 1) := by decide +kernel
theorem dX8_loft_17 : decode cX8_loft 17 = .ok (.getfield 54, 3) := by decide +kernel
theorem dX8_loft_20 : decode cX8_loft 20 = .ok (.aload_n 0, 1) := by decide +kernel
theorem dX8_loft_21 : decode cX8_loft 21 = .ok (.getfield 50, 3) := by decide +kernel
theorem dX8_loft_24 : decode cX8_loft 24 = .ok (.invokevirtual 173, 3) := by decide +kernel
theorem dX8_loft_27 : decode cX8_loft 27 = .ok (.aload_n 0, 1) := by decide +kernel
theorem dX8_loft_28 : decode cX8_loft 28 = .ok (.getfield 29, 3) := by decide +kernel
theorem dX8_loft_31 : decode cX8_loft 31 = .ok (.aload_n 0, 1) := by decide +kernel
theorem dX8_loft_32 : decode cX8_loft 32 = .ok (.getfield 11, 3) := by decide +kernel
theorem dX8_loft_35 : decode cX8_loft 35 = .ok (.iload_n 1, 1) := by decide +kernel
theorem dX8_loft_36 : decode cX8_loft 36 = .ok (.aaload, 1) := by decide +kernel
theorem dX8_loft_37 : decode cX8_loft 37 = .ok (.invokevirtual 177, 3) := by decide +kernel
theorem dX8_loft_40 : decode cX8_loft 40 = .ok (.iconst 0, 1) := by decide +kernel
theorem dX8_loft_41 : decode cX8_loft 41 = .ok (.istore_n 3, 1) := by decide +kernel
theorem dX8_loft_42 : decode cX8_loft 42 = .ok (.iconst 1, 1) := by decide +kernel
theorem dX8_loft_43 : decode cX8_loft 43 = .ok (.istore 4, 2) := by decide +kernel
theorem dX8_loft_45 : decode cX8_loft 45 = .ok (.iload 4, 2) := by decide +kernel
theorem dX8_loft_47 : decode cX8_loft 47 = .ok (.ifCond .eq 47, 3) := by decide +kernel
theorem dX8_loft_50 : decode cX8_loft 50 = .ok (.iload_n 3, 1) := by decide +kernel
theorem dX8_loft_51 : decode cX8_loft 51 = .ok (.sipush 160, 3) := by decide +kernel
theorem dX8_loft_54 : decode cX8_loft 54 = .ok (.if_icmp .gt 40, 3) := by decide +kernel
theorem dX8_loft_57 : decode cX8_loft 57 = .ok (.aload_n 0, 1) := by decide +kernel
theorem dX8_loft_58 : decode cX8_loft 58 = .ok (.getfield 29, 3) := by decide +kernel
theorem dX8_loft_61 : decode cX8_loft 61 = .ok (.aload_n 0, 1) := by decide +kernel
theorem dX8_loft_62 : decode cX8_loft 62 = .ok (.getfield 54, 3) := by decide +kernel
theorem dX8_loft_65 : decode cX8_loft 65 = .ok (.invokevirtual 180, 3) := by decide +kernel
theorem dX8_loft_68 : decode cX8_loft 68 = .ok (.ifCond .eq 17, 3) := by decide +kernel
theorem dX8_loft_71 : decode cX8_loft 71 = .ok (.aload_n 0, 1) := by decide +kernel
theorem dX8_loft_72 : decode cX8_loft 72 = .ok (.getfield 29, 3) := by decide +kernel
theorem dX8_loft_75 : decode cX8_loft 75 = .ok (.invokevirtual 184, 3) := by decide +kernel
theorem dX8_loft_78 : decode cX8_loft 78 = .ok (.ifCond .eq 7, 3) := by decide +kernel
theorem dX8_loft_81 : decode cX8_loft 81 = .ok (.iconst 1, 1) := by decide +kernel
theorem dX8_loft_82 : decode cX8_loft 82 = .ok (.goto 4, 3) := by decide +kernel
theorem dX8_loft_85 : decode cX8_loft 85 = .ok (.iconst 0, 1) := by decide +kernel
theorem dX8_loft_86 : decode cX8_loft 86 = .ok (.istore 4, 2) := by decide +kernel
theorem dX8_loft_88 : decode cX8_loft 88 = .ok (.iinc 3 1, 3) := by decide +kernel
theorem dX8_loft_91 : decode cX8_loft 91 = .ok (.goto (-46), 3) := by decide +kernel
theorem dX8_loft_94 : decode cX8_loft 94 = .ok (.aload_n 0, 1) := by decide +kernel
theorem dX8_loft_95 : decode cX8_loft 95 = .ok (.aload_n 0, 1) := by decide +kernel
theorem dX8_loft_96 : decode cX8_loft 96 = .ok (.getfield 29, 3) := by decide +kernel
theorem dX8_loft_99 : decode cX8_loft 99 = .ok (.getfield 187, 3) := by decide +kernel
theorem dX8_loft_102 : decode cX8_loft 102 = .ok (.putfield 64, 3) := by decide +kernel
theorem dX8_loft_105 : decode cX8_loft 105 = .ok (.aload_n 0, 1) := by decide +kernel
theorem dX8_loft_106 : decode cX8_loft 106 = .ok (.getfield 64, 3) := by decide +kernel
theorem dX8_loft_109 : decode cX8_loft 109 = .ok (.iconst (-1), 1) := by decide +kernel
theorem dX8_loft_110 : decode cX8_loft 110 = .ok (.if_icmp .eq 10, 3) := by decide +kernel
theorem dX8_loft_113 : decode cX8_loft 113 = .ok (.aload_n 0, 1) := by decide +kernel
theorem dX8_loft_114 : decode cX8_loft 114 = .ok (.bipush (-6), 2) := by decide +kernel
theorem dX8_loft_116 : decode cX8_loft 116 = .ok (.invokevirtual 73, 3) := by decide +kernel
theorem dX8_loft_119 : decode cX8_loft 119 = .ok (.ireturn, 1) := by decide +kernel
theorem dX8_loft_120 : decode cX8_loft 120 = .ok (.aload_n 0, 1) := by decide +kernel
theorem dX8_loft_121 : decode cX8_loft 121 = .ok (.getfield 50, 3) := by decide +kernel
theorem dX8_loft_124 : decode cX8_loft 124 = .ok (.astore 5, 2) := by decide +kernel
theorem dX8_loft_126 : decode cX8_loft 126 = .ok (.aload_n 0, 1) := by decide +kernel
theorem dX8_loft_127 : decode cX8_loft 127 = .ok (.aload_n 0, 1) := by decide +kernel
theorem dX8_loft_128 : decode cX8_loft 128 = .ok (.getfield 54, 3) := by decide +kernel
theorem dX8_loft_131 : decode cX8_loft 131 = .ok (.putfield 50, 3) := by decide +kernel
theorem dX8_loft_134 : decode cX8_loft 134 = .ok (.aload_n 0, 1) := by decide +kernel
theorem dX8_loft_135 : decode cX8_loft 135 = .ok (.aload 5, 2) := by decide +kernel
theorem dX8_loft_137 : decode cX8_loft 137 = .ok (.putfield 54, 3) := by decide +kernel
theorem dX8_loft_140 : decode cX8_loft 140 = .ok (.iload_n 3, 1) := by decide +kernel
theorem dX8_loft_141 : decode cX8_loft 141 = .ok (.ireturn, 1) := by decide +kernel
theorem dX8_fault_0 : decode cX8_fault 0 = .ok (.aload_n 0, 1) := by decide +kernel
theorem dX8_fault_1 : decode cX8_fault 1 = .ok (.getfield 64, 3) := by decide +kernel
theorem dX8_fault_4 : decode cX8_fault 4 = .ok (.ireturn, 1) := by decide +kernel
theorem dX8_worlds_0 : decode cX8_worlds 0 = .ok (.iload_n 1, 1) := by decide +kernel
theorem dX8_worlds_1 : decode cX8_worlds 1 = .ok (.lookupswitch 46 #[(0, 27), (1, 38)], 27) := by decide +kernel
theorem dX8_worlds_28 : decode cX8_worlds 28 = .ok (.aload_n 0, 1) := by decide +kernel
theorem dX8_worlds_29 : decode cX8_worlds 29 = .ok (.getfield 50, 3) := by decide +kernel
theorem dX8_worlds_32 : decode cX8_worlds 32 = .ok (.getfield 190, 3) := by decide +kernel
theorem dX8_worlds_35 : decode cX8_worlds 35 = .ok (.getfield 194, 3) := by decide +kernel
theorem dX8_worlds_38 : decode cX8_worlds 38 = .ok (.ireturn, 1) := by decide +kernel
theorem dX8_worlds_39 : decode cX8_worlds 39 = .ok (.aload_n 0, 1) := by decide +kernel
theorem dX8_worlds_40 : decode cX8_worlds 40 = .ok (.getfield 50, 3) := by decide +kernel
theorem dX8_worlds_43 : decode cX8_worlds 43 = .ok (.invokevirtual 197, 3) := by decide +kernel
theorem dX8_worlds_46 : decode cX8_worlds 46 = .ok (.ireturn, 1) := by decide +kernel
theorem dX8_worlds_47 : decode cX8_worlds 47 = .ok (.aload_n 0, 1) := by decide +kernel
theorem dX8_worlds_48 : decode cX8_worlds 48 = .ok (.bipush (-5), 2) := by decide +kernel
theorem dX8_worlds_50 : decode cX8_worlds 50 = .ok (.invokevirtual 73, 3) := by decide +kernel
theorem dX8_worlds_53 : decode cX8_worlds 53 = .ok (.ireturn, 1) := by decide +kernel
theorem dX8_world_0 : decode cX8_world 0 = .ok (.iload_n 1, 1) := by decide +kernel
theorem dX8_world_1 : decode cX8_world 1 = .ok (.ifCond .lt 14, 3) := by decide +kernel
theorem dX8_world_4 : decode cX8_world 4 = .ok (.iload_n 1, 1) := by decide +kernel
theorem dX8_world_5 : decode cX8_world 5 = .ok (.aload_n 0, 1) := by decide +kernel
theorem dX8_world_6 : decode cX8_world 6 = .ok (.getfield 50, 3) := by decide +kernel
theorem dX8_world_9 : decode cX8_world 9 = .ok (.invokevirtual 197, 3) := by decide +kernel
theorem dX8_world_12 : decode cX8_world 12 = .ok (.if_icmp .lt 10, 3) := by decide +kernel
theorem dX8_world_15 : decode cX8_world 15 = .ok (.aload_n 0, 1) := by decide +kernel
theorem dX8_world_16 : decode cX8_world 16 = .ok (.bipush (-5), 2) := by decide +kernel
theorem dX8_world_18 : decode cX8_world 18 = .ok (.invokevirtual 73, 3) := by decide +kernel
theorem dX8_world_21 : decode cX8_world 21 = .ok (.ireturn, 1) := by decide +kernel
theorem dX8_world_22 : decode cX8_world 22 = .ok (.aload_n 0, 1) := by decide +kernel
theorem dX8_world_23 : decode cX8_world 23 = .ok (.getfield 50, 3) := by decide +kernel
theorem dX8_world_26 : decode cX8_world 26 = .ok (.iload_n 1, 1) := by decide +kernel
theorem dX8_world_27 : decode cX8_world 27 = .ok (.invokevirtual 201, 3) := by decide +kernel
theorem dX8_world_30 : decode cX8_world 30 = .ok (.ireturn, 1) := by decide +kernel
theorem dX8_sounds_0 : decode cX8_sounds 0 = .ok (.aload_n 0, 1) := by decide +kernel
theorem dX8_sounds_1 : decode cX8_sounds 1 = .ok (.getfield 50, 3) := by decide +kernel
theorem dX8_sounds_4 : decode cX8_sounds 4 = .ok (.getfield 190, 3) := by decide +kernel
theorem dX8_sounds_7 : decode cX8_sounds 7 = .ok (.iload_n 2, 1) := by decide +kernel
theorem dX8_sounds_8 : decode cX8_sounds 8 = .ok (.invokevirtual 204, 3) := by decide +kernel
theorem dX8_sounds_11 : decode cX8_sounds 11 = .ok (.istore_n 3, 1) := by decide +kernel
theorem dX8_sounds_12 : decode cX8_sounds 12 = .ok (.aload_n 0, 1) := by decide +kernel
theorem dX8_sounds_13 : decode cX8_sounds 13 = .ok (.getfield 50, 3) := by decide +kernel
theorem dX8_sounds_16 : decode cX8_sounds 16 = .ok (.getfield 109, 3) := by decide +kernel
theorem dX8_sounds_19 : decode cX8_sounds 19 = .ok (.iload_n 1, 1) := by decide +kernel
theorem dX8_sounds_20 : decode cX8_sounds 20 = .ok (.invokevirtual 207, 3) := by decide +kernel
theorem dX8_sounds_23 : decode cX8_sounds 23 = .ok (.ifCond .eq 8, 3) := by decide +kernel
theorem dX8_sounds_26 : decode cX8_sounds 26 = .ok (.iload_n 3, 1) := by decide +kernel
theorem dX8_sounds_27 : decode cX8_sounds 27 = .ok (.iconst (-1), 1) := by decide +kernel
theorem dX8_sounds_28 : decode cX8_sounds 28 = .ok (.if_icmp .ne 10, 3) := by decide +kernel
theorem dX8_sounds_31 : decode cX8_sounds 31 = .ok (.aload_n 0, 1) := by decide +kernel
theorem dX8_sounds_32 : decode cX8_sounds 32 = .ok (.bipush (-6), 2) := by decide +kernel
theorem dX8_sounds_34 : decode cX8_sounds 34 = .ok (.invokevirtual 73, 3) := by decide +kernel
theorem dX8_sounds_37 : decode cX8_sounds 37 = .ok (.ireturn, 1) := by decide +kernel
theorem dX8_sounds_38 : decode cX8_sounds 38 = .ok (.aload_n 0, 1) := by decide +kernel
theorem dX8_sounds_39 : decode cX8_sounds 39 = .ok (.getfield 50, 3) := by decide +kernel
theorem dX8_sounds_42 : decode cX8_sounds 42 = .ok (.getfield 190, 3) := by decide +kernel
theorem dX8_sounds_45 : decode cX8_sounds 45 = .ok (.iload_n 1, 1) := by decide +kernel
theorem dX8_sounds_46 : decode cX8_sounds 46 = .ok (.iload_n 3, 1) := by decide +kernel
theorem dX8_sounds_47 : decode cX8_sounds 47 = .ok (.invokevirtual 210, 3) := by decide +kernel
theorem dX8_sounds_50 : decode cX8_sounds 50 = .ok (.ireturn, 1) := by decide +kernel
theorem dX8_heard_0 : decode cX8_heard 0 = .ok (.aload_n 0, 1) := by decide +kernel
theorem dX8_heard_1 : decode cX8_heard 1 = .ok (.getfield 50, 3) := by decide +kernel
theorem dX8_heard_4 : decode cX8_heard 4 = .ok (.getfield 109, 3) := by decide +kernel
theorem dX8_heard_7 : decode cX8_heard 7 = .ok (.iload_n 1, 1) := by decide +kernel
theorem dX8_heard_8 : decode cX8_heard 8 = .ok (.invokevirtual 207, 3) := by decide +kernel
theorem dX8_heard_11 : decode cX8_heard 11 = .ok (.ifCond .eq 15, 3) := by decide +kernel
theorem dX8_heard_14 : decode cX8_heard 14 = .ok (.aload_n 0, 1) := by decide +kernel
theorem dX8_heard_15 : decode cX8_heard 15 = .ok (.getfield 50, 3) := by decide +kernel
theorem dX8_heard_18 : decode cX8_heard 18 = .ok (.iload_n 1, 1) := by decide +kernel
theorem dX8_heard_19 : decode cX8_heard 19 = .ok (.iload_n 2, 1) := by decide +kernel
theorem dX8_heard_20 : decode cX8_heard 20 = .ok (.invokevirtual 213, 3) := by decide +kernel
theorem dX8_heard_23 : decode cX8_heard 23 = .ok (.ifCond .ne 10, 3) := by decide +kernel
theorem dX8_heard_26 : decode cX8_heard 26 = .ok (.aload_n 0, 1) := by decide +kernel
theorem dX8_heard_27 : decode cX8_heard 27 = .ok (.bipush (-6), 2) := by decide +kernel
theorem dX8_heard_29 : decode cX8_heard 29 = .ok (.invokevirtual 73, 3) := by decide +kernel
theorem dX8_heard_32 : decode cX8_heard 32 = .ok (.ireturn, 1) := by decide +kernel
theorem dX8_heard_33 : decode cX8_heard 33 = .ok (.aload_n 0, 1) := by decide +kernel
theorem dX8_heard_34 : decode cX8_heard 34 = .ok (.getfield 50, 3) := by decide +kernel
theorem dX8_heard_37 : decode cX8_heard 37 = .ok (.iload_n 1, 1) := by decide +kernel
theorem dX8_heard_38 : decode cX8_heard 38 = .ok (.iload_n 2, 1) := by decide +kernel
theorem dX8_heard_39 : decode cX8_heard 39 = .ok (.invokevirtual 216, 3) := by decide +kernel
theorem dX8_heard_42 : decode cX8_heard 42 = .ok (.ifCond .ne 20, 3) := by decide +kernel
theorem dX8_heard_45 : decode cX8_heard 45 = .ok (.aload_n 0, 1) := by decide +kernel
theorem dX8_heard_46 : decode cX8_heard 46 = .ok (.getfield 50, 3) := by decide +kernel
theorem dX8_heard_49 : decode cX8_heard 49 = .ok (.invokevirtual 219, 3) := by decide +kernel
theorem dX8_heard_52 : decode cX8_heard 52 = .ok (.ifCond .ne 10, 3) := by decide +kernel
theorem dX8_heard_55 : decode cX8_heard 55 = .ok (.aload_n 0, 1) := by decide +kernel
theorem dX8_heard_56 : decode cX8_heard 56 = .ok (.bipush (-7), 2) := by decide +kernel
theorem dX8_heard_58 : decode cX8_heard 58 = .ok (.invokevirtual 73, 3) := by decide +kernel
theorem dX8_heard_61 : decode cX8_heard 61 = .ok (.ireturn, 1) := by decide +kernel
theorem dX8_heard_62 : decode cX8_heard 62 = .ok (.aload_n 0, 1) := by decide +kernel
theorem dX8_heard_63 : decode cX8_heard 63 = .ok (.getfield 50, 3) := by decide +kernel
theorem dX8_heard_66 : decode cX8_heard 66 = .ok (.iload_n 1, 1) := by decide +kernel
theorem dX8_heard_67 : decode cX8_heard 67 = .ok (.iload_n 2, 1) := by decide +kernel
theorem dX8_heard_68 : decode cX8_heard 68 = .ok (.invokevirtual 220, 3) := by decide +kernel
theorem dX8_heard_71 : decode cX8_heard 71 = .ok (.aload_n 0, 1) := by decide +kernel
theorem dX8_heard_72 : decode cX8_heard 72 = .ok (.getfield 50, 3) := by decide +kernel
theorem dX8_heard_75 : decode cX8_heard 75 = .ok (.invokevirtual 197, 3) := by decide +kernel
theorem dX8_heard_78 : decode cX8_heard 78 = .ok (.ireturn, 1) := by decide +kernel
theorem dX8_known_0 : decode cX8_known 0 = .ok (.iload_n 1, 1) := by decide +kernel
theorem dX8_known_1 : decode cX8_known 1 = .ok (.iconst (-1), 1) := by decide +kernel
theorem dX8_known_2 : decode cX8_known 2 = .ok (.if_icmp .ne 11, 3) := by decide +kernel
theorem dX8_known_5 : decode cX8_known 5 = .ok (.aload_n 0, 1) := by decide +kernel
theorem dX8_known_6 : decode cX8_known 6 = .ok (.getfield 50, 3) := by decide +kernel
theorem dX8_known_9 : decode cX8_known 9 = .ok (.getfield 223, 3) := by decide +kernel
theorem dX8_known_12 : decode cX8_known 12 = .ok (.ireturn, 1) := by decide +kernel
theorem dX8_known_13 : decode cX8_known 13 = .ok (.iload_n 1, 1) := by decide +kernel
theorem dX8_known_14 : decode cX8_known 14 = .ok (.ifCond .lt 14, 3) := by decide +kernel
theorem dX8_known_17 : decode cX8_known 17 = .ok (.iload_n 1, 1) := by decide +kernel
theorem dX8_known_18 : decode cX8_known 18 = .ok (.aload_n 0, 1) := by decide +kernel
theorem dX8_known_19 : decode cX8_known 19 = .ok (.getfield 50, 3) := by decide +kernel
theorem dX8_known_22 : decode cX8_known 22 = .ok (.getfield 223, 3) := by decide +kernel
theorem dX8_known_25 : decode cX8_known 25 = .ok (.if_icmp .lt 10, 3) := by decide +kernel
theorem dX8_known_28 : decode cX8_known 28 = .ok (.aload_n 0, 1) := by decide +kernel
theorem dX8_known_29 : decode cX8_known 29 = .ok (.bipush (-5), 2) := by decide +kernel
theorem dX8_known_31 : decode cX8_known 31 = .ok (.invokevirtual 73, 3) := by decide +kernel
theorem dX8_known_34 : decode cX8_known 34 = .ok (.ireturn, 1) := by decide +kernel
theorem dX8_known_35 : decode cX8_known 35 = .ok (.aload_n 0, 1) := by decide +kernel
theorem dX8_known_36 : decode cX8_known 36 = .ok (.getfield 50, 3) := by decide +kernel
theorem dX8_known_39 : decode cX8_known 39 = .ok (.getfield 226, 3) := by decide +kernel
theorem dX8_known_42 : decode cX8_known 42 = .ok (.iload_n 1, 1) := by decide +kernel
theorem dX8_known_43 : decode cX8_known 43 = .ok (.iaload, 1) := by decide +kernel
theorem dX8_known_44 : decode cX8_known 44 = .ok (.ireturn, 1) := by decide +kernel
theorem dX8_forget_0 : decode cX8_forget 0 = .ok (.aload_n 0, 1) := by decide +kernel
theorem dX8_forget_1 : decode cX8_forget 1 = .ok (.getfield 50, 3) := by decide +kernel
theorem dX8_forget_4 : decode cX8_forget 4 = .ok (.getfield 223, 3) := by decide +kernel
theorem dX8_forget_7 : decode cX8_forget 7 = .ok (.istore_n 1, 1) := by decide +kernel
theorem dX8_forget_8 : decode cX8_forget 8 = .ok (.aload_n 0, 1) := by decide +kernel
theorem dX8_forget_9 : decode cX8_forget 9 = .ok (.getfield 50, 3) := by decide +kernel
theorem dX8_forget_12 : decode cX8_forget 12 = .ok (.invokevirtual 229, 3) := by decide +kernel
theorem dX8_forget_15 : decode cX8_forget 15 = .ok (.iload_n 1, 1) := by decide +kernel
theorem dX8_forget_16 : decode cX8_forget 16 = .ok (.ireturn, 1) := by decide +kernel
theorem dX8_may_0 : decode cX8_may 0 = .ok (.iload_n 1, 1) := by decide +kernel
theorem dX8_may_1 : decode cX8_may 1 = .ok (.lookupswitch 43 #[(0, 27), (1, 35)], 27) := by decide +kernel
theorem dX8_may_28 : decode cX8_may 28 = .ok (.aload_n 0, 1) := by decide +kernel
theorem dX8_may_29 : decode cX8_may 29 = .ok (.getfield 50, 3) := by decide +kernel
theorem dX8_may_32 : decode cX8_may 32 = .ok (.invokevirtual 232, 3) := by decide +kernel
theorem dX8_may_35 : decode cX8_may 35 = .ok (.ireturn, 1) := by decide +kernel
theorem dX8_may_36 : decode cX8_may 36 = .ok (.aload_n 0, 1) := by decide +kernel
theorem dX8_may_37 : decode cX8_may 37 = .ok (.getfield 50, 3) := by decide +kernel
theorem dX8_may_40 : decode cX8_may 40 = .ok (.invokevirtual 235, 3) := by decide +kernel
theorem dX8_may_43 : decode cX8_may 43 = .ok (.ireturn, 1) := by decide +kernel
theorem dX8_may_44 : decode cX8_may 44 = .ok (.aload_n 0, 1) := by decide +kernel
theorem dX8_may_45 : decode cX8_may 45 = .ok (.bipush (-5), 2) := by decide +kernel
theorem dX8_may_47 : decode cX8_may 47 = .ok (.invokevirtual 73, 3) := by decide +kernel
theorem dX8_may_50 : decode cX8_may 50 = .ok (.ireturn, 1) := by decide +kernel
theorem dX8_likeliest_0 : decode cX8_likeliest 0 = .ok (.aload_n 0, 1) := by decide +kernel
theorem dX8_likeliest_1 : decode cX8_likeliest 1 = .ok (.getfield 50, 3) := by decide +kernel
theorem dX8_likeliest_4 : decode cX8_likeliest 4 = .ok (.invokevirtual 197, 3) := by decide +kernel
theorem dX8_likeliest_7 : decode cX8_likeliest 7 = .ok (.ifCond .ne 10, 3) := by decide +kernel
theorem dX8_likeliest_10 : decode cX8_likeliest 10 = .ok (.aload_n 0, 1) := by decide +kernel
theorem dX8_likeliest_11 : decode cX8_likeliest 11 = .ok (.bipush (-5), 2) := by decide +kernel
theorem dX8_likeliest_13 : decode cX8_likeliest 13 = .ok (.invokevirtual 73, 3) := by decide +kernel
theorem dX8_likeliest_16 : decode cX8_likeliest 16 = .ok (.ireturn, 1) := by decide +kernel
theorem dX8_likeliest_17 : decode cX8_likeliest 17 = .ok (.aload_n 0, 1) := by decide +kernel
theorem dX8_likeliest_18 : decode cX8_likeliest 18 = .ok (.getfield 50, 3) := by decide +kernel
theorem dX8_likeliest_21 : decode cX8_likeliest 21 = .ok (.invokevirtual 238, 3) := by decide +kernel
theorem dX8_likeliest_24 : decode cX8_likeliest 24 = .ok (.ireturn, 1) := by decide +kernel
theorem dX8_lawful_0 : decode cX8_lawful 0 = .ok (.aload_n 0, 1) := by decide +kernel
theorem dX8_lawful_1 : decode cX8_lawful 1 = .ok (.getfield 50, 3) := by decide +kernel
theorem dX8_lawful_4 : decode cX8_lawful 4 = .ok (.iload_n 1, 1) := by decide +kernel
theorem dX8_lawful_5 : decode cX8_lawful 5 = .ok (.invokevirtual 241, 3) := by decide +kernel
theorem dX8_lawful_8 : decode cX8_lawful 8 = .ok (.ifCond .eq 7, 3) := by decide +kernel
theorem dX8_lawful_11 : decode cX8_lawful 11 = .ok (.iconst 1, 1) := by decide +kernel
theorem dX8_lawful_12 : decode cX8_lawful 12 = .ok (.goto 4, 3) := by decide +kernel
theorem dX8_lawful_15 : decode cX8_lawful 15 = .ok (.iconst 0, 1) := by decide +kernel
theorem dX8_lawful_16 : decode cX8_lawful 16 = .ok (.ireturn, 1) := by decide +kernel
theorem dX8_parts_0 : decode cX8_parts 0 = .ok (.iload_n 2, 1) := by decide +kernel
theorem dX8_parts_1 : decode cX8_parts 1 = .ok (.ifCond .lt 8, 3) := by decide +kernel
theorem dX8_parts_4 : decode cX8_parts 4 = .ok (.iload_n 2, 1) := by decide +kernel
theorem dX8_parts_5 : decode cX8_parts 5 = .ok (.iconst 1, 1) := by decide +kernel
theorem dX8_parts_6 : decode cX8_parts 6 = .ok (.if_icmp .le 10, 3) := by decide +kernel
theorem dX8_parts_9 : decode cX8_parts 9 = .ok (.aload_n 0, 1) := by decide +kernel
theorem dX8_parts_10 : decode cX8_parts 10 = .ok (.bipush (-5), 2) := by decide +kernel
theorem dX8_parts_12 : decode cX8_parts 12 = .ok (.invokevirtual 73, 3) := by decide +kernel
theorem dX8_parts_15 : decode cX8_parts 15 = .ok (.ireturn, 1) := by decide +kernel
theorem dX8_parts_16 : decode cX8_parts 16 = .ok (.aload_n 0, 1) := by decide +kernel
theorem dX8_parts_17 : decode cX8_parts 17 = .ok (.getfield 50, 3) := by decide +kernel
theorem dX8_parts_20 : decode cX8_parts 20 = .ok (.getfield 109, 3) := by decide +kernel
theorem dX8_parts_23 : decode cX8_parts 23 = .ok (.iload_n 1, 1) := by decide +kernel
theorem dX8_parts_24 : decode cX8_parts 24 = .ok (.invokevirtual 207, 3) := by decide +kernel
theorem dX8_parts_27 : decode cX8_parts 27 = .ok (.ifCond .ne 10, 3) := by decide +kernel
theorem dX8_parts_30 : decode cX8_parts 30 = .ok (.aload_n 0, 1) := by decide +kernel
theorem dX8_parts_31 : decode cX8_parts 31 = .ok (.bipush (-6), 2) := by decide +kernel
theorem dX8_parts_33 : decode cX8_parts 33 = .ok (.invokevirtual 73, 3) := by decide +kernel
theorem dX8_parts_36 : decode cX8_parts 36 = .ok (.ireturn, 1) := by decide +kernel
theorem dX8_parts_37 : decode cX8_parts 37 = .ok (.aload_n 0, 1) := by decide +kernel
theorem dX8_parts_38 : decode cX8_parts 38 = .ok (.getfield 50, 3) := by decide +kernel
theorem dX8_parts_41 : decode cX8_parts 41 = .ok (.getfield 190, 3) := by decide +kernel
theorem dX8_parts_44 : decode cX8_parts 44 = .ok (.iload_n 1, 1) := by decide +kernel
theorem dX8_parts_45 : decode cX8_parts 45 = .ok (.aload_n 0, 1) := by decide +kernel
theorem dX8_parts_46 : decode cX8_parts 46 = .ok (.getfield 50, 3) := by decide +kernel
theorem dX8_parts_49 : decode cX8_parts 49 = .ok (.getfield 244, 3) := by decide +kernel
theorem dX8_parts_52 : decode cX8_parts 52 = .ok (.aload_n 0, 1) := by decide +kernel
theorem dX8_parts_53 : decode cX8_parts 53 = .ok (.getfield 50, 3) := by decide +kernel
theorem dX8_parts_56 : decode cX8_parts 56 = .ok (.getfield 248, 3) := by decide +kernel
theorem dX8_parts_59 : decode cX8_parts 59 = .ok (.invokevirtual 251, 3) := by decide +kernel
theorem dX8_parts_62 : decode cX8_parts 62 = .ok (.istore_n 3, 1) := by decide +kernel
theorem dX8_parts_63 : decode cX8_parts 63 = .ok (.iload_n 2, 1) := by decide +kernel
theorem dX8_parts_64 : decode cX8_parts 64 = .ok (.ifCond .ne 7, 3) := by decide +kernel
theorem dX8_parts_67 : decode cX8_parts 67 = .ok (.iload_n 3, 1) := by decide +kernel
theorem dX8_parts_68 : decode cX8_parts 68 = .ok (.goto 16, 3) := by decide +kernel
theorem dX8_parts_71 : decode cX8_parts 71 = .ok (.iload_n 3, 1) := by decide +kernel
theorem dX8_parts_72 : decode cX8_parts 72 = .ok (.aload_n 0, 1) := by decide +kernel
theorem dX8_parts_73 : decode cX8_parts 73 = .ok (.getfield 50, 3) := by decide +kernel
theorem dX8_parts_76 : decode cX8_parts 76 = .ok (.invokevirtual 197, 3) := by decide +kernel
theorem dX8_parts_79 : decode cX8_parts 79 = .ok (.iload_n 3, 1) := by decide +kernel
theorem dX8_parts_80 : decode cX8_parts 80 = .ok (.isub, 1) := by decide +kernel
theorem dX8_parts_81 : decode cX8_parts 81 = .ok (.invokestatic 255, 3) := by decide +kernel
theorem dX8_parts_84 : decode cX8_parts 84 = .ok (.ireturn, 1) := by decide +kernel
theorem dX8_next_0 : decode cX8_next 0 = .ok (.aload_n 0, 1) := by decide +kernel
theorem dX8_next_1 : decode cX8_next 1 = .ok (.getfield 50, 3) := by decide +kernel
theorem dX8_next_4 : decode cX8_next 4 = .ok (.aload_n 0, 1) := by decide +kernel
theorem dX8_next_5 : decode cX8_next 5 = .ok (.getfield 50, 3) := by decide +kernel
theorem dX8_next_8 : decode cX8_next 8 = .ok (.getfield 244, 3) := by decide +kernel
theorem dX8_next_11 : decode cX8_next 11 = .ok (.aload_n 0, 1) := by decide +kernel
theorem dX8_next_12 : decode cX8_next 12 = .ok (.getfield 50, 3) := by decide +kernel
theorem dX8_next_15 : decode cX8_next 15 = .ok (.getfield 248, 3) := by decide +kernel
theorem dX8_next_18 : decode cX8_next 18 = .ok (.invokevirtual 260, 3) := by decide +kernel
theorem dX8_next_21 : decode cX8_next 21 = .ok (.ireturn, 1) := by decide +kernel
theorem dX8_by_0 : decode cX8_by 0 = .ok (.iload_n 1, 1) := by decide +kernel
theorem dX8_by_1 : decode cX8_by 1 = .ok (.ifCond .lt 18, 3) := by decide +kernel
theorem dX8_by_4 : decode cX8_by 4 = .ok (.iload_n 1, 1) := by decide +kernel
theorem dX8_by_5 : decode cX8_by 5 = .ok (.iconst 2, 1) := by decide +kernel
theorem dX8_by_6 : decode cX8_by 6 = .ok (.if_icmp .gt 13, 3) := by decide +kernel
theorem dX8_by_9 : decode cX8_by 9 = .ok (.aload_n 0, 1) := by decide +kernel
theorem dX8_by_10 : decode cX8_by 10 = .ok (.getfield 50, 3) := by decide +kernel
theorem dX8_by_13 : decode cX8_by 13 = .ok (.invokevirtual 197, 3) := by decide +kernel
theorem dX8_by_16 : decode cX8_by 16 = .ok (.ifCond .ne 10, 3) := by decide +kernel
theorem dX8_by_19 : decode cX8_by 19 = .ok (.aload_n 0, 1) := by decide +kernel
theorem dX8_by_20 : decode cX8_by 20 = .ok (.bipush (-5), 2) := by decide +kernel
theorem dX8_by_22 : decode cX8_by 22 = .ok (.invokevirtual 73, 3) := by decide +kernel
theorem dX8_by_25 : decode cX8_by 25 = .ok (.ireturn, 1) := by decide +kernel
theorem dX8_by_26 : decode cX8_by 26 = .ok (.aload_n 0, 1) := by decide +kernel
theorem dX8_by_27 : decode cX8_by 27 = .ok (.getfield 36, 3) := by decide +kernel
theorem dX8_by_30 : decode cX8_by 30 = .ok (.aload_n 0, 1) := by decide +kernel
theorem dX8_by_31 : decode cX8_by 31 = .ok (.getfield 50, 3) := by decide +kernel
theorem dX8_by_34 : decode cX8_by 34 = .ok (.invokevirtual 264, 3) := by decide +kernel
theorem dX8_by_37 : decode cX8_by 37 = .ok (.iload_n 1, 1) := by decide +kernel
theorem dX8_by_38 : decode cX8_by 38 = .ok (.lookupswitch 42 #[(0, 26), (1, 34)], 26) := by decide +kernel
theorem dX8_by_64 : decode cX8_by 64 = .ok (.aload_n 0, 1) := by decide +kernel
theorem dX8_by_65 : decode cX8_by 65 = .ok (.getfield 36, 3) := by decide +kernel
theorem dX8_by_68 : decode cX8_by 68 = .ok (.getfield 267, 3) := by decide +kernel
theorem dX8_by_71 : decode cX8_by 71 = .ok (.ireturn, 1) := by decide +kernel
theorem dX8_by_72 : decode cX8_by 72 = .ok (.aload_n 0, 1) := by decide +kernel
theorem dX8_by_73 : decode cX8_by 73 = .ok (.getfield 36, 3) := by decide +kernel
theorem dX8_by_76 : decode cX8_by 76 = .ok (.invokevirtual 270, 3) := by decide +kernel
theorem dX8_by_79 : decode cX8_by 79 = .ok (.ireturn, 1) := by decide +kernel
theorem dX8_by_80 : decode cX8_by 80 = .ok (.aload_n 0, 1) := by decide +kernel
theorem dX8_by_81 : decode cX8_by 81 = .ok (.getfield 36, 3) := by decide +kernel
theorem dX8_by_84 : decode cX8_by 84 = .ok (.getfield 273, 3) := by decide +kernel
theorem dX8_by_87 : decode cX8_by 87 = .ok (.ireturn, 1) := by decide +kernel
theorem dX8_ahead_0 : decode cX8_ahead 0 = .ok (.aload_n 0, 1) := by decide +kernel
theorem dX8_ahead_1 : decode cX8_ahead 1 = .ok (.iload_n 1, 1) := by decide +kernel
theorem dX8_ahead_2 : decode cX8_ahead 2 = .ok (.iload_n 2, 1) := by decide +kernel
theorem dX8_ahead_3 : decode cX8_ahead 3 = .ok (.invokevirtual 276, 3) := by decide +kernel
theorem dX8_ahead_6 : decode cX8_ahead 6 = .ok (.istore 4, 2) := by decide +kernel
theorem dX8_ahead_8 : decode cX8_ahead 8 = .ok (.iload 4, 2) := by decide +kernel
theorem dX8_ahead_10 : decode cX8_ahead 10 = .ok (.ifCond .ne 16, 3) := by decide +kernel
theorem dX8_ahead_13 : decode cX8_ahead 13 = .ok (.iload_n 3, 1) := by decide +kernel
theorem dX8_ahead_14 : decode cX8_ahead 14 = .ok (.ifCond .lt 8, 3) := by decide +kernel
theorem dX8_ahead_17 : decode cX8_ahead 17 = .ok (.iload_n 3, 1) := by decide +kernel
theorem dX8_ahead_18 : decode cX8_ahead 18 = .ok (.iconst 1, 1) := by decide +kernel
theorem dX8_ahead_19 : decode cX8_ahead 19 = .ok (.if_icmp .le 7, 3) := by decide +kernel
theorem dX8_ahead_22 : decode cX8_ahead 22 = .ok (.bipush (-5), 2) := by decide +kernel
theorem dX8_ahead_24 : decode cX8_ahead 24 = .ok (.istore 4, 2) := by decide +kernel
theorem dX8_ahead_26 : decode cX8_ahead 26 = .ok (.iload 4, 2) := by decide +kernel
theorem dX8_ahead_28 : decode cX8_ahead 28 = .ok (.ifCond .ne 34, 3) := by decide +kernel
theorem dX8_ahead_31 : decode cX8_ahead 31 = .ok (.iload_n 2, 1) := by decide +kernel
theorem dX8_ahead_32 : decode cX8_ahead 32 = .ok (.bipush 16, 2) := by decide +kernel
theorem dX8_ahead_34 : decode cX8_ahead 34 = .ok (.if_icmp .gt 24, 3) := by decide +kernel
theorem dX8_ahead_37 : decode cX8_ahead 37 = .ok (.aload_n 0, 1) := by decide +kernel
theorem dX8_ahead_38 : decode cX8_ahead 38 = .ok (.getfield 43, 3) := by decide +kernel
theorem dX8_ahead_41 : decode cX8_ahead 41 = .ok (.aload_n 0, 1) := by decide +kernel
theorem dX8_ahead_42 : decode cX8_ahead 42 = .ok (.getfield 50, 3) := by decide +kernel
theorem dX8_ahead_45 : decode cX8_ahead 45 = .ok (.aload_n 0, 1) := by decide +kernel
theorem dX8_ahead_46 : decode cX8_ahead 46 = .ok (.getfield 11, 3) := by decide +kernel
theorem dX8_ahead_49 : decode cX8_ahead 49 = .ok (.iload_n 1, 1) := by decide +kernel
theorem dX8_ahead_50 : decode cX8_ahead 50 = .ok (.aaload, 1) := by decide +kernel
theorem dX8_ahead_51 : decode cX8_ahead 51 = .ok (.iload_n 2, 1) := by decide +kernel
theorem dX8_ahead_52 : decode cX8_ahead 52 = .ok (.invokevirtual 279, 3) := by decide +kernel
theorem dX8_ahead_55 : decode cX8_ahead 55 = .ok (.ifCond .ne 7, 3) := by decide +kernel
theorem dX8_ahead_58 : decode cX8_ahead 58 = .ok (.bipush (-6), 2) := by decide +kernel
theorem dX8_ahead_60 : decode cX8_ahead 60 = .ok (.istore 4, 2) := by decide +kernel
theorem dX8_ahead_62 : decode cX8_ahead 62 = .ok (.iload 4, 2) := by decide +kernel
theorem dX8_ahead_64 : decode cX8_ahead 64 = .ok (.ifCond .eq 10, 3) := by decide +kernel
theorem dX8_ahead_67 : decode cX8_ahead 67 = .ok (.aload_n 0, 1) := by decide +kernel
theorem dX8_ahead_68 : decode cX8_ahead 68 = .ok (.iload 4, 2) := by decide +kernel
theorem dX8_ahead_70 : decode cX8_ahead 70 = .ok (.invokevirtual 73, 3) := by decide +kernel
theorem dX8_ahead_73 : decode cX8_ahead 73 = .ok (.ireturn, 1) := by decide +kernel
theorem dX8_ahead_74 : decode cX8_ahead 74 = .ok (.aload_n 0, 1) := by decide +kernel
theorem dX8_ahead_75 : decode cX8_ahead 75 = .ok (.getfield 43, 3) := by decide +kernel
theorem dX8_ahead_78 : decode cX8_ahead 78 = .ok (.aload_n 0, 1) := by decide +kernel
theorem dX8_ahead_79 : decode cX8_ahead 79 = .ok (.getfield 50, 3) := by decide +kernel
theorem dX8_ahead_82 : decode cX8_ahead 82 = .ok (.aload_n 0, 1) := by decide +kernel
theorem dX8_ahead_83 : decode cX8_ahead 83 = .ok (.getfield 11, 3) := by decide +kernel
theorem dX8_ahead_86 : decode cX8_ahead 86 = .ok (.iload_n 1, 1) := by decide +kernel
theorem dX8_ahead_87 : decode cX8_ahead 87 = .ok (.aaload, 1) := by decide +kernel
theorem dX8_ahead_88 : decode cX8_ahead 88 = .ok (.iload_n 2, 1) := by decide +kernel
theorem dX8_ahead_89 : decode cX8_ahead 89 = .ok (.invokevirtual 283, 3) := by decide +kernel
theorem dX8_ahead_92 : decode cX8_ahead 92 = .ok (.iload_n 3, 1) := by decide +kernel
theorem dX8_ahead_93 : decode cX8_ahead 93 = .ok (.ifCond .ne 13, 3) := by decide +kernel
theorem dX8_ahead_96 : decode cX8_ahead 96 = .ok (.aload_n 0, 1) := by decide +kernel
theorem dX8_ahead_97 : decode cX8_ahead 97 = .ok (.getfield 43, 3) := by decide +kernel
theorem dX8_ahead_100 : decode cX8_ahead 100 = .ok (.getfield 287, 3) := by decide +kernel
theorem dX8_ahead_103 : decode cX8_ahead 103 = .ok (.goto 10, 3) := by decide +kernel
theorem dX8_ahead_106 : decode cX8_ahead 106 = .ok (.aload_n 0, 1) := by decide +kernel
theorem dX8_ahead_107 : decode cX8_ahead 107 = .ok (.getfield 43, 3) := by decide +kernel
theorem dX8_ahead_110 : decode cX8_ahead 110 = .ok (.getfield 290, 3) := by decide +kernel
theorem dX8_ahead_113 : decode cX8_ahead 113 = .ok (.ireturn, 1) := by decide +kernel
theorem dX8_judge_0 : decode cX8_judge 0 = .ok (.aload_n 0, 1) := by decide +kernel
theorem dX8_judge_1 : decode cX8_judge 1 = .ok (.iload_n 1, 1) := by decide +kernel
theorem dX8_judge_2 : decode cX8_judge 2 = .ok (.iload_n 2, 1) := by decide +kernel
theorem dX8_judge_3 : decode cX8_judge 3 = .ok (.invokevirtual 276, 3) := by decide +kernel
theorem dX8_judge_6 : decode cX8_judge 6 = .ok (.istore_n 3, 1) := by decide +kernel
theorem dX8_judge_7 : decode cX8_judge 7 = .ok (.iload_n 3, 1) := by decide +kernel
theorem dX8_judge_8 : decode cX8_judge 8 = .ok (.ifCond .ne 12, 3) := by decide +kernel
theorem dX8_judge_11 : decode cX8_judge 11 = .ok (.iload_n 2, 1) := by decide +kernel
theorem dX8_judge_12 : decode cX8_judge 12 = .ok (.bipush 32, 2) := by decide +kernel
theorem dX8_judge_14 : decode cX8_judge 14 = .ok (.if_icmp .le 6, 3) := by decide +kernel
theorem dX8_judge_17 : decode cX8_judge 17 = .ok (.bipush (-6), 2) := by decide +kernel
theorem dX8_judge_19 : decode cX8_judge 19 = .ok (.istore_n 3, 1) := by decide +kernel
theorem dX8_judge_20 : decode cX8_judge 20 = .ok (.iload_n 3, 1) := by decide +kernel
theorem dX8_judge_21 : decode cX8_judge 21 = .ok (.ifCond .eq 12, 3) := by decide +kernel
theorem dX8_judge_24 : decode cX8_judge 24 = .ok (.aload_n 0, 1) := by decide +kernel
theorem dX8_judge_25 : decode cX8_judge 25 = .ok (.iload_n 3, 1) := by decide +kernel
theorem dX8_judge_26 : decode cX8_judge 26 = .ok (.invokevirtual 73, 3) := by decide +kernel
theorem dX8_judge_29 : decode cX8_judge 29 = .ok (.bipush 10, 2) := by decide +kernel
theorem dX8_judge_31 : decode cX8_judge 31 = .ok (.isub, 1) := by decide +kernel
theorem dX8_judge_32 : decode cX8_judge 32 = .ok (.ireturn, 1) := by decide +kernel
theorem dX8_judge_33 : decode cX8_judge 33 = .ok (.aload_n 0, 1) := by decide +kernel
theorem dX8_judge_34 : decode cX8_judge 34 = .ok (.getfield 43, 3) := by decide +kernel
theorem dX8_judge_37 : decode cX8_judge 37 = .ok (.aload_n 0, 1) := by decide +kernel
theorem dX8_judge_38 : decode cX8_judge 38 = .ok (.getfield 50, 3) := by decide +kernel
theorem dX8_judge_41 : decode cX8_judge 41 = .ok (.aload_n 0, 1) := by decide +kernel
theorem dX8_judge_42 : decode cX8_judge 42 = .ok (.getfield 11, 3) := by decide +kernel
theorem dX8_judge_45 : decode cX8_judge 45 = .ok (.iload_n 1, 1) := by decide +kernel
theorem dX8_judge_46 : decode cX8_judge 46 = .ok (.aaload, 1) := by decide +kernel
theorem dX8_judge_47 : decode cX8_judge 47 = .ok (.iload_n 2, 1) := by decide +kernel
theorem dX8_judge_48 : decode cX8_judge 48 = .ok (.invokevirtual 293, 3) := by decide +kernel
theorem dX8_judge_51 : decode cX8_judge 51 = .ok (.ireturn, 1) := by decide +kernel
theorem dX8_behind_0 : decode cX8_behind 0 = .ok (.aload_n 0, 1) := by decide +kernel
theorem dX8_behind_1 : decode cX8_behind 1 = .ok (.iload_n 1, 1) := by decide +kernel
theorem dX8_behind_2 : decode cX8_behind 2 = .ok (.iload_n 2, 1) := by decide +kernel
theorem dX8_behind_3 : decode cX8_behind 3 = .ok (.invokevirtual 276, 3) := by decide +kernel
theorem dX8_behind_6 : decode cX8_behind 6 = .ok (.istore_n 3, 1) := by decide +kernel
theorem dX8_behind_7 : decode cX8_behind 7 = .ok (.iload_n 3, 1) := by decide +kernel
theorem dX8_behind_8 : decode cX8_behind 8 = .ok (.ifCond .ne 35, 3) := by decide +kernel
theorem dX8_behind_11 : decode cX8_behind 11 = .ok (.iload_n 2, 1) := by decide +kernel
theorem dX8_behind_12 : decode cX8_behind 12 = .ok (.invokestatic 297, 3) := by decide +kernel
theorem dX8_behind_15 : decode cX8_behind 15 = .ok (.ifCond .eq 25, 3) := by decide +kernel
theorem dX8_behind_18 : decode cX8_behind 18 = .ok (.aload_n 0, 1) := by decide +kernel
theorem dX8_behind_19 : decode cX8_behind 19 = .ok (.getfield 43, 3) := by decide +kernel
theorem dX8_behind_22 : decode cX8_behind 22 = .ok (.aload_n 0, 1) := by decide +kernel
theorem dX8_behind_23 : decode cX8_behind 23 = .ok (.getfield 50, 3) := by decide +kernel
theorem dX8_behind_26 : decode cX8_behind 26 = .ok (.aload_n 0, 1) := by decide +kernel
theorem dX8_behind_27 : decode cX8_behind 27 = .ok (.getfield 11, 3) := by decide +kernel
theorem dX8_behind_30 : decode cX8_behind 30 = .ok (.iload_n 1, 1) := by decide +kernel
theorem dX8_behind_31 : decode cX8_behind 31 = .ok (.aaload, 1) := by decide +kernel
theorem dX8_behind_32 : decode cX8_behind 32 = .ok (.iload_n 2, 1) := by decide +kernel
theorem dX8_behind_33 : decode cX8_behind 33 = .ok (.invokevirtual 293, 3) := by decide +kernel
theorem dX8_behind_36 : decode cX8_behind 36 = .ok (.iconst (-1), 1) := by decide +kernel
theorem dX8_behind_37 : decode cX8_behind 37 = .ok (.if_icmp .eq 6, 3) := by decide +kernel
theorem dX8_behind_40 : decode cX8_behind 40 = .ok (.bipush (-6), 2) := by decide +kernel
theorem dX8_behind_42 : decode cX8_behind 42 = .ok (.istore_n 3, 1) := by decide +kernel
theorem dX8_behind_43 : decode cX8_behind 43 = .ok (.iload_n 3, 1) := by decide +kernel
theorem dX8_behind_44 : decode cX8_behind 44 = .ok (.ifCond .eq 9, 3) := by decide +kernel
theorem dX8_behind_47 : decode cX8_behind 47 = .ok (.aload_n 0, 1) := by decide +kernel
theorem dX8_behind_48 : decode cX8_behind 48 = .ok (.iload_n 3, 1) := by decide +kernel
theorem dX8_behind_49 : decode cX8_behind 49 = .ok (.invokevirtual 73, 3) := by decide +kernel
theorem dX8_behind_52 : decode cX8_behind 52 = .ok (.ireturn, 1) := by decide +kernel
theorem dX8_behind_53 : decode cX8_behind 53 = .ok (.aload_n 0, 1) := by decide +kernel
theorem dX8_behind_54 : decode cX8_behind 54 = .ok (.getfield 43, 3) := by decide +kernel
theorem dX8_behind_57 : decode cX8_behind 57 = .ok (.getfield 300, 3) := by decide +kernel
theorem dX8_behind_60 : decode cX8_behind 60 = .ok (.aload_n 0, 1) := by decide +kernel
theorem dX8_behind_61 : decode cX8_behind 61 = .ok (.getfield 43, 3) := by decide +kernel
theorem dX8_behind_64 : decode cX8_behind 64 = .ok (.getfield 301, 3) := by decide +kernel
theorem dX8_behind_67 : decode cX8_behind 67 = .ok (.invokestatic 302, 3) := by decide +kernel
theorem dX8_behind_70 : decode cX8_behind 70 = .ok (.ireturn, 1) := by decide +kernel
theorem dX8_byEar_0 : decode cX8_byEar 0 = .ok (.aload_n 0, 1) := by decide +kernel
theorem dX8_byEar_1 : decode cX8_byEar 1 = .ok (.iload_n 1, 1) := by decide +kernel
theorem dX8_byEar_2 : decode cX8_byEar 2 = .ok (.iload_n 2, 1) := by decide +kernel
theorem dX8_byEar_3 : decode cX8_byEar 3 = .ok (.invokevirtual 276, 3) := by decide +kernel
theorem dX8_byEar_6 : decode cX8_byEar 6 = .ok (.istore_n 3, 1) := by decide +kernel
theorem dX8_byEar_7 : decode cX8_byEar 7 = .ok (.iload_n 3, 1) := by decide +kernel
theorem dX8_byEar_8 : decode cX8_byEar 8 = .ok (.ifCond .ne 19, 3) := by decide +kernel
theorem dX8_byEar_11 : decode cX8_byEar 11 = .ok (.aload_n 0, 1) := by decide +kernel
theorem dX8_byEar_12 : decode cX8_byEar 12 = .ok (.getfield 50, 3) := by decide +kernel
theorem dX8_byEar_15 : decode cX8_byEar 15 = .ok (.getfield 109, 3) := by decide +kernel
theorem dX8_byEar_18 : decode cX8_byEar 18 = .ok (.getfield 150, 3) := by decide +kernel
theorem dX8_byEar_21 : decode cX8_byEar 21 = .ok (.ifCond .ne 6, 3) := by decide +kernel
theorem dX8_byEar_24 : decode cX8_byEar 24 = .ok (.bipush (-5), 2) := by decide +kernel
theorem dX8_byEar_26 : decode cX8_byEar 26 = .ok (.istore_n 3, 1) := by decide +kernel
theorem dX8_byEar_27 : decode cX8_byEar 27 = .ok (.iload_n 3, 1) := by decide +kernel
theorem dX8_byEar_28 : decode cX8_byEar 28 = .ok (.ifCond .ne 34, 3) := by decide +kernel
theorem dX8_byEar_31 : decode cX8_byEar 31 = .ok (.iload_n 2, 1) := by decide +kernel
theorem dX8_byEar_32 : decode cX8_byEar 32 = .ok (.invokestatic 297, 3) := by decide +kernel
theorem dX8_byEar_35 : decode cX8_byEar 35 = .ok (.ifCond .eq 24, 3) := by decide +kernel
theorem dX8_byEar_38 : decode cX8_byEar 38 = .ok (.aload_n 0, 1) := by decide +kernel
theorem dX8_byEar_39 : decode cX8_byEar 39 = .ok (.getfield 43, 3) := by decide +kernel
theorem dX8_byEar_42 : decode cX8_byEar 42 = .ok (.aload_n 0, 1) := by decide +kernel
theorem dX8_byEar_43 : decode cX8_byEar 43 = .ok (.getfield 50, 3) := by decide +kernel
theorem dX8_byEar_46 : decode cX8_byEar 46 = .ok (.aload_n 0, 1) := by decide +kernel
theorem dX8_byEar_47 : decode cX8_byEar 47 = .ok (.getfield 11, 3) := by decide +kernel
theorem dX8_byEar_50 : decode cX8_byEar 50 = .ok (.iload_n 1, 1) := by decide +kernel
theorem dX8_byEar_51 : decode cX8_byEar 51 = .ok (.aaload, 1) := by decide +kernel
theorem dX8_byEar_52 : decode cX8_byEar 52 = .ok (.iload_n 2, 1) := by decide +kernel
theorem dX8_byEar_53 : decode cX8_byEar 53 = .ok (.invokevirtual 305, 3) := by decide +kernel
theorem dX8_byEar_56 : decode cX8_byEar 56 = .ok (.ifCond .ne 6, 3) := by decide +kernel
theorem dX8_byEar_59 : decode cX8_byEar 59 = .ok (.bipush (-6), 2) := by decide +kernel
theorem dX8_byEar_61 : decode cX8_byEar 61 = .ok (.istore_n 3, 1) := by decide +kernel
theorem dX8_byEar_62 : decode cX8_byEar 62 = .ok (.iload_n 3, 1) := by decide +kernel
theorem dX8_byEar_63 : decode cX8_byEar 63 = .ok (.ifCond .eq 9, 3) := by decide +kernel
theorem dX8_byEar_66 : decode cX8_byEar 66 = .ok (.aload_n 0, 1) := by decide +kernel
theorem dX8_byEar_67 : decode cX8_byEar 67 = .ok (.iload_n 3, 1) := by decide +kernel
theorem dX8_byEar_68 : decode cX8_byEar 68 = .ok (.invokevirtual 73, 3) := by decide +kernel
theorem dX8_byEar_71 : decode cX8_byEar 71 = .ok (.ireturn, 1) := by decide +kernel
theorem dX8_byEar_72 : decode cX8_byEar 72 = .ok (.aload_n 0, 1) := by decide +kernel
theorem dX8_byEar_73 : decode cX8_byEar 73 = .ok (.getfield 43, 3) := by decide +kernel
theorem dX8_byEar_76 : decode cX8_byEar 76 = .ok (.aload_n 0, 1) := by decide +kernel
theorem dX8_byEar_77 : decode cX8_byEar 77 = .ok (.getfield 50, 3) := by decide +kernel
theorem dX8_byEar_80 : decode cX8_byEar 80 = .ok (.aload_n 0, 1) := by decide +kernel
theorem dX8_byEar_81 : decode cX8_byEar 81 = .ok (.getfield 11, 3) := by decide +kernel
theorem dX8_byEar_84 : decode cX8_byEar 84 = .ok (.iload_n 1, 1) := by decide +kernel
theorem dX8_byEar_85 : decode cX8_byEar 85 = .ok (.aaload, 1) := by decide +kernel
theorem dX8_byEar_86 : decode cX8_byEar 86 = .ok (.iload_n 2, 1) := by decide +kernel
theorem dX8_byEar_87 : decode cX8_byEar 87 = .ok (.invokevirtual 308, 3) := by decide +kernel
theorem dX8_byEar_90 : decode cX8_byEar 90 = .ok (.ireturn, 1) := by decide +kernel
theorem dX8_beside_0 : decode cX8_beside 0 = .ok (.aload_n 0, 1) := by decide +kernel
theorem dX8_beside_1 : decode cX8_beside 1 = .ok (.getfield 50, 3) := by decide +kernel
theorem dX8_beside_4 : decode cX8_beside 4 = .ok (.invokevirtual 311, 3) := by decide +kernel
theorem dX8_beside_7 : decode cX8_beside 7 = .ok (.ireturn, 1) := by decide +kernel
theorem dX8_quiet_0 : decode cX8_quiet 0 = .ok (.aload_n 0, 1) := by decide +kernel
theorem dX8_quiet_1 : decode cX8_quiet 1 = .ok (.getfield 50, 3) := by decide +kernel
theorem dX8_quiet_4 : decode cX8_quiet 4 = .ok (.getfield 109, 3) := by decide +kernel
theorem dX8_quiet_7 : decode cX8_quiet 7 = .ok (.getfield 150, 3) := by decide +kernel
theorem dX8_quiet_10 : decode cX8_quiet 10 = .ok (.ifCond .ne 10, 3) := by decide +kernel
theorem dX8_quiet_13 : decode cX8_quiet 13 = .ok (.aload_n 0, 1) := by decide +kernel
theorem dX8_quiet_14 : decode cX8_quiet 14 = .ok (.bipush (-5), 2) := by decide +kernel
theorem dX8_quiet_16 : decode cX8_quiet 16 = .ok (.invokevirtual 73, 3) := by decide +kernel
theorem dX8_quiet_19 : decode cX8_quiet 19 = .ok (.ireturn, 1) := by decide +kernel
theorem dX8_quiet_20 : decode cX8_quiet 20 = .ok (.aload_n 0, 1) := by decide +kernel
theorem dX8_quiet_21 : decode cX8_quiet 21 = .ok (.getfield 50, 3) := by decide +kernel
theorem dX8_quiet_24 : decode cX8_quiet 24 = .ok (.invokevirtual 314, 3) := by decide +kernel
theorem dX8_quiet_27 : decode cX8_quiet 27 = .ok (.ireturn, 1) := by decide +kernel
theorem dX8_swap_0 : decode cX8_swap 0 = .ok (.aload_n 0, 1) := by decide +kernel
theorem dX8_swap_1 : decode cX8_swap 1 = .ok (.getfield 50, 3) := by decide +kernel
theorem dX8_swap_4 : decode cX8_swap 4 = .ok (.getfield 109, 3) := by decide +kernel
theorem dX8_swap_7 : decode cX8_swap 7 = .ok (.iload_n 1, 1) := by decide +kernel
theorem dX8_swap_8 : decode cX8_swap 8 = .ok (.invokevirtual 113, 3) := by decide +kernel
theorem dX8_swap_11 : decode cX8_swap 11 = .ok (.ifCond .eq 17, 3) := by decide +kernel
theorem dX8_swap_14 : decode cX8_swap 14 = .ok (.aload_n 0, 1) := by decide +kernel
theorem dX8_swap_15 : decode cX8_swap 15 = .ok (.getfield 50, 3) := by decide +kernel
theorem dX8_swap_18 : decode cX8_swap 18 = .ok (.getfield 109, 3) := by decide +kernel
theorem dX8_swap_21 : decode cX8_swap 21 = .ok (.iload_n 2, 1) := by decide +kernel
theorem dX8_swap_22 : decode cX8_swap 22 = .ok (.invokevirtual 113, 3) := by decide +kernel
theorem dX8_swap_25 : decode cX8_swap 25 = .ok (.ifCond .ne 9, 3) := by decide +kernel
theorem dX8_swap_28 : decode cX8_swap 28 = .ok (.aload_n 0, 1) := by decide +kernel
theorem dX8_swap_29 : decode cX8_swap 29 = .ok (.iconst (-1), 1) := by decide +kernel
theorem dX8_swap_30 : decode cX8_swap 30 = .ok (.invokevirtual 73, 3) := by decide +kernel
theorem dX8_swap_33 : decode cX8_swap 33 = .ok (.ireturn, 1) := by decide +kernel
theorem dX8_swap_34 : decode cX8_swap 34 = .ok (.iload_n 1, 1) := by decide +kernel
theorem dX8_swap_35 : decode cX8_swap 35 = .ok (.iload_n 2, 1) := by decide +kernel
theorem dX8_swap_36 : decode cX8_swap 36 = .ok (.if_icmp .ne 10, 3) := by decide +kernel
theorem dX8_swap_39 : decode cX8_swap 39 = .ok (.aload_n 0, 1) := by decide +kernel
theorem dX8_swap_40 : decode cX8_swap 40 = .ok (.bipush (-6), 2) := by decide +kernel
theorem dX8_swap_42 : decode cX8_swap 42 = .ok (.invokevirtual 73, 3) := by decide +kernel
theorem dX8_swap_45 : decode cX8_swap 45 = .ok (.ireturn, 1) := by decide +kernel
theorem dX8_swap_46 : decode cX8_swap 46 = .ok (.aload_n 0, 1) := by decide +kernel
theorem dX8_swap_47 : decode cX8_swap 47 = .ok (.getfield 50, 3) := by decide +kernel
theorem dX8_swap_50 : decode cX8_swap 50 = .ok (.iload_n 1, 1) := by decide +kernel
theorem dX8_swap_51 : decode cX8_swap 51 = .ok (.iload_n 2, 1) := by decide +kernel
theorem dX8_swap_52 : decode cX8_swap 52 = .ok (.invokevirtual 317, 3) := by decide +kernel
theorem dX8_swap_55 : decode cX8_swap 55 = .ok (.iconst 1, 1) := by decide +kernel
theorem dX8_swap_56 : decode cX8_swap 56 = .ok (.ireturn, 1) := by decide +kernel
theorem dX8_isTrue_0 : decode cX8_isTrue 0 = .ok (.aload_n 0, 1) := by decide +kernel
theorem dX8_isTrue_1 : decode cX8_isTrue 1 = .ok (.getfield 50, 3) := by decide +kernel
theorem dX8_isTrue_4 : decode cX8_isTrue 4 = .ok (.getfield 190, 3) := by decide +kernel
theorem dX8_isTrue_7 : decode cX8_isTrue 7 = .ok (.iload_n 1, 1) := by decide +kernel
theorem dX8_isTrue_8 : decode cX8_isTrue 8 = .ok (.invokevirtual 204, 3) := by decide +kernel
theorem dX8_isTrue_11 : decode cX8_isTrue 11 = .ok (.istore_n 2, 1) := by decide +kernel
theorem dX8_isTrue_12 : decode cX8_isTrue 12 = .ok (.iload_n 2, 1) := by decide +kernel
theorem dX8_isTrue_13 : decode cX8_isTrue 13 = .ok (.iconst (-1), 1) := by decide +kernel
theorem dX8_isTrue_14 : decode cX8_isTrue 14 = .ok (.if_icmp .ne 10, 3) := by decide +kernel
theorem dX8_isTrue_17 : decode cX8_isTrue 17 = .ok (.aload_n 0, 1) := by decide +kernel
theorem dX8_isTrue_18 : decode cX8_isTrue 18 = .ok (.bipush (-6), 2) := by decide +kernel
theorem dX8_isTrue_20 : decode cX8_isTrue 20 = .ok (.invokevirtual 73, 3) := by decide +kernel
theorem dX8_isTrue_23 : decode cX8_isTrue 23 = .ok (.ireturn, 1) := by decide +kernel
theorem dX8_isTrue_24 : decode cX8_isTrue 24 = .ok (.aload_n 0, 1) := by decide +kernel
theorem dX8_isTrue_25 : decode cX8_isTrue 25 = .ok (.getfield 50, 3) := by decide +kernel
theorem dX8_isTrue_28 : decode cX8_isTrue 28 = .ok (.invokevirtual 320, 3) := by decide +kernel
theorem dX8_isTrue_31 : decode cX8_isTrue 31 = .ok (.istore_n 3, 1) := by decide +kernel
theorem dX8_isTrue_32 : decode cX8_isTrue 32 = .ok (.aload_n 0, 1) := by decide +kernel
theorem dX8_isTrue_33 : decode cX8_isTrue 33 = .ok (.getfield 50, 3) := by decide +kernel
theorem dX8_isTrue_36 : decode cX8_isTrue 36 = .ok (.iload_n 2, 1) := by decide +kernel
theorem dX8_isTrue_37 : decode cX8_isTrue 37 = .ok (.invokevirtual 323, 3) := by decide +kernel
theorem dX8_isTrue_40 : decode cX8_isTrue 40 = .ok (.iload_n 3, 1) := by decide +kernel
theorem dX8_isTrue_41 : decode cX8_isTrue 41 = .ok (.ireturn, 1) := by decide +kernel
theorem dX8_hear_0 : decode cX8_hear 0 = .ok (.aload_n 0, 1) := by decide +kernel
theorem dX8_hear_1 : decode cX8_hear 1 = .ok (.getfield 50, 3) := by decide +kernel
theorem dX8_hear_4 : decode cX8_hear 4 = .ok (.iload_n 1, 1) := by decide +kernel
theorem dX8_hear_5 : decode cX8_hear 5 = .ok (.invokevirtual 241, 3) := by decide +kernel
theorem dX8_hear_8 : decode cX8_hear 8 = .ok (.ifCond .ne 10, 3) := by decide +kernel
theorem dX8_hear_11 : decode cX8_hear 11 = .ok (.aload_n 0, 1) := by decide +kernel
theorem dX8_hear_12 : decode cX8_hear 12 = .ok (.bipush (-6), 2) := by decide +kernel
theorem dX8_hear_14 : decode cX8_hear 14 = .ok (.invokevirtual 73, 3) := by decide +kernel
theorem dX8_hear_17 : decode cX8_hear 17 = .ok (.ireturn, 1) := by decide +kernel
theorem dX8_hear_18 : decode cX8_hear 18 = .ok (.aload_n 0, 1) := by decide +kernel
theorem dX8_hear_19 : decode cX8_hear 19 = .ok (.getfield 50, 3) := by decide +kernel
theorem dX8_hear_22 : decode cX8_hear 22 = .ok (.iload_n 1, 1) := by decide +kernel
theorem dX8_hear_23 : decode cX8_hear 23 = .ok (.invokevirtual 327, 3) := by decide +kernel
theorem dX8_hear_26 : decode cX8_hear 26 = .ok (.istore_n 2, 1) := by decide +kernel
theorem dX8_hear_27 : decode cX8_hear 27 = .ok (.aload_n 0, 1) := by decide +kernel
theorem dX8_hear_28 : decode cX8_hear 28 = .ok (.getfield 50, 3) := by decide +kernel
theorem dX8_hear_31 : decode cX8_hear 31 = .ok (.iload_n 1, 1) := by decide +kernel
theorem dX8_hear_32 : decode cX8_hear 32 = .ok (.iload_n 2, 1) := by decide +kernel
theorem dX8_hear_33 : decode cX8_hear 33 = .ok (.invokevirtual 216, 3) := by decide +kernel
theorem dX8_hear_36 : decode cX8_hear 36 = .ok (.ifCond .ne 20, 3) := by decide +kernel
theorem dX8_hear_39 : decode cX8_hear 39 = .ok (.aload_n 0, 1) := by decide +kernel
theorem dX8_hear_40 : decode cX8_hear 40 = .ok (.getfield 50, 3) := by decide +kernel
theorem dX8_hear_43 : decode cX8_hear 43 = .ok (.invokevirtual 219, 3) := by decide +kernel
theorem dX8_hear_46 : decode cX8_hear 46 = .ok (.ifCond .ne 10, 3) := by decide +kernel
theorem dX8_hear_49 : decode cX8_hear 49 = .ok (.aload_n 0, 1) := by decide +kernel
theorem dX8_hear_50 : decode cX8_hear 50 = .ok (.bipush (-7), 2) := by decide +kernel
theorem dX8_hear_52 : decode cX8_hear 52 = .ok (.invokevirtual 73, 3) := by decide +kernel
theorem dX8_hear_55 : decode cX8_hear 55 = .ok (.ireturn, 1) := by decide +kernel
theorem dX8_hear_56 : decode cX8_hear 56 = .ok (.aload_n 0, 1) := by decide +kernel
theorem dX8_hear_57 : decode cX8_hear 57 = .ok (.getfield 50, 3) := by decide +kernel
theorem dX8_hear_60 : decode cX8_hear 60 = .ok (.iload_n 1, 1) := by decide +kernel
theorem dX8_hear_61 : decode cX8_hear 61 = .ok (.iload_n 2, 1) := by decide +kernel
theorem dX8_hear_62 : decode cX8_hear 62 = .ok (.invokevirtual 220, 3) := by decide +kernel
theorem dX8_hear_65 : decode cX8_hear 65 = .ok (.iload_n 2, 1) := by decide +kernel
theorem dX8_hear_66 : decode cX8_hear 66 = .ok (.ireturn, 1) := by decide +kernel
theorem dX8_evenings_0 : decode cX8_evenings 0 = .ok (.aload_n 0, 1) := by decide +kernel
theorem dX8_evenings_1 : decode cX8_evenings 1 = .ok (.getfield 50, 3) := by decide +kernel
theorem dX8_evenings_4 : decode cX8_evenings 4 = .ok (.getfield 109, 3) := by decide +kernel
theorem dX8_evenings_7 : decode cX8_evenings 7 = .ok (.getfield 150, 3) := by decide +kernel
theorem dX8_evenings_10 : decode cX8_evenings 10 = .ok (.ifCond .ne 10, 3) := by decide +kernel
theorem dX8_evenings_13 : decode cX8_evenings 13 = .ok (.aload_n 0, 1) := by decide +kernel
theorem dX8_evenings_14 : decode cX8_evenings 14 = .ok (.bipush (-5), 2) := by decide +kernel
theorem dX8_evenings_16 : decode cX8_evenings 16 = .ok (.invokevirtual 73, 3) := by decide +kernel
theorem dX8_evenings_19 : decode cX8_evenings 19 = .ok (.ireturn, 1) := by decide +kernel
theorem dX8_evenings_20 : decode cX8_evenings 20 = .ok (.iload_n 1, 1) := by decide +kernel
theorem dX8_evenings_21 : decode cX8_evenings 21 = .ok (.iconst 1, 1) := by decide +kernel
theorem dX8_evenings_22 : decode cX8_evenings 22 = .ok (.if_icmp .lt 9, 3) := by decide +kernel
theorem dX8_evenings_25 : decode cX8_evenings 25 = .ok (.iload_n 1, 1) := by decide +kernel
theorem dX8_evenings_26 : decode cX8_evenings 26 = .ok (.bipush 20, 2) := by decide +kernel
theorem dX8_evenings_28 : decode cX8_evenings 28 = .ok (.if_icmp .le 10, 3) := by decide +kernel
theorem dX8_evenings_31 : decode cX8_evenings 31 = .ok (.aload_n 0, 1) := by decide +kernel
theorem dX8_evenings_32 : decode cX8_evenings 32 = .ok (.bipush (-6), 2) := by decide +kernel
theorem dX8_evenings_34 : decode cX8_evenings 34 = .ok (.invokevirtual 73, 3) := by decide +kernel
theorem dX8_evenings_37 : decode cX8_evenings 37 = .ok (.ireturn, 1) := by decide +kernel
theorem dX8_evenings_38 : decode cX8_evenings 38 = .ok (.iconst 0, 1) := by decide +kernel
theorem dX8_evenings_39 : decode cX8_evenings 39 = .ok (.istore_n 2, 1) := by decide +kernel
theorem dX8_evenings_40 : decode cX8_evenings 40 = .ok (.iconst 0, 1) := by decide +kernel
theorem dX8_evenings_41 : decode cX8_evenings 41 = .ok (.istore_n 3, 1) := by decide +kernel
theorem dX8_evenings_42 : decode cX8_evenings 42 = .ok (.iload_n 3, 1) := by decide +kernel
theorem dX8_evenings_43 : decode cX8_evenings 43 = .ok (.iload_n 1, 1) := by decide +kernel
theorem dX8_evenings_44 : decode cX8_evenings 44 = .ok (.if_icmp .ge 19, 3) := by decide +kernel
theorem dX8_evenings_47 : decode cX8_evenings 47 = .ok (.iload_n 2, 1) := by decide +kernel
theorem dX8_evenings_48 : decode cX8_evenings 48 = .ok (.aload_n 0, 1) := by decide +kernel
theorem dX8_evenings_49 : decode cX8_evenings 49 = .ok (.getfield 50, 3) := by decide +kernel
theorem dX8_evenings_52 : decode cX8_evenings 52 = .ok (.invokevirtual 330, 3) := by decide +kernel
theorem dX8_evenings_55 : decode cX8_evenings 55 = .ok (.iadd, 1) := by decide +kernel
theorem dX8_evenings_56 : decode cX8_evenings 56 = .ok (.istore_n 2, 1) := by decide +kernel
theorem dX8_evenings_57 : decode cX8_evenings 57 = .ok (.iinc 3 1, 3) := by decide +kernel
theorem dX8_evenings_60 : decode cX8_evenings 60 = .ok (.goto (-18), 3) := by decide +kernel
theorem dX8_evenings_63 : decode cX8_evenings 63 = .ok (.iload_n 2, 1) := by decide +kernel
theorem dX8_evenings_64 : decode cX8_evenings 64 = .ok (.ireturn, 1) := by decide +kernel
theorem dX8_seed_0 : decode cX8_seed 0 = .ok (.aload_n 0, 1) := by decide +kernel
theorem dX8_seed_1 : decode cX8_seed 1 = .ok (.getfield 50, 3) := by decide +kernel
theorem dX8_seed_4 : decode cX8_seed 4 = .ok (.getfield 333, 3) := by decide +kernel
theorem dX8_seed_7 : decode cX8_seed 7 = .ok (.istore_n 2, 1) := by decide +kernel
theorem dX8_seed_8 : decode cX8_seed 8 = .ok (.aload_n 0, 1) := by decide +kernel
theorem dX8_seed_9 : decode cX8_seed 9 = .ok (.getfield 50, 3) := by decide +kernel
theorem dX8_seed_12 : decode cX8_seed 12 = .ok (.iload_n 1, 1) := by decide +kernel
theorem dX8_seed_13 : decode cX8_seed 13 = .ok (.putfield 333, 3) := by decide +kernel
theorem dX8_seed_16 : decode cX8_seed 16 = .ok (.iload_n 2, 1) := by decide +kernel
theorem dX8_seed_17 : decode cX8_seed 17 = .ok (.ireturn, 1) := by decide +kernel
theorem dX8_act_0 : decode cX8_act 0 = .ok (.aload_n 0, 1) := by decide +kernel
theorem dX8_act_1 : decode cX8_act 1 = .ok (.getfield 22, 3) := by decide +kernel
theorem dX8_act_4 : decode cX8_act 4 = .ok (.invokevirtual 336, 3) := by decide +kernel
theorem dX8_act_7 : decode cX8_act 7 = .ok (.aload_n 0, 1) := by decide +kernel
theorem dX8_act_8 : decode cX8_act 8 = .ok (.getfield 50, 3) := by decide +kernel
theorem dX8_act_11 : decode cX8_act 11 = .ok (.getfield 109, 3) := by decide +kernel
theorem dX8_act_14 : decode cX8_act 14 = .ok (.iload_n 1, 1) := by decide +kernel
theorem dX8_act_15 : decode cX8_act 15 = .ok (.invokevirtual 113, 3) := by decide +kernel
theorem dX8_act_18 : decode cX8_act 18 = .ok (.ifCond .eq 12, 3) := by decide +kernel
theorem dX8_act_21 : decode cX8_act 21 = .ok (.iload_n 2, 1) := by decide +kernel
theorem dX8_act_22 : decode cX8_act 22 = .ok (.ifCond .lt 8, 3) := by decide +kernel
theorem dX8_act_25 : decode cX8_act 25 = .ok (.iload_n 2, 1) := by decide +kernel
theorem dX8_act_26 : decode cX8_act 26 = .ok (.iconst 3, 1) := by decide +kernel
theorem dX8_act_27 : decode cX8_act 27 = .ok (.if_icmp .lt 5, 3) := by decide +kernel
theorem dX8_act_30 : decode cX8_act 30 = .ok (.iconst 0, 1) := by decide +kernel
theorem dX8_act_31 : decode cX8_act 31 = .ok (.ireturn, 1) := by decide +kernel
theorem dX8_act_32 : decode cX8_act 32 = .ok (.aload_n 0, 1) := by decide +kernel
theorem dX8_act_33 : decode cX8_act 33 = .ok (.getfield 22, 3) := by decide +kernel
theorem dX8_act_36 : decode cX8_act 36 = .ok (.aload_n 0, 1) := by decide +kernel
theorem dX8_act_37 : decode cX8_act 37 = .ok (.getfield 50, 3) := by decide +kernel
theorem dX8_act_40 : decode cX8_act 40 = .ok (.getfield 109, 3) := by decide +kernel
theorem dX8_act_43 : decode cX8_act 43 = .ok (.iload_n 1, 1) := by decide +kernel
theorem dX8_act_44 : decode cX8_act 44 = .ok (.iload_n 2, 1) := by decide +kernel
theorem dX8_act_45 : decode cX8_act 45 = .ok (.iload_n 3, 1) := by decide +kernel
theorem dX8_act_46 : decode cX8_act 46 = .ok (.invokevirtual 339, 3) := by decide +kernel
theorem dX8_act_49 : decode cX8_act 49 = .ok (.ireturn, 1) := by decide +kernel
theorem dX8_trace_0 : decode cX8_trace 0 = .ok (.aload_n 0, 1) := by decide +kernel
theorem dX8_trace_1 : decode cX8_trace 1 = .ok (.getfield 22, 3) := by decide +kernel
theorem dX8_trace_4 : decode cX8_trace 4 = .ok (.iload_n 1, 1) := by decide +kernel
theorem dX8_trace_5 : decode cX8_trace 5 = .ok (.invokevirtual 343, 3) := by decide +kernel
theorem dX8_trace_8 : decode cX8_trace 8 = .ok (.ireturn, 1) := by decide +kernel
theorem dX8_image_0 : decode cX8_image 0 = .ok (.aload_n 0, 1) := by decide +kernel
theorem dX8_image_1 : decode cX8_image 1 = .ok (.getfield 57, 3) := by decide +kernel
theorem dX8_image_4 : decode cX8_image 4 = .ok (.aload_n 0, 1) := by decide +kernel
theorem dX8_image_5 : decode cX8_image 5 = .ok (.getfield 50, 3) := by decide +kernel
theorem dX8_image_8 : decode cX8_image 8 = .ok (.invokevirtual 173, 3) := by decide +kernel
theorem dX8_image_11 : decode cX8_image 11 = .ok (.aload_n 0, 1) := by decide +kernel
theorem dX8_image_12 : decode cX8_image 12 = .ok (.iconst 1, 1) := by decide +kernel
theorem dX8_image_13 : decode cX8_image 13 = .ok (.putfield 60, 3) := by decide +kernel
theorem dX8_image_16 : decode cX8_image 16 = .ok (.aload_n 0, 1) := by decide +kernel
theorem dX8_image_17 : decode cX8_image 17 = .ok (.getfield 50, 3) := by decide +kernel
theorem dX8_image_20 : decode cX8_image 20 = .ok (.getfield 109, 3) := by decide +kernel
theorem dX8_image_23 : decode cX8_image 23 = .ok (.getfield 150, 3) := by decide +kernel
theorem dX8_image_26 : decode cX8_image 26 = .ok (.ireturn, 1) := by decide +kernel
theorem dX8_restore_0 : decode cX8_restore 0 = .ok (.aload_n 0, 1) := by decide +kernel
theorem dX8_restore_1 : decode cX8_restore 1 = .ok (.getfield 60, 3) := by decide +kernel
theorem dX8_restore_4 : decode cX8_restore 4 = .ok (.ifCond .ne 10, 3) := by decide +kernel
theorem dX8_restore_7 : decode cX8_restore 7 = .ok (.aload_n 0, 1) := by decide +kernel
theorem dX8_restore_8 : decode cX8_restore 8 = .ok (.bipush (-6), 2) := by decide +kernel
theorem dX8_restore_10 : decode cX8_restore 10 = .ok (.invokevirtual 73, 3) := by decide +kernel
theorem dX8_restore_13 : decode cX8_restore 13 = .ok (.ireturn, 1) := by decide +kernel
theorem dX8_restore_14 : decode cX8_restore 14 = .ok (.aload_n 0, 1) := by decide +kernel
theorem dX8_restore_15 : decode cX8_restore 15 = .ok (.getfield 50, 3) := by decide +kernel
theorem dX8_restore_18 : decode cX8_restore 18 = .ok (.aload_n 0, 1) := by decide +kernel
theorem dX8_restore_19 : decode cX8_restore 19 = .ok (.getfield 57, 3) := by decide +kernel
theorem dX8_restore_22 : decode cX8_restore 22 = .ok (.invokevirtual 173, 3) := by decide +kernel
theorem dX8_restore_25 : decode cX8_restore 25 = .ok (.iconst 0, 1) := by decide +kernel
theorem dX8_restore_26 : decode cX8_restore 26 = .ok (.istore_n 1, 1) := by decide +kernel
theorem dX8_restore_27 : decode cX8_restore 27 = .ok (.iload_n 1, 1) := by decide +kernel
theorem dX8_restore_28 : decode cX8_restore 28 = .ok (.bipush 8, 2) := by decide +kernel
theorem dX8_restore_30 : decode cX8_restore 30 = .ok (.if_icmp .ge 53, 3) := by decide +kernel
theorem dX8_restore_33 : decode cX8_restore 33 = .ok (.aload_n 0, 1) := by decide +kernel
theorem dX8_restore_34 : decode cX8_restore 34 = .ok (.getfield 11, 3) := by decide +kernel
theorem dX8_restore_37 : decode cX8_restore 37 = .ok (.iload_n 1, 1) := by decide +kernel
theorem dX8_restore_38 : decode cX8_restore 38 = .ok (.aaload, 1) := by decide +kernel
theorem dX8_restore_39 : decode cX8_restore 39 = .ok (.invokevirtual 124, 3) := by decide +kernel
theorem dX8_restore_42 : decode cX8_restore 42 = .ok (.ifCond .ne 35, 3) := by decide +kernel
theorem dX8_restore_45 : decode cX8_restore 45 = .ok (.aload_n 0, 1) := by decide +kernel
theorem dX8_restore_46 : decode cX8_restore 46 = .ok (.getfield 50, 3) := by decide +kernel
theorem dX8_restore_49 : decode cX8_restore 49 = .ok (.getfield 109, 3) := by decide +kernel
theorem dX8_restore_52 : decode cX8_restore 52 = .ok (.aload_n 0, 1) := by decide +kernel
theorem dX8_restore_53 : decode cX8_restore 53 = .ok (.getfield 11, 3) := by decide +kernel
theorem dX8_restore_56 : decode cX8_restore 56 = .ok (.iload_n 1, 1) := by decide +kernel
theorem dX8_restore_57 : decode cX8_restore 57 = .ok (.aaload, 1) := by decide +kernel
theorem dX8_restore_58 : decode cX8_restore 58 = .ok (.getfield 118, 3) := by decide +kernel
theorem dX8_restore_61 : decode cX8_restore 61 = .ok (.invokevirtual 113, 3) := by decide +kernel
theorem dX8_restore_64 : decode cX8_restore 64 = .ok (.ifCond .ne 13, 3) := by decide +kernel
theorem dX8_restore_67 : decode cX8_restore 67 = .ok (.aload_n 0, 1) := by decide +kernel
theorem dX8_restore_68 : decode cX8_restore 68 = .ok (.getfield 11, 3) := by decide +kernel
theorem dX8_restore_71 : decode cX8_restore 71 = .ok (.iload_n 1, 1) := by decide +kernel
theorem dX8_restore_72 : decode cX8_restore 72 = .ok (.aaload, 1) := by decide +kernel
theorem dX8_restore_73 : decode cX8_restore 73 = .ok (.iconst (-1), 1) := by decide +kernel
theorem dX8_restore_74 : decode cX8_restore 74 = .ok (.putfield 118, 3) := by decide +kernel
theorem dX8_restore_77 : decode cX8_restore 77 = .ok (.iinc 1 1, 3) := by decide +kernel
theorem dX8_restore_80 : decode cX8_restore 80 = .ok (.goto (-53), 3) := by decide +kernel
theorem dX8_restore_83 : decode cX8_restore 83 = .ok (.aload_n 0, 1) := by decide +kernel
theorem dX8_restore_84 : decode cX8_restore 84 = .ok (.getfield 50, 3) := by decide +kernel
theorem dX8_restore_87 : decode cX8_restore 87 = .ok (.getfield 109, 3) := by decide +kernel
theorem dX8_restore_90 : decode cX8_restore 90 = .ok (.getfield 150, 3) := by decide +kernel
theorem dX8_restore_93 : decode cX8_restore 93 = .ok (.ireturn, 1) := by decide +kernel
theorem dX8_status_0 : decode cX8_status 0 = .ok (.iload_n 1, 1) := by decide +kernel
theorem dX8_status_1 : decode cX8_status 1 = .ok (.tableswitch 105 0 8 #[51, 62, 62, 62, 62, 73, 81, 89, 97], 51) := by decide +kernel
theorem dX8_status_52 : decode cX8_status 52 = .ok (.aload_n 0, 1) := by decide +kernel
theorem dX8_status_53 : decode cX8_status 53 = .ok (.getfield 50, 3) := by decide +kernel
theorem dX8_status_56 : decode cX8_status 56 = .ok (.getfield 109, 3) := by decide +kernel
theorem dX8_status_59 : decode cX8_status 59 = .ok (.getfield 150, 3) := by decide +kernel
theorem dX8_status_62 : decode cX8_status 62 = .ok (.ireturn, 1) := by decide +kernel
theorem dX8_status_63 : decode cX8_status 63 = .ok (.aload_n 0, 1) := by decide +kernel
theorem dX8_status_64 : decode cX8_status 64 = .ok (.getfield 50, 3) := by decide +kernel
theorem dX8_status_67 : decode cX8_status 67 = .ok (.iload_n 1, 1) := by decide +kernel
theorem dX8_status_68 : decode cX8_status 68 = .ok (.iconst 1, 1) := by decide +kernel
theorem dX8_status_69 : decode cX8_status 69 = .ok (.isub, 1) := by decide +kernel
theorem dX8_status_70 : decode cX8_status 70 = .ok (.invokevirtual 168, 3) := by decide +kernel
theorem dX8_status_73 : decode cX8_status 73 = .ok (.ireturn, 1) := by decide +kernel
theorem dX8_status_74 : decode cX8_status 74 = .ok (.aload_n 0, 1) := by decide +kernel
theorem dX8_status_75 : decode cX8_status 75 = .ok (.getfield 50, 3) := by decide +kernel
theorem dX8_status_78 : decode cX8_status 78 = .ok (.getfield 223, 3) := by decide +kernel
theorem dX8_status_81 : decode cX8_status 81 = .ok (.ireturn, 1) := by decide +kernel
theorem dX8_status_82 : decode cX8_status 82 = .ok (.aload_n 0, 1) := by decide +kernel
theorem dX8_status_83 : decode cX8_status 83 = .ok (.getfield 50, 3) := by decide +kernel
theorem dX8_status_86 : decode cX8_status 86 = .ok (.invokevirtual 320, 3) := by decide +kernel
theorem dX8_status_89 : decode cX8_status 89 = .ok (.ireturn, 1) := by decide +kernel
theorem dX8_status_90 : decode cX8_status 90 = .ok (.aload_n 0, 1) := by decide +kernel
theorem dX8_status_91 : decode cX8_status 91 = .ok (.getfield 50, 3) := by decide +kernel
theorem dX8_status_94 : decode cX8_status 94 = .ok (.getfield 333, 3) := by decide +kernel
theorem dX8_status_97 : decode cX8_status 97 = .ok (.ireturn, 1) := by decide +kernel
theorem dX8_status_98 : decode cX8_status 98 = .ok (.aload_n 0, 1) := by decide +kernel
theorem dX8_status_99 : decode cX8_status 99 = .ok (.getfield 22, 3) := by decide +kernel
theorem dX8_status_102 : decode cX8_status 102 = .ok (.getfield 346, 3) := by decide +kernel
theorem dX8_status_105 : decode cX8_status 105 = .ok (.ireturn, 1) := by decide +kernel
theorem dX8_status_106 : decode cX8_status 106 = .ok (.aload_n 0, 1) := by decide +kernel
theorem dX8_status_107 : decode cX8_status 107 = .ok (.iload_n 1, 1) := by decide +kernel
theorem dX8_status_108 : decode cX8_status 108 = .ok (.invokevirtual 349, 3) := by decide +kernel
theorem dX8_status_111 : decode cX8_status 111 = .ok (.ireturn, 1) := by decide +kernel
theorem dX8_refuse_0 : decode cX8_refuse 0 = .ok (.iload_n 1, 1) := by decide +kernel
theorem dX8_refuse_1 : decode cX8_refuse 1 = .ok (.iconst (-1), 1) := by decide +kernel
theorem dX8_refuse_2 : decode cX8_refuse 2 = .ok (.if_icmp .gt 20, 3) := by decide +kernel
theorem dX8_refuse_5 : decode cX8_refuse 5 = .ok (.iload_n 1, 1) := by decide +kernel
theorem dX8_refuse_6 : decode cX8_refuse 6 = .ok (.bipush (-7), 2) := by decide +kernel
theorem dX8_refuse_8 : decode cX8_refuse 8 = .ok (.if_icmp .lt 14, 3) := by decide +kernel
theorem dX8_refuse_11 : decode cX8_refuse 11 = .ok (.aload_n 0, 1) := by decide +kernel
theorem dX8_refuse_12 : decode cX8_refuse 12 = .ok (.getfield 15, 3) := by decide +kernel
theorem dX8_refuse_15 : decode cX8_refuse 15 = .ok (.iload_n 1, 1) := by decide +kernel
theorem dX8_refuse_16 : decode cX8_refuse 16 = .ok (.ineg, 1) := by decide +kernel
theorem dX8_refuse_17 : decode cX8_refuse 17 = .ok (.dup2, 1) := by decide +kernel
theorem dX8_refuse_18 : decode cX8_refuse 18 = .ok (.iaload, 1) := by decide +kernel
theorem dX8_refuse_19 : decode cX8_refuse 19 = .ok (.iconst 1, 1) := by decide +kernel
theorem dX8_refuse_20 : decode cX8_refuse 20 = .ok (.iadd, 1) := by decide +kernel
theorem dX8_refuse_21 : decode cX8_refuse 21 = .ok (.iastore, 1) := by decide +kernel
theorem dX8_refuse_22 : decode cX8_refuse 22 = .ok (.iload_n 1, 1) := by decide +kernel
theorem dX8_refuse_23 : decode cX8_refuse 23 = .ok (.ireturn, 1) := by decide +kernel
theorem dX8_refusalsOf_0 : decode cX8_refusalsOf 0 = .ok (.iload_n 1, 1) := by decide +kernel
theorem dX8_refusalsOf_1 : decode cX8_refusalsOf 1 = .ok (.bipush 11, 2) := by decide +kernel
theorem dX8_refusalsOf_3 : decode cX8_refusalsOf 3 = .ok (.if_icmp .ge 7, 3) := by decide +kernel
theorem dX8_refusalsOf_6 : decode cX8_refusalsOf 6 = .ok (.iconst 0, 1) := by decide +kernel
theorem dX8_refusalsOf_7 : decode cX8_refusalsOf 7 = .ok (.goto 9, 3) := by decide +kernel
theorem dX8_refusalsOf_10 : decode cX8_refusalsOf 10 = .ok (.iload_n 1, 1) := by decide +kernel
theorem dX8_refusalsOf_11 : decode cX8_refusalsOf 11 = .ok (.bipush 11, 2) := by decide +kernel
theorem dX8_refusalsOf_13 : decode cX8_refusalsOf 13 = .ok (.isub, 1) := by decide +kernel
theorem dX8_refusalsOf_14 : decode cX8_refusalsOf 14 = .ok (.iconst 1, 1) := by decide +kernel
theorem dX8_refusalsOf_15 : decode cX8_refusalsOf 15 = .ok (.iadd, 1) := by decide +kernel
theorem dX8_refusalsOf_16 : decode cX8_refusalsOf 16 = .ok (.istore_n 2, 1) := by decide +kernel
theorem dX8_refusalsOf_17 : decode cX8_refusalsOf 17 = .ok (.iload_n 2, 1) := by decide +kernel
theorem dX8_refusalsOf_18 : decode cX8_refusalsOf 18 = .ok (.iconst 1, 1) := by decide +kernel
theorem dX8_refusalsOf_19 : decode cX8_refusalsOf 19 = .ok (.if_icmp .lt 18, 3) := by decide +kernel
theorem dX8_refusalsOf_22 : decode cX8_refusalsOf 22 = .ok (.iload_n 2, 1) := by decide +kernel
theorem dX8_refusalsOf_23 : decode cX8_refusalsOf 23 = .ok (.bipush 7, 2) := by decide +kernel
theorem dX8_refusalsOf_25 : decode cX8_refusalsOf 25 = .ok (.if_icmp .gt 12, 3) := by decide +kernel
theorem dX8_refusalsOf_28 : decode cX8_refusalsOf 28 = .ok (.aload_n 0, 1) := by decide +kernel
theorem dX8_refusalsOf_29 : decode cX8_refusalsOf 29 = .ok (.getfield 15, 3) := by decide +kernel
theorem dX8_refusalsOf_32 : decode cX8_refusalsOf 32 = .ok (.iload_n 2, 1) := by decide +kernel
theorem dX8_refusalsOf_33 : decode cX8_refusalsOf 33 = .ok (.iaload, 1) := by decide +kernel
theorem dX8_refusalsOf_34 : decode cX8_refusalsOf 34 = .ok (.goto 4, 3) := by decide +kernel
theorem dX8_refusalsOf_37 : decode cX8_refusalsOf 37 = .ok (.iconst (-1), 1) := by decide +kernel
theorem dX8_refusalsOf_38 : decode cX8_refusalsOf 38 = .ok (.ireturn, 1) := by decide +kernel
theorem dX8_isShelf_0 : decode cX8_isShelf 0 = .ok (.iload_n 0, 1) := by decide +kernel
theorem dX8_isShelf_1 : decode cX8_isShelf 1 = .ok (.ifCond .lt 13, 3) := by decide +kernel
theorem dX8_isShelf_4 : decode cX8_isShelf 4 = .ok (.iload_n 0, 1) := by decide +kernel
theorem dX8_isShelf_5 : decode cX8_isShelf 5 = .ok (.bipush 8, 2) := by decide +kernel
theorem dX8_isShelf_7 : decode cX8_isShelf 7 = .ok (.if_icmp .ge 7, 3) := by decide +kernel
theorem dX8_isShelf_10 : decode cX8_isShelf 10 = .ok (.iconst 1, 1) := by decide +kernel
theorem dX8_isShelf_11 : decode cX8_isShelf 11 = .ok (.goto 4, 3) := by decide +kernel
theorem dX8_isShelf_14 : decode cX8_isShelf 14 = .ok (.iconst 0, 1) := by decide +kernel
theorem dX8_isShelf_15 : decode cX8_isShelf 15 = .ok (.ireturn, 1) := by decide +kernel
theorem dX8_lackOfRow_0 : decode cX8_lackOfRow 0 = .ok (.iload_n 1, 1) := by decide +kernel
theorem dX8_lackOfRow_1 : decode cX8_lackOfRow 1 = .ok (.invokestatic 69, 3) := by decide +kernel
theorem dX8_lackOfRow_4 : decode cX8_lackOfRow 4 = .ok (.ifCond .ne 5, 3) := by decide +kernel
theorem dX8_lackOfRow_7 : decode cX8_lackOfRow 7 = .ok (.iconst (-1), 1) := by decide +kernel
theorem dX8_lackOfRow_8 : decode cX8_lackOfRow 8 = .ok (.ireturn, 1) := by decide +kernel
theorem dX8_lackOfRow_9 : decode cX8_lackOfRow 9 = .ok (.aload_n 0, 1) := by decide +kernel
theorem dX8_lackOfRow_10 : decode cX8_lackOfRow 10 = .ok (.getfield 11, 3) := by decide +kernel
theorem dX8_lackOfRow_13 : decode cX8_lackOfRow 13 = .ok (.iload_n 1, 1) := by decide +kernel
theorem dX8_lackOfRow_14 : decode cX8_lackOfRow 14 = .ok (.aaload, 1) := by decide +kernel
theorem dX8_lackOfRow_15 : decode cX8_lackOfRow 15 = .ok (.invokevirtual 124, 3) := by decide +kernel
theorem dX8_lackOfRow_18 : decode cX8_lackOfRow 18 = .ok (.ifCond .eq 5, 3) := by decide +kernel
theorem dX8_lackOfRow_21 : decode cX8_lackOfRow 21 = .ok (.iconst 0, 1) := by decide +kernel
theorem dX8_lackOfRow_22 : decode cX8_lackOfRow 22 = .ok (.ireturn, 1) := by decide +kernel
theorem dX8_lackOfRow_23 : decode cX8_lackOfRow 23 = .ok (.aload_n 0, 1) := by decide +kernel
theorem dX8_lackOfRow_24 : decode cX8_lackOfRow 24 = .ok (.getfield 11, 3) := by decide +kernel
theorem dX8_lackOfRow_27 : decode cX8_lackOfRow 27 = .ok (.iload_n 1, 1) := by decide +kernel
theorem dX8_lackOfRow_28 : decode cX8_lackOfRow 28 = .ok (.aaload, 1) := by decide +kernel
theorem dX8_lackOfRow_29 : decode cX8_lackOfRow 29 = .ok (.getfield 118, 3) := by decide +kernel
theorem dX8_lackOfRow_32 : decode cX8_lackOfRow 32 = .ok (.iconst (-1), 1) := by decide +kernel
theorem dX8_lackOfRow_33 : decode cX8_lackOfRow 33 = .ok (.if_icmp .ne 8, 3) := by decide +kernel
theorem dX8_lackOfRow_36 : decode cX8_lackOfRow 36 = .ok (.bipush (-3), 2) := by decide +kernel
theorem dX8_lackOfRow_38 : decode cX8_lackOfRow 38 = .ok (.goto 5, 3) := by decide +kernel
theorem dX8_lackOfRow_41 : decode cX8_lackOfRow 41 = .ok (.bipush (-2), 2) := by decide +kernel
theorem dX8_lackOfRow_43 : decode cX8_lackOfRow 43 = .ok (.ireturn, 1) := by decide +kernel
theorem dX8_lackForCopy_0 : decode cX8_lackForCopy 0 = .ok (.aload_n 0, 1) := by decide +kernel
theorem dX8_lackForCopy_1 : decode cX8_lackForCopy 1 = .ok (.iload_n 1, 1) := by decide +kernel
theorem dX8_lackForCopy_2 : decode cX8_lackForCopy 2 = .ok (.invokevirtual 81, 3) := by decide +kernel
theorem dX8_lackForCopy_5 : decode cX8_lackForCopy 5 = .ok (.istore_n 3, 1) := by decide +kernel
theorem dX8_lackForCopy_6 : decode cX8_lackForCopy 6 = .ok (.aload_n 0, 1) := by decide +kernel
theorem dX8_lackForCopy_7 : decode cX8_lackForCopy 7 = .ok (.iload_n 2, 1) := by decide +kernel
theorem dX8_lackForCopy_8 : decode cX8_lackForCopy 8 = .ok (.invokevirtual 81, 3) := by decide +kernel
theorem dX8_lackForCopy_11 : decode cX8_lackForCopy 11 = .ok (.istore 4, 2) := by decide +kernel
theorem dX8_lackForCopy_13 : decode cX8_lackForCopy 13 = .ok (.iload_n 3, 1) := by decide +kernel
theorem dX8_lackForCopy_14 : decode cX8_lackForCopy 14 = .ok (.iconst (-1), 1) := by decide +kernel
theorem dX8_lackForCopy_15 : decode cX8_lackForCopy 15 = .ok (.if_icmp .eq 9, 3) := by decide +kernel
theorem dX8_lackForCopy_18 : decode cX8_lackForCopy 18 = .ok (.iload 4, 2) := by decide +kernel
theorem dX8_lackForCopy_20 : decode cX8_lackForCopy 20 = .ok (.iconst (-1), 1) := by decide +kernel
theorem dX8_lackForCopy_21 : decode cX8_lackForCopy 21 = .ok (.if_icmp .ne 5, 3) := by decide +kernel
theorem dX8_lackForCopy_24 : decode cX8_lackForCopy 24 = .ok (.iconst (-1), 1) := by decide +kernel
theorem dX8_lackForCopy_25 : decode cX8_lackForCopy 25 = .ok (.ireturn, 1) := by decide +kernel
theorem dX8_lackForCopy_26 : decode cX8_lackForCopy 26 = .ok (.iload_n 3, 1) := by decide +kernel
theorem dX8_lackForCopy_27 : decode cX8_lackForCopy 27 = .ok (.bipush (-2), 2) := by decide +kernel
theorem dX8_lackForCopy_29 : decode cX8_lackForCopy 29 = .ok (.if_icmp .eq 10, 3) := by decide +kernel
theorem dX8_lackForCopy_32 : decode cX8_lackForCopy 32 = .ok (.iload 4, 2) := by decide +kernel
theorem dX8_lackForCopy_34 : decode cX8_lackForCopy 34 = .ok (.bipush (-2), 2) := by decide +kernel
theorem dX8_lackForCopy_36 : decode cX8_lackForCopy 36 = .ok (.if_icmp .ne 6, 3) := by decide +kernel
theorem dX8_lackForCopy_39 : decode cX8_lackForCopy 39 = .ok (.bipush (-2), 2) := by decide +kernel
theorem dX8_lackForCopy_41 : decode cX8_lackForCopy 41 = .ok (.ireturn, 1) := by decide +kernel
theorem dX8_lackForCopy_42 : decode cX8_lackForCopy 42 = .ok (.iload_n 3, 1) := by decide +kernel
theorem dX8_lackForCopy_43 : decode cX8_lackForCopy 43 = .ok (.bipush (-3), 2) := by decide +kernel
theorem dX8_lackForCopy_45 : decode cX8_lackForCopy 45 = .ok (.if_icmp .eq 10, 3) := by decide +kernel
theorem dX8_lackForCopy_48 : decode cX8_lackForCopy 48 = .ok (.iload 4, 2) := by decide +kernel
theorem dX8_lackForCopy_50 : decode cX8_lackForCopy 50 = .ok (.bipush (-3), 2) := by decide +kernel
theorem dX8_lackForCopy_52 : decode cX8_lackForCopy 52 = .ok (.if_icmp .ne 6, 3) := by decide +kernel
theorem dX8_lackForCopy_55 : decode cX8_lackForCopy 55 = .ok (.bipush (-3), 2) := by decide +kernel
theorem dX8_lackForCopy_57 : decode cX8_lackForCopy 57 = .ok (.ireturn, 1) := by decide +kernel
theorem dX8_lackForCopy_58 : decode cX8_lackForCopy 58 = .ok (.aload_n 0, 1) := by decide +kernel
theorem dX8_lackForCopy_59 : decode cX8_lackForCopy 59 = .ok (.getfield 11, 3) := by decide +kernel
theorem dX8_lackForCopy_62 : decode cX8_lackForCopy 62 = .ok (.iload_n 1, 1) := by decide +kernel
theorem dX8_lackForCopy_63 : decode cX8_lackForCopy 63 = .ok (.aaload, 1) := by decide +kernel
theorem dX8_lackForCopy_64 : decode cX8_lackForCopy 64 = .ok (.getfield 118, 3) := by decide +kernel
theorem dX8_lackForCopy_67 : decode cX8_lackForCopy 67 = .ok (.aload_n 0, 1) := by decide +kernel
theorem dX8_lackForCopy_68 : decode cX8_lackForCopy 68 = .ok (.getfield 11, 3) := by decide +kernel
theorem dX8_lackForCopy_71 : decode cX8_lackForCopy 71 = .ok (.iload_n 2, 1) := by decide +kernel
theorem dX8_lackForCopy_72 : decode cX8_lackForCopy 72 = .ok (.aaload, 1) := by decide +kernel
theorem dX8_lackForCopy_73 : decode cX8_lackForCopy 73 = .ok (.getfield 118, 3) := by decide +kernel
theorem dX8_lackForCopy_76 : decode cX8_lackForCopy 76 = .ok (.if_icmp .ne 7, 3) := by decide +kernel
theorem dX8_lackForCopy_79 : decode cX8_lackForCopy 79 = .ok (.iconst 0, 1) := by decide +kernel
theorem dX8_lackForCopy_80 : decode cX8_lackForCopy 80 = .ok (.goto 5, 3) := by decide +kernel
theorem dX8_lackForCopy_83 : decode cX8_lackForCopy 83 = .ok (.bipush (-2), 2) := by decide +kernel
theorem dX8_lackForCopy_85 : decode cX8_lackForCopy 85 = .ok (.ireturn, 1) := by decide +kernel
theorem dX8_lackOfTold_0 : decode cX8_lackOfTold 0 = .ok (.aload_n 0, 1) := by decide +kernel
theorem dX8_lackOfTold_1 : decode cX8_lackOfTold 1 = .ok (.iload_n 1, 1) := by decide +kernel
theorem dX8_lackOfTold_2 : decode cX8_lackOfTold 2 = .ok (.invokevirtual 81, 3) := by decide +kernel
theorem dX8_lackOfTold_5 : decode cX8_lackOfTold 5 = .ok (.istore_n 3, 1) := by decide +kernel
theorem dX8_lackOfTold_6 : decode cX8_lackOfTold 6 = .ok (.iload_n 3, 1) := by decide +kernel
theorem dX8_lackOfTold_7 : decode cX8_lackOfTold 7 = .ok (.ifCond .eq 5, 3) := by decide +kernel
theorem dX8_lackOfTold_10 : decode cX8_lackOfTold 10 = .ok (.iload_n 3, 1) := by decide +kernel
theorem dX8_lackOfTold_11 : decode cX8_lackOfTold 11 = .ok (.ireturn, 1) := by decide +kernel
theorem dX8_lackOfTold_12 : decode cX8_lackOfTold 12 = .ok (.iload_n 2, 1) := by decide +kernel
theorem dX8_lackOfTold_13 : decode cX8_lackOfTold 13 = .ok (.ifCond .ge 6, 3) := by decide +kernel
theorem dX8_lackOfTold_16 : decode cX8_lackOfTold 16 = .ok (.bipush (-4), 2) := by decide +kernel
theorem dX8_lackOfTold_18 : decode cX8_lackOfTold 18 = .ok (.ireturn, 1) := by decide +kernel
theorem dX8_lackOfTold_19 : decode cX8_lackOfTold 19 = .ok (.iload_n 2, 1) := by decide +kernel
theorem dX8_lackOfTold_20 : decode cX8_lackOfTold 20 = .ok (.aload_n 0, 1) := by decide +kernel
theorem dX8_lackOfTold_21 : decode cX8_lackOfTold 21 = .ok (.getfield 11, 3) := by decide +kernel
theorem dX8_lackOfTold_24 : decode cX8_lackOfTold 24 = .ok (.iload_n 1, 1) := by decide +kernel
theorem dX8_lackOfTold_25 : decode cX8_lackOfTold 25 = .ok (.aaload, 1) := by decide +kernel
theorem dX8_lackOfTold_26 : decode cX8_lackOfTold 26 = .ok (.getfield 352, 3) := by decide +kernel
theorem dX8_lackOfTold_29 : decode cX8_lackOfTold 29 = .ok (.if_icmp .le 8, 3) := by decide +kernel
theorem dX8_lackOfTold_32 : decode cX8_lackOfTold 32 = .ok (.bipush (-5), 2) := by decide +kernel
theorem dX8_lackOfTold_34 : decode cX8_lackOfTold 34 = .ok (.goto 4, 3) := by decide +kernel
theorem dX8_lackOfTold_37 : decode cX8_lackOfTold 37 = .ok (.iconst 0, 1) := by decide +kernel
theorem dX8_lackOfTold_38 : decode cX8_lackOfTold 38 = .ok (.ireturn, 1) := by decide +kernel
theorem dX8_isToldInPairs_0 : decode cX8_isToldInPairs 0 = .ok (.iload_n 0, 1) := by decide +kernel
theorem dX8_isToldInPairs_1 : decode cX8_isToldInPairs 1 = .ok (.bipush 32, 2) := by decide +kernel
theorem dX8_isToldInPairs_3 : decode cX8_isToldInPairs 3 = .ok (.if_icmp .gt 13, 3) := by decide +kernel
theorem dX8_isToldInPairs_6 : decode cX8_isToldInPairs 6 = .ok (.iload_n 0, 1) := by decide +kernel
theorem dX8_isToldInPairs_7 : decode cX8_isToldInPairs 7 = .ok (.iconst 1, 1) := by decide +kernel
theorem dX8_isToldInPairs_8 : decode cX8_isToldInPairs 8 = .ok (.iand, 1) := by decide +kernel
theorem dX8_isToldInPairs_9 : decode cX8_isToldInPairs 9 = .ok (.ifCond .ne 7, 3) := by decide +kernel
theorem dX8_isToldInPairs_12 : decode cX8_isToldInPairs 12 = .ok (.iconst 1, 1) := by decide +kernel
theorem dX8_isToldInPairs_13 : decode cX8_isToldInPairs 13 = .ok (.goto 4, 3) := by decide +kernel
theorem dX8_isToldInPairs_16 : decode cX8_isToldInPairs 16 = .ok (.iconst 0, 1) := by decide +kernel
theorem dX8_isToldInPairs_17 : decode cX8_isToldInPairs 17 = .ok (.ireturn, 1) := by decide +kernel
theorem dL_law_0 : decode cL_law 0 = .ok (.new 7, 3) := by decide +kernel
theorem dL_law_3 : decode cL_law 3 = .ok (.dup, 1) := by decide +kernel
theorem dL_law_4 : decode cL_law 4 = .ok (.invokespecial 9, 3) := by decide +kernel
theorem dL_law_7 : decode cL_law 7 = .ok (.astore_n 1, 1) := by decide +kernel
theorem dL_law_8 : decode cL_law 8 = .ok (.new 10, 3) := by decide +kernel
theorem dL_law_11 : decode cL_law 11 = .ok (.dup, 1) := by decide +kernel
theorem dL_law_12 : decode cL_law 12 = .ok (.invokespecial 12, 3) := by decide +kernel
theorem dL_law_15 : decode cL_law 15 = .ok (.astore_n 2, 1) := by decide +kernel
theorem dL_law_16 : decode cL_law 16 = .ok (.iconst 0, 1) := by decide +kernel
theorem dL_law_17 : decode cL_law 17 = .ok (.istore_n 3, 1) := by decide +kernel
theorem dL_law_18 : decode cL_law 18 = .ok (.iload_n 3, 1) := by decide +kernel
theorem dL_law_19 : decode cL_law 19 = .ok (.aload_n 0, 1) := by decide +kernel
theorem dL_law_20 : decode cL_law 20 = .ok (.arraylength, 1) := by decide +kernel
theorem dL_law_21 : decode cL_law 21 = .ok (.bipush 6, 2) := by decide +kernel
theorem dL_law_23 : decode cL_law 23 = .ok (.isub, 1) := by decide +kernel
theorem dL_law_24 : decode cL_law 24 = .ok (.if_icmp .gt 1321, 3) := by decide +kernel
theorem dL_law_27 : decode cL_law 27 = .ok (.aload_n 0, 1) := by decide +kernel
theorem dL_law_28 : decode cL_law 28 = .ok (.iload_n 3, 1) := by decide +kernel
theorem dL_law_29 : decode cL_law 29 = .ok (.iaload, 1) := by decide +kernel
theorem dL_law_30 : decode cL_law 30 = .ok (.bipush 63, 2) := by decide +kernel
theorem dL_law_32 : decode cL_law 32 = .ok (.iand, 1) := by decide +kernel
theorem dL_law_33 : decode cL_law 33 = .ok (.tableswitch 1306 0 39 #[175, 218, 291, 354, 388, 421, 444, 477, 520, 553, 586, 609, 622, 645, 668, 701, 734, 757, 770, 793, 806, 829, 862, 875, 898, 941, 974, 1007, 1040, 1053, 1066, 1099, 1122, 1145, 1168, 1191, 1234, 1257, 1270, 1283], 175) := by decide +kernel
theorem dL_law_208 : decode cL_law 208 = .ok (.aload_n 1, 1) := by decide +kernel
theorem dL_law_209 : decode cL_law 209 = .ok (.aload_n 0, 1) := by decide +kernel
theorem dL_law_210 : decode cL_law 210 = .ok (.iload_n 3, 1) := by decide +kernel
theorem dL_law_211 : decode cL_law 211 = .ok (.iconst 1, 1) := by decide +kernel
theorem dL_law_212 : decode cL_law 212 = .ok (.iadd, 1) := by decide +kernel
theorem dL_law_213 : decode cL_law 213 = .ok (.iaload, 1) := by decide +kernel
theorem dL_law_214 : decode cL_law 214 = .ok (.aload_n 0, 1) := by decide +kernel
theorem dL_law_215 : decode cL_law 215 = .ok (.iload_n 3, 1) := by decide +kernel
theorem dL_law_216 : decode cL_law 216 = .ok (.iconst 2, 1) := by decide +kernel
theorem dL_law_217 : decode cL_law 217 = .ok (.iadd, 1) := by decide +kernel
theorem dL_law_218 : decode cL_law 218 = .ok (.iaload, 1) := by decide +kernel
theorem dL_law_219 : decode cL_law 219 = .ok (.aload_n 0, 1) := by decide +kernel
theorem dL_law_220 : decode cL_law 220 = .ok (.iload_n 3, 1) := by decide +kernel
theorem dL_law_221 : decode cL_law 221 = .ok (.iconst 3, 1) := by decide +kernel
theorem dL_law_222 : decode cL_law 222 = .ok (.iadd, 1) := by decide +kernel
theorem dL_law_223 : decode cL_law 223 = .ok (.iaload, 1) := by decide +kernel
theorem dL_law_224 : decode cL_law 224 = .ok (.invokevirtual 13, 3) := by decide +kernel
theorem dL_law_227 : decode cL_law 227 = .ok (.aload_n 2, 1) := by decide +kernel
theorem dL_law_228 : decode cL_law 228 = .ok (.aload_n 0, 1) := by decide +kernel
theorem dL_law_229 : decode cL_law 229 = .ok (.iload_n 3, 1) := by decide +kernel
theorem dL_law_230 : decode cL_law 230 = .ok (.iconst 1, 1) := by decide +kernel
theorem dL_law_231 : decode cL_law 231 = .ok (.iadd, 1) := by decide +kernel
theorem dL_law_232 : decode cL_law 232 = .ok (.iaload, 1) := by decide +kernel
theorem dL_law_233 : decode cL_law 233 = .ok (.aload_n 0, 1) := by decide +kernel
theorem dL_law_234 : decode cL_law 234 = .ok (.iload_n 3, 1) := by decide +kernel
theorem dL_law_235 : decode cL_law 235 = .ok (.iconst 2, 1) := by decide +kernel
theorem dL_law_236 : decode cL_law 236 = .ok (.iadd, 1) := by decide +kernel
theorem dL_law_237 : decode cL_law 237 = .ok (.iaload, 1) := by decide +kernel
theorem dL_law_238 : decode cL_law 238 = .ok (.aload_n 0, 1) := by decide +kernel
theorem dL_law_239 : decode cL_law 239 = .ok (.iload_n 3, 1) := by decide +kernel
theorem dL_law_240 : decode cL_law 240 = .ok (.iconst 3, 1) := by decide +kernel
theorem dL_law_241 : decode cL_law 241 = .ok (.iadd, 1) := by decide +kernel
theorem dL_law_242 : decode cL_law 242 = .ok (.iaload, 1) := by decide +kernel
theorem dL_law_243 : decode cL_law 243 = .ok (.invokevirtual 17, 3) := by decide +kernel
theorem dL_law_246 : decode cL_law 246 = .ok (.if_icmp .eq 1093, 3) := by decide +kernel
theorem dL_law_249 : decode cL_law 249 = .ok (.iconst 0, 1) := by decide +kernel
theorem dL_law_250 : decode cL_law 250 = .ok (.ireturn, 1) := by decide +kernel
theorem dL_law_251 : decode cL_law 251 = .ok (.aload_n 1, 1) := by decide +kernel
theorem dL_law_252 : decode cL_law 252 = .ok (.aload_n 0, 1) := by decide +kernel
theorem dL_law_253 : decode cL_law 253 = .ok (.iload_n 3, 1) := by decide +kernel
theorem dL_law_254 : decode cL_law 254 = .ok (.iconst 1, 1) := by decide +kernel
theorem dL_law_255 : decode cL_law 255 = .ok (.iadd, 1) := by decide +kernel
theorem dL_law_256 : decode cL_law 256 = .ok (.iaload, 1) := by decide +kernel
theorem dL_law_257 : decode cL_law 257 = .ok (.aload_n 0, 1) := by decide +kernel
theorem dL_law_258 : decode cL_law 258 = .ok (.iload_n 3, 1) := by decide +kernel
theorem dL_law_259 : decode cL_law 259 = .ok (.iconst 2, 1) := by decide +kernel
theorem dL_law_260 : decode cL_law 260 = .ok (.iadd, 1) := by decide +kernel
theorem dL_law_261 : decode cL_law 261 = .ok (.iaload, 1) := by decide +kernel
theorem dL_law_262 : decode cL_law 262 = .ok (.aload_n 0, 1) := by decide +kernel
theorem dL_law_263 : decode cL_law 263 = .ok (.iload_n 3, 1) := by decide +kernel
theorem dL_law_264 : decode cL_law 264 = .ok (.iconst 3, 1) := by decide +kernel
theorem dL_law_265 : decode cL_law 265 = .ok (.iadd, 1) := by decide +kernel
theorem dL_law_266 : decode cL_law 266 = .ok (.iaload, 1) := by decide +kernel
theorem dL_law_267 : decode cL_law 267 = .ok (.i2l, 1) := by decide +kernel
theorem dL_law_268 : decode cL_law 268 = .ok (.bipush 32, 2) := by decide +kernel
theorem dL_law_270 : decode cL_law 270 = .ok (.lshl, 1) := by decide +kernel
theorem dL_law_271 : decode cL_law 271 = .ok (.aload_n 0, 1) := by decide +kernel
theorem dL_law_272 : decode cL_law 272 = .ok (.iload_n 3, 1) := by decide +kernel
theorem dL_law_273 : decode cL_law 273 = .ok (.iconst 4, 1) := by decide +kernel
theorem dL_law_274 : decode cL_law 274 = .ok (.iadd, 1) := by decide +kernel
theorem dL_law_275 : decode cL_law 275 = .ok (.iaload, 1) := by decide +kernel
theorem dL_law_276 : decode cL_law 276 = .ok (.i2l, 1) := by decide +kernel
theorem dL_law_277 : decode cL_law 277 = .ok (.ldc2_w 18, 3) := by decide +kernel
theorem dL_law_280 : decode cL_law 280 = .ok (.land, 1) := by decide +kernel
theorem dL_law_281 : decode cL_law 281 = .ok (.lor, 1) := by decide +kernel
theorem dL_law_282 : decode cL_law 282 = .ok (.invokevirtual 20, 3) := by decide +kernel
theorem dL_law_285 : decode cL_law 285 = .ok (.aload_n 2, 1) := by decide +kernel
theorem dL_law_286 : decode cL_law 286 = .ok (.aload_n 0, 1) := by decide +kernel
theorem dL_law_287 : decode cL_law 287 = .ok (.iload_n 3, 1) := by decide +kernel
theorem dL_law_288 : decode cL_law 288 = .ok (.iconst 1, 1) := by decide +kernel
theorem dL_law_289 : decode cL_law 289 = .ok (.iadd, 1) := by decide +kernel
theorem dL_law_290 : decode cL_law 290 = .ok (.iaload, 1) := by decide +kernel
theorem dL_law_291 : decode cL_law 291 = .ok (.aload_n 0, 1) := by decide +kernel
theorem dL_law_292 : decode cL_law 292 = .ok (.iload_n 3, 1) := by decide +kernel
theorem dL_law_293 : decode cL_law 293 = .ok (.iconst 2, 1) := by decide +kernel
theorem dL_law_294 : decode cL_law 294 = .ok (.iadd, 1) := by decide +kernel
theorem dL_law_295 : decode cL_law 295 = .ok (.iaload, 1) := by decide +kernel
theorem dL_law_296 : decode cL_law 296 = .ok (.aload_n 0, 1) := by decide +kernel
theorem dL_law_297 : decode cL_law 297 = .ok (.iload_n 3, 1) := by decide +kernel
theorem dL_law_298 : decode cL_law 298 = .ok (.iconst 3, 1) := by decide +kernel
theorem dL_law_299 : decode cL_law 299 = .ok (.iadd, 1) := by decide +kernel
theorem dL_law_300 : decode cL_law 300 = .ok (.iaload, 1) := by decide +kernel
theorem dL_law_301 : decode cL_law 301 = .ok (.i2l, 1) := by decide +kernel
theorem dL_law_302 : decode cL_law 302 = .ok (.bipush 32, 2) := by decide +kernel
theorem dL_law_304 : decode cL_law 304 = .ok (.lshl, 1) := by decide +kernel
theorem dL_law_305 : decode cL_law 305 = .ok (.aload_n 0, 1) := by decide +kernel
theorem dL_law_306 : decode cL_law 306 = .ok (.iload_n 3, 1) := by decide +kernel
theorem dL_law_307 : decode cL_law 307 = .ok (.iconst 4, 1) := by decide +kernel
theorem dL_law_308 : decode cL_law 308 = .ok (.iadd, 1) := by decide +kernel
theorem dL_law_309 : decode cL_law 309 = .ok (.iaload, 1) := by decide +kernel
theorem dL_law_310 : decode cL_law 310 = .ok (.i2l, 1) := by decide +kernel
theorem dL_law_311 : decode cL_law 311 = .ok (.ldc2_w 18, 3) := by decide +kernel
theorem dL_law_314 : decode cL_law 314 = .ok (.land, 1) := by decide +kernel
theorem dL_law_315 : decode cL_law 315 = .ok (.lor, 1) := by decide +kernel
theorem dL_law_316 : decode cL_law 316 = .ok (.invokevirtual 24, 3) := by decide +kernel
theorem dL_law_319 : decode cL_law 319 = .ok (.if_icmp .eq 1020, 3) := by decide +kernel
theorem dL_law_322 : decode cL_law 322 = .ok (.iconst 0, 1) := by decide +kernel
theorem dL_law_323 : decode cL_law 323 = .ok (.ireturn, 1) := by decide +kernel
theorem dL_law_324 : decode cL_law 324 = .ok (.aload_n 1, 1) := by decide +kernel
theorem dL_law_325 : decode cL_law 325 = .ok (.aload_n 0, 1) := by decide +kernel
theorem dL_law_326 : decode cL_law 326 = .ok (.iload_n 3, 1) := by decide +kernel
theorem dL_law_327 : decode cL_law 327 = .ok (.iconst 1, 1) := by decide +kernel
theorem dL_law_328 : decode cL_law 328 = .ok (.iadd, 1) := by decide +kernel
theorem dL_law_329 : decode cL_law 329 = .ok (.iaload, 1) := by decide +kernel
theorem dL_law_330 : decode cL_law 330 = .ok (.aload_n 0, 1) := by decide +kernel
theorem dL_law_331 : decode cL_law 331 = .ok (.iload_n 3, 1) := by decide +kernel
theorem dL_law_332 : decode cL_law 332 = .ok (.iconst 2, 1) := by decide +kernel
theorem dL_law_333 : decode cL_law 333 = .ok (.iadd, 1) := by decide +kernel
theorem dL_law_334 : decode cL_law 334 = .ok (.iaload, 1) := by decide +kernel
theorem dL_law_335 : decode cL_law 335 = .ok (.aload_n 0, 1) := by decide +kernel
theorem dL_law_336 : decode cL_law 336 = .ok (.iload_n 3, 1) := by decide +kernel
theorem dL_law_337 : decode cL_law 337 = .ok (.iconst 3, 1) := by decide +kernel
theorem dL_law_338 : decode cL_law 338 = .ok (.iadd, 1) := by decide +kernel
theorem dL_law_339 : decode cL_law 339 = .ok (.iaload, 1) := by decide +kernel
theorem dL_law_340 : decode cL_law 340 = .ok (.aload_n 0, 1) := by decide +kernel
theorem dL_law_341 : decode cL_law 341 = .ok (.iload_n 3, 1) := by decide +kernel
theorem dL_law_342 : decode cL_law 342 = .ok (.iconst 4, 1) := by decide +kernel
theorem dL_law_343 : decode cL_law 343 = .ok (.iadd, 1) := by decide +kernel
theorem dL_law_344 : decode cL_law 344 = .ok (.iaload, 1) := by decide +kernel
theorem dL_law_345 : decode cL_law 345 = .ok (.aload_n 0, 1) := by decide +kernel
theorem dL_law_346 : decode cL_law 346 = .ok (.iload_n 3, 1) := by decide +kernel
theorem dL_law_347 : decode cL_law 347 = .ok (.iconst 5, 1) := by decide +kernel
theorem dL_law_348 : decode cL_law 348 = .ok (.iadd, 1) := by decide +kernel
theorem dL_law_349 : decode cL_law 349 = .ok (.iaload, 1) := by decide +kernel
theorem dL_law_350 : decode cL_law 350 = .ok (.invokevirtual 25, 3) := by decide +kernel
theorem dL_law_353 : decode cL_law 353 = .ok (.aload_n 2, 1) := by decide +kernel
theorem dL_law_354 : decode cL_law 354 = .ok (.aload_n 0, 1) := by decide +kernel
theorem dL_law_355 : decode cL_law 355 = .ok (.iload_n 3, 1) := by decide +kernel
theorem dL_law_356 : decode cL_law 356 = .ok (.iconst 1, 1) := by decide +kernel
theorem dL_law_357 : decode cL_law 357 = .ok (.iadd, 1) := by decide +kernel
theorem dL_law_358 : decode cL_law 358 = .ok (.iaload, 1) := by decide +kernel
theorem dL_law_359 : decode cL_law 359 = .ok (.aload_n 0, 1) := by decide +kernel
theorem dL_law_360 : decode cL_law 360 = .ok (.iload_n 3, 1) := by decide +kernel
theorem dL_law_361 : decode cL_law 361 = .ok (.iconst 2, 1) := by decide +kernel
theorem dL_law_362 : decode cL_law 362 = .ok (.iadd, 1) := by decide +kernel
theorem dL_law_363 : decode cL_law 363 = .ok (.iaload, 1) := by decide +kernel
theorem dL_law_364 : decode cL_law 364 = .ok (.aload_n 0, 1) := by decide +kernel
theorem dL_law_365 : decode cL_law 365 = .ok (.iload_n 3, 1) := by decide +kernel
theorem dL_law_366 : decode cL_law 366 = .ok (.iconst 3, 1) := by decide +kernel
theorem dL_law_367 : decode cL_law 367 = .ok (.iadd, 1) := by decide +kernel
theorem dL_law_368 : decode cL_law 368 = .ok (.iaload, 1) := by decide +kernel
theorem dL_law_369 : decode cL_law 369 = .ok (.aload_n 0, 1) := by decide +kernel
theorem dL_law_370 : decode cL_law 370 = .ok (.iload_n 3, 1) := by decide +kernel
theorem dL_law_371 : decode cL_law 371 = .ok (.iconst 4, 1) := by decide +kernel
theorem dL_law_372 : decode cL_law 372 = .ok (.iadd, 1) := by decide +kernel
theorem dL_law_373 : decode cL_law 373 = .ok (.iaload, 1) := by decide +kernel
theorem dL_law_374 : decode cL_law 374 = .ok (.aload_n 0, 1) := by decide +kernel
theorem dL_law_375 : decode cL_law 375 = .ok (.iload_n 3, 1) := by decide +kernel
theorem dL_law_376 : decode cL_law 376 = .ok (.iconst 5, 1) := by decide +kernel
theorem dL_law_377 : decode cL_law 377 = .ok (.iadd, 1) := by decide +kernel
theorem dL_law_378 : decode cL_law 378 = .ok (.iaload, 1) := by decide +kernel
theorem dL_law_379 : decode cL_law 379 = .ok (.invokevirtual 29, 3) := by decide +kernel
theorem dL_law_382 : decode cL_law 382 = .ok (.if_icmp .eq 957, 3) := by decide +kernel
theorem dL_law_385 : decode cL_law 385 = .ok (.iconst 0, 1) := by decide +kernel
theorem dL_law_386 : decode cL_law 386 = .ok (.ireturn, 1) := by decide +kernel
theorem dL_law_387 : decode cL_law 387 = .ok (.aload_n 1, 1) := by decide +kernel
theorem dL_law_388 : decode cL_law 388 = .ok (.aload_n 0, 1) := by decide +kernel
theorem dL_law_389 : decode cL_law 389 = .ok (.iload_n 3, 1) := by decide +kernel
theorem dL_law_390 : decode cL_law 390 = .ok (.iconst 1, 1) := by decide +kernel
theorem dL_law_391 : decode cL_law 391 = .ok (.iadd, 1) := by decide +kernel
theorem dL_law_392 : decode cL_law 392 = .ok (.iaload, 1) := by decide +kernel
theorem dL_law_393 : decode cL_law 393 = .ok (.aload_n 0, 1) := by decide +kernel
theorem dL_law_394 : decode cL_law 394 = .ok (.iload_n 3, 1) := by decide +kernel
theorem dL_law_395 : decode cL_law 395 = .ok (.iconst 2, 1) := by decide +kernel
theorem dL_law_396 : decode cL_law 396 = .ok (.iadd, 1) := by decide +kernel
theorem dL_law_397 : decode cL_law 397 = .ok (.iaload, 1) := by decide +kernel
theorem dL_law_398 : decode cL_law 398 = .ok (.invokevirtual 30, 3) := by decide +kernel
theorem dL_law_401 : decode cL_law 401 = .ok (.aload_n 2, 1) := by decide +kernel
theorem dL_law_402 : decode cL_law 402 = .ok (.aload_n 0, 1) := by decide +kernel
theorem dL_law_403 : decode cL_law 403 = .ok (.iload_n 3, 1) := by decide +kernel
theorem dL_law_404 : decode cL_law 404 = .ok (.iconst 1, 1) := by decide +kernel
theorem dL_law_405 : decode cL_law 405 = .ok (.iadd, 1) := by decide +kernel
theorem dL_law_406 : decode cL_law 406 = .ok (.iaload, 1) := by decide +kernel
theorem dL_law_407 : decode cL_law 407 = .ok (.aload_n 0, 1) := by decide +kernel
theorem dL_law_408 : decode cL_law 408 = .ok (.iload_n 3, 1) := by decide +kernel
theorem dL_law_409 : decode cL_law 409 = .ok (.iconst 2, 1) := by decide +kernel
theorem dL_law_410 : decode cL_law 410 = .ok (.iadd, 1) := by decide +kernel
theorem dL_law_411 : decode cL_law 411 = .ok (.iaload, 1) := by decide +kernel
theorem dL_law_412 : decode cL_law 412 = .ok (.invokevirtual 34, 3) := by decide +kernel
theorem dL_law_415 : decode cL_law 415 = .ok (.lcmp, 1) := by decide +kernel
theorem dL_law_416 : decode cL_law 416 = .ok (.ifCond .eq 923, 3) := by decide +kernel
theorem dL_law_419 : decode cL_law 419 = .ok (.iconst 0, 1) := by decide +kernel
theorem dL_law_420 : decode cL_law 420 = .ok (.ireturn, 1) := by decide +kernel
theorem dL_law_421 : decode cL_law 421 = .ok (.aload_n 1, 1) := by decide +kernel
theorem dL_law_422 : decode cL_law 422 = .ok (.aload_n 0, 1) := by decide +kernel
theorem dL_law_423 : decode cL_law 423 = .ok (.iload_n 3, 1) := by decide +kernel
theorem dL_law_424 : decode cL_law 424 = .ok (.iconst 1, 1) := by decide +kernel
theorem dL_law_425 : decode cL_law 425 = .ok (.iadd, 1) := by decide +kernel
theorem dL_law_426 : decode cL_law 426 = .ok (.iaload, 1) := by decide +kernel
theorem dL_law_427 : decode cL_law 427 = .ok (.aload_n 0, 1) := by decide +kernel
theorem dL_law_428 : decode cL_law 428 = .ok (.iload_n 3, 1) := by decide +kernel
theorem dL_law_429 : decode cL_law 429 = .ok (.iconst 2, 1) := by decide +kernel
theorem dL_law_430 : decode cL_law 430 = .ok (.iadd, 1) := by decide +kernel
theorem dL_law_431 : decode cL_law 431 = .ok (.iaload, 1) := by decide +kernel
theorem dL_law_432 : decode cL_law 432 = .ok (.invokevirtual 35, 3) := by decide +kernel
theorem dL_law_435 : decode cL_law 435 = .ok (.aload_n 2, 1) := by decide +kernel
theorem dL_law_436 : decode cL_law 436 = .ok (.aload_n 0, 1) := by decide +kernel
theorem dL_law_437 : decode cL_law 437 = .ok (.iload_n 3, 1) := by decide +kernel
theorem dL_law_438 : decode cL_law 438 = .ok (.iconst 1, 1) := by decide +kernel
theorem dL_law_439 : decode cL_law 439 = .ok (.iadd, 1) := by decide +kernel
theorem dL_law_440 : decode cL_law 440 = .ok (.iaload, 1) := by decide +kernel
theorem dL_law_441 : decode cL_law 441 = .ok (.aload_n 0, 1) := by decide +kernel
theorem dL_law_442 : decode cL_law 442 = .ok (.iload_n 3, 1) := by decide +kernel
theorem dL_law_443 : decode cL_law 443 = .ok (.iconst 2, 1) := by decide +kernel
theorem dL_law_444 : decode cL_law 444 = .ok (.iadd, 1) := by decide +kernel
theorem dL_law_445 : decode cL_law 445 = .ok (.iaload, 1) := by decide +kernel
theorem dL_law_446 : decode cL_law 446 = .ok (.invokevirtual 39, 3) := by decide +kernel
theorem dL_law_449 : decode cL_law 449 = .ok (.if_icmp .eq 890, 3) := by decide +kernel
theorem dL_law_452 : decode cL_law 452 = .ok (.iconst 0, 1) := by decide +kernel
theorem dL_law_453 : decode cL_law 453 = .ok (.ireturn, 1) := by decide +kernel
theorem dL_law_454 : decode cL_law 454 = .ok (.aload_n 1, 1) := by decide +kernel
theorem dL_law_455 : decode cL_law 455 = .ok (.aload_n 0, 1) := by decide +kernel
theorem dL_law_456 : decode cL_law 456 = .ok (.iload_n 3, 1) := by decide +kernel
theorem dL_law_457 : decode cL_law 457 = .ok (.iconst 1, 1) := by decide +kernel
theorem dL_law_458 : decode cL_law 458 = .ok (.iadd, 1) := by decide +kernel
theorem dL_law_459 : decode cL_law 459 = .ok (.iaload, 1) := by decide +kernel
theorem dL_law_460 : decode cL_law 460 = .ok (.invokevirtual 40, 3) := by decide +kernel
theorem dL_law_463 : decode cL_law 463 = .ok (.aload_n 2, 1) := by decide +kernel
theorem dL_law_464 : decode cL_law 464 = .ok (.aload_n 0, 1) := by decide +kernel
theorem dL_law_465 : decode cL_law 465 = .ok (.iload_n 3, 1) := by decide +kernel
theorem dL_law_466 : decode cL_law 466 = .ok (.iconst 1, 1) := by decide +kernel
theorem dL_law_467 : decode cL_law 467 = .ok (.iadd, 1) := by decide +kernel
theorem dL_law_468 : decode cL_law 468 = .ok (.iaload, 1) := by decide +kernel
theorem dL_law_469 : decode cL_law 469 = .ok (.invokevirtual 44, 3) := by decide +kernel
theorem dL_law_472 : decode cL_law 472 = .ok (.if_icmp .eq 867, 3) := by decide +kernel
theorem dL_law_475 : decode cL_law 475 = .ok (.iconst 0, 1) := by decide +kernel
theorem dL_law_476 : decode cL_law 476 = .ok (.ireturn, 1) := by decide +kernel
theorem dL_law_477 : decode cL_law 477 = .ok (.aload_n 1, 1) := by decide +kernel
theorem dL_law_478 : decode cL_law 478 = .ok (.aload_n 0, 1) := by decide +kernel
theorem dL_law_479 : decode cL_law 479 = .ok (.iload_n 3, 1) := by decide +kernel
theorem dL_law_480 : decode cL_law 480 = .ok (.iconst 1, 1) := by decide +kernel
theorem dL_law_481 : decode cL_law 481 = .ok (.iadd, 1) := by decide +kernel
theorem dL_law_482 : decode cL_law 482 = .ok (.iaload, 1) := by decide +kernel
theorem dL_law_483 : decode cL_law 483 = .ok (.aload_n 0, 1) := by decide +kernel
theorem dL_law_484 : decode cL_law 484 = .ok (.iload_n 3, 1) := by decide +kernel
theorem dL_law_485 : decode cL_law 485 = .ok (.iconst 2, 1) := by decide +kernel
theorem dL_law_486 : decode cL_law 486 = .ok (.iadd, 1) := by decide +kernel
theorem dL_law_487 : decode cL_law 487 = .ok (.iaload, 1) := by decide +kernel
theorem dL_law_488 : decode cL_law 488 = .ok (.invokevirtual 45, 3) := by decide +kernel
theorem dL_law_491 : decode cL_law 491 = .ok (.aload_n 2, 1) := by decide +kernel
theorem dL_law_492 : decode cL_law 492 = .ok (.aload_n 0, 1) := by decide +kernel
theorem dL_law_493 : decode cL_law 493 = .ok (.iload_n 3, 1) := by decide +kernel
theorem dL_law_494 : decode cL_law 494 = .ok (.iconst 1, 1) := by decide +kernel
theorem dL_law_495 : decode cL_law 495 = .ok (.iadd, 1) := by decide +kernel
theorem dL_law_496 : decode cL_law 496 = .ok (.iaload, 1) := by decide +kernel
theorem dL_law_497 : decode cL_law 497 = .ok (.aload_n 0, 1) := by decide +kernel
theorem dL_law_498 : decode cL_law 498 = .ok (.iload_n 3, 1) := by decide +kernel
theorem dL_law_499 : decode cL_law 499 = .ok (.iconst 2, 1) := by decide +kernel
theorem dL_law_500 : decode cL_law 500 = .ok (.iadd, 1) := by decide +kernel
theorem dL_law_501 : decode cL_law 501 = .ok (.iaload, 1) := by decide +kernel
theorem dL_law_502 : decode cL_law 502 = .ok (.invokevirtual 48, 3) := by decide +kernel
theorem dL_law_505 : decode cL_law 505 = .ok (.if_icmp .eq 834, 3) := by decide +kernel
theorem dL_law_508 : decode cL_law 508 = .ok (.iconst 0, 1) := by decide +kernel
theorem dL_law_509 : decode cL_law 509 = .ok (.ireturn, 1) := by decide +kernel
theorem dL_law_510 : decode cL_law 510 = .ok (.aload_n 1, 1) := by decide +kernel
theorem dL_law_511 : decode cL_law 511 = .ok (.aload_n 0, 1) := by decide +kernel
theorem dL_law_512 : decode cL_law 512 = .ok (.iload_n 3, 1) := by decide +kernel
theorem dL_law_513 : decode cL_law 513 = .ok (.iconst 1, 1) := by decide +kernel
theorem dL_law_514 : decode cL_law 514 = .ok (.iadd, 1) := by decide +kernel
theorem dL_law_515 : decode cL_law 515 = .ok (.iaload, 1) := by decide +kernel
theorem dL_law_516 : decode cL_law 516 = .ok (.aload_n 0, 1) := by decide +kernel
theorem dL_law_517 : decode cL_law 517 = .ok (.iload_n 3, 1) := by decide +kernel
theorem dL_law_518 : decode cL_law 518 = .ok (.iconst 2, 1) := by decide +kernel
theorem dL_law_519 : decode cL_law 519 = .ok (.iadd, 1) := by decide +kernel
theorem dL_law_520 : decode cL_law 520 = .ok (.iaload, 1) := by decide +kernel
theorem dL_law_521 : decode cL_law 521 = .ok (.aload_n 0, 1) := by decide +kernel
theorem dL_law_522 : decode cL_law 522 = .ok (.iload_n 3, 1) := by decide +kernel
theorem dL_law_523 : decode cL_law 523 = .ok (.iconst 3, 1) := by decide +kernel
theorem dL_law_524 : decode cL_law 524 = .ok (.iadd, 1) := by decide +kernel
theorem dL_law_525 : decode cL_law 525 = .ok (.iaload, 1) := by decide +kernel
theorem dL_law_526 : decode cL_law 526 = .ok (.invokevirtual 49, 3) := by decide +kernel
theorem dL_law_529 : decode cL_law 529 = .ok (.aload_n 2, 1) := by decide +kernel
theorem dL_law_530 : decode cL_law 530 = .ok (.aload_n 0, 1) := by decide +kernel
theorem dL_law_531 : decode cL_law 531 = .ok (.iload_n 3, 1) := by decide +kernel
theorem dL_law_532 : decode cL_law 532 = .ok (.iconst 1, 1) := by decide +kernel
theorem dL_law_533 : decode cL_law 533 = .ok (.iadd, 1) := by decide +kernel
theorem dL_law_534 : decode cL_law 534 = .ok (.iaload, 1) := by decide +kernel
theorem dL_law_535 : decode cL_law 535 = .ok (.aload_n 0, 1) := by decide +kernel
theorem dL_law_536 : decode cL_law 536 = .ok (.iload_n 3, 1) := by decide +kernel
theorem dL_law_537 : decode cL_law 537 = .ok (.iconst 2, 1) := by decide +kernel
theorem dL_law_538 : decode cL_law 538 = .ok (.iadd, 1) := by decide +kernel
theorem dL_law_539 : decode cL_law 539 = .ok (.iaload, 1) := by decide +kernel
theorem dL_law_540 : decode cL_law 540 = .ok (.aload_n 0, 1) := by decide +kernel
theorem dL_law_541 : decode cL_law 541 = .ok (.iload_n 3, 1) := by decide +kernel
theorem dL_law_542 : decode cL_law 542 = .ok (.iconst 3, 1) := by decide +kernel
theorem dL_law_543 : decode cL_law 543 = .ok (.iadd, 1) := by decide +kernel
theorem dL_law_544 : decode cL_law 544 = .ok (.iaload, 1) := by decide +kernel
theorem dL_law_545 : decode cL_law 545 = .ok (.invokevirtual 52, 3) := by decide +kernel
theorem dL_law_548 : decode cL_law 548 = .ok (.if_icmp .eq 791, 3) := by decide +kernel
theorem dL_law_551 : decode cL_law 551 = .ok (.iconst 0, 1) := by decide +kernel
theorem dL_law_552 : decode cL_law 552 = .ok (.ireturn, 1) := by decide +kernel
theorem dL_law_553 : decode cL_law 553 = .ok (.aload_n 1, 1) := by decide +kernel
theorem dL_law_554 : decode cL_law 554 = .ok (.aload_n 0, 1) := by decide +kernel
theorem dL_law_555 : decode cL_law 555 = .ok (.iload_n 3, 1) := by decide +kernel
theorem dL_law_556 : decode cL_law 556 = .ok (.iconst 1, 1) := by decide +kernel
theorem dL_law_557 : decode cL_law 557 = .ok (.iadd, 1) := by decide +kernel
theorem dL_law_558 : decode cL_law 558 = .ok (.iaload, 1) := by decide +kernel
theorem dL_law_559 : decode cL_law 559 = .ok (.aload_n 0, 1) := by decide +kernel
theorem dL_law_560 : decode cL_law 560 = .ok (.iload_n 3, 1) := by decide +kernel
theorem dL_law_561 : decode cL_law 561 = .ok (.iconst 2, 1) := by decide +kernel
theorem dL_law_562 : decode cL_law 562 = .ok (.iadd, 1) := by decide +kernel
theorem dL_law_563 : decode cL_law 563 = .ok (.iaload, 1) := by decide +kernel
theorem dL_law_564 : decode cL_law 564 = .ok (.invokevirtual 53, 3) := by decide +kernel
theorem dL_law_567 : decode cL_law 567 = .ok (.aload_n 2, 1) := by decide +kernel
theorem dL_law_568 : decode cL_law 568 = .ok (.aload_n 0, 1) := by decide +kernel
theorem dL_law_569 : decode cL_law 569 = .ok (.iload_n 3, 1) := by decide +kernel
theorem dL_law_570 : decode cL_law 570 = .ok (.iconst 1, 1) := by decide +kernel
theorem dL_law_571 : decode cL_law 571 = .ok (.iadd, 1) := by decide +kernel
theorem dL_law_572 : decode cL_law 572 = .ok (.iaload, 1) := by decide +kernel
theorem dL_law_573 : decode cL_law 573 = .ok (.aload_n 0, 1) := by decide +kernel
theorem dL_law_574 : decode cL_law 574 = .ok (.iload_n 3, 1) := by decide +kernel
theorem dL_law_575 : decode cL_law 575 = .ok (.iconst 2, 1) := by decide +kernel
theorem dL_law_576 : decode cL_law 576 = .ok (.iadd, 1) := by decide +kernel
theorem dL_law_577 : decode cL_law 577 = .ok (.iaload, 1) := by decide +kernel
theorem dL_law_578 : decode cL_law 578 = .ok (.invokevirtual 56, 3) := by decide +kernel
theorem dL_law_581 : decode cL_law 581 = .ok (.if_icmp .eq 758, 3) := by decide +kernel
theorem dL_law_584 : decode cL_law 584 = .ok (.iconst 0, 1) := by decide +kernel
theorem dL_law_585 : decode cL_law 585 = .ok (.ireturn, 1) := by decide +kernel
theorem dL_law_586 : decode cL_law 586 = .ok (.aload_n 1, 1) := by decide +kernel
theorem dL_law_587 : decode cL_law 587 = .ok (.aload_n 0, 1) := by decide +kernel
theorem dL_law_588 : decode cL_law 588 = .ok (.iload_n 3, 1) := by decide +kernel
theorem dL_law_589 : decode cL_law 589 = .ok (.iconst 1, 1) := by decide +kernel
theorem dL_law_590 : decode cL_law 590 = .ok (.iadd, 1) := by decide +kernel
theorem dL_law_591 : decode cL_law 591 = .ok (.iaload, 1) := by decide +kernel
theorem dL_law_592 : decode cL_law 592 = .ok (.aload_n 0, 1) := by decide +kernel
theorem dL_law_593 : decode cL_law 593 = .ok (.iload_n 3, 1) := by decide +kernel
theorem dL_law_594 : decode cL_law 594 = .ok (.iconst 2, 1) := by decide +kernel
theorem dL_law_595 : decode cL_law 595 = .ok (.iadd, 1) := by decide +kernel
theorem dL_law_596 : decode cL_law 596 = .ok (.iaload, 1) := by decide +kernel
theorem dL_law_597 : decode cL_law 597 = .ok (.invokevirtual 57, 3) := by decide +kernel
theorem dL_law_600 : decode cL_law 600 = .ok (.aload_n 2, 1) := by decide +kernel
theorem dL_law_601 : decode cL_law 601 = .ok (.aload_n 0, 1) := by decide +kernel
theorem dL_law_602 : decode cL_law 602 = .ok (.iload_n 3, 1) := by decide +kernel
theorem dL_law_603 : decode cL_law 603 = .ok (.iconst 1, 1) := by decide +kernel
theorem dL_law_604 : decode cL_law 604 = .ok (.iadd, 1) := by decide +kernel
theorem dL_law_605 : decode cL_law 605 = .ok (.iaload, 1) := by decide +kernel
theorem dL_law_606 : decode cL_law 606 = .ok (.aload_n 0, 1) := by decide +kernel
theorem dL_law_607 : decode cL_law 607 = .ok (.iload_n 3, 1) := by decide +kernel
theorem dL_law_608 : decode cL_law 608 = .ok (.iconst 2, 1) := by decide +kernel
theorem dL_law_609 : decode cL_law 609 = .ok (.iadd, 1) := by decide +kernel
theorem dL_law_610 : decode cL_law 610 = .ok (.iaload, 1) := by decide +kernel
theorem dL_law_611 : decode cL_law 611 = .ok (.invokevirtual 60, 3) := by decide +kernel
theorem dL_law_614 : decode cL_law 614 = .ok (.if_icmp .eq 725, 3) := by decide +kernel
theorem dL_law_617 : decode cL_law 617 = .ok (.iconst 0, 1) := by decide +kernel
theorem dL_law_618 : decode cL_law 618 = .ok (.ireturn, 1) := by decide +kernel
theorem dL_law_619 : decode cL_law 619 = .ok (.aload_n 1, 1) := by decide +kernel
theorem dL_law_620 : decode cL_law 620 = .ok (.aload_n 0, 1) := by decide +kernel
theorem dL_law_621 : decode cL_law 621 = .ok (.iload_n 3, 1) := by decide +kernel
theorem dL_law_622 : decode cL_law 622 = .ok (.iconst 1, 1) := by decide +kernel
theorem dL_law_623 : decode cL_law 623 = .ok (.iadd, 1) := by decide +kernel
theorem dL_law_624 : decode cL_law 624 = .ok (.iaload, 1) := by decide +kernel
theorem dL_law_625 : decode cL_law 625 = .ok (.invokevirtual 61, 3) := by decide +kernel
theorem dL_law_628 : decode cL_law 628 = .ok (.aload_n 2, 1) := by decide +kernel
theorem dL_law_629 : decode cL_law 629 = .ok (.aload_n 0, 1) := by decide +kernel
theorem dL_law_630 : decode cL_law 630 = .ok (.iload_n 3, 1) := by decide +kernel
theorem dL_law_631 : decode cL_law 631 = .ok (.iconst 1, 1) := by decide +kernel
theorem dL_law_632 : decode cL_law 632 = .ok (.iadd, 1) := by decide +kernel
theorem dL_law_633 : decode cL_law 633 = .ok (.iaload, 1) := by decide +kernel
theorem dL_law_634 : decode cL_law 634 = .ok (.invokevirtual 64, 3) := by decide +kernel
theorem dL_law_637 : decode cL_law 637 = .ok (.if_icmp .eq 702, 3) := by decide +kernel
theorem dL_law_640 : decode cL_law 640 = .ok (.iconst 0, 1) := by decide +kernel
theorem dL_law_641 : decode cL_law 641 = .ok (.ireturn, 1) := by decide +kernel
theorem dL_law_642 : decode cL_law 642 = .ok (.aload_n 1, 1) := by decide +kernel
theorem dL_law_643 : decode cL_law 643 = .ok (.invokevirtual 65, 3) := by decide +kernel
theorem dL_law_646 : decode cL_law 646 = .ok (.aload_n 2, 1) := by decide +kernel
theorem dL_law_647 : decode cL_law 647 = .ok (.invokevirtual 69, 3) := by decide +kernel
theorem dL_law_650 : decode cL_law 650 = .ok (.if_icmp .eq 689, 3) := by decide +kernel
theorem dL_law_653 : decode cL_law 653 = .ok (.iconst 0, 1) := by decide +kernel
theorem dL_law_654 : decode cL_law 654 = .ok (.ireturn, 1) := by decide +kernel
theorem dL_law_655 : decode cL_law 655 = .ok (.aload_n 1, 1) := by decide +kernel
theorem dL_law_656 : decode cL_law 656 = .ok (.aload_n 0, 1) := by decide +kernel
theorem dL_law_657 : decode cL_law 657 = .ok (.iload_n 3, 1) := by decide +kernel
theorem dL_law_658 : decode cL_law 658 = .ok (.iconst 1, 1) := by decide +kernel
theorem dL_law_659 : decode cL_law 659 = .ok (.iadd, 1) := by decide +kernel
theorem dL_law_660 : decode cL_law 660 = .ok (.iaload, 1) := by decide +kernel
theorem dL_law_661 : decode cL_law 661 = .ok (.invokevirtual 70, 3) := by decide +kernel
theorem dL_law_664 : decode cL_law 664 = .ok (.aload_n 2, 1) := by decide +kernel
theorem dL_law_665 : decode cL_law 665 = .ok (.aload_n 0, 1) := by decide +kernel
theorem dL_law_666 : decode cL_law 666 = .ok (.iload_n 3, 1) := by decide +kernel
theorem dL_law_667 : decode cL_law 667 = .ok (.iconst 1, 1) := by decide +kernel
theorem dL_law_668 : decode cL_law 668 = .ok (.iadd, 1) := by decide +kernel
theorem dL_law_669 : decode cL_law 669 = .ok (.iaload, 1) := by decide +kernel
theorem dL_law_670 : decode cL_law 670 = .ok (.invokevirtual 73, 3) := by decide +kernel
theorem dL_law_673 : decode cL_law 673 = .ok (.if_icmp .eq 666, 3) := by decide +kernel
theorem dL_law_676 : decode cL_law 676 = .ok (.iconst 0, 1) := by decide +kernel
theorem dL_law_677 : decode cL_law 677 = .ok (.ireturn, 1) := by decide +kernel
theorem dL_law_678 : decode cL_law 678 = .ok (.aload_n 1, 1) := by decide +kernel
theorem dL_law_679 : decode cL_law 679 = .ok (.aload_n 0, 1) := by decide +kernel
theorem dL_law_680 : decode cL_law 680 = .ok (.iload_n 3, 1) := by decide +kernel
theorem dL_law_681 : decode cL_law 681 = .ok (.iconst 1, 1) := by decide +kernel
theorem dL_law_682 : decode cL_law 682 = .ok (.iadd, 1) := by decide +kernel
theorem dL_law_683 : decode cL_law 683 = .ok (.iaload, 1) := by decide +kernel
theorem dL_law_684 : decode cL_law 684 = .ok (.invokevirtual 74, 3) := by decide +kernel
theorem dL_law_687 : decode cL_law 687 = .ok (.aload_n 2, 1) := by decide +kernel
theorem dL_law_688 : decode cL_law 688 = .ok (.aload_n 0, 1) := by decide +kernel
theorem dL_law_689 : decode cL_law 689 = .ok (.iload_n 3, 1) := by decide +kernel
theorem dL_law_690 : decode cL_law 690 = .ok (.iconst 1, 1) := by decide +kernel
theorem dL_law_691 : decode cL_law 691 = .ok (.iadd, 1) := by decide +kernel
theorem dL_law_692 : decode cL_law 692 = .ok (.iaload, 1) := by decide +kernel
theorem dL_law_693 : decode cL_law 693 = .ok (.invokevirtual 77, 3) := by decide +kernel
theorem dL_law_696 : decode cL_law 696 = .ok (.if_icmp .eq 643, 3) := by decide +kernel
theorem dL_law_699 : decode cL_law 699 = .ok (.iconst 0, 1) := by decide +kernel
theorem dL_law_700 : decode cL_law 700 = .ok (.ireturn, 1) := by decide +kernel
theorem dL_law_701 : decode cL_law 701 = .ok (.aload_n 1, 1) := by decide +kernel
theorem dL_law_702 : decode cL_law 702 = .ok (.aload_n 0, 1) := by decide +kernel
theorem dL_law_703 : decode cL_law 703 = .ok (.iload_n 3, 1) := by decide +kernel
theorem dL_law_704 : decode cL_law 704 = .ok (.iconst 1, 1) := by decide +kernel
theorem dL_law_705 : decode cL_law 705 = .ok (.iadd, 1) := by decide +kernel
theorem dL_law_706 : decode cL_law 706 = .ok (.iaload, 1) := by decide +kernel
theorem dL_law_707 : decode cL_law 707 = .ok (.aload_n 0, 1) := by decide +kernel
theorem dL_law_708 : decode cL_law 708 = .ok (.iload_n 3, 1) := by decide +kernel
theorem dL_law_709 : decode cL_law 709 = .ok (.iconst 2, 1) := by decide +kernel
theorem dL_law_710 : decode cL_law 710 = .ok (.iadd, 1) := by decide +kernel
theorem dL_law_711 : decode cL_law 711 = .ok (.iaload, 1) := by decide +kernel
theorem dL_law_712 : decode cL_law 712 = .ok (.invokevirtual 78, 3) := by decide +kernel
theorem dL_law_715 : decode cL_law 715 = .ok (.aload_n 2, 1) := by decide +kernel
theorem dL_law_716 : decode cL_law 716 = .ok (.aload_n 0, 1) := by decide +kernel
theorem dL_law_717 : decode cL_law 717 = .ok (.iload_n 3, 1) := by decide +kernel
theorem dL_law_718 : decode cL_law 718 = .ok (.iconst 1, 1) := by decide +kernel
theorem dL_law_719 : decode cL_law 719 = .ok (.iadd, 1) := by decide +kernel
theorem dL_law_720 : decode cL_law 720 = .ok (.iaload, 1) := by decide +kernel
theorem dL_law_721 : decode cL_law 721 = .ok (.aload_n 0, 1) := by decide +kernel
theorem dL_law_722 : decode cL_law 722 = .ok (.iload_n 3, 1) := by decide +kernel
theorem dL_law_723 : decode cL_law 723 = .ok (.iconst 2, 1) := by decide +kernel
theorem dL_law_724 : decode cL_law 724 = .ok (.iadd, 1) := by decide +kernel
theorem dL_law_725 : decode cL_law 725 = .ok (.iaload, 1) := by decide +kernel
theorem dL_law_726 : decode cL_law 726 = .ok (.invokevirtual 81, 3) := by decide +kernel
theorem dL_law_729 : decode cL_law 729 = .ok (.if_icmp .eq 610, 3) := by decide +kernel
theorem dL_law_732 : decode cL_law 732 = .ok (.iconst 0, 1) := by decide +kernel
theorem dL_law_733 : decode cL_law 733 = .ok (.ireturn, 1) := by decide +kernel
theorem dL_law_734 : decode cL_law 734 = .ok (.aload_n 1, 1) := by decide +kernel
theorem dL_law_735 : decode cL_law 735 = .ok (.aload_n 0, 1) := by decide +kernel
theorem dL_law_736 : decode cL_law 736 = .ok (.iload_n 3, 1) := by decide +kernel
theorem dL_law_737 : decode cL_law 737 = .ok (.iconst 1, 1) := by decide +kernel
theorem dL_law_738 : decode cL_law 738 = .ok (.iadd, 1) := by decide +kernel
theorem dL_law_739 : decode cL_law 739 = .ok (.iaload, 1) := by decide +kernel
theorem dL_law_740 : decode cL_law 740 = .ok (.aload_n 0, 1) := by decide +kernel
theorem dL_law_741 : decode cL_law 741 = .ok (.iload_n 3, 1) := by decide +kernel
theorem dL_law_742 : decode cL_law 742 = .ok (.iconst 2, 1) := by decide +kernel
theorem dL_law_743 : decode cL_law 743 = .ok (.iadd, 1) := by decide +kernel
theorem dL_law_744 : decode cL_law 744 = .ok (.iaload, 1) := by decide +kernel
theorem dL_law_745 : decode cL_law 745 = .ok (.invokevirtual 82, 3) := by decide +kernel
theorem dL_law_748 : decode cL_law 748 = .ok (.aload_n 2, 1) := by decide +kernel
theorem dL_law_749 : decode cL_law 749 = .ok (.aload_n 0, 1) := by decide +kernel
theorem dL_law_750 : decode cL_law 750 = .ok (.iload_n 3, 1) := by decide +kernel
theorem dL_law_751 : decode cL_law 751 = .ok (.iconst 1, 1) := by decide +kernel
theorem dL_law_752 : decode cL_law 752 = .ok (.iadd, 1) := by decide +kernel
theorem dL_law_753 : decode cL_law 753 = .ok (.iaload, 1) := by decide +kernel
theorem dL_law_754 : decode cL_law 754 = .ok (.aload_n 0, 1) := by decide +kernel
theorem dL_law_755 : decode cL_law 755 = .ok (.iload_n 3, 1) := by decide +kernel
theorem dL_law_756 : decode cL_law 756 = .ok (.iconst 2, 1) := by decide +kernel
theorem dL_law_757 : decode cL_law 757 = .ok (.iadd, 1) := by decide +kernel
theorem dL_law_758 : decode cL_law 758 = .ok (.iaload, 1) := by decide +kernel
theorem dL_law_759 : decode cL_law 759 = .ok (.invokevirtual 85, 3) := by decide +kernel
theorem dL_law_762 : decode cL_law 762 = .ok (.if_icmp .eq 577, 3) := by decide +kernel
theorem dL_law_765 : decode cL_law 765 = .ok (.iconst 0, 1) := by decide +kernel
theorem dL_law_766 : decode cL_law 766 = .ok (.ireturn, 1) := by decide +kernel
theorem dL_law_767 : decode cL_law 767 = .ok (.aload_n 1, 1) := by decide +kernel
theorem dL_law_768 : decode cL_law 768 = .ok (.aload_n 0, 1) := by decide +kernel
theorem dL_law_769 : decode cL_law 769 = .ok (.iload_n 3, 1) := by decide +kernel
theorem dL_law_770 : decode cL_law 770 = .ok (.iconst 1, 1) := by decide +kernel
theorem dL_law_771 : decode cL_law 771 = .ok (.iadd, 1) := by decide +kernel
theorem dL_law_772 : decode cL_law 772 = .ok (.iaload, 1) := by decide +kernel
theorem dL_law_773 : decode cL_law 773 = .ok (.invokevirtual 86, 3) := by decide +kernel
theorem dL_law_776 : decode cL_law 776 = .ok (.aload_n 2, 1) := by decide +kernel
theorem dL_law_777 : decode cL_law 777 = .ok (.aload_n 0, 1) := by decide +kernel
theorem dL_law_778 : decode cL_law 778 = .ok (.iload_n 3, 1) := by decide +kernel
theorem dL_law_779 : decode cL_law 779 = .ok (.iconst 1, 1) := by decide +kernel
theorem dL_law_780 : decode cL_law 780 = .ok (.iadd, 1) := by decide +kernel
theorem dL_law_781 : decode cL_law 781 = .ok (.iaload, 1) := by decide +kernel
theorem dL_law_782 : decode cL_law 782 = .ok (.invokevirtual 89, 3) := by decide +kernel
theorem dL_law_785 : decode cL_law 785 = .ok (.if_icmp .eq 554, 3) := by decide +kernel
theorem dL_law_788 : decode cL_law 788 = .ok (.iconst 0, 1) := by decide +kernel
theorem dL_law_789 : decode cL_law 789 = .ok (.ireturn, 1) := by decide +kernel
theorem dL_law_790 : decode cL_law 790 = .ok (.aload_n 1, 1) := by decide +kernel
theorem dL_law_791 : decode cL_law 791 = .ok (.invokevirtual 90, 3) := by decide +kernel
theorem dL_law_794 : decode cL_law 794 = .ok (.aload_n 2, 1) := by decide +kernel
theorem dL_law_795 : decode cL_law 795 = .ok (.invokevirtual 93, 3) := by decide +kernel
theorem dL_law_798 : decode cL_law 798 = .ok (.if_icmp .eq 541, 3) := by decide +kernel
theorem dL_law_801 : decode cL_law 801 = .ok (.iconst 0, 1) := by decide +kernel
theorem dL_law_802 : decode cL_law 802 = .ok (.ireturn, 1) := by decide +kernel
theorem dL_law_803 : decode cL_law 803 = .ok (.aload_n 1, 1) := by decide +kernel
theorem dL_law_804 : decode cL_law 804 = .ok (.aload_n 0, 1) := by decide +kernel
theorem dL_law_805 : decode cL_law 805 = .ok (.iload_n 3, 1) := by decide +kernel
theorem dL_law_806 : decode cL_law 806 = .ok (.iconst 1, 1) := by decide +kernel
theorem dL_law_807 : decode cL_law 807 = .ok (.iadd, 1) := by decide +kernel
theorem dL_law_808 : decode cL_law 808 = .ok (.iaload, 1) := by decide +kernel
theorem dL_law_809 : decode cL_law 809 = .ok (.invokevirtual 94, 3) := by decide +kernel
theorem dL_law_812 : decode cL_law 812 = .ok (.aload_n 2, 1) := by decide +kernel
theorem dL_law_813 : decode cL_law 813 = .ok (.aload_n 0, 1) := by decide +kernel
theorem dL_law_814 : decode cL_law 814 = .ok (.iload_n 3, 1) := by decide +kernel
theorem dL_law_815 : decode cL_law 815 = .ok (.iconst 1, 1) := by decide +kernel
theorem dL_law_816 : decode cL_law 816 = .ok (.iadd, 1) := by decide +kernel
theorem dL_law_817 : decode cL_law 817 = .ok (.iaload, 1) := by decide +kernel
theorem dL_law_818 : decode cL_law 818 = .ok (.invokevirtual 97, 3) := by decide +kernel
theorem dL_law_821 : decode cL_law 821 = .ok (.if_icmp .eq 518, 3) := by decide +kernel
theorem dL_law_824 : decode cL_law 824 = .ok (.iconst 0, 1) := by decide +kernel
theorem dL_law_825 : decode cL_law 825 = .ok (.ireturn, 1) := by decide +kernel
theorem dL_law_826 : decode cL_law 826 = .ok (.aload_n 1, 1) := by decide +kernel
theorem dL_law_827 : decode cL_law 827 = .ok (.invokevirtual 98, 3) := by decide +kernel
theorem dL_law_830 : decode cL_law 830 = .ok (.aload_n 2, 1) := by decide +kernel
theorem dL_law_831 : decode cL_law 831 = .ok (.invokevirtual 101, 3) := by decide +kernel
theorem dL_law_834 : decode cL_law 834 = .ok (.if_icmp .eq 505, 3) := by decide +kernel
theorem dL_law_837 : decode cL_law 837 = .ok (.iconst 0, 1) := by decide +kernel
theorem dL_law_838 : decode cL_law 838 = .ok (.ireturn, 1) := by decide +kernel
theorem dL_law_839 : decode cL_law 839 = .ok (.aload_n 1, 1) := by decide +kernel
theorem dL_law_840 : decode cL_law 840 = .ok (.aload_n 0, 1) := by decide +kernel
theorem dL_law_841 : decode cL_law 841 = .ok (.iload_n 3, 1) := by decide +kernel
theorem dL_law_842 : decode cL_law 842 = .ok (.iconst 1, 1) := by decide +kernel
theorem dL_law_843 : decode cL_law 843 = .ok (.iadd, 1) := by decide +kernel
theorem dL_law_844 : decode cL_law 844 = .ok (.iaload, 1) := by decide +kernel
theorem dL_law_845 : decode cL_law 845 = .ok (.invokevirtual 102, 3) := by decide +kernel
theorem dL_law_848 : decode cL_law 848 = .ok (.aload_n 2, 1) := by decide +kernel
theorem dL_law_849 : decode cL_law 849 = .ok (.aload_n 0, 1) := by decide +kernel
theorem dL_law_850 : decode cL_law 850 = .ok (.iload_n 3, 1) := by decide +kernel
theorem dL_law_851 : decode cL_law 851 = .ok (.iconst 1, 1) := by decide +kernel
theorem dL_law_852 : decode cL_law 852 = .ok (.iadd, 1) := by decide +kernel
theorem dL_law_853 : decode cL_law 853 = .ok (.iaload, 1) := by decide +kernel
theorem dL_law_854 : decode cL_law 854 = .ok (.invokevirtual 105, 3) := by decide +kernel
theorem dL_law_857 : decode cL_law 857 = .ok (.if_icmp .eq 482, 3) := by decide +kernel
theorem dL_law_860 : decode cL_law 860 = .ok (.iconst 0, 1) := by decide +kernel
theorem dL_law_861 : decode cL_law 861 = .ok (.ireturn, 1) := by decide +kernel
theorem dL_law_862 : decode cL_law 862 = .ok (.aload_n 1, 1) := by decide +kernel
theorem dL_law_863 : decode cL_law 863 = .ok (.aload_n 0, 1) := by decide +kernel
theorem dL_law_864 : decode cL_law 864 = .ok (.iload_n 3, 1) := by decide +kernel
theorem dL_law_865 : decode cL_law 865 = .ok (.iconst 1, 1) := by decide +kernel
theorem dL_law_866 : decode cL_law 866 = .ok (.iadd, 1) := by decide +kernel
theorem dL_law_867 : decode cL_law 867 = .ok (.iaload, 1) := by decide +kernel
theorem dL_law_868 : decode cL_law 868 = .ok (.aload_n 0, 1) := by decide +kernel
theorem dL_law_869 : decode cL_law 869 = .ok (.iload_n 3, 1) := by decide +kernel
theorem dL_law_870 : decode cL_law 870 = .ok (.iconst 2, 1) := by decide +kernel
theorem dL_law_871 : decode cL_law 871 = .ok (.iadd, 1) := by decide +kernel
theorem dL_law_872 : decode cL_law 872 = .ok (.iaload, 1) := by decide +kernel
theorem dL_law_873 : decode cL_law 873 = .ok (.invokevirtual 106, 3) := by decide +kernel
theorem dL_law_876 : decode cL_law 876 = .ok (.aload_n 2, 1) := by decide +kernel
theorem dL_law_877 : decode cL_law 877 = .ok (.aload_n 0, 1) := by decide +kernel
theorem dL_law_878 : decode cL_law 878 = .ok (.iload_n 3, 1) := by decide +kernel
theorem dL_law_879 : decode cL_law 879 = .ok (.iconst 1, 1) := by decide +kernel
theorem dL_law_880 : decode cL_law 880 = .ok (.iadd, 1) := by decide +kernel
theorem dL_law_881 : decode cL_law 881 = .ok (.iaload, 1) := by decide +kernel
theorem dL_law_882 : decode cL_law 882 = .ok (.aload_n 0, 1) := by decide +kernel
theorem dL_law_883 : decode cL_law 883 = .ok (.iload_n 3, 1) := by decide +kernel
theorem dL_law_884 : decode cL_law 884 = .ok (.iconst 2, 1) := by decide +kernel
theorem dL_law_885 : decode cL_law 885 = .ok (.iadd, 1) := by decide +kernel
theorem dL_law_886 : decode cL_law 886 = .ok (.iaload, 1) := by decide +kernel
theorem dL_law_887 : decode cL_law 887 = .ok (.invokevirtual 109, 3) := by decide +kernel
theorem dL_law_890 : decode cL_law 890 = .ok (.if_icmp .eq 449, 3) := by decide +kernel
theorem dL_law_893 : decode cL_law 893 = .ok (.iconst 0, 1) := by decide +kernel
theorem dL_law_894 : decode cL_law 894 = .ok (.ireturn, 1) := by decide +kernel
theorem dL_law_895 : decode cL_law 895 = .ok (.aload_n 1, 1) := by decide +kernel
theorem dL_law_896 : decode cL_law 896 = .ok (.invokevirtual 110, 3) := by decide +kernel
theorem dL_law_899 : decode cL_law 899 = .ok (.aload_n 2, 1) := by decide +kernel
theorem dL_law_900 : decode cL_law 900 = .ok (.invokevirtual 113, 3) := by decide +kernel
theorem dL_law_903 : decode cL_law 903 = .ok (.if_icmp .eq 436, 3) := by decide +kernel
theorem dL_law_906 : decode cL_law 906 = .ok (.iconst 0, 1) := by decide +kernel
theorem dL_law_907 : decode cL_law 907 = .ok (.ireturn, 1) := by decide +kernel
theorem dL_law_908 : decode cL_law 908 = .ok (.aload_n 1, 1) := by decide +kernel
theorem dL_law_909 : decode cL_law 909 = .ok (.aload_n 0, 1) := by decide +kernel
theorem dL_law_910 : decode cL_law 910 = .ok (.iload_n 3, 1) := by decide +kernel
theorem dL_law_911 : decode cL_law 911 = .ok (.iconst 1, 1) := by decide +kernel
theorem dL_law_912 : decode cL_law 912 = .ok (.iadd, 1) := by decide +kernel
theorem dL_law_913 : decode cL_law 913 = .ok (.iaload, 1) := by decide +kernel
theorem dL_law_914 : decode cL_law 914 = .ok (.invokevirtual 114, 3) := by decide +kernel
theorem dL_law_917 : decode cL_law 917 = .ok (.aload_n 2, 1) := by decide +kernel
theorem dL_law_918 : decode cL_law 918 = .ok (.aload_n 0, 1) := by decide +kernel
theorem dL_law_919 : decode cL_law 919 = .ok (.iload_n 3, 1) := by decide +kernel
theorem dL_law_920 : decode cL_law 920 = .ok (.iconst 1, 1) := by decide +kernel
theorem dL_law_921 : decode cL_law 921 = .ok (.iadd, 1) := by decide +kernel
theorem dL_law_922 : decode cL_law 922 = .ok (.iaload, 1) := by decide +kernel
theorem dL_law_923 : decode cL_law 923 = .ok (.invokevirtual 117, 3) := by decide +kernel
theorem dL_law_926 : decode cL_law 926 = .ok (.if_icmp .eq 413, 3) := by decide +kernel
theorem dL_law_929 : decode cL_law 929 = .ok (.iconst 0, 1) := by decide +kernel
theorem dL_law_930 : decode cL_law 930 = .ok (.ireturn, 1) := by decide +kernel
theorem dL_law_931 : decode cL_law 931 = .ok (.aload_n 1, 1) := by decide +kernel
theorem dL_law_932 : decode cL_law 932 = .ok (.aload_n 0, 1) := by decide +kernel
theorem dL_law_933 : decode cL_law 933 = .ok (.iload_n 3, 1) := by decide +kernel
theorem dL_law_934 : decode cL_law 934 = .ok (.iconst 1, 1) := by decide +kernel
theorem dL_law_935 : decode cL_law 935 = .ok (.iadd, 1) := by decide +kernel
theorem dL_law_936 : decode cL_law 936 = .ok (.iaload, 1) := by decide +kernel
theorem dL_law_937 : decode cL_law 937 = .ok (.aload_n 0, 1) := by decide +kernel
theorem dL_law_938 : decode cL_law 938 = .ok (.iload_n 3, 1) := by decide +kernel
theorem dL_law_939 : decode cL_law 939 = .ok (.iconst 2, 1) := by decide +kernel
theorem dL_law_940 : decode cL_law 940 = .ok (.iadd, 1) := by decide +kernel
theorem dL_law_941 : decode cL_law 941 = .ok (.iaload, 1) := by decide +kernel
theorem dL_law_942 : decode cL_law 942 = .ok (.aload_n 0, 1) := by decide +kernel
theorem dL_law_943 : decode cL_law 943 = .ok (.iload_n 3, 1) := by decide +kernel
theorem dL_law_944 : decode cL_law 944 = .ok (.iconst 3, 1) := by decide +kernel
theorem dL_law_945 : decode cL_law 945 = .ok (.iadd, 1) := by decide +kernel
theorem dL_law_946 : decode cL_law 946 = .ok (.iaload, 1) := by decide +kernel
theorem dL_law_947 : decode cL_law 947 = .ok (.invokevirtual 118, 3) := by decide +kernel
theorem dL_law_950 : decode cL_law 950 = .ok (.aload_n 2, 1) := by decide +kernel
theorem dL_law_951 : decode cL_law 951 = .ok (.aload_n 0, 1) := by decide +kernel
theorem dL_law_952 : decode cL_law 952 = .ok (.iload_n 3, 1) := by decide +kernel
theorem dL_law_953 : decode cL_law 953 = .ok (.iconst 1, 1) := by decide +kernel
theorem dL_law_954 : decode cL_law 954 = .ok (.iadd, 1) := by decide +kernel
theorem dL_law_955 : decode cL_law 955 = .ok (.iaload, 1) := by decide +kernel
theorem dL_law_956 : decode cL_law 956 = .ok (.aload_n 0, 1) := by decide +kernel
theorem dL_law_957 : decode cL_law 957 = .ok (.iload_n 3, 1) := by decide +kernel
theorem dL_law_958 : decode cL_law 958 = .ok (.iconst 2, 1) := by decide +kernel
theorem dL_law_959 : decode cL_law 959 = .ok (.iadd, 1) := by decide +kernel
theorem dL_law_960 : decode cL_law 960 = .ok (.iaload, 1) := by decide +kernel
theorem dL_law_961 : decode cL_law 961 = .ok (.aload_n 0, 1) := by decide +kernel
theorem dL_law_962 : decode cL_law 962 = .ok (.iload_n 3, 1) := by decide +kernel
theorem dL_law_963 : decode cL_law 963 = .ok (.iconst 3, 1) := by decide +kernel
theorem dL_law_964 : decode cL_law 964 = .ok (.iadd, 1) := by decide +kernel
theorem dL_law_965 : decode cL_law 965 = .ok (.iaload, 1) := by decide +kernel
theorem dL_law_966 : decode cL_law 966 = .ok (.invokevirtual 121, 3) := by decide +kernel
theorem dL_law_969 : decode cL_law 969 = .ok (.if_icmp .eq 370, 3) := by decide +kernel
theorem dL_law_972 : decode cL_law 972 = .ok (.iconst 0, 1) := by decide +kernel
theorem dL_law_973 : decode cL_law 973 = .ok (.ireturn, 1) := by decide +kernel
theorem dL_law_974 : decode cL_law 974 = .ok (.aload_n 1, 1) := by decide +kernel
theorem dL_law_975 : decode cL_law 975 = .ok (.aload_n 0, 1) := by decide +kernel
theorem dL_law_976 : decode cL_law 976 = .ok (.iload_n 3, 1) := by decide +kernel
theorem dL_law_977 : decode cL_law 977 = .ok (.iconst 1, 1) := by decide +kernel
theorem dL_law_978 : decode cL_law 978 = .ok (.iadd, 1) := by decide +kernel
theorem dL_law_979 : decode cL_law 979 = .ok (.iaload, 1) := by decide +kernel
theorem dL_law_980 : decode cL_law 980 = .ok (.aload_n 0, 1) := by decide +kernel
theorem dL_law_981 : decode cL_law 981 = .ok (.iload_n 3, 1) := by decide +kernel
theorem dL_law_982 : decode cL_law 982 = .ok (.iconst 2, 1) := by decide +kernel
theorem dL_law_983 : decode cL_law 983 = .ok (.iadd, 1) := by decide +kernel
theorem dL_law_984 : decode cL_law 984 = .ok (.iaload, 1) := by decide +kernel
theorem dL_law_985 : decode cL_law 985 = .ok (.invokevirtual 122, 3) := by decide +kernel
theorem dL_law_988 : decode cL_law 988 = .ok (.aload_n 2, 1) := by decide +kernel
theorem dL_law_989 : decode cL_law 989 = .ok (.aload_n 0, 1) := by decide +kernel
theorem dL_law_990 : decode cL_law 990 = .ok (.iload_n 3, 1) := by decide +kernel
theorem dL_law_991 : decode cL_law 991 = .ok (.iconst 1, 1) := by decide +kernel
theorem dL_law_992 : decode cL_law 992 = .ok (.iadd, 1) := by decide +kernel
theorem dL_law_993 : decode cL_law 993 = .ok (.iaload, 1) := by decide +kernel
theorem dL_law_994 : decode cL_law 994 = .ok (.aload_n 0, 1) := by decide +kernel
theorem dL_law_995 : decode cL_law 995 = .ok (.iload_n 3, 1) := by decide +kernel
theorem dL_law_996 : decode cL_law 996 = .ok (.iconst 2, 1) := by decide +kernel
theorem dL_law_997 : decode cL_law 997 = .ok (.iadd, 1) := by decide +kernel
theorem dL_law_998 : decode cL_law 998 = .ok (.iaload, 1) := by decide +kernel
theorem dL_law_999 : decode cL_law 999 = .ok (.invokevirtual 125, 3) := by decide +kernel
theorem dL_law_1002 : decode cL_law 1002 = .ok (.if_icmp .eq 337, 3) := by decide +kernel
theorem dL_law_1005 : decode cL_law 1005 = .ok (.iconst 0, 1) := by decide +kernel
theorem dL_law_1006 : decode cL_law 1006 = .ok (.ireturn, 1) := by decide +kernel
theorem dL_law_1007 : decode cL_law 1007 = .ok (.aload_n 1, 1) := by decide +kernel
theorem dL_law_1008 : decode cL_law 1008 = .ok (.aload_n 0, 1) := by decide +kernel
theorem dL_law_1009 : decode cL_law 1009 = .ok (.iload_n 3, 1) := by decide +kernel
theorem dL_law_1010 : decode cL_law 1010 = .ok (.iconst 1, 1) := by decide +kernel
theorem dL_law_1011 : decode cL_law 1011 = .ok (.iadd, 1) := by decide +kernel
theorem dL_law_1012 : decode cL_law 1012 = .ok (.iaload, 1) := by decide +kernel
theorem dL_law_1013 : decode cL_law 1013 = .ok (.aload_n 0, 1) := by decide +kernel
theorem dL_law_1014 : decode cL_law 1014 = .ok (.iload_n 3, 1) := by decide +kernel
theorem dL_law_1015 : decode cL_law 1015 = .ok (.iconst 2, 1) := by decide +kernel
theorem dL_law_1016 : decode cL_law 1016 = .ok (.iadd, 1) := by decide +kernel
theorem dL_law_1017 : decode cL_law 1017 = .ok (.iaload, 1) := by decide +kernel
theorem dL_law_1018 : decode cL_law 1018 = .ok (.invokevirtual 126, 3) := by decide +kernel
theorem dL_law_1021 : decode cL_law 1021 = .ok (.aload_n 2, 1) := by decide +kernel
theorem dL_law_1022 : decode cL_law 1022 = .ok (.aload_n 0, 1) := by decide +kernel
theorem dL_law_1023 : decode cL_law 1023 = .ok (.iload_n 3, 1) := by decide +kernel
theorem dL_law_1024 : decode cL_law 1024 = .ok (.iconst 1, 1) := by decide +kernel
theorem dL_law_1025 : decode cL_law 1025 = .ok (.iadd, 1) := by decide +kernel
theorem dL_law_1026 : decode cL_law 1026 = .ok (.iaload, 1) := by decide +kernel
theorem dL_law_1027 : decode cL_law 1027 = .ok (.aload_n 0, 1) := by decide +kernel
theorem dL_law_1028 : decode cL_law 1028 = .ok (.iload_n 3, 1) := by decide +kernel
theorem dL_law_1029 : decode cL_law 1029 = .ok (.iconst 2, 1) := by decide +kernel
theorem dL_law_1030 : decode cL_law 1030 = .ok (.iadd, 1) := by decide +kernel
theorem dL_law_1031 : decode cL_law 1031 = .ok (.iaload, 1) := by decide +kernel
theorem dL_law_1032 : decode cL_law 1032 = .ok (.invokevirtual 129, 3) := by decide +kernel
theorem dL_law_1035 : decode cL_law 1035 = .ok (.if_icmp .eq 304, 3) := by decide +kernel
theorem dL_law_1038 : decode cL_law 1038 = .ok (.iconst 0, 1) := by decide +kernel
theorem dL_law_1039 : decode cL_law 1039 = .ok (.ireturn, 1) := by decide +kernel
theorem dL_law_1040 : decode cL_law 1040 = .ok (.aload_n 1, 1) := by decide +kernel
theorem dL_law_1041 : decode cL_law 1041 = .ok (.aload_n 0, 1) := by decide +kernel
theorem dL_law_1042 : decode cL_law 1042 = .ok (.iload_n 3, 1) := by decide +kernel
theorem dL_law_1043 : decode cL_law 1043 = .ok (.iconst 1, 1) := by decide +kernel
theorem dL_law_1044 : decode cL_law 1044 = .ok (.iadd, 1) := by decide +kernel
theorem dL_law_1045 : decode cL_law 1045 = .ok (.iaload, 1) := by decide +kernel
theorem dL_law_1046 : decode cL_law 1046 = .ok (.aload_n 0, 1) := by decide +kernel
theorem dL_law_1047 : decode cL_law 1047 = .ok (.iload_n 3, 1) := by decide +kernel
theorem dL_law_1048 : decode cL_law 1048 = .ok (.iconst 2, 1) := by decide +kernel
theorem dL_law_1049 : decode cL_law 1049 = .ok (.iadd, 1) := by decide +kernel
theorem dL_law_1050 : decode cL_law 1050 = .ok (.iaload, 1) := by decide +kernel
theorem dL_law_1051 : decode cL_law 1051 = .ok (.invokevirtual 130, 3) := by decide +kernel
theorem dL_law_1054 : decode cL_law 1054 = .ok (.aload_n 2, 1) := by decide +kernel
theorem dL_law_1055 : decode cL_law 1055 = .ok (.aload_n 0, 1) := by decide +kernel
theorem dL_law_1056 : decode cL_law 1056 = .ok (.iload_n 3, 1) := by decide +kernel
theorem dL_law_1057 : decode cL_law 1057 = .ok (.iconst 1, 1) := by decide +kernel
theorem dL_law_1058 : decode cL_law 1058 = .ok (.iadd, 1) := by decide +kernel
theorem dL_law_1059 : decode cL_law 1059 = .ok (.iaload, 1) := by decide +kernel
theorem dL_law_1060 : decode cL_law 1060 = .ok (.aload_n 0, 1) := by decide +kernel
theorem dL_law_1061 : decode cL_law 1061 = .ok (.iload_n 3, 1) := by decide +kernel
theorem dL_law_1062 : decode cL_law 1062 = .ok (.iconst 2, 1) := by decide +kernel
theorem dL_law_1063 : decode cL_law 1063 = .ok (.iadd, 1) := by decide +kernel
theorem dL_law_1064 : decode cL_law 1064 = .ok (.iaload, 1) := by decide +kernel
theorem dL_law_1065 : decode cL_law 1065 = .ok (.invokevirtual 133, 3) := by decide +kernel
theorem dL_law_1068 : decode cL_law 1068 = .ok (.if_icmp .eq 271, 3) := by decide +kernel
theorem dL_law_1071 : decode cL_law 1071 = .ok (.iconst 0, 1) := by decide +kernel
theorem dL_law_1072 : decode cL_law 1072 = .ok (.ireturn, 1) := by decide +kernel
theorem dL_law_1073 : decode cL_law 1073 = .ok (.aload_n 1, 1) := by decide +kernel
theorem dL_law_1074 : decode cL_law 1074 = .ok (.invokevirtual 134, 3) := by decide +kernel
theorem dL_law_1077 : decode cL_law 1077 = .ok (.aload_n 2, 1) := by decide +kernel
theorem dL_law_1078 : decode cL_law 1078 = .ok (.invokevirtual 137, 3) := by decide +kernel
theorem dL_law_1081 : decode cL_law 1081 = .ok (.if_icmp .eq 258, 3) := by decide +kernel
theorem dL_law_1084 : decode cL_law 1084 = .ok (.iconst 0, 1) := by decide +kernel
theorem dL_law_1085 : decode cL_law 1085 = .ok (.ireturn, 1) := by decide +kernel
theorem dL_law_1086 : decode cL_law 1086 = .ok (.aload_n 1, 1) := by decide +kernel
theorem dL_law_1087 : decode cL_law 1087 = .ok (.invokevirtual 138, 3) := by decide +kernel
theorem dL_law_1090 : decode cL_law 1090 = .ok (.aload_n 2, 1) := by decide +kernel
theorem dL_law_1091 : decode cL_law 1091 = .ok (.invokevirtual 141, 3) := by decide +kernel
theorem dL_law_1094 : decode cL_law 1094 = .ok (.if_icmp .eq 245, 3) := by decide +kernel
theorem dL_law_1097 : decode cL_law 1097 = .ok (.iconst 0, 1) := by decide +kernel
theorem dL_law_1098 : decode cL_law 1098 = .ok (.ireturn, 1) := by decide +kernel
theorem dL_law_1099 : decode cL_law 1099 = .ok (.aload_n 1, 1) := by decide +kernel
theorem dL_law_1100 : decode cL_law 1100 = .ok (.aload_n 0, 1) := by decide +kernel
theorem dL_law_1101 : decode cL_law 1101 = .ok (.iload_n 3, 1) := by decide +kernel
theorem dL_law_1102 : decode cL_law 1102 = .ok (.iconst 1, 1) := by decide +kernel
theorem dL_law_1103 : decode cL_law 1103 = .ok (.iadd, 1) := by decide +kernel
theorem dL_law_1104 : decode cL_law 1104 = .ok (.iaload, 1) := by decide +kernel
theorem dL_law_1105 : decode cL_law 1105 = .ok (.aload_n 0, 1) := by decide +kernel
theorem dL_law_1106 : decode cL_law 1106 = .ok (.iload_n 3, 1) := by decide +kernel
theorem dL_law_1107 : decode cL_law 1107 = .ok (.iconst 2, 1) := by decide +kernel
theorem dL_law_1108 : decode cL_law 1108 = .ok (.iadd, 1) := by decide +kernel
theorem dL_law_1109 : decode cL_law 1109 = .ok (.iaload, 1) := by decide +kernel
theorem dL_law_1110 : decode cL_law 1110 = .ok (.invokevirtual 142, 3) := by decide +kernel
theorem dL_law_1113 : decode cL_law 1113 = .ok (.aload_n 2, 1) := by decide +kernel
theorem dL_law_1114 : decode cL_law 1114 = .ok (.aload_n 0, 1) := by decide +kernel
theorem dL_law_1115 : decode cL_law 1115 = .ok (.iload_n 3, 1) := by decide +kernel
theorem dL_law_1116 : decode cL_law 1116 = .ok (.iconst 1, 1) := by decide +kernel
theorem dL_law_1117 : decode cL_law 1117 = .ok (.iadd, 1) := by decide +kernel
theorem dL_law_1118 : decode cL_law 1118 = .ok (.iaload, 1) := by decide +kernel
theorem dL_law_1119 : decode cL_law 1119 = .ok (.aload_n 0, 1) := by decide +kernel
theorem dL_law_1120 : decode cL_law 1120 = .ok (.iload_n 3, 1) := by decide +kernel
theorem dL_law_1121 : decode cL_law 1121 = .ok (.iconst 2, 1) := by decide +kernel
theorem dL_law_1122 : decode cL_law 1122 = .ok (.iadd, 1) := by decide +kernel
theorem dL_law_1123 : decode cL_law 1123 = .ok (.iaload, 1) := by decide +kernel
theorem dL_law_1124 : decode cL_law 1124 = .ok (.invokevirtual 145, 3) := by decide +kernel
theorem dL_law_1127 : decode cL_law 1127 = .ok (.if_icmp .eq 212, 3) := by decide +kernel
theorem dL_law_1130 : decode cL_law 1130 = .ok (.iconst 0, 1) := by decide +kernel
theorem dL_law_1131 : decode cL_law 1131 = .ok (.ireturn, 1) := by decide +kernel
theorem dL_law_1132 : decode cL_law 1132 = .ok (.aload_n 1, 1) := by decide +kernel
theorem dL_law_1133 : decode cL_law 1133 = .ok (.aload_n 0, 1) := by decide +kernel
theorem dL_law_1134 : decode cL_law 1134 = .ok (.iload_n 3, 1) := by decide +kernel
theorem dL_law_1135 : decode cL_law 1135 = .ok (.iconst 1, 1) := by decide +kernel
theorem dL_law_1136 : decode cL_law 1136 = .ok (.iadd, 1) := by decide +kernel
theorem dL_law_1137 : decode cL_law 1137 = .ok (.iaload, 1) := by decide +kernel
theorem dL_law_1138 : decode cL_law 1138 = .ok (.invokevirtual 146, 3) := by decide +kernel
theorem dL_law_1141 : decode cL_law 1141 = .ok (.aload_n 2, 1) := by decide +kernel
theorem dL_law_1142 : decode cL_law 1142 = .ok (.aload_n 0, 1) := by decide +kernel
theorem dL_law_1143 : decode cL_law 1143 = .ok (.iload_n 3, 1) := by decide +kernel
theorem dL_law_1144 : decode cL_law 1144 = .ok (.iconst 1, 1) := by decide +kernel
theorem dL_law_1145 : decode cL_law 1145 = .ok (.iadd, 1) := by decide +kernel
theorem dL_law_1146 : decode cL_law 1146 = .ok (.iaload, 1) := by decide +kernel
theorem dL_law_1147 : decode cL_law 1147 = .ok (.invokevirtual 149, 3) := by decide +kernel
theorem dL_law_1150 : decode cL_law 1150 = .ok (.if_icmp .eq 189, 3) := by decide +kernel
theorem dL_law_1153 : decode cL_law 1153 = .ok (.iconst 0, 1) := by decide +kernel
theorem dL_law_1154 : decode cL_law 1154 = .ok (.ireturn, 1) := by decide +kernel
theorem dL_law_1155 : decode cL_law 1155 = .ok (.aload_n 1, 1) := by decide +kernel
theorem dL_law_1156 : decode cL_law 1156 = .ok (.aload_n 0, 1) := by decide +kernel
theorem dL_law_1157 : decode cL_law 1157 = .ok (.iload_n 3, 1) := by decide +kernel
theorem dL_law_1158 : decode cL_law 1158 = .ok (.iconst 1, 1) := by decide +kernel
theorem dL_law_1159 : decode cL_law 1159 = .ok (.iadd, 1) := by decide +kernel
theorem dL_law_1160 : decode cL_law 1160 = .ok (.iaload, 1) := by decide +kernel
theorem dL_law_1161 : decode cL_law 1161 = .ok (.invokevirtual 150, 3) := by decide +kernel
theorem dL_law_1164 : decode cL_law 1164 = .ok (.aload_n 2, 1) := by decide +kernel
theorem dL_law_1165 : decode cL_law 1165 = .ok (.aload_n 0, 1) := by decide +kernel
theorem dL_law_1166 : decode cL_law 1166 = .ok (.iload_n 3, 1) := by decide +kernel
theorem dL_law_1167 : decode cL_law 1167 = .ok (.iconst 1, 1) := by decide +kernel
theorem dL_law_1168 : decode cL_law 1168 = .ok (.iadd, 1) := by decide +kernel
theorem dL_law_1169 : decode cL_law 1169 = .ok (.iaload, 1) := by decide +kernel
theorem dL_law_1170 : decode cL_law 1170 = .ok (.invokevirtual 153, 3) := by decide +kernel
theorem dL_law_1173 : decode cL_law 1173 = .ok (.if_icmp .eq 166, 3) := by decide +kernel
theorem dL_law_1176 : decode cL_law 1176 = .ok (.iconst 0, 1) := by decide +kernel
theorem dL_law_1177 : decode cL_law 1177 = .ok (.ireturn, 1) := by decide +kernel
theorem dL_law_1178 : decode cL_law 1178 = .ok (.aload_n 1, 1) := by decide +kernel
theorem dL_law_1179 : decode cL_law 1179 = .ok (.aload_n 0, 1) := by decide +kernel
theorem dL_law_1180 : decode cL_law 1180 = .ok (.iload_n 3, 1) := by decide +kernel
theorem dL_law_1181 : decode cL_law 1181 = .ok (.iconst 1, 1) := by decide +kernel
theorem dL_law_1182 : decode cL_law 1182 = .ok (.iadd, 1) := by decide +kernel
theorem dL_law_1183 : decode cL_law 1183 = .ok (.iaload, 1) := by decide +kernel
theorem dL_law_1184 : decode cL_law 1184 = .ok (.invokevirtual 154, 3) := by decide +kernel
theorem dL_law_1187 : decode cL_law 1187 = .ok (.aload_n 2, 1) := by decide +kernel
theorem dL_law_1188 : decode cL_law 1188 = .ok (.aload_n 0, 1) := by decide +kernel
theorem dL_law_1189 : decode cL_law 1189 = .ok (.iload_n 3, 1) := by decide +kernel
theorem dL_law_1190 : decode cL_law 1190 = .ok (.iconst 1, 1) := by decide +kernel
theorem dL_law_1191 : decode cL_law 1191 = .ok (.iadd, 1) := by decide +kernel
theorem dL_law_1192 : decode cL_law 1192 = .ok (.iaload, 1) := by decide +kernel
theorem dL_law_1193 : decode cL_law 1193 = .ok (.invokevirtual 157, 3) := by decide +kernel
theorem dL_law_1196 : decode cL_law 1196 = .ok (.if_icmp .eq 143, 3) := by decide +kernel
theorem dL_law_1199 : decode cL_law 1199 = .ok (.iconst 0, 1) := by decide +kernel
theorem dL_law_1200 : decode cL_law 1200 = .ok (.ireturn, 1) := by decide +kernel
theorem dL_law_1201 : decode cL_law 1201 = .ok (.aload_n 1, 1) := by decide +kernel
theorem dL_law_1202 : decode cL_law 1202 = .ok (.aload_n 0, 1) := by decide +kernel
theorem dL_law_1203 : decode cL_law 1203 = .ok (.iload_n 3, 1) := by decide +kernel
theorem dL_law_1204 : decode cL_law 1204 = .ok (.iconst 1, 1) := by decide +kernel
theorem dL_law_1205 : decode cL_law 1205 = .ok (.iadd, 1) := by decide +kernel
theorem dL_law_1206 : decode cL_law 1206 = .ok (.iaload, 1) := by decide +kernel
theorem dL_law_1207 : decode cL_law 1207 = .ok (.invokevirtual 158, 3) := by decide +kernel
theorem dL_law_1210 : decode cL_law 1210 = .ok (.aload_n 2, 1) := by decide +kernel
theorem dL_law_1211 : decode cL_law 1211 = .ok (.aload_n 0, 1) := by decide +kernel
theorem dL_law_1212 : decode cL_law 1212 = .ok (.iload_n 3, 1) := by decide +kernel
theorem dL_law_1213 : decode cL_law 1213 = .ok (.iconst 1, 1) := by decide +kernel
theorem dL_law_1214 : decode cL_law 1214 = .ok (.iadd, 1) := by decide +kernel
theorem dL_law_1215 : decode cL_law 1215 = .ok (.iaload, 1) := by decide +kernel
theorem dL_law_1216 : decode cL_law 1216 = .ok (.invokevirtual 161, 3) := by decide +kernel
theorem dL_law_1219 : decode cL_law 1219 = .ok (.if_icmp .eq 120, 3) := by decide +kernel
theorem dL_law_1222 : decode cL_law 1222 = .ok (.iconst 0, 1) := by decide +kernel
theorem dL_law_1223 : decode cL_law 1223 = .ok (.ireturn, 1) := by decide +kernel
theorem dL_law_1224 : decode cL_law 1224 = .ok (.aload_n 1, 1) := by decide +kernel
theorem dL_law_1225 : decode cL_law 1225 = .ok (.aload_n 0, 1) := by decide +kernel
theorem dL_law_1226 : decode cL_law 1226 = .ok (.iload_n 3, 1) := by decide +kernel
theorem dL_law_1227 : decode cL_law 1227 = .ok (.iconst 1, 1) := by decide +kernel
theorem dL_law_1228 : decode cL_law 1228 = .ok (.iadd, 1) := by decide +kernel
theorem dL_law_1229 : decode cL_law 1229 = .ok (.iaload, 1) := by decide +kernel
theorem dL_law_1230 : decode cL_law 1230 = .ok (.aload_n 0, 1) := by decide +kernel
theorem dL_law_1231 : decode cL_law 1231 = .ok (.iload_n 3, 1) := by decide +kernel
theorem dL_law_1232 : decode cL_law 1232 = .ok (.iconst 2, 1) := by decide +kernel
theorem dL_law_1233 : decode cL_law 1233 = .ok (.iadd, 1) := by decide +kernel
theorem dL_law_1234 : decode cL_law 1234 = .ok (.iaload, 1) := by decide +kernel
theorem dL_law_1235 : decode cL_law 1235 = .ok (.aload_n 0, 1) := by decide +kernel
theorem dL_law_1236 : decode cL_law 1236 = .ok (.iload_n 3, 1) := by decide +kernel
theorem dL_law_1237 : decode cL_law 1237 = .ok (.iconst 3, 1) := by decide +kernel
theorem dL_law_1238 : decode cL_law 1238 = .ok (.iadd, 1) := by decide +kernel
theorem dL_law_1239 : decode cL_law 1239 = .ok (.iaload, 1) := by decide +kernel
theorem dL_law_1240 : decode cL_law 1240 = .ok (.invokevirtual 162, 3) := by decide +kernel
theorem dL_law_1243 : decode cL_law 1243 = .ok (.aload_n 2, 1) := by decide +kernel
theorem dL_law_1244 : decode cL_law 1244 = .ok (.aload_n 0, 1) := by decide +kernel
theorem dL_law_1245 : decode cL_law 1245 = .ok (.iload_n 3, 1) := by decide +kernel
theorem dL_law_1246 : decode cL_law 1246 = .ok (.iconst 1, 1) := by decide +kernel
theorem dL_law_1247 : decode cL_law 1247 = .ok (.iadd, 1) := by decide +kernel
theorem dL_law_1248 : decode cL_law 1248 = .ok (.iaload, 1) := by decide +kernel
theorem dL_law_1249 : decode cL_law 1249 = .ok (.aload_n 0, 1) := by decide +kernel
theorem dL_law_1250 : decode cL_law 1250 = .ok (.iload_n 3, 1) := by decide +kernel
theorem dL_law_1251 : decode cL_law 1251 = .ok (.iconst 2, 1) := by decide +kernel
theorem dL_law_1252 : decode cL_law 1252 = .ok (.iadd, 1) := by decide +kernel
theorem dL_law_1253 : decode cL_law 1253 = .ok (.iaload, 1) := by decide +kernel
theorem dL_law_1254 : decode cL_law 1254 = .ok (.aload_n 0, 1) := by decide +kernel
theorem dL_law_1255 : decode cL_law 1255 = .ok (.iload_n 3, 1) := by decide +kernel
theorem dL_law_1256 : decode cL_law 1256 = .ok (.iconst 3, 1) := by decide +kernel
theorem dL_law_1257 : decode cL_law 1257 = .ok (.iadd, 1) := by decide +kernel
theorem dL_law_1258 : decode cL_law 1258 = .ok (.iaload, 1) := by decide +kernel
theorem dL_law_1259 : decode cL_law 1259 = .ok (.invokevirtual 165, 3) := by decide +kernel
theorem dL_law_1262 : decode cL_law 1262 = .ok (.if_icmp .eq 77, 3) := by decide +kernel
theorem dL_law_1265 : decode cL_law 1265 = .ok (.iconst 0, 1) := by decide +kernel
theorem dL_law_1266 : decode cL_law 1266 = .ok (.ireturn, 1) := by decide +kernel
theorem dL_law_1267 : decode cL_law 1267 = .ok (.aload_n 1, 1) := by decide +kernel
theorem dL_law_1268 : decode cL_law 1268 = .ok (.aload_n 0, 1) := by decide +kernel
theorem dL_law_1269 : decode cL_law 1269 = .ok (.iload_n 3, 1) := by decide +kernel
theorem dL_law_1270 : decode cL_law 1270 = .ok (.iconst 1, 1) := by decide +kernel
theorem dL_law_1271 : decode cL_law 1271 = .ok (.iadd, 1) := by decide +kernel
theorem dL_law_1272 : decode cL_law 1272 = .ok (.iaload, 1) := by decide +kernel
theorem dL_law_1273 : decode cL_law 1273 = .ok (.invokevirtual 166, 3) := by decide +kernel
theorem dL_law_1276 : decode cL_law 1276 = .ok (.aload_n 2, 1) := by decide +kernel
theorem dL_law_1277 : decode cL_law 1277 = .ok (.aload_n 0, 1) := by decide +kernel
theorem dL_law_1278 : decode cL_law 1278 = .ok (.iload_n 3, 1) := by decide +kernel
theorem dL_law_1279 : decode cL_law 1279 = .ok (.iconst 1, 1) := by decide +kernel
theorem dL_law_1280 : decode cL_law 1280 = .ok (.iadd, 1) := by decide +kernel
theorem dL_law_1281 : decode cL_law 1281 = .ok (.iaload, 1) := by decide +kernel
theorem dL_law_1282 : decode cL_law 1282 = .ok (.invokevirtual 169, 3) := by decide +kernel
theorem dL_law_1285 : decode cL_law 1285 = .ok (.if_icmp .eq 54, 3) := by decide +kernel
theorem dL_law_1288 : decode cL_law 1288 = .ok (.iconst 0, 1) := by decide +kernel
theorem dL_law_1289 : decode cL_law 1289 = .ok (.ireturn, 1) := by decide +kernel
theorem dL_law_1290 : decode cL_law 1290 = .ok (.aload_n 1, 1) := by decide +kernel
theorem dL_law_1291 : decode cL_law 1291 = .ok (.invokevirtual 170, 3) := by decide +kernel
theorem dL_law_1294 : decode cL_law 1294 = .ok (.aload_n 2, 1) := by decide +kernel
theorem dL_law_1295 : decode cL_law 1295 = .ok (.invokevirtual 173, 3) := by decide +kernel
theorem dL_law_1298 : decode cL_law 1298 = .ok (.if_icmp .eq 41, 3) := by decide +kernel
theorem dL_law_1301 : decode cL_law 1301 = .ok (.iconst 0, 1) := by decide +kernel
theorem dL_law_1302 : decode cL_law 1302 = .ok (.ireturn, 1) := by decide +kernel
theorem dL_law_1303 : decode cL_law 1303 = .ok (.aload_n 1, 1) := by decide +kernel
theorem dL_law_1304 : decode cL_law 1304 = .ok (.invokevirtual 174, 3) := by decide +kernel
theorem dL_law_1307 : decode cL_law 1307 = .ok (.aload_n 2, 1) := by decide +kernel
theorem dL_law_1308 : decode cL_law 1308 = .ok (.invokevirtual 177, 3) := by decide +kernel
theorem dL_law_1311 : decode cL_law 1311 = .ok (.if_icmp .eq 28, 3) := by decide +kernel
theorem dL_law_1314 : decode cL_law 1314 = .ok (.iconst 0, 1) := by decide +kernel
theorem dL_law_1315 : decode cL_law 1315 = .ok (.ireturn, 1) := by decide +kernel
theorem dL_law_1316 : decode cL_law 1316 = .ok (.aload_n 1, 1) := by decide +kernel
theorem dL_law_1317 : decode cL_law 1317 = .ok (.aload_n 0, 1) := by decide +kernel
theorem dL_law_1318 : decode cL_law 1318 = .ok (.iload_n 3, 1) := by decide +kernel
theorem dL_law_1319 : decode cL_law 1319 = .ok (.iconst 1, 1) := by decide +kernel
theorem dL_law_1320 : decode cL_law 1320 = .ok (.iadd, 1) := by decide +kernel
theorem dL_law_1321 : decode cL_law 1321 = .ok (.iaload, 1) := by decide +kernel
theorem dL_law_1322 : decode cL_law 1322 = .ok (.invokevirtual 178, 3) := by decide +kernel
theorem dL_law_1325 : decode cL_law 1325 = .ok (.aload_n 2, 1) := by decide +kernel
theorem dL_law_1326 : decode cL_law 1326 = .ok (.aload_n 0, 1) := by decide +kernel
theorem dL_law_1327 : decode cL_law 1327 = .ok (.iload_n 3, 1) := by decide +kernel
theorem dL_law_1328 : decode cL_law 1328 = .ok (.iconst 1, 1) := by decide +kernel
theorem dL_law_1329 : decode cL_law 1329 = .ok (.iadd, 1) := by decide +kernel
theorem dL_law_1330 : decode cL_law 1330 = .ok (.iaload, 1) := by decide +kernel
theorem dL_law_1331 : decode cL_law 1331 = .ok (.invokevirtual 181, 3) := by decide +kernel
theorem dL_law_1334 : decode cL_law 1334 = .ok (.if_icmp .eq 5, 3) := by decide +kernel
theorem dL_law_1337 : decode cL_law 1337 = .ok (.iconst 0, 1) := by decide +kernel
theorem dL_law_1338 : decode cL_law 1338 = .ok (.ireturn, 1) := by decide +kernel
theorem dL_law_1339 : decode cL_law 1339 = .ok (.iinc 3 6, 3) := by decide +kernel
theorem dL_law_1342 : decode cL_law 1342 = .ok (.goto (-1324), 3) := by decide +kernel
theorem dL_law_1345 : decode cL_law 1345 = .ok (.iconst 1, 1) := by decide +kernel
theorem dL_law_1346 : decode cL_law 1346 = .ok (.ireturn, 1) := by decide +kernel
